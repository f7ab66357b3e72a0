/-! nights -/
theorem bV_s {β : Type} (v : Int32) (m : Mem) (k : Int32 → Mem → Option β) : bV (some (v, m)) k = k v m := rfl
theorem bI_s {β : Type} (v : Int32) (k : Int32 → Option β) : bI (some v) k = k v := rfl
theorem bM_s {β : Type} (m : Mem) (k : Mem → Option β) : bM (some m) k = k m := rfl
def rs (s : Int32) : Int32 := s * 1103515245 + 12345
def rv (s : Int32) (n : Nat) : Nat := ixn (jushr s 8) % n
theorem ushr8 (s : Int32) : ∃ a, a < 16777216 ∧ jushr s 8 = nI a := by
  have e : jushr s 8 = (s.toUInt32 >>> (8 : UInt32)).toInt32 := by unfold jushr; rfl
  have hb : (s.toUInt32 >>> (8 : UInt32)).toNat < 16777216 := by
    rw [UInt32.toNat_shiftRight, Nat.shiftRight_eq_div_pow]
    have := s.toUInt32.toNat_lt
    have t : (8 : UInt32).toNat % 32 = 8 := rfl
    rw [t]
    omega
  rw [e]
  refine ⟨_, hb, ?_⟩
  generalize s.toUInt32 >>> (8 : UInt32) = u
  rcases u with ⟨b⟩
  show (⟨⟨b⟩⟩ : Int32) = ⟨⟨BitVec.ofNat 32 b.toNat⟩⟩
  rw [BitVec.ofNat_toNat, BitVec.setWidth_eq]
theorem irm8 (s : Int32) {n : Nat} (h : 0 < n) (h2 : n < 2147483648) : irm (jushr s 8) (nI n) = nI (rv s n) := by
  obtain ⟨a, ha, e⟩ := ushr8 s
  unfold rv
  rw [e, irm_n (by omega) h h2, n_ixn (by omega)]
theorem rv_lt (s : Int32) {n : Nat} (h : 0 < n) : rv s n < n := Nat.mod_lt _ h
theorem drawA {m : Mem} {p n : Nat} (h : 0 < n) (h2 : n < 2147483648) : PH_draw m p (nI n) = some (nI (rv (rs (gI m p 14)) n), sI m p 14 (rs (gI m p 14))) := by
  have g : gI (sI m p 14 (rs (gI m p 14))) p 14 = rs (gI m p 14) := by rw [gI_sI, if_pos ⟨rfl, rfl⟩]
  unfold PH_draw
  rw [letM_p, show (gI m p 14) * 1103515245 + 12345 = rs (gI m p 14) from rfl, g, if_neg (by rw [k0, n_le (by omega) (by omega)]; omega), if_pos (by rw [k0, n_eq (by omega) (by omega)]; omega), irm8 _ h h2]
theorem drawB {m : Mem} {n : Nat} (h : 0 < n) (h2 : n < 2147483648) : RM_draw m (nI n) = some (nI (rv (rs (gI m 133 41)) n), sI m 133 41 (rs (gI m 133 41))) := by
  have g : gI (sI m 133 41 (rs (gI m 133 41))) 133 41 = rs (gI m 133 41) := by rw [gI_sI, if_pos ⟨rfl, rfl⟩]
  unfold RM_draw
  rw [letM_p, show (gI m 133 41) * 1103515245 + 12345 = rs (gI m 133 41) from rfl, g, if_pos (by rw [k0, n_eq (by omega) (by omega)]; omega), irm8 _ h h2]
def dX (w : Nat) : Int := if w = 1 then 1 else if w = 3 then -1 else 0
def dY (w : Nat) : Int := if w = 2 then 1 else if w = 0 then -1 else 0
def NOk (L : Nat) (N : Nat → Nat) (X Y : Nat → Nat → Int) : Prop := 1 ≤ L ∧ L ≤ 3 ∧ ∀ k, k < L → 3 ≤ N k ∧ N k ≤ 12 ∧ (∀ i, i < N k → (0 ≤ X k i ∧ X k i ≤ 20) ∧ (0 ≤ Y k i ∧ Y k i ≤ 20)) ∧ ∀ i, i < N k → ¬ (X k i = X k (nx (N k) i) ∧ Y k i = Y k (nx (N k) i))
def NA (m : Mem) (p L : Nat) (N : Nat → Nat) (s q : Int32) (X Y : Nat → Nat → Int) : Prop := gI m p 14 = s ∧ gI m p 12 = q ∧ gI m p 6 = nI L ∧ ∀ k, k < L → PolyC m (p + 2 + 3 * k) (N k) (X k) (Y k)
def NB (m : Mem) (L : Nat) (N : Nat → Nat) (s q : Int32) (X Y : Nat → Nat → Int) : Prop := gI m 133 41 = s ∧ gI m 135 6 = q ∧ gI m 135 0 = nI L ∧ ∀ k, k < L → gI m 135 (11 + k) = nI (N k) ∧ ∀ i, i < N k → gI m 135 (14 + 24 * k + 2 * i) = iz (X k i) ∧ gI m 135 (14 + 24 * k + 2 * i + 1) = iz (Y k i)
def FA (p : Nat) (m m' : Mem) : Prop := (∀ c j, ¬ (c = p ∧ (j = 12 ∨ j = 14)) → (∀ k, k < 3 → c ≠ p + 2 + 3 * k + 1 ∧ c ≠ p + 2 + 3 * k + 2) → gI m' c j = gI m c j) ∧ m'.2 = m.2
def FB (m m' : Mem) : Prop := (∀ c j, ¬ (c = 133 ∧ j = 41) → ¬ (c = 135 ∧ (j = 6 ∨ 14 ≤ j ∧ j < 86)) → gI m' c j = gI m c j) ∧ m'.2 = m.2
theorem FA.trans {p : Nat} {a b c : Mem} (h : FA p a b) (g : FA p b c) : FA p a c := ⟨fun d j x y => (g.1 d j x y).trans (h.1 d j x y), g.2.trans h.2⟩
theorem FB.trans {a b c : Mem} (h : FB a b) (g : FB b c) : FB a c := ⟨fun d j x y => (g.1 d j x y).trans (h.1 d j x y), g.2.trans h.2⟩
/-- a night's first half: who, which corner, whither -/
theorem nightA {m : Mem} {p L : Nat} {N : Nat → Nat} {s q : Int32} {X Y : Nat → Nat → Int} {kx : Mem → Option (Int32 × Mem)} {f : Nat} {x1 x3 x4 : Int32} (R : NA m p L N s q X Y) (ok : NOk L N X Y) (hx : ¬ x1 ≤ x4) :
    ∃ m9 k i w, k = rv (rs s) L ∧ i = rv (rs (rs s)) (N k) ∧ w = rv (rs (rs (rs s))) 4 ∧ NA m9 p L N (rs (rs (rs s))) q X Y ∧ FA p m m9 ∧
    PH_passNights_L13 p x1 x3 kx (f + 1) m x4 = PH_passNights_J126 (PH_passNights_L13 p x1 x3 kx f) kx m9 p x1 x3 x4 (nI k) (nI i) (iz (X k i + dX w)) (iz (Y k i + dY w)) 0 := by
  obtain ⟨l1, l3, hO⟩ := ok
  obtain ⟨r1, r2, r3, r4⟩ := R
  have hk : rv (rs s) L < L := rv_lt _ (by omega)
  obtain ⟨n3, n12, bd1, -⟩ := hO _ hk
  have hi : rv (rs (rs s)) (N (rv (rs s) L)) < N (rv (rs s) L) := rv_lt _ (by omega)
  have hw : rv (rs (rs (rs s))) 4 < 4 := rv_lt _ (by omega)
  generalize ek : rv (rs s) L = k at hk n3 n12 bd1 hi ⊢
  generalize ei : rv (rs (rs s)) (N k) = i at hi ⊢
  generalize ew : rv (rs (rs (rs s))) 4 = w at hw ⊢
  obtain ⟨p1, p2, p3⟩ := r4 k hk
  obtain ⟨q1, q2, -, -⟩ := p3 i hi
  have g1 : gI (sI m p 14 (rs s)) (p + 2 + 3 * k) 1 = nI (N k) := by rw [gI_sI, if_neg (by omega), p1]
  have g2 : gI (sI m p 14 (rs s)) p 14 = rs s := by rw [gI_sI, if_pos ⟨rfl, rfl⟩]
  have g3 : gI (sI (sI m p 14 (rs s)) p 14 (rs (rs s))) p 14 = rs (rs s) := by rw [gI_sI, if_pos ⟨rfl, rfl⟩]
  let m9 := sI (sI (sI m p 14 (rs s)) p 14 (rs (rs s))) p 14 (rs (rs (rs s)))
  have e9 : m9 = sI (sI (sI m p 14 (rs s)) p 14 (rs (rs s))) p 14 (rs (rs (rs s))) := rfl
  have o9 : ∀ c j, ¬ (c = p ∧ j = 14) → gI m9 c j = gI m c j := fun c j z => by rw [e9, gI_sI, if_neg z, gI_sI, if_neg z, gI_sI, if_neg z]
  refine ⟨m9, k, i, w, rfl, ei.symm, rfl, ⟨by rw [e9, gI_sI, if_pos ⟨rfl, rfl⟩], by rw [o9 _ _ (by omega), r2], by rw [o9 _ _ (by omega), r3], fun t ht => ?_⟩, ⟨fun c j z1 z2 => o9 c j (by omega), rfl⟩, ?_⟩
  · obtain ⟨a1, a2, a3⟩ := r4 t ht
    refine ⟨by rw [o9 _ _ (by omega)]; exact a1, a2, fun j hj => ?_⟩
    rw [o9 _ _ (by omega), o9 _ _ (by omega)]
    exact a3 j hj
  · have s1 : gI m9 (p + 2 + 3 * k + 1) i = iz (X k i) := by rw [o9 _ _ (by omega), q1]
    have s2 : gI m9 (p + 2 + 3 * k + 2) i = iz (Y k i) := by rw [o9 _ _ (by omega), q2]
    have d1 : PH_draw m p (nI L) = some (nI k, sI m p 14 (rs s)) := by rw [drawA (by omega) (by omega), r1, ek]
    have d2 : PH_draw (sI m p 14 (rs s)) p (nI (N k)) = some (nI i, sI (sI m p 14 (rs s)) p 14 (rs (rs s))) := by rw [drawA (by omega) (by omega), g2, ei]
    have d3 : PH_draw (sI (sI m p 14 (rs s)) p 14 (rs (rs s))) p 4 = some (nI w, m9) := by rw [k4, drawA (by omega) (by omega), g3, ew]
    rw [PH_passNights_L13, if_neg hx, r3, d1, bV_s, if_pos (n_in (by omega) (by omega)), n_ixn (by omega), g1, d2, bV_s, d3, bV_s, if_pos (n_in (by omega) (by omega)), n_ixn (by omega), s1]
    have j1 : inb (nI k) 3 := n_in (by omega) (by omega)
    have j2 : inb (nI i) 12 := n_in (by omega) (by omega)
    have b1 := bd1 i hi
    have u0 : ∀ z : Int, iz z + 0 = iz z := fun z => by rw [show (0 : Int32) = iz 0 from rfl, iz_add, Int.add_zero]
    have v0 : ∀ z : Int, iz z - 0 = iz z := fun z => by rw [show (0 : Int32) = iz 0 from rfl, iz_sub, Int.sub_zero]
    have u1 : ∀ z : Int, iz z + 1 = iz (z + 1) := fun z => by rw [show (1 : Int32) = iz 1 from rfl, iz_add]
    have v1 : ∀ z : Int, iz z - 1 = iz (z + -1) := fun z => by rw [show (1 : Int32) = iz 1 from rfl, iz_sub]; rfl
    unfold dX dY
    rcases (show w = 0 ∨ w = 1 ∨ w = 2 ∨ w = 3 by omega) with rfl | rfl | rfl | rfl
    · rw [if_neg (by decide), PH_passNights_J76, if_neg (by decide), PH_passNights_J88, letV_p, if_pos j1, if_pos j2, if_neg (by decide), n_ixn (by omega), n_ixn (by omega), s2, PH_passNights_J115, if_pos (by decide), u0, u0, v0, if_neg (by decide), if_neg (by decide), if_neg (by decide), if_pos rfl, Int.add_zero]
      rw [PH_passNights_J126, PH_passNights_J126, v1, v0]
    · rw [if_pos (by decide), PH_passNights_J76, if_neg (by decide), PH_passNights_J88, letV_p, if_pos j1, if_pos j2, if_neg (by decide), n_ixn (by omega), n_ixn (by omega), s2, PH_passNights_J115, if_neg (by decide), u0, u1, v0, if_pos rfl, if_neg (by decide), if_neg (by decide), Int.add_zero]
    · rw [if_neg (by decide), PH_passNights_J76, if_neg (by decide), PH_passNights_J88, letV_p, if_pos j1, if_pos j2, if_pos (by decide), n_ixn (by omega), n_ixn (by omega), s2, PH_passNights_J115, if_neg (by decide), u0, u1, v0, if_neg (by decide), if_neg (by decide), if_pos rfl, Int.add_zero]
    · rw [if_neg (by decide), PH_passNights_J76, if_pos (by decide), PH_passNights_J88, letV_p, if_pos j1, if_pos j2, if_neg (by decide), n_ixn (by omega), n_ixn (by omega), s2, PH_passNights_J115, if_neg (by decide), u0, v1, u0, if_neg (by decide), if_pos rfl, if_neg (by decide), if_neg (by decide), Int.add_zero]
theorem nightB {m : Mem} {L : Nat} {N : Nat → Nat} {s q : Int32} {X Y : Nat → Nat → Int} {kx : Mem → Option (Int32 × Mem)} {f : Nat} {x1 x3 x4 : Int32} (R : NB m L N s q X Y) (ok : NOk L N X Y) (hx : ¬ x1 ≤ x4) :
    ∃ m9 k i w, k = rv (rs s) L ∧ i = rv (rs (rs s)) (N k) ∧ w = rv (rs (rs (rs s))) 4 ∧ NB m9 L N (rs (rs (rs s))) q X Y ∧ FB m m9 ∧
    RM_nights_L47 x1 x3 kx (f + 1) m x4 = RM_nights_J170 (RM_nights_L47 x1 x3 kx f) kx m9 x1 x3 x4 (nI k) (nI i) (iz (X k i + dX w)) (iz (Y k i + dY w)) 0 := by
  obtain ⟨l1, l3, hO⟩ := ok
  obtain ⟨r1, r2, r3, r4⟩ := R
  have hk : rv (rs s) L < L := rv_lt _ (by omega)
  obtain ⟨n3, n12, bd1, -⟩ := hO _ hk
  have hi : rv (rs (rs s)) (N (rv (rs s) L)) < N (rv (rs s) L) := rv_lt _ (by omega)
  have hw : rv (rs (rs (rs s))) 4 < 4 := rv_lt _ (by omega)
  generalize ek : rv (rs s) L = k at hk n3 n12 bd1 hi ⊢
  generalize ei : rv (rs (rs s)) (N k) = i at hi ⊢
  generalize ew : rv (rs (rs (rs s))) 4 = w at hw ⊢
  obtain ⟨p1, p3⟩ := r4 k hk
  obtain ⟨q1, q2⟩ := p3 i hi
  have g1 : gI (sI m 133 41 (rs s)) 135 (11 + k) = nI (N k) := by rw [gI_sI, if_neg (by omega), p1]
  have g2 : gI (sI m 133 41 (rs s)) 133 41 = rs s := by rw [gI_sI, if_pos ⟨rfl, rfl⟩]
  have g3 : gI (sI (sI m 133 41 (rs s)) 133 41 (rs (rs s))) 133 41 = rs (rs s) := by rw [gI_sI, if_pos ⟨rfl, rfl⟩]
  let m9 := sI (sI (sI m 133 41 (rs s)) 133 41 (rs (rs s))) 133 41 (rs (rs (rs s)))
  have e9 : m9 = sI (sI (sI m 133 41 (rs s)) 133 41 (rs (rs s))) 133 41 (rs (rs (rs s))) := rfl
  have o9 : ∀ c j, ¬ (c = 133 ∧ j = 41) → gI m9 c j = gI m c j := fun c j z => by rw [e9, gI_sI, if_neg z, gI_sI, if_neg z, gI_sI, if_neg z]
  refine ⟨m9, k, i, w, rfl, ei.symm, rfl, ⟨by rw [e9, gI_sI, if_pos ⟨rfl, rfl⟩], by rw [o9 _ _ (by omega), r2], by rw [o9 _ _ (by omega), r3], fun t ht => ?_⟩, ⟨fun c j z1 z2 => o9 c j (by omega), rfl⟩, ?_⟩
  · obtain ⟨a1, a3⟩ := r4 t ht
    refine ⟨by rw [o9 _ _ (by omega)]; exact a1, fun j hj => ?_⟩
    rw [o9 _ _ (by omega), o9 _ _ (by omega)]
    exact a3 j hj
  · have s1 : gI m9 135 (14 + 24 * k + 2 * i) = iz (X k i) := by rw [o9 _ _ (by omega), q1]
    have s2 : gI m9 135 (14 + 24 * k + 2 * i + 1) = iz (Y k i) := by rw [o9 _ _ (by omega), q2]
    have d1 : RM_draw m (nI L) = some (nI k, sI m 133 41 (rs s)) := by rw [drawB (by omega) (by omega), r1, ek]
    have d2 : RM_draw (sI m 133 41 (rs s)) (nI (N k)) = some (nI i, sI (sI m 133 41 (rs s)) 133 41 (rs (rs s))) := by rw [drawB (by omega) (by omega), g2, ei]
    have d3 : RM_draw (sI (sI m 133 41 (rs s)) 133 41 (rs (rs s))) 4 = some (nI w, m9) := by rw [k4, drawB (by omega) (by omega), g3, ew]
    have e1 : (14 + (24 * nI k)) + (2 * nI i) = nI (14 + 24 * k + 2 * i) := by rw [k14, k24, k2, n_mul, n_mul, n_add, n_add]
    have e2 : nI (14 + 24 * k + 2 * i) + 1 = nI (14 + 24 * k + 2 * i + 1) := by rw [k1, n_add]
    have e11 : 11 + nI k = nI (11 + k) := by rw [k11, n_add]
    rw [RM_nights_L47, if_neg hx, if_pos (by decide), show ixn 0 = 0 from rfl, r3, d1, bV_s, e11, if_pos (n_in (by omega) (by omega)), n_ixn (by omega), g1, d2, bV_s, d3, bV_s, e1, if_pos (n_in (by omega) (by omega)), n_ixn (by omega), s1]
    have j2 : inb (nI (14 + 24 * k + 2 * i + 1)) 116 := n_in (by omega) (by omega)
    have b1 := bd1 i hi
    have u0 : ∀ z : Int, iz z + 0 = iz z := fun z => by rw [show (0 : Int32) = iz 0 from rfl, iz_add, Int.add_zero]
    have u1 : ∀ z : Int, iz z + 1 = iz (z + 1) := fun z => by rw [show (1 : Int32) = iz 1 from rfl, iz_add]
    have v1 : ∀ z : Int, iz z + (-1) = iz (z + -1) := fun z => by rw [show (-1 : Int32) = iz (-1) from rfl, iz_add]
    unfold dX dY
    rcases (show w = 0 ∨ w = 1 ∨ w = 2 ∨ w = 3 by omega) with rfl | rfl | rfl | rfl
    · rw [if_neg (by decide), if_neg (by decide), RM_nights_J127, letV_p, e1, e2, if_pos j2, if_neg (by decide), if_pos (by decide), n_ixn (by omega), s2, u0, if_neg (by decide), if_neg (by decide), if_neg (by decide), if_pos rfl, Int.add_zero]
      rw [RM_nights_J170, RM_nights_J170, v1, u0]
    · rw [if_pos (by decide), RM_nights_J127, letV_p, e1, e2, if_pos j2, if_neg (by decide), if_neg (by decide), n_ixn (by omega), s2, u1, if_pos rfl, if_neg (by decide), if_neg (by decide), Int.add_zero]
    · rw [if_neg (by decide), if_neg (by decide), RM_nights_J127, letV_p, e1, e2, if_pos j2, if_pos (by decide), n_ixn (by omega), s2, u0, if_neg (by decide), if_neg (by decide), if_pos rfl, Int.add_zero]
      rw [RM_nights_J170, RM_nights_J170, u1, u0]
    · rw [if_neg (by decide), if_pos (by decide), RM_nights_J127, letV_p, e1, e2, if_pos j2, if_neg (by decide), if_neg (by decide), n_ixn (by omega), s2, v1, if_neg (by decide), if_pos rfl, if_neg (by decide), if_neg (by decide), Int.add_zero]

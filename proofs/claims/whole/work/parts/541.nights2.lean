theorem mayStand_eq {m : Mem} {o n c a b : Nat} {X Y : Nat → Int} (h : PolyC m o n X Y) (hc : c < n) (ha : a ≤ 20) (hb : b ≤ 20) : LN_mayStandAt m o (nI c) (nI a) (nI b) = some (b2i (!(atP X Y (pv n c) a b) && !(atP X Y (nx n c) a b))) := by
  unfold LN_mayStandAt
  rw [before_eq h hc, LN_after_eq h hc, LN_isAt_eq h (pv_lt hc) ha hb, LN_isAt_eq h (nx_lt hc) ha hb]
  simp only [bI_s]
  cases atP X Y (pv n c) a b <;> cases atP X Y (nx n c) a b <;> rfl
theorem isAtB {m : Mem} {k j a b : Nat} {x y : Int} (hk : k < 3) (hj : j < 12) (h1 : gI m 135 (14 + 24 * k + 2 * j) = iz x) (h2 : gI m 135 (14 + 24 * k + 2 * j + 1) = iz y) (hx : bd 100 x) (hy : bd 100 y) (ha : a ≤ 20) (hb : b ≤ 20) : RM_isAt m (nI k) (nI j) (nI a) (nI b) = some (b2i (decide (x = a) && decide (y = b))) := by
  have e1 : (14 + (24 * nI k)) + (2 * nI j) = nI (14 + 24 * k + 2 * j) := by rw [k14, k24, k2, n_mul, n_mul, n_add, n_add]
  have e2 : nI (14 + 24 * k + 2 * j) + 1 = nI (14 + 24 * k + 2 * j + 1) := by rw [k1, n_add]
  unfold RM_isAt
  rw [e1, e2, if_pos (n_in (by omega) (by omega)), if_pos (n_in (by omega) (by omega)), n_ixn (by omega), n_ixn (by omega), h1, h2]
  simp only [izn_eq hx ha, izn_eq hy hb]
  by_cases p : x = a <;> by_cases q : y = b <;> simp [p, q, b2i]
theorem canMoveB {m : Mem} {L : Nat} {N : Nat → Nat} {s q : Int32} {X Y : Nat → Nat → Int} (R : NB m L N s q X Y) (ok : NOk L N X Y) {k c a b : Nat} (hk : k < L) (hc : c < N k) (ha : a ≤ 20) (hb : b ≤ 20) : RM_canMove m (nI k) (nI c) (nI a) (nI b) = some (b2i (!(atP (X k) (Y k) c a b) && (!(atP (X k) (Y k) (pv (N k) c) a b) && !(atP (X k) (Y k) (nx (N k) c) a b)))) := by
  obtain ⟨n3, n12, bd1, -⟩ := ok.2.2 k hk
  have l3 := ok.2.1
  obtain ⟨p1, p2⟩ := R.2.2.2 k hk
  have z1 : ¬ nI (N k) = 0 := by rw [k0, n_eq (by omega) (by omega)]; omega
  have e11 : 11 + nI k = nI (11 + k) := by rw [k11, n_add]
  have hin : inb (nI (11 + k)) 116 := n_in (by omega) (by omega)
  have at' : ∀ j, j < N k → RM_isAt m (nI k) (nI j) (nI a) (nI b) = some (b2i (atP (X k) (Y k) j a b)) := fun j hj => by
    have := bd1 j hj
    exact isAtB (by omega) (by omega) (p2 j hj).1 (p2 j hj).2 (by omega) (by omega) ha hb
  have h4 : RM_isPoint (nI a) (nI b) = 1 := by
    unfold RM_isPoint
    rw [k0, show (20 : Int32) = nI 20 from rfl, isIn_in (by omega) ha (by omega), if_neg (by decide), isIn_in (by omega) hb (by omega), if_neg (by decide)]
  simp only [RM_canMove, letV, h4, e11, if_pos hin, n_ixn (show 11 + k < 2147483648 by omega), p1]
  rw [if_neg (by decide), if_pos z1, show nI c + 1 = nI (c + 1) by rw [k1, n_add], show nI c + nI (N k) - 1 = nI (c + N k - 1) by rw [n_add, k1, n_sub (by omega)], irm_n (by omega) (by omega) (by omega), irm_n (by omega) (by omega) (by omega), nx_mod hc, pv_mod hc, at' _ hc, at' _ (pv_lt hc), at' _ (nx_lt hc)]
  simp only [bI_s]
  cases atP (X k) (Y k) c a b <;> cases atP (X k) (Y k) (pv (N k) c) a b <;> cases atP (X k) (Y k) (nx (N k) c) a b <;> rfl
def up2 (X : Nat → Nat → Int) (k i : Nat) (v : Int) : Nat → Nat → Int := fun t => if t = k then upz (X k) i v else X t
theorem NOk.up {L : Nat} {N : Nat → Nat} {X Y : Nat → Nat → Int} (ok : NOk L N X Y) {k c a b : Nat} (hk : k < L) (hc : c < N k) (ha : a ≤ 20) (hb : b ≤ 20) (p2 : atP (X k) (Y k) (pv (N k) c) a b = false) (p3 : atP (X k) (Y k) (nx (N k) c) a b = false) : NOk L N (up2 X k c a) (up2 Y k c b) := by
  obtain ⟨l1, l3, hO⟩ := ok
  refine ⟨l1, l3, fun t ht => ?_⟩
  obtain ⟨n3, n12, b1, b2⟩ := hO t ht
  unfold up2
  by_cases q : t = k
  · subst q
    rw [if_pos rfl, if_pos rfl]
    refine ⟨n3, n12, fun i hi => ?_, fun i hi => ?_⟩
    · have := b1 i hi
      unfold upz
      split <;> omega
    · have hD := b2 i hi
      have h1 := pv_nx hi
      unfold atP at p2 p3
      simp only [Bool.and_eq_false_iff, decide_eq_false_iff_not] at p2 p3
      have ne : nx (N t) i ≠ i := by unfold nx; split <;> omega
      unfold upz
      by_cases q : i = c
      · subst q
        rw [if_pos rfl, if_pos rfl, if_neg ne, if_neg ne]
        omega
      · by_cases q2 : nx (N t) i = c
        · rw [if_neg q, if_neg q, if_pos q2, if_pos q2]
          rw [← q2, h1] at p2
          omega
        · rw [if_neg q, if_neg q, if_neg q2, if_neg q2]
          exact hD
  · rw [if_neg q, if_neg q]
    exact ⟨n3, n12, b1, b2⟩
theorem putA {m : Mem} {p L : Nat} {N : Nat → Nat} {s q : Int32} {X Y : Nat → Nat → Int} (R : NA m p L N s q X Y) (ok : NOk L N X Y) {k c a b : Nat} (hk : k < L) (hc : c < N k) (ha : a ≤ 20) (hb : b ≤ 20) : ∃ m', PH_put m p (nI k) (nI c) (nI a) (nI b) = some m' ∧ NA m' p L N s (q + 1) (up2 X k c a) (up2 Y k c b) ∧ FA p m m' := by
  obtain ⟨n3, n12, bd1, -⟩ := ok.2.2 k hk
  have l3 := ok.2.1
  obtain ⟨r1, r2, r3, r4⟩ := R
  have g12 : gI (sI (sI m (p + 2 + 3 * k + 1) c (nI a)) (p + 2 + 3 * k + 2) c (nI b)) p 12 = q := by rw [gI_sI, if_neg (by omega), gI_sI, if_neg (by omega), r2]
  let M := sI (sI (sI m (p + 2 + 3 * k + 1) c (nI a)) (p + 2 + 3 * k + 2) c (nI b)) p 12 (q + 1)
  have eM : M = sI (sI (sI m (p + 2 + 3 * k + 1) c (nI a)) (p + 2 + 3 * k + 2) c (nI b)) p 12 (q + 1) := rfl
  have o : ∀ d j, ¬ (d = p ∧ j = 12) → ¬ (d = p + 2 + 3 * k + 1 ∧ j = c) → ¬ (d = p + 2 + 3 * k + 2 ∧ j = c) → gI M d j = gI m d j := fun d j a1 a2 a3 => by rw [eM, gI_sI, if_neg a1, gI_sI, if_neg a3, gI_sI, if_neg a2]
  refine ⟨M, ?_, ⟨by rw [o _ _ (by omega) (by omega) (by omega), r1], by rw [eM, gI_sI, if_pos ⟨rfl, rfl⟩], by rw [o _ _ (by omega) (by omega) (by omega), r3], fun t ht => ?_⟩, ⟨fun d j a1 a2 => ?_, rfl⟩⟩
  · simp only [PH_put, if_pos (n_in (show k < 3 by omega) (by omega)), if_pos (n_in (show c < 12 by omega) (by omega)), n_ixn (show k < 2147483648 by omega), n_ixn (show c < 2147483648 by omega), letM, g12, eM]
  · obtain ⟨a1, a2, a3⟩ := r4 t ht
    refine ⟨by rw [o _ _ (by omega) (by omega) (by omega)]; exact a1, a2, fun j hj => ?_⟩
    obtain ⟨b1, b2, b3, b4⟩ := a3 j hj
    unfold up2
    by_cases z : t = k
    · subst z
      rw [if_pos rfl, if_pos rfl]
      unfold upz
      by_cases z : j = c
      · subst z
        rw [if_pos rfl, if_pos rfl]
        refine ⟨?_, ?_, by omega, by omega⟩
        · rw [eM, gI_sI, if_neg (by omega), gI_sI, if_neg (by omega), gI_sI, if_pos ⟨rfl, rfl⟩, nI_iz]
        · rw [eM, gI_sI, if_neg (by omega), gI_sI, if_pos ⟨rfl, rfl⟩, nI_iz]
      · rw [if_neg z, if_neg z]
        refine ⟨?_, ?_, b3, b4⟩
        · rw [o _ _ (by omega) (by omega) (by omega)]; exact b1
        · rw [o _ _ (by omega) (by omega) (by omega)]; exact b2
    · rw [if_neg z, if_neg z]
      refine ⟨?_, ?_, b3, b4⟩
      · rw [o _ _ (by omega) (by omega) (by omega)]; exact b1
      · rw [o _ _ (by omega) (by omega) (by omega)]; exact b2
  · have := a2 k (by omega)
    exact o d j (by omega) (by omega) (by omega)
theorem putB {m : Mem} {L : Nat} {N : Nat → Nat} {s q : Int32} {X Y : Nat → Nat → Int} (R : NB m L N s q X Y) (ok : NOk L N X Y) {k c a b : Nat} (hk : k < L) (hc : c < N k) : ∃ m', (∀ kr : Mem → Option (Int32 × Mem), (bM (RM_puts m (nI k) (nI c) (nI a) (nI b)) fun m4 => if inb 6 116 then (letM (sI m4 135 (ixn 6) ((gI m4 135 (ixn 6)) + 1)) kr) else none) = kr m') ∧ NB m' L N s (q + 1) (up2 X k c a) (up2 Y k c b) ∧ FB m m' := by
  obtain ⟨n3, n12, bd1, -⟩ := ok.2.2 k hk
  have l3 := ok.2.1
  obtain ⟨r1, r2, r3, r4⟩ := R
  have g6 : gI (sI (sI m 135 (14 + 24 * k + 2 * c) (nI a)) 135 (14 + 24 * k + 2 * c + 1) (nI b)) 135 6 = q := by rw [gI_sI, if_neg (by omega), gI_sI, if_neg (by omega), r2]
  let M := sI (sI (sI m 135 (14 + 24 * k + 2 * c) (nI a)) 135 (14 + 24 * k + 2 * c + 1) (nI b)) 135 6 (q + 1)
  have eM : M = sI (sI (sI m 135 (14 + 24 * k + 2 * c) (nI a)) 135 (14 + 24 * k + 2 * c + 1) (nI b)) 135 6 (q + 1) := rfl
  have o : ∀ d j, ¬ (d = 135 ∧ (j = 6 ∨ j = 14 + 24 * k + 2 * c ∨ j = 14 + 24 * k + 2 * c + 1)) → gI M d j = gI m d j := fun d j a1 => by rw [eM, gI_sI, if_neg (by omega), gI_sI, if_neg (by omega), gI_sI, if_neg (by omega)]
  refine ⟨M, fun kr => ?_, ⟨by rw [o _ _ (by omega), r1], by rw [eM, gI_sI, if_pos ⟨rfl, rfl⟩], by rw [o _ _ (by omega), r3], fun t ht => ?_⟩, ⟨fun d j a1 a2 => o d j (by omega), rfl⟩⟩
  · simp only [puts_eq (show k < 3 by omega) (show c < 12 by omega), bM]
    rw [if_pos (by decide), show ixn 6 = 6 from rfl, g6]
    rfl
  · obtain ⟨a1, a3⟩ := r4 t ht
    obtain ⟨-, t12, -, -⟩ := ok.2.2 t ht
    refine ⟨by rw [o _ _ (by omega)]; exact a1, fun j hj => ?_⟩
    obtain ⟨b1, b2⟩ := a3 j hj
    unfold up2
    by_cases z : t = k
    · subst z
      rw [if_pos rfl, if_pos rfl]
      unfold upz
      by_cases z : j = c
      · subst z
        rw [if_pos rfl, if_pos rfl]
        refine ⟨?_, ?_⟩
        · rw [eM, gI_sI, if_neg (by omega), gI_sI, if_neg (by omega), gI_sI, if_pos ⟨rfl, rfl⟩, nI_iz]
        · rw [eM, gI_sI, if_neg (by omega), gI_sI, if_pos ⟨rfl, rfl⟩, nI_iz]
      · rw [if_neg z, if_neg z]
        refine ⟨?_, ?_⟩
        · rw [o _ _ (by omega)]; exact b1
        · rw [o _ _ (by omega)]; exact b2
    · rw [if_neg z, if_neg z]
      refine ⟨?_, ?_⟩
      · rw [o _ _ (by omega)]; exact b1
      · rw [o _ _ (by omega)]; exact b2
theorem atP_moved {X Y : Nat → Int} {c w a b : Nat} (hw : w < 4) (h1 : X c + dX w = a) (h2 : Y c + dY w = b) : atP X Y c a b = false := by
  unfold atP
  rw [Bool.and_eq_false_iff, decide_eq_false_iff_not, decide_eq_false_iff_not]
  unfold dX at h1
  unfold dY at h2
  rcases (show w = 0 ∨ w = 1 ∨ w = 2 ∨ w = 3 by omega) with rfl | rfl | rfl | rfl
  · right; simp at h2; omega
  · left; simp at h1; omega
  · right; simp at h2; omega
  · left; simp at h1; omega
theorem nights_loop {p L T : Nat} {N : Nat → Nat} (hT : T ≤ 200) {v v' : Int32} {kx kx' : Mem → Option (Int32 × Mem)} : ∀ (d t fu : Nat) (mA mB : Mem) (s q : Int32) (X Y : Nat → Nat → Int), t + d = T → d < fu → NA mA p L N s q X Y → NB mB L N s q X Y → NOk L N X Y →
    ∃ mA' mB' s' q' X' Y', PH_passNights_L13 p (nI T) v kx fu mA (nI t) = kx mA' ∧ RM_nights_L47 (nI T) v' kx' fu mB (nI t) = kx' mB' ∧ NA mA' p L N s' q' X' Y' ∧ NB mB' L N s' q' X' Y' ∧ NOk L N X' Y' ∧ FA p mA mA' ∧ FB mB mB'
  | 0, t, fu, mA, mB, s, q, X, Y, hd, hf, RA, RB, ok => by
    obtain ⟨f, rfl⟩ : ∃ f, fu = f + 1 := ⟨fu - 1, by omega⟩
    obtain rfl : t = T := by omega
    exact ⟨mA, mB, s, q, X, Y, by rw [PH_passNights_L13, if_pos (by rw [n_le (by omega) (by omega)]; omega)], by rw [RM_nights_L47, if_pos (by rw [n_le (by omega) (by omega)]; omega)], RA, RB, ok, ⟨fun _ _ _ _ => rfl, rfl⟩, ⟨fun _ _ _ _ => rfl, rfl⟩⟩
  | d + 1, t, fu, mA, mB, s, q, X, Y, hd, hf, RA, RB, ok => by
    obtain ⟨f, rfl⟩ : ∃ f, fu = f + 1 := ⟨fu - 1, by omega⟩
    have hx : ¬ nI T ≤ nI t := by rw [n_le (by omega) (by omega)]; omega
    obtain ⟨m9, k, i, w, ek, ei, ew, RA9, FA9, eA⟩ := nightA (kx := kx) (f := f) (x3 := v) RA ok hx
    obtain ⟨b9, k', i', w', ek', ei', ew', RB9, FB9, eB⟩ := nightB (kx := kx') (f := f) (x3 := v') RB ok hx
    obtain rfl : k' = k := ek'.trans ek.symm
    obtain rfl : i' = i := ei'.trans ei.symm
    obtain rfl : w' = w := ew'.trans ew.symm
    have hk : k' < L := by rw [ek]; exact rv_lt _ (by have := ok.1; omega)
    obtain ⟨n3, n12, bd1, -⟩ := ok.2.2 k' hk
    have l3 := ok.2.1
    have hi : i' < N k' := by rw [ei]; exact rv_lt _ (by omega)
    have hw : w' < 4 := by rw [ew]; exact rv_lt _ (by omega)
    have b1 := bd1 i' hi
    have dx : bd 1 (dX w') := by unfold dX; split; omega; split <;> omega
    have dy : bd 1 (dY w') := by unfold dY; split; omega; split <;> omega
    have et : nI t + 1 = nI (t + 1) := by rw [k1, n_add]
    have u0 : ∀ z : Int, iz z + 0 = iz z := fun z => by rw [show (0 : Int32) = iz 0 from rfl, iz_add, Int.add_zero]
    have v0 : ∀ z : Int, iz z - 0 = iz z := fun z => by rw [show (0 : Int32) = iz 0 from rfl, iz_sub, Int.sub_zero]
    rw [eA, eB, PH_passNights_J126, RM_nights_J170, letV_p, letV_p, u0, v0, et]
    rcases isPoint_eq (iz (X k' i' + dX w')) (iz (Y k' i' + dY w')) with ⟨h3, h4⟩ | ⟨a, b, ha, hb, ea, eb, h3, h4⟩
    · obtain ⟨mA', mB', s', q', X', Y', z1, z2, z3, z4, z5, z6, z7⟩ := nights_loop hT (v := v) (v' := v') (kx := kx) (kx' := kx') d (t + 1) f m9 b9 _ _ X Y (by omega) (by omega) RA9 RB9 ok
      refine ⟨mA', mB', s', q', X', Y', ?_, ?_, z3, z4, z5, FA9.trans z6, FB9.trans z7⟩
      · rw [h3, if_pos rfl]; exact z1
      · have e11 : 11 + nI k' = nI (11 + k') := by rw [k11, n_add]
        have hin : inb (nI (11 + k')) 116 := n_in (by omega) (by omega)
        have : RM_canMove b9 (nI k') (nI i') (iz (X k' i' + dX w')) (iz (Y k' i' + dY w')) = some 0 := by
          simp only [RM_canMove, letV, h4, e11, if_pos hin, if_pos]
        rw [this, bI_s, if_pos rfl]; exact z2
    · have ha' : X k' i' + dX w' = a := by rw [nI_iz, iz_eq (by omega) (by omega)] at ea; exact ea
      have hb' : Y k' i' + dY w' = b := by rw [nI_iz, iz_eq (by omega) (by omega)] at eb; exact eb
      have hat := atP_moved (X := X k') (Y := Y k') (c := i') hw ha' hb'
      rw [h3, if_neg (by decide), if_pos (n_in (by omega) (by omega)), n_ixn (by omega), ea, eb, mayStand_eq (RA9.2.2.2 k' hk) hi ha hb, canMoveB RB9 ok hk hi ha hb, hat]
      simp only [bI_s, Bool.not_false, Bool.true_and]
      cases z : (!(atP (X k') (Y k') (pv (N k') i') a b) && !(atP (X k') (Y k') (nx (N k') i') a b)) with
      | false =>
        obtain ⟨mA', mB', s', q', X', Y', z1, z2, z3, z4, z5, z6, z7⟩ := nights_loop hT (v := v) (v' := v') (kx := kx) (kx' := kx') d (t + 1) f m9 b9 _ _ X Y (by omega) (by omega) RA9 RB9 ok
        refine ⟨mA', mB', s', q', X', Y', ?_, ?_, z3, z4, z5, FA9.trans z6, FB9.trans z7⟩
        · rw [if_pos (by decide)]; exact z1
        · rw [if_pos (by decide)]; exact z2
      | true =>
        simp only [Bool.and_eq_true, Bool.not_eq_true'] at z
        obtain ⟨mC, c1, c2, c3⟩ := putA RA9 ok hk hi ha hb
        obtain ⟨mD, d1, d2, d3⟩ := putB (a := a) (b := b) RB9 ok hk hi
        obtain ⟨mA', mB', s', q', X', Y', z1, z2, z3, z4, z5, z6, z7⟩ := nights_loop hT (v := v) (v' := v') (kx := kx) (kx' := kx') d (t + 1) f mC mD _ _ _ _ (by omega) (by omega) c2 d2 (ok.up hk hi ha hb z.1 z.2)
        refine ⟨mA', mB', s', q', X', Y', ?_, ?_, z3, z4, z5, (FA9.trans c3).trans z6, (FB9.trans d3).trans z7⟩
        · rw [if_neg (by decide), c1]; exact z1
        · rw [if_neg (by decide), d1]; exact z2

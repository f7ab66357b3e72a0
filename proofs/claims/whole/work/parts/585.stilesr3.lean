/-! the reference's whole table -/
theorem IC.labE {C : ScF} (I : IC 400 C) {v : Nat} (hv : v < 400) : ((labN C v : Nat) : Int) = C.S.lab v := by
  have := I.labP v hv
  unfold labN
  omega
theorem adjN {C : ScF} (I : IC 400 C) {sq d w : Nat} (hs : sq < 400) (hd : d < 4) (hb : nb sq d = some w) (hl : labN C w ≠ labN C sq) : nbr C (labN C sq) (labN C w) := by
  have a := I.labP sq hs
  have b := I.labP w (nb_lt hs hb)
  have a' := I.labE hs
  have b' := I.labE (nb_lt hs hb)
  exact ⟨sq, hs, by omega, d, w, hd, hb, by omega, by omega⟩
theorem adjN' {C : ScF} (I : IC 400 C) {u v : Nat} (h : nbr C u v) : ∃ sq d w, sq < 400 ∧ d < 4 ∧ nb sq d = some w ∧ labN C sq = u ∧ labN C w = v ∧ labN C w ≠ labN C sq := by
  obtain ⟨sq, hs, l1, d, w, hd, hb, l2, l3⟩ := h
  have a := I.labP sq hs
  have b := I.labP w (nb_lt hs hb)
  have a' := I.labE hs
  have b' := I.labE (nb_lt hs hb)
  exact ⟨sq, d, w, hs, hd, hb, by omega, by omega, by omega⟩
theorem nbr_lt {C : ScF} (I : IC 400 C) {u v : Nat} (h : nbr C u v) : u < C.P ∧ v < C.P := by
  obtain ⟨sq, hs, l1, d, w, hd, hb, l2, l3⟩ := h
  have a := I.labP sq hs
  have b := I.labP w (nb_lt hs hb)
  have a' := I.labE hs
  have b' := I.labE (nb_lt hs hb)
  omega
theorem IC.has {C : ScF} (I : IC 400 C) {p : Nat} (hp : p < C.P) : ∃ sq, sq < 400 ∧ labN C sq = p := by
  have lt := I.2.2.1 p hp
  have sm := I.sm (p := p + 1) (by omega)
  have q := I.1.qu (C.start p) (by omega)
  have l := I.2.2.2.1 p hp (C.start p) (Nat.le_refl _) lt
  have e := I.labE q
  exact ⟨_, q, by omega⟩
theorem LJ.le {adj : Nat → Nat → Prop} {K P : Nat} {tm : Nat → Nat} {k : Nat} {R R' : Nat → Nat} (h : LJ adj K P tm k R) (hl : ∀ v, R' v ≤ R v) : LJ adj K P tm k R' := fun v c hv z => Nat.le_trans (hl v) (h v c hv z)
theorem Qd.all {adj : Nat → Nat → Prop} {K P : Nat} {tm : Nat → Nat} {k : Nat} {R : Nat → Nat} (h : LJ adj K P tm k R) (ha : ∀ u v, adj u v → u < P) (hr : ∀ u v, adj u v → v < P → R v ≤ R u + 1) : ∀ i, Qd adj K P tm k i R
  | 0 => Qd.zero h
  | i + 1 => Qd.step h ha (Qd.all h ha hr i) (fun u v a b _ => hr u v a b)
theorem rs_loop {C : ScF} (I : IC 400 C) (I2 : IC2 C) {H k : Nat} {hx hy : Nat → Nat} {x3 : Int32} {kx : Mem → Option (Int32 × Mem)} (hH : H ≤ 6) (hk0 : 0 < k) (hk : k < 2 ^ H) (ht : ∀ e, e < H → tmR C hx hy e < C.P) : ∀ (r i fu : Nat) (m : Mem) (R : Nat → Nat), i + r = 400 → r + 1 < fu → SR m C H hx hy → RowM m k C.P R → (∀ v, R v ≤ INF) → LJ (nbr C) H C.P (tmR C hx hy) k R → Qd (nbr C) H C.P (tmR C hx hy) k i R → (∀ p, p < C.P → R p = INF ∨ AchE (nbr C) H (tmR C hx hy) (bits k) p (R p)) →
    ∃ m' R', RM_stiles_L236 (nI H) x3 (nI k) kx fu m 1 = kx m' ∧ RowM m' k C.P R' ∧ (∀ v, R' v ≤ INF) ∧ (∀ p, p < C.P → MinA (nbr C) H (tmR C hx hy) (bits k) p (R' p)) ∧ (∀ j, j < 400 * k → gI m' 150 j = gI m 150 j) ∧ F150 m m' := by
  have P4 := I.pt
  have t4 := I.1.le
  have P1 : 0 < C.P := by have := I.labP 0 (by omega); omega
  have h64 : k < 64 := Nat.lt_of_lt_of_le hk (Nat.pow_le_pow_right (by omega) hH)
  have hl : ∀ v, v < 400 → labN C v < C.P := fun v hv => by have := I.labP v hv; have := I.labE hv; omega
  have ha : ∀ u v, nbr C u v → u < C.P := fun u v h => (nbr_lt I h).1
  have hp := piece_back I I2
  intro r
  induction r with
  | zero =>
    intro i fu m R hi hf S RR hI hLJ hQ hA
    obtain ⟨f, rfl⟩ : ∃ f, fu = f + 1 + 1 := ⟨fu - 2, by omega⟩
    have mn := row_min P1 (by omega) hH hp ht hk0 hk (fun n v c a b e => hQ n v c a b (by omega)) hA
    obtain ⟨m1, e1, r1, k1', F1⟩ := rs_round (x2 := nI H) (x3 := x3) (kx := fun m2 y1 => RM_stiles_L236 (nI H) x3 (nI k) kx (f + 1) m2 y1) h64 (by omega) hl 400 0 FU m R false (by omega) (by unfold FU; omega) S RR hI
    have z : csa (labN C) 400 0 R = false := csa_yes (fun sq d w hs hd hb hne => by
      have w4 := nb_lt hs hb
      exact (mn _ (hl w w4)).1.2 _ ((mn _ (hl sq hs)).1.1.step (adjN I hs hd hb hne))) 400 0 (by omega)
    rw [csa_no _ _ _ z] at r1
    rw [z] at e1
    refine ⟨m1, R, ?_, r1, hI, fun p hp => (mn p hp).1, k1', F1⟩
    rw [show b2i false = 0 from rfl, show nI 0 = 0 from k0.symm] at e1
    rw [RM_stiles_L236, if_neg (by decide), e1]
    rw [show b2i (false || false) = 0 from rfl, RM_stiles_L236, if_pos rfl]
  | succ r ih =>
    intro i fu m R hi hf S RR hI hLJ hQ hA
    obtain ⟨f, rfl⟩ : ∃ f, fu = f + 1 + 1 := ⟨fu - 2, by omega⟩
    obtain ⟨m1, e1, r1, k1', F1⟩ := rs_round (x2 := nI H) (x3 := x3) (kx := fun m2 y1 => RM_stiles_L236 (nI H) x3 (nI k) kx (f + 1) m2 y1) h64 (by omega) hl 400 0 FU m R false (by omega) (by unfold FU; omega) S RR hI
    have hr : ∀ u v, nbr C u v → v < C.P → rsa (labN C) 400 0 R v ≤ R u + 1 := fun u v h _ => by
      obtain ⟨sq, d, w, hs, hd, hb, l1, l2, l3⟩ := adjN' I h
      rw [← l1, ← l2]
      exact rsa_v 400 0 R sq d w (by omega) (by omega) hd hb l3
    rw [show b2i false = 0 from rfl, show nI 0 = 0 from k0.symm, Bool.false_or] at e1
    cases z : csa (labN C) 400 0 R with
    | false =>
      rw [z] at e1
      have e := csa_no _ _ _ z
      rw [e] at r1 hr
      have mn := row_min P1 (by omega) hH hp ht hk0 hk (Qd.all hLJ ha hr (C.P - 1)) hA
      refine ⟨m1, R, ?_, r1, hI, fun p hp => (mn p hp).1, k1', F1⟩
      rw [RM_stiles_L236, if_neg (by decide), e1]
      rw [show b2i false = 0 from rfl, RM_stiles_L236, if_pos rfl]
    | true =>
      rw [z] at e1
      have hI' : ∀ v, rsa (labN C) 400 0 R v ≤ INF := fun v => Nat.le_trans (rsa_le _ _ _ _ _) (hI v)
      have hLJ' := hLJ.le (R' := rsa (labN C) 400 0 R) (fun v => rsa_le _ _ _ _ _)
      have hA' : ∀ p, p < C.P → rsa (labN C) 400 0 R p = INF ∨ AchE (nbr C) H (tmR C hx hy) (bits k) p (rsa (labN C) 400 0 R p) := fun p hp => by
        obtain ⟨sq, hs, rfl⟩ := I.has hp
        exact rsa_ach (J := AchE (nbr C) H (tmR C hx hy) (bits k)) (fun sq d w c hs hd hb hne h => h.step (adjN I hs hd hb hne)) 400 0 R (by omega) hI (fun sq hs => hA _ (hl sq hs)) sq hs
      obtain ⟨m2, R', e2, a1, a2, a3, a4, F2⟩ := ih (i + 1) (f + 1) m1 _ (by omega) (by omega) (S.fr F1) r1 hI' hLJ' (Qd.step hLJ' ha hQ (fun u v a b _ => hr u v a b)) hA'
      refine ⟨m2, R', ?_, a1, a2, a3, fun j hj => by rw [a4 j hj, k1' j hj], F1.tr F2⟩
      rw [RM_stiles_L236, if_neg (by decide), e1]
      exact e2
/-- what the row holds before it is spread can be reached -/
theorem row_ach {adj : Nat → Nat → Prop} {K P k q x : Nat} {tm : Nat → Nat} {T : Nat → Nat → Nat} (hk : k < 64) (hT : TabOk adj K P tm T k) (hq : q < P) (h : x = INF ∨ (x = 0 ∧ ∃ t, t < K ∧ k = 2 ^ t ∧ tm t = q) ∨ ∃ s, 0 < s ∧ s < k ∧ s &&& k = s ∧ x = T s q + T (k - s) q) : x = INF ∨ AchE adj K tm (bits k) q x := by
  rcases h with h | ⟨h, t, t1, t2, t3⟩ | ⟨s, s0, s1, s2, h⟩
  · exact Or.inl h
  · right
    rw [h, ← t3]
    refine AchE.leaf t1 (fun i => ?_)
    unfold bits
    rw [t2, Nat.testBit_two_pow]
    simp [eq_comm]
  · right
    rw [h]
    refine (hT s s0 s1 q hq).1.join (hT (k - s) (by omega) (by omega) q hq).1 (fun i => ?_) (fun i => ?_)
    · have := bits_sub' hk (by omega) s2 i
      have e : s.testBit i = (s.testBit i && k.testBit i) := by rw [← Nat.testBit_and, s2]
      show k.testBit i = (s.testBit i || (k - s).testBit i)
      rw [this]
      cases z : s.testBit i
      · simp
      · rw [z] at e; simp at e; simp [← e]
    · have := bits_sub' hk (by omega) s2 i
      show ¬ (s.testBit i = true ∧ (k - s).testBit i = true)
      rw [this]
      cases s.testBit i <;> simp
theorem st_table {C : ScF} (I : IC 400 C) (I2 : IC2 C) {H : Nat} {hx hy : Nat → Nat} {kx : Mem → Option (Int32 × Mem)} (hH : H ≤ 6) (ht : ∀ e, e < H → tmR C hx hy e < C.P) : ∀ (n k fu : Nat) (m : Mem) (T : Nat → Nat → Nat), k + n = 2 ^ H → n < fu → 0 < k → SR m C H hx hy → MT m T k C.P → (∀ k p, T k p ≤ INF) → TabOk (nbr C) H C.P (tmR C hx hy) T k →
    ∃ m' T', RM_stiles_L45 (nI H) (nI (2 ^ H)) kx fu m (nI k) = kx m' ∧ MT m' T' (2 ^ H) C.P ∧ TabOk (nbr C) H C.P (tmR C hx hy) T' (2 ^ H) ∧ F150 m m' := by
  have P4 := I.pt
  have t4 := I.1.le
  have pw : 2 ^ H ≤ 64 := Nat.pow_le_pow_right (n := 2) (by omega) hH
  have iI : INF = 100000000 := rfl
  intro n
  induction n with
  | zero =>
    intro k fu m T hn hf h0 S M hT hO
    obtain ⟨f, rfl⟩ : ∃ f, fu = f + 1 := ⟨fu - 1, by omega⟩
    rw [Nat.add_zero] at hn
    subst hn
    exact ⟨m, T, by rw [RM_stiles_L45, if_pos (by rw [n_le (by omega) (by omega)]; omega)], M, hO, Frm.rf⟩
  | succ n ih =>
    intro k fu m T hn hf h0 S M hT hO
    obtain ⟨f, rfl⟩ : ∃ f, fu = f + 1 := ⟨fu - 1, by omega⟩
    have hk : k < 64 := by omega
    have hl4 : ∀ v, labN C v < 400 := fun v => by have := I.1.lo v; unfold labN; omega
    obtain ⟨m1, R1, e1, a1, a2, a3, F1⟩ := sp_row (x3 := nI (2 ^ H)) (kx := fun m1 => RM_stiles_L236 (nI H) (nI (2 ^ H)) (nI k) (fun m2 => RM_stiles_L45 (nI H) (nI (2 ^ H)) kx f m2 (nI k + 1)) FU m1 1) h0 hk hH (by omega) hl4 hT C.P 0 FU m (fun _ => 0) (by omega) (by unfold FU; omega) S M (fun p hp => absurd hp (Nat.not_lt_zero _)) (fun q hq => absurd hq (Nat.not_lt_zero _))
    obtain ⟨R2, hR2⟩ : ∃ R : Nat → Nat, ∀ v, R v = if v < C.P then R1 v else INF := ⟨_, fun _ => rfl⟩
    have R2P : ∀ v, v < C.P → R2 v = R1 v := fun v hv => by rw [hR2, if_pos hv]
    have hLJ : LJ (nbr C) H C.P (tmR C hx hy) k R2 := LJ.of hH hk hO (fun e he hke => by rw [R2P _ (ht e he)]; exact (a3 _ (ht e he)).2.2.1 e he hke rfl) (fun s s0 s1 s2 p hp => by rw [R2P p hp]; exact (a3 p hp).2.1 s s0 s1 s2)
    obtain ⟨m2, R3, e2, b1, b2, b3, b4, F2⟩ := rs_loop (x3 := nI (2 ^ H)) (kx := fun m2 => RM_stiles_L45 (nI H) (nI (2 ^ H)) kx f m2 (nI k + 1)) I I2 hH h0 (by omega) ht 400 0 FU m1 R2 (by omega) (by unfold FU; omega) (S.fr F1) (fun p hp => by rw [R2P p hp]; exact a2 p hp) (fun v => by
      rw [hR2]
      split
      · rename_i z; exact (a3 v z).1
      · exact Nat.le_refl _) hLJ (Qd.zero hLJ) (fun p hp => by rw [R2P p hp]; exact row_ach hk hO hp (a3 p hp).2.2.2)
    obtain ⟨T2, hT2⟩ : ∃ T' : Nat → Nat → Nat, ∀ k' p, T' k' p = if k' = k then R3 p else T k' p := ⟨_, fun _ _ => rfl⟩
    have M2 : MT m2 T2 (k + 1) C.P := fun k' h1 h2 p hp => by
      rw [hT2]
      by_cases z : k' = k
      · rw [if_pos z, z]; exact b1 p hp
      · rw [if_neg z, b4 _ (by omega)]; exact a1 k' h1 (by omega) p hp
    have O2 : TabOk (nbr C) H C.P (tmR C hx hy) T2 (k + 1) := fun k' h1 h2 p hp => by
      rw [hT2]
      by_cases z : k' = k
      · rw [if_pos z, z]; exact b3 p hp
      · rw [if_neg z]; exact hO k' h1 (by omega) p hp
    obtain ⟨m3, T3, e3, c1, c2, F3⟩ := ih (k + 1) f m2 T2 (by omega) (by omega) (by omega) (S.fr (F1.tr F2)) M2 (fun k' p => by
      rw [hT2]
      split
      · exact b2 p
      · exact hT k' p) O2
    refine ⟨m3, T3, ?_, c1, c2, (F1.tr F2).tr F3⟩
    rw [show nI 0 = 0 from k0.symm] at e1
    rw [RM_stiles_L45, if_neg (by rw [n_le (by omega) (by omega)]; omega), e1, e2, k1, n_add, e3]
theorem bits_full {H i : Nat} : bits (2 ^ H - 1) i = decide (i < H) := by unfold bits; rw [Nat.testBit_two_pow_sub_one]

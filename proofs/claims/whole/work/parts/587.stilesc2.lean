/-! the class spreads a row -/
theorem BsD.mono {C : ScF} {E off : Nat → Nat} {n : Nat} (h : BsD C E off n) : ∀ d p, p + d ≤ n → off p ≤ off (p + d)
  | 0, p, _ => Nat.le_refl _
  | d + 1, p, hd => by
    have a := h.mono d p (by omega)
    have b := (h.2 (p + d) (by omega)).1
    rw [← Nat.add_assoc p d 1]
    omega
theorem of_loop {C : ScF} (I : IC 400 C) {K k u x : Nat} {te E off : Nat → Nat} {kx : Mem → Option Mem} (hD : BsD C E off C.P) (h16 : off C.P ≤ 1600) (hk : k < 64) (hu : u < C.P) (hx : x ≤ 400) : ∀ (d j fu : Nat) (m : Mem) (R : Nat → Nat), j + d = off (u + 1) → off u ≤ j → d < fu → CX m C K te E off → RC m k C.P R → (∀ v, R v ≤ INF) →
    ∃ m' R', PC_openFrom_L8 (nI (k * 400)) (nI u) (nI x) kx fu m (nI j) = kx m' ∧ RC m' k C.P R' ∧ (∀ q, R' q = R q ∨ (R' q = x ∧ x < R q ∧ nbr C u q)) ∧ (∀ j', j ≤ j' → j' < off (u + 1) → R' (E j') ≤ x) ∧ Kp k m m' ∧ F25 m m'
  | 0, j, fu, m, R, hd, hj, hf, S, RR, hI => by
    obtain ⟨f, rfl⟩ : ∃ f, fu = f + 1 := ⟨fu - 1, by omega⟩
    have P4 := I.pt
    have t4 := I.1.le
    have mo := hD.mono (C.P - (u + 1)) (u + 1) (by omega)
    rw [show u + 1 + (C.P - (u + 1)) = C.P by omega] at mo
    refine ⟨m, R, ?_, RR, fun q => Or.inl rfl, fun j' a b => by omega, fun _ _ => rfl, Frm.rf⟩
    rw [PC_openFrom_L8, show nI u + 1 = nI (u + 1) by rw [k1, n_add], if_pos (n_in (by omega) (by omega)), n_ixn (by omega), S.1 (u + 1) (by omega), if_pos (by rw [n_le (by omega) (by omega)]; omega)]
  | d + 1, j, fu, m, R, hd, hj, hf, S, RR, hI => by
    obtain ⟨f, rfl⟩ : ∃ f, fu = f + 1 := ⟨fu - 1, by omega⟩
    have P4 := I.pt
    have t4 := I.1.le
    have mo := hD.mono (C.P - (u + 1)) (u + 1) (by omega)
    rw [show u + 1 + (C.P - (u + 1)) = C.P by omega] at mo
    have hn : nbr C u (E j) := ((hD.2 u hu).2.1 (E j)).mpr ⟨j, hj, by omega, rfl⟩
    have hE := (nbr_lt I hn).2
    have iI : INF = 100000000 := rfl
    have i1 := hI (E j)
    have F1 : F25 m (sI m 25 (k * 400 + E j) (nI (min (R (E j)) x))) := Frm.sI rfl rfl
    obtain ⟨m2, R2, e2, a1, a2, a3, a4, F2⟩ := of_loop (kx := kx) I hD h16 hk hu hx d (j + 1) f _ (upn R (E j) (min (R (E j)) x)) (by omega) (by omega) (by omega) (S.fr F1) (fun q hq => by
      rw [gI_sI]
      by_cases z : q = E j
      · rw [if_pos ⟨rfl, by rw [z]⟩, z, upn_eq]
      · rw [if_neg (by omega), upn_ne z]; exact RR q hq) (fun v => by
      by_cases z : v = E j
      · rw [z, upn_eq]; omega
      · rw [upn_ne z]; exact hI v)
    refine ⟨m2, R2, ?_, a1, fun q => ?_, fun j' b1 b2 => ?_, fun i hi => by rw [a4 i hi, gI_sI, if_neg (by omega)], F1.tr F2⟩
    · have E4 : E j < 400 := by omega
      have lt1 : R (E j) < 2147483648 := by omega
      rw [PC_openFrom_L8, show nI u + 1 = nI (u + 1) by rw [k1, n_add], if_pos (n_in (by omega) (by omega)), n_ixn (by omega), S.1 (u + 1) (by omega), if_neg (by rw [n_le (by omega) (by omega)]; omega), if_pos (n_in (by omega) (by omega)), n_ixn (by omega), S.2.1 j (by omega), n_add, letV_o, if_pos (n_in (idx hk E4) (by decide)), n_ixn (idx' hk E4), RR _ hE, min32 lt1 (by omega), letM_o, show nI j + 1 = nI (j + 1) by rw [k1, n_add], e2]
    · rcases a2 q with z | ⟨z1, z2, z3⟩
      · rw [z]
        by_cases w : q = E j
        · rw [w, upn_eq]
          by_cases y : R (E j) ≤ x
          · left; exact Nat.min_eq_left y
          · right; exact ⟨Nat.min_eq_right (by omega), by omega, hn⟩
        · left; exact upn_ne w
      · right
        refine ⟨z1, ?_, z3⟩
        by_cases w : q = E j
        · rw [w, upn_eq] at z2
          rw [w]; omega
        · rw [upn_ne w] at z2; exact z2
    · by_cases w : j' = j
      · rw [w]
        rcases a2 (E j) with z | ⟨z1, z2, z3⟩
        · rw [z, upn_eq]; omega
        · omega
      · exact a3 j' (by omega) b2
theorem openFrom_eq {m : Mem} {C : ScF} (I : IC 400 C) {K k u x : Nat} {te E off R : Nat → Nat} (hD : BsD C E off C.P) (h16 : off C.P ≤ 1600) (hk : k < 64) (hu : u < C.P) (hx : x ≤ 400) (S : CX m C K te E off) (RR : RC m k C.P R) (hI : ∀ v, R v ≤ INF) :
    ∃ m' R', PC_openFrom m (nI (k * 400)) (nI u) (nI x) = some m' ∧ RC m' k C.P R' ∧ (∀ q, R' q = R q ∨ (R' q = x ∧ x < R q ∧ nbr C u q)) ∧ (∀ q, nbr C u q → R' q ≤ x) ∧ Kp k m m' ∧ F25 m m' := by
  have P4 := I.pt
  have t4 := I.1.le
  have mo := hD.mono (C.P - (u + 1)) (u + 1) (by omega)
  rw [show u + 1 + (C.P - (u + 1)) = C.P by omega] at mo
  have mo2 := (hD.2 u hu).1
  obtain ⟨m2, R2, e2, a1, a2, a3, a4, F2⟩ := of_loop (kx := fun m3 => some m3) I hD h16 hk hu hx (off (u + 1) - off u) (off u) FU m R (by omega) (by omega) (by unfold FU; omega) S RR hI
  refine ⟨m2, R2, ?_, a1, a2, fun q hq => ?_, a4, F2⟩
  · rw [PC_openFrom, if_pos (n_in (by omega) (by omega)), n_ixn (by omega), S.1 u (by omega), letV_o, e2]
  · obtain ⟨j, b1, b2, b3⟩ := ((hD.2 u hu).2.1 q).mp hq
    rw [← b3]
    exact a3 j b1 b2
theorem sl_loop {C : ScF} (I : IC 400 C) {K k x : Nat} {te E off : Nat → Nat} {J : Nat → Nat → Prop} {kx : Mem → Int32 → Option Mem} (hJ : ∀ u v c, nbr C u v → J u c → J v (c + 1)) (hD : BsD C E off C.P) (h16 : off C.P ≤ 1600) (hk : k < 64) (hx : x < C.P) : ∀ (d p fu : Nat) (m : Mem) (R : Nat → Nat) (b : Bool), p + d = C.P → d < fu → CX m C K te E off → RC m k C.P R → (∀ v, R v ≤ INF) → (∀ u v, nbr C u v → R u < x → R v ≤ R u + 1) → (∀ u v, u < p → nbr C u v → R u = x → R v ≤ x + 1) → (b = false → ∀ u, u < p → R u ≤ x) → (∀ q, q < C.P → R q = INF ∨ J q (R q)) →
    ∃ m' R' b', PC_spread_L21 (nI (k * 400)) (nI x) kx fu m (b2i b) (nI p) = kx m' (b2i b') ∧ RC m' k C.P R' ∧ (∀ v, R' v ≤ R v) ∧ (∀ u v, nbr C u v → R' u ≤ x → R' v ≤ R' u + 1) ∧ (b' = false → ∀ u, u < C.P → R' u ≤ x) ∧ (∀ q, q < C.P → R' q = INF ∨ J q (R' q)) ∧ Kp k m m' ∧ F25 m m'
  | 0, p, fu, m, R, b, hd, hf, S, RR, hI, h1, h2, h3, h4 => by
    obtain ⟨f, rfl⟩ : ∃ f, fu = f + 1 := ⟨fu - 1, by omega⟩
    have P4 := I.pt
    have t4 := I.1.le
    obtain rfl : p = C.P := by omega
    refine ⟨m, R, b, by rw [PC_spread_L21, S.2.2.1, if_pos (by rw [n_le (by omega) (by omega)]; omega)], RR, fun _ => Nat.le_refl _, fun u v a z => ?_, h3, h4, fun _ _ => rfl, Frm.rf⟩
    by_cases w : R u = x
    · have := h2 u v (nbr_lt I a).1 a w
      omega
    · exact h1 u v a (by omega)
  | d + 1, p, fu, m, R, b, hd, hf, S, RR, hI, h1, h2, h3, h4 => by
    obtain ⟨f, rfl⟩ : ∃ f, fu = f + 1 := ⟨fu - 1, by omega⟩
    have P4 := I.pt
    have t4 := I.1.le
    have iI : INF = 100000000 := rfl
    have ip := hI p
    have p4 : p < 400 := by omega
    have ep : nI p + 1 = nI (p + 1) := by rw [k1, n_add]
    have c1 : (nI (R p) = nI x) ↔ R p = x := n_eq (by omega) (by omega)
    have c2 : (nI (R p) ≤ nI x) ↔ R p ≤ x := n_le (by omega) (by omega)
    have e0 : PC_spread_L21 (nI (k * 400)) (nI x) kx (f + 1) m (b2i b) (nI p) = if nI (R p) = nI x then (bM (PC_openFrom m (nI (k * 400)) (nI p) (nI (x + 1))) fun m2 => PC_spread_L21 (nI (k * 400)) (nI x) kx f m2 (b2i b) (nI (p + 1)))
        else (if nI (R p) ≤ nI x then (PC_spread_L21 (nI (k * 400)) (nI x) kx f m (b2i b) (nI (p + 1))) else (PC_spread_L21 (nI (k * 400)) (nI x) kx f m 1 (nI (p + 1)))) := by
      rw [PC_spread_L21, S.2.2.1, if_neg (by rw [n_le (by omega) (by omega)]; omega), n_add, if_pos (n_in (idx hk p4) (by decide)), n_ixn (idx' hk p4), RR p (by omega), ep, show nI x + 1 = nI (x + 1) by rw [k1, n_add]]
    by_cases q1 : R p = x
    · obtain ⟨m1, R1, e1, r1, a2, a3, k1', F1⟩ := openFrom_eq I hD h16 hk (show p < C.P by omega) (show x + 1 ≤ 400 by omega) S RR hI
      have le1 : ∀ v, R1 v ≤ R v := fun v => by rcases a2 v with z | ⟨z1, z2, _⟩ <;> omega
      have eqx : ∀ u, R1 u ≤ x → R1 u = R u := fun u hu => by rcases a2 u with z | ⟨z1, z2, _⟩ <;> omega
      obtain ⟨m2, R2, b2, e2, s1, s2, s3, s4, s5, s6, F2⟩ := sl_loop (J := J) (kx := kx) I hJ hD h16 hk hx d (p + 1) f m1 R1 b (by omega) (by omega) (S.fr F1) r1 (fun v => Nat.le_trans (le1 v) (hI v)) (fun u v a z => by
        have e := eqx u (by omega)
        have := h1 u v a (by omega)
        have := le1 v
        omega) (fun u v hu a z => by
        by_cases w : u = p
        · subst w; exact a3 v a
        · have e := eqx u (by omega)
          have := h2 u v (by omega) a (by omega)
          have := le1 v
          omega) (fun hb u hu => by
        by_cases w : u = p
        · have := le1 p; rw [w]; omega
        · have := h3 hb u (by omega); have := le1 u; omega) (fun q hq => by
        rcases a2 q with z | ⟨z1, z2, z3⟩
        · rw [z]; exact h4 q hq
        · right
          rw [z1]
          rcases h4 p (by omega) with w | w
          · omega
          · rw [q1] at w; exact hJ p q x z3 w)
      refine ⟨m2, R2, b2, ?_, s1, fun v => Nat.le_trans (s2 v) (le1 v), s3, s4, s5, fun j hj => by rw [s6 j hj, k1' j hj], F1.tr F2⟩
      rw [e0, if_pos (c1.mpr q1), e1, bM_s, e2]
    · by_cases q2 : R p ≤ x
      · obtain ⟨m2, R2, b2, e2, s⟩ := sl_loop (J := J) (kx := kx) I hJ hD h16 hk hx d (p + 1) f m R b (by omega) (by omega) S RR hI h1 (fun u v hu a z => by
          by_cases w : u = p
          · subst w; exact absurd z q1
          · exact h2 u v (by omega) a z) (fun hb u hu => by
          by_cases w : u = p
          · rw [w]; exact q2
          · exact h3 hb u (by omega)) h4
        exact ⟨m2, R2, b2, by rw [e0, if_neg (fun z => q1 (c1.mp z)), if_pos (c2.mpr q2), e2], s⟩
      · obtain ⟨m2, R2, b2, e2, s⟩ := sl_loop (J := J) (kx := kx) I hJ hD h16 hk hx d (p + 1) f m R true (by omega) (by omega) S RR hI h1 (fun u v hu a z => by
          by_cases w : u = p
          · subst w; exact absurd z q1
          · exact h2 u v (by omega) a z) (fun hb => by simp at hb) h4
        exact ⟨m2, R2, b2, by rw [e0, if_neg (fun z => q1 (c1.mp z)), if_neg (fun z => q2 (c2.mp z))]; exact e2, s⟩
theorem ss_loop {C : ScF} (I : IC 400 C) {K k : Nat} {te E off : Nat → Nat} {J : Nat → Nat → Prop} {kx : Mem → Option Mem} (hJ : ∀ u v c, nbr C u v → J u c → J v (c + 1)) (hD : BsD C E off C.P) (h16 : off C.P ≤ 1600) (hk : k < 64) : ∀ (d x fu : Nat) (m : Mem) (R : Nat → Nat) (b : Bool), x + d = C.P → d < fu → CX m C K te E off → RC m k C.P R → (∀ v, R v ≤ INF) → (∀ u v, nbr C u v → R u < x → R v ≤ R u + 1) → (b = false → ∀ u v, nbr C u v → R v ≤ R u + 1) → (∀ q, q < C.P → R q = INF ∨ J q (R q)) →
    ∃ m' R', PC_spread_L4 (nI (k * 400)) kx fu m (b2i b) (nI x) = kx m' ∧ RC m' k C.P R' ∧ (∀ v, R' v ≤ R v) ∧ (∀ u v, nbr C u v → R' u < C.P → R' v ≤ R' u + 1) ∧ (∀ q, q < C.P → R' q = INF ∨ J q (R' q)) ∧ Kp k m m' ∧ F25 m m' := by
  have P4 := I.pt
  have t4 := I.1.le
  intro d
  induction d with
  | zero =>
    intro x fu m R b hd hf S RR hI h1 h2 h4
    obtain ⟨f, rfl⟩ : ∃ f, fu = f + 1 := ⟨fu - 1, by omega⟩
    obtain rfl : x = C.P := by omega
    refine ⟨m, R, ?_, RR, fun _ => Nat.le_refl _, h1, h4, fun _ _ => rfl, Frm.rf⟩
    rw [PC_spread_L4]
    by_cases z : b2i b = 0
    · rw [if_pos z]
    · rw [if_neg z, S.2.2.1, if_pos (by rw [n_le (by omega) (by omega)]; omega)]
  | succ d ih =>
    intro x fu m R b hd hf S RR hI h1 h2 h4
    obtain ⟨f, rfl⟩ : ∃ f, fu = f + 1 := ⟨fu - 1, by omega⟩
    cases hb : b with
    | false =>
      exact ⟨m, R, by rw [PC_spread_L4, if_pos (by decide)], RR, fun _ => Nat.le_refl _, fun u v a _ => h2 hb u v a, h4, fun _ _ => rfl, Frm.rf⟩
    | true =>
      obtain ⟨m1, R1, b1, e1, a1, a2, a3, a4, a5, a6, F1⟩ := sl_loop (J := J) (kx := fun m2 y1 => PC_spread_L4 (nI (k * 400)) kx f m2 y1 (nI x + 1)) I hJ hD h16 hk (show x < C.P by omega) C.P 0 FU m R false (by omega) (by unfold FU; omega) S RR hI h1 (fun u v hu => absurd hu (Nat.not_lt_zero _)) (fun _ u hu => absurd hu (Nat.not_lt_zero _)) h4
      obtain ⟨m2, R2, e2, c1, c2, c3, c4, c5, F2⟩ := ih (x + 1) f m1 R1 b1 (by omega) (by omega) (S.fr F1) a1 (fun v => Nat.le_trans (a2 v) (hI v)) (fun u v a z => a3 u v a (by omega)) (fun hb1 u v a => a3 u v a (a4 hb1 u (nbr_lt I a).1)) a5
      refine ⟨m2, R2, ?_, c1, fun v => Nat.le_trans (c2 v) (a2 v), c3, c4, fun j hj => by rw [c5 j hj, a6 j hj], F1.tr F2⟩
      rw [show nI 0 = 0 from k0.symm, show b2i false = 0 from rfl] at e1
      rw [PC_spread_L4, if_neg (by decide), S.2.2.1, if_neg (by rw [n_le (by omega) (by omega)]; omega), e1, k1, n_add, e2]
theorem sub_flip : ∀ k, k < 64 → ∀ s, s < 64 → s &&& k = s → (k - s) &&& k = k - s := by decide +kernel
theorem sub_half : ∀ k, k < 64 → ∀ s, s < 64 → s &&& k = s → 0 < s → ¬ k - s = s := by decide +kernel
theorem fw_loop {C : ScF} (I : IC 400 C) (I2 : IC2 C) {K : Nat} {te E off : Nat → Nat} {kx : Mem → Option (Int32 × Mem)} (hD : BsD C E off C.P) (h16 : off C.P ≤ 1600) (hK : K ≤ 6) (ht : ∀ e, e < K → te e < C.P) : ∀ (n k fu : Nat) (m : Mem) (T : Nat → Nat → Nat), k + n = 2 ^ K → n < fu → 0 < k → CX m C K te E off → TC m T k C.P → (∀ k p, T k p ≤ INF) → TabOk (nbr C) K C.P te T k →
    ∃ m' T', PC_fewestOpenings_L20 (nI (2 ^ K - 1)) kx fu m (nI k) = kx m' ∧ TC m' T' (2 ^ K) C.P ∧ TabOk (nbr C) K C.P te T' (2 ^ K) ∧ F25 m m' := by
  have P4 := I.pt
  have t4 := I.1.le
  have P1 : 0 < C.P := by have := I.labP 0 (by omega); omega
  have pw : 2 ^ K ≤ 64 := Nat.pow_le_pow_right (n := 2) (by omega) hK
  have ha : ∀ u v, nbr C u v → u < C.P := fun u v h => (nbr_lt I h).1
  have hp := piece_back I I2
  intro n
  induction n with
  | zero =>
    intro k fu m T hn hf h0 S M hT hO
    obtain ⟨f, rfl⟩ : ∃ f, fu = f + 1 := ⟨fu - 1, by omega⟩
    rw [Nat.add_zero] at hn
    subst hn
    exact ⟨m, T, by rw [PC_fewestOpenings_L20, if_pos (by rw [n_lt (by omega) (by omega)]; omega)], M, hO, Frm.rf⟩
  | succ n ih =>
    intro k fu m T hn hf h0 S M hT hO
    obtain ⟨f, rfl⟩ : ∃ f, fu = f + 1 := ⟨fu - 1, by omega⟩
    have hk : k < 64 := by omega
    obtain ⟨m1, R1, e1, a1, a2, a3, F1⟩ := joinSets_eq h0 hk hK (by omega) ht hT S M
    have hLJ : LJ (nbr C) K C.P te k R1 := LJ.of hK hk hO (fun e he hke => ((a2 (te e)).2 (ht e he)).2.1 e he hke rfl) (fun s s0 s1 s2 p hp => by
      have y := ((a2 p).2 hp).1
      have f1 := sub_flip k hk s (by omega) s2
      by_cases z : s < k - s
      · exact y s s0 s1 s2 z
      · have ne := sub_half k hk s (by omega) s2 s0
        have := y (k - s) (by omega) (by omega) f1 (by omega)
        rw [show k - (k - s) = s by omega] at this
        omega)
    obtain ⟨m2, R2, e2, b1, b2, b3, b4, b5, F2⟩ := ss_loop (J := AchE (nbr C) K te (bits k)) (kx := fun m1 => some m1) I (fun u v c a h => h.step a) hD h16 hk C.P 0 FU m1 R1 true (by omega) (by unfold FU; omega) (S.fr F1) a1 (fun v => (a2 v).1) (fun u v _ z => absurd z (Nat.not_lt_zero _)) (fun z => by simp at z) (fun q hq => row_ach hk hO hq ((a2 q).2 hq).2.2)
    have hLJ2 := hLJ.le b2
    have hQ : ∀ i, i ≤ C.P - 1 → Qd (nbr C) K C.P te k i R2 := by
      intro i
      induction i with
      | zero => intro _; exact Qd.zero hLJ2
      | succ i ih2 => intro hi; exact Qd.step hLJ2 ha (ih2 (by omega)) (fun u v a _ z => b3 u v a (by omega))
    have mn := row_min P1 (by omega) hK hp ht h0 (by omega) (hQ (C.P - 1) (Nat.le_refl _)) b4
    obtain ⟨T2, hT2⟩ : ∃ T' : Nat → Nat → Nat, ∀ k' p, T' k' p = if k' = k then R2 p else T k' p := ⟨_, fun _ _ => rfl⟩
    have M2 : TC m2 T2 (k + 1) C.P := fun k' h1 h2 p hp => by
      rw [hT2]
      by_cases z : k' = k
      · rw [if_pos z, z]; exact b1 p hp
      · rw [if_neg z]
        exact ((M.kp (by omega) a3).kp (by omega) b5) k' h1 (by omega) p hp
    have O2 : TabOk (nbr C) K C.P te T2 (k + 1) := fun k' h1 h2 p hp => by
      rw [hT2]
      by_cases z : k' = k
      · rw [if_pos z, z]; exact (mn p hp).1
      · rw [if_neg z]; exact hO k' h1 (by omega) p hp
    obtain ⟨m3, T3, e3, c1, c2, F3⟩ := ih (k + 1) f m2 T2 (by omega) (by omega) (by omega) (S.fr (F1.tr F2)) M2 (fun k' p => by
      rw [hT2]
      split
      · exact Nat.le_trans (b2 p) (a2 p).1
      · exact hT k' p) O2
    refine ⟨m3, T3, ?_, c1, c2, (F1.tr F2).tr F3⟩
    have eS : PC_spread m1 (nI (k * 400)) = some m2 := by
      rw [show nI 0 = 0 from k0.symm] at e2
      exact e2
    rw [PC_fewestOpenings_L20, if_neg (by rw [n_lt (by omega) (by omega)]; omega), e1, bM_s, show (400 : Int32) = nI 400 from rfl, n_mul, eS, bM_s, k1, n_add, e3]

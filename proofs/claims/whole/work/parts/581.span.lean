/-! never more openings than pieces -/
def sumc (c : Nat → Nat) : Nat → Nat
  | 0 => 0
  | n + 1 => sumc c n + c n
theorem sumc_up {c : Nat → Nat} {q y : Nat} : ∀ n, sumc (upn c q (c q + y)) n = sumc c n + if q < n then y else 0
  | 0 => by simp [sumc]
  | n + 1 => by
    simp only [sumc]
    rw [sumc_up n]
    by_cases z : n = q
    · subst z
      rw [upn_eq, if_neg (show ¬ n < n by omega), if_pos (show n < n + 1 by omega)]; omega
    · rw [upn_ne z]
      by_cases w : q < n
      · rw [if_pos w, if_pos (show q < n + 1 by omega)]; omega
      · rw [if_neg w, if_neg (show ¬ q < n + 1 by omega)]; omega
theorem span {adj : Nat → Nat → Prop} {K : Nat} {tm : Nat → Nat} : ∀ k, (∀ p, 1 ≤ p → p ≤ k → ∃ q, q < p ∧ adj p q ∧ adj q p) → ∀ v, v ≤ k → ∀ (b : Nat → Nat → Bool) (c : Nat → Nat), (∀ i, i ≤ k → ((∀ e, b i e = false) ∧ c i = 0) ∨ AchE adj K tm (b i) i (c i)) → (∀ i j e, i ≤ k → j ≤ k → i ≠ j → ¬ (b i e = true ∧ b j e = true)) → ∀ A : Nat → Bool, (∀ e, A e = true ↔ ∃ i, i ≤ k ∧ b i e = true) → (∃ e, A e = true) → ∃ cc, cc ≤ sumc c (k + 1) + k ∧ AchE adj K tm A v cc
  | 0, _, v, hv, b, c, hb, hd, A, hA, ⟨e0, he0⟩ => by
    obtain rfl : v = 0 := by omega
    have eA : ∀ e, b 0 e = A e := fun e => by
      rw [Bool.eq_iff_iff, hA]
      exact ⟨fun z => ⟨0, Nat.le_refl _, z⟩, fun ⟨i, a, z⟩ => by rw [show i = 0 by omega] at z; exact z⟩
    rcases hb 0 (Nat.le_refl _) with ⟨z, _⟩ | z
    · rw [← eA, z] at he0; simp at he0
    · exact ⟨c 0, by simp [sumc], z.cg eA⟩
  | k + 1, hp, v, hv, b, c, hb, hd, A, hA, ⟨e0, he0⟩ => by
    obtain ⟨q, hq, a1, a2⟩ := hp (k + 1) (by omega) (Nat.le_refl _)
    have hp' : ∀ p, 1 ≤ p → p ≤ k → ∃ q, q < p ∧ adj p q ∧ adj q p := fun p h1 h2 => hp p h1 (by omega)
    by_cases hv' : v = k + 1
    · subst hv'
      obtain ⟨A', hA'⟩ : ∃ F : Nat → Bool, ∀ e, F e = true ↔ ∃ i, i ≤ k ∧ b i e = true := by
        refine ⟨fun e => (List.range (k + 1)).any (fun i => b i e), fun e => ?_⟩
        simp only [List.any_eq_true, List.mem_range]
        exact ⟨fun ⟨i, x, y⟩ => ⟨i, by omega, y⟩, fun ⟨i, x, y⟩ => ⟨i, by omega, y⟩⟩
      have hU : ∀ e, A e = true ↔ A' e = true ∨ b (k + 1) e = true := fun e => by
        rw [hA, hA']
        refine ⟨fun ⟨i, x, y⟩ => ?_, ?_⟩
        · by_cases z : i = k + 1
          · subst z; exact Or.inr y
          · exact Or.inl ⟨i, by omega, y⟩
        · rintro (⟨i, x, y⟩ | y)
          · exact ⟨i, by omega, y⟩
          · exact ⟨k + 1, Nat.le_refl _, y⟩
      by_cases zA : ∃ e, A' e = true
      · obtain ⟨cc, l, h⟩ := span k hp' q (by omega) b c (fun i hi => hb i (by omega)) (fun i j e x y => hd i j e (by omega) (by omega)) A' hA' zA
        have h' := h.step a2
        rcases hb (k + 1) (Nat.le_refl _) with ⟨z, z0⟩ | z
        · refine ⟨cc + 1, by simp only [sumc] at l ⊢; omega, h'.cg (fun e => ?_)⟩
          rw [Bool.eq_iff_iff, hU, z]; simp
        · refine ⟨cc + 1 + c (k + 1), by simp only [sumc] at l ⊢; omega, h'.join z (fun e => ?_) (fun e ⟨x, y⟩ => ?_)⟩
          · rw [Bool.eq_iff_iff, hU, Bool.or_eq_true]
          · obtain ⟨i, x1, x2⟩ := (hA' e).mp x
            exact hd i (k + 1) e (by omega) (Nat.le_refl _) (by omega) ⟨x2, y⟩
      · have eA : ∀ e, b (k + 1) e = A e := fun e => by
          rw [Bool.eq_iff_iff, hU]
          exact ⟨Or.inr, fun z => z.elim (fun y => absurd ⟨e, y⟩ zA) id⟩
        rcases hb (k + 1) (Nat.le_refl _) with ⟨z, _⟩ | z
        · rw [← eA, z] at he0; simp at he0
        · exact ⟨c (k + 1), by simp only [sumc]; omega, z.cg eA⟩
    · rcases hb (k + 1) (Nat.le_refl _) with ⟨z, z0⟩ | z
      · obtain ⟨cc, l, h⟩ := span k hp' v (by omega) b c (fun i hi => hb i (by omega)) (fun i j e x y => hd i j e (by omega) (by omega)) A (fun e => by
          rw [hA]
          refine ⟨fun ⟨i, x, y⟩ => ?_, fun ⟨i, x, y⟩ => ⟨i, by omega, y⟩⟩
          by_cases w : i = k + 1
          · rw [w, z] at y; simp at y
          · exact ⟨i, by omega, y⟩) ⟨e0, he0⟩
        exact ⟨cc, by simp only [sumc] at l ⊢; omega, h⟩
      · have zs := z.step a1
        have l1 := sumc_up (c := c) (q := q) (y := c (k + 1) + 1) (k + 1)
        rw [if_pos (show q < k + 1 by omega)] at l1
        obtain ⟨cc, l, h⟩ := span k hp' v (by omega) (fun i e => if i = q then (b q e || b (k + 1) e) else b i e) (upn c q (c q + (c (k + 1) + 1))) (fun i hi => by
          by_cases w : i = q
          · right
            rw [w, upn_eq]
            simp only [if_true]
            rcases hb q (by omega) with ⟨y, y0⟩ | y
            · rw [y0, Nat.zero_add]
              exact zs.cg (fun e => by rw [y]; simp)
            · exact y.join zs (fun e => rfl) (fun e => hd q (k + 1) e (by omega) (Nat.le_refl _) (by omega))
          · rw [upn_ne w]
            simp only [if_neg w]
            exact hb i (by omega)) (fun i j e x y w => by
          by_cases z1 : i = q
          · rw [if_pos z1, if_neg (show ¬ j = q by omega)]
            rintro ⟨t1, t2⟩
            rw [Bool.or_eq_true] at t1
            rcases t1 with t1 | t1
            · exact hd q j e (by omega) (by omega) (by omega) ⟨t1, t2⟩
            · exact hd (k + 1) j e (Nat.le_refl _) (by omega) (by omega) ⟨t1, t2⟩
          · by_cases z2 : j = q
            · rw [if_neg z1, if_pos z2]
              rintro ⟨t1, t2⟩
              rw [Bool.or_eq_true] at t2
              rcases t2 with t2 | t2
              · exact hd i q e (by omega) (by omega) (by omega) ⟨t1, t2⟩
              · exact hd i (k + 1) e (by omega) (Nat.le_refl _) (by omega) ⟨t1, t2⟩
            · rw [if_neg z1, if_neg z2]
              exact hd i j e (by omega) (by omega) w) A (fun e => by
          rw [hA]
          refine ⟨fun ⟨i, x, y⟩ => ?_, fun ⟨i, x, y⟩ => ?_⟩
          · by_cases w : i = k + 1
            · exact ⟨q, by omega, by simp [← w, y]⟩
            · by_cases w' : i = q
              · exact ⟨q, by omega, by simp [← w', y]⟩
              · exact ⟨i, by omega, by simp [w', y]⟩
          · by_cases w' : i = q
            · rw [if_pos w', Bool.or_eq_true] at y
              rcases y with y | y
              · exact ⟨q, by omega, y⟩
              · exact ⟨k + 1, Nat.le_refl _, y⟩
            · rw [if_neg w'] at y
              exact ⟨i, by omega, y⟩) ⟨e0, he0⟩
        refine ⟨cc, ?_, h⟩
        rw [l1] at l
        simp only [sumc] at l ⊢
        omega
/-- all ends can be joined, with fewer openings than pieces -/
theorem span_all {adj : Nat → Nat → Prop} {K P v : Nat} {tm : Nat → Nat} (hP : 0 < P) (hp : ∀ p, 1 ≤ p → p < P → ∃ q, q < p ∧ adj p q ∧ adj q p) (ht : ∀ e, e < K → tm e < P) (hv : v < P) {A : Nat → Bool} (hA : ∀ e, A e = true → e < K) (h0 : ∃ e, A e = true) : ∃ c, c < P ∧ AchE adj K tm A v c := by
  have z : ∀ n, sumc (fun _ => 0) n = 0 := by
    intro n
    induction n with
    | zero => rfl
    | succ n ih => simp only [sumc]; omega
  obtain ⟨cc, l, h⟩ := span (K := K) (tm := tm) (P - 1) (fun p a b => hp p a (by omega)) v (by omega) (fun i e => A e && decide (tm e = i)) (fun _ => 0) (fun i hi => by
    by_cases q : ∃ e, (A e && decide (tm e = i)) = true
    · right
      exact AchE.same K _ (fun e he => by
        rw [Bool.and_eq_true, decide_eq_true_iff] at he
        exact ⟨hA e he.1, hA e he.1, he.2⟩) q
    · left
      refine ⟨fun e => ?_, rfl⟩
      cases w : (A e && decide (tm e = i)) with
      | false => rfl
      | true => exact absurd ⟨e, w⟩ q) (fun i j e _ _ w => by
    rintro ⟨t1, t2⟩
    rw [Bool.and_eq_true, decide_eq_true_iff] at t1 t2
    exact w (t1.2.symm.trans t2.2)) A (fun e => by
    refine ⟨fun w => ⟨tm e, by have := ht e (hA e w); omega, by simp [w]⟩, fun ⟨i, x, y⟩ => ?_⟩
    rw [Bool.and_eq_true] at y
    exact y.1) h0
  rw [z] at l
  exact ⟨cc, by omega, h⟩
/-! each piece but the first is beside one before it -/
def IC2 (C : ScF) : Prop := ∀ p, p < C.P → ∀ v, v < C.first p → 0 ≤ C.S.lab v ∧ C.S.lab v < p
theorem sc1_ok2 {H : Nat → Bool} {s : Nat} {C : ScF} (hs : s < 400) (h : IC s C) (h2 : IC2 C) : IC2 (sc1 H s C) := by
  have hP := h.pt
  obtain ⟨ok, -, -, -, -, h6, -, -, h9⟩ := id h
  unfold sc1
  by_cases q : C.S.lab s = -1
  · rw [if_pos q]
    have tl := ok.lt hs q
    obtain ⟨f1, ⟨e1, e2, e3, e4, e5, e6⟩, f3, f4, f5⟩ := fld_ok (H := H) (p := (C.P : Int)) ok hs q (by omega) (by omega)
    intro p hp v hv
    have hp' : p < C.P + 1 := hp
    have hv' : v < upn C.first C.P s p := hv
    show 0 ≤ (fld H (C.P : Int) s C.S).lab v ∧ (fld H (C.P : Int) s C.S).lab v < p
    by_cases z : p = C.P
    · rw [z, upn_eq] at hv'
      have a := h6 v hv'
      have b := ok.lo v
      have c := h9 v
      rw [e3 v a]
      omega
    · rw [upn_ne z] at hv'
      have a := h2 p (by omega) v hv'
      rw [e3 v (by omega)]
      exact a
  · rw [if_neg q]; exact h2
theorem scn_ok2 {H : Nat → Bool} : ∀ (n s : Nat) (C : ScF), s + n ≤ 400 → IC s C → IC2 C → IC2 (scn H n s C)
  | 0, s, C, _, _, h => h
  | n + 1, s, C, hs, h, h2 => scn_ok2 (H := H) n (s + 1) _ (by omega) (sc1_ok (H := H) (by omega) h) (sc1_ok2 (by omega) h h2)
theorem pcs_ok2 (H : Nat → Bool) : IC2 (pcs H) := scn_ok2 400 0 C0 (by omega) C0_ok (fun p hp => absurd hp (Nat.not_lt_zero _))
theorem nb_sym {u d v : Nat} (hu : u < 400) (hd : d < 4) (h : nb u d = some v) : ∃ d', d' < 4 ∧ nb v d' = some u := by
  unfold nb at h
  split at h
  · rename_i z
    split at h <;> simp at h
    exact ⟨2, by omega, by unfold nb; rw [if_neg (by omega), if_neg (by omega), if_pos rfl, if_pos (by omega)]; congr 1; omega⟩
  · split at h
    · split at h <;> simp at h
      exact ⟨3, by omega, by unfold nb; rw [if_neg (by omega), if_neg (by omega), if_neg (by omega), if_pos (by omega)]; congr 1; omega⟩
    · split at h
      · split at h <;> simp at h
        exact ⟨0, by omega, by unfold nb; rw [if_pos rfl, if_pos (by omega)]; congr 1; omega⟩
      · split at h <;> simp at h
        exact ⟨1, by omega, by unfold nb; rw [if_neg (by omega), if_pos rfl, if_pos (by omega)]; congr 1; omega⟩
theorem piece_back {C : ScF} (I : IC 400 C) (I2 : IC2 C) : ∀ p, 1 ≤ p → p < C.P → ∃ q, q < p ∧ nbr C p q ∧ nbr C q p := by
  intro p h1 hp
  have P4 := I.pt
  have t4 := I.1.le
  have fl : ∀ p, p < C.P → C.first p < 400 ∧ C.S.lab (C.first p) = p := fun p hp => by
    have lt := I.2.2.1 p hp
    have sm := I.sm (p := p + 1) (by omega)
    have e := I.2.2.2.2.2.2.1 p hp
    have q := I.1.qu (C.start p) (by omega)
    have l := I.2.2.2.1 p hp (C.start p) (Nat.le_refl _) lt
    rw [e] at q l
    exact ⟨q, l⟩
  obtain ⟨f4, fp⟩ := fl p hp
  have f0 : 0 < C.first p := by
    by_cases z : C.first p = 0
    · exfalso
      rw [z] at fp
      obtain ⟨-, g0⟩ := fl 0 (by omega)
      by_cases y : C.first 0 = 0
      · rw [y, fp] at g0; omega
      · have := I2 0 (by omega) 0 (by omega)
        omega
    · omega
  obtain ⟨d, u, hd, hb, hu⟩ := nb_back _ f4 f0
  obtain ⟨d', hd', hb'⟩ := nb_sym f4 hd hb
  obtain ⟨l1, l2⟩ := I2 p hp u hu
  refine ⟨(C.S.lab u).toNat, by omega, ⟨C.first p, f4, fp, d, u, hd, hb, by omega, by omega⟩, ⟨u, by omega, by omega, d', C.first p, hd', hb', by omega, by omega⟩⟩

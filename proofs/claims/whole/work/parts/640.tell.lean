/-! parish: all rows -/
theorem ST.cnt {mA mB : Mem} {q : Nat} {b : Nat → Nat} {L p : Nat} {N : Nat → Int64} (h : ST mA mB q b L p N) (x : Int32) : ST mA (sI mB 133 18 x) q b L p N := by
  obtain ⟨⟨T1, T2, h10, K, hp⟩, h12, h14, P, W, hR, hN⟩ := h
  have g : ∀ c k, ¬ (c = 133 ∧ k = 18) → gI (sI mB 133 18 x) c k = gI mB c k := fun c k z => by rw [gI_sI, if_neg z]
  refine ⟨⟨T1, ⟨T2.1, T2.2.1, by rw [g _ _ (by omega)]; exact T2.2.2.1, by rw [g _ _ (by omega)]; exact T2.2.2.2.1, fun i hi => by rw [g _ _ (by omega)]; exact T2.2.2.2.2 i hi⟩, h10, ?_, hp⟩, h12, by rw [g _ _ (by omega)]; exact h14, ?_, W.fr2 (fun j => g _ _ (by omega)), hR, hN⟩
  · unfold CKB at K ⊢
    rw [g _ _ (by omega), g _ _ (by omega), g _ _ (by omega), g _ _ (by omega), gJ_sI]
    exact K
  · obtain ⟨p0, p1, p2, p3, p4, p5, p6, p7, p8, p9, p10, p11⟩ := P
    refine ⟨p0, p1, p2, p3, p4, p5, p6, p7, fun k hk => ?_, fun t ht => ?_, by rw [g _ _ (by omega)]; exact p10, by rw [g _ _ (by omega)]; exact p11⟩
    · exact p8 k hk
    · exact p9 t ht
abbrev Lpr : List (Nat × Nat) := (133, 18) :: W_RM_row
/-- what both make of all rows -/
def TL (mA mB : Mem) (q : Nat) (N : Nat → Int64) (cA cB : Option (Int32 × Mem)) (K : Mem → Option (Int32 × Mem)) : Prop :=
  (∃ v mA' mB', cA = some (nI v, mA') ∧ cB = K mB' ∧ v ≤ 900 ∧ gI mB' 133 18 = nI v ∧ gI mA' 1 2 = 0 ∧ gI mB' 133 14 = 0 ∧ PR2 mA' mB' q ∧ WFs mB' 136 0 ∧ (∀ j, j < 13 → gJ mB' 137 j = N j) ∧ Frm Lpr [] mB mB') ∨
  (∃ mA' mB', cA = some (-1, mA') ∧ cB = some (-1 - gI mB' 133 15, mB') ∧ Bd2 mA' mB' N ∧ Frm Lpr [] mB mB')
theorem tell_loop {q : Nat} {b : Nat → Nat} {L : Nat} {N : Nat → Int64} {K : Mem → Option (Int32 × Mem)} (hq : 11 ≤ q) : ∀ (k p x fu gu : Nat) (mA mB : Mem), min L 900 ≤ p + k → x ≤ p → x ≤ 900 → k < fu → k < gu → ST mA mB q b L p N → gI mB 133 18 = nI x →
    TL mA mB q N (PH_tell_L6 q (fun m3 => some ((-1), m3)) fu mA (nI x)) (RM_parish_L35 K gu mB) K := by
  have fin : ∀ (p x f g : Nat) (mA mB : Mem), x ≤ 900 → ST mA mB q b L p N → gI mB 133 18 = nI x → tkK b L 900 p = 0 → TL mA mB q N (PH_tell_L6 q (fun m3 => some ((-1), m3)) (f + 1) mA (nI x)) (RM_parish_L35 K (g + 1) mB) K := by
    intro p x f g mA mB hx S h18 hK
    obtain ⟨m1, e1, S1, F1⟩ := adv2 hq S
    have hS := S1
    obtain ⟨T1, T2, KA, KB, hp', h12, h14, PP, W, hR, hN⟩ := hS
    have l1 := T1.1
    have eE : RD_isAtEnd mA = some (1, m1) := by rw [RD_isAtEnd, e1, bM_s, KA.1, hK, if_pos (by decide)]
    rw [PH_tell_L6, if_neg (by rw [k900, n_lt (by omega) (by omega)]; omega), eE, bV_s, if_neg (show ¬ (1 : Int32) = 0 by decide), RM_parish_L35]
    by_cases z : L ≤ 900
    · left
      have k10 : gI mB 133 10 = 0 := by rw [KB.1, if_neg (by omega), hK]; rfl
      refine ⟨x, m1, mB, ?_, by rw [k10, if_pos rfl], hx, h18, h12, h14, PP, W, hN, Frm.rf⟩
      rw [RD_closes, T1.2.2.1, T1.2.2.2.1, if_pos (by rw [n_le (by omega) (by omega)]; exact z), bV_s, if_neg (show ¬ (1 : Int32) = 0 by decide)]
    · right
      have k10 : ¬ gI mB 133 10 = 0 := by rw [KB.1, if_pos ⟨hK, by omega⟩]; decide
      obtain ⟨mA', mB', f1, f2, B⟩ := fail2 KA KB hN 1 (by omega)
      have eR : RM_row mB = some (0, mB') := by
        rw [RM_row, wB (k := 10) KB (by omega) w10, wB (k := 11) KB (by omega) w11, wB (k := 12) KB (by omega) w12, wB (k := 13) KB (by omega) w13, wB (k := 14) KB (by omega) w14, wB (k := 15) KB (by omega) w15]
        rw [if_neg (show ¬ (tkK b L 900 p = 1 ∧ wno (tkW b L 900 p) = 10) by omega), if_pos rfl, if_neg (show ¬ (tkK b L 900 p = 1 ∧ wno (tkW b L 900 p) = 11) by omega), if_pos rfl, if_neg (show ¬ (tkK b L 900 p = 1 ∧ wno (tkW b L 900 p) = 12) by omega), if_pos rfl, if_neg (show ¬ (tkK b L 900 p = 1 ∧ wno (tkW b L 900 p) = 13) by omega), if_pos rfl, if_neg (show ¬ (tkK b L 900 p = 1 ∧ wno (tkW b L 900 p) = 14) by omega), if_pos rfl, if_neg (show ¬ (tkK b L 900 p = 1 ∧ wno (tkW b L 900 p) = 15) by omega), if_pos rfl, show RM_bad mB 1 = _ from f2, bV_s, if_pos (Or.inl rfl)]
      refine ⟨mA', mB', ?_, by rw [if_neg k10, eR, bV_s, if_pos rfl], B, (RM_row_fr (L := W_RM_row) (R := []) (wL_sub rfl) mB _ eR).mo (wL_sub rfl)⟩
      rw [RD_closes, T1.2.2.1, T1.2.2.2.1, if_neg (by rw [n_le (by omega) (by omega)]; exact z), show RD_fail m1 1 = _ from f1, bV_s, if_pos rfl, bV_s, if_pos rfl]
  intro k
  induction k with
  | zero =>
    intro p x fu gu mA mB hk hx hx9 hf hg S h18
    obtain ⟨f, rfl⟩ : ∃ f, fu = f + 1 := ⟨fu - 1, by omega⟩
    obtain ⟨g, rfl⟩ : ∃ g, gu = g + 1 := ⟨gu - 1, by omega⟩
    exact fin p x f g mA mB hx9 S h18 (tkK_end (by omega))
  | succ k ih =>
    intro p x fu gu mA mB hk hx hx9 hf hg S h18
    obtain ⟨f, rfl⟩ : ∃ f, fu = f + 1 := ⟨fu - 1, by omega⟩
    obtain ⟨g, rfl⟩ : ∃ g, gu = g + 1 := ⟨gu - 1, by omega⟩
    by_cases hK : tkK b L 900 p = 0
    · exact fin p x f g mA mB hx9 S h18 hK
    · have kc := tkK_c b L 900 p
      obtain ⟨m1, e1, S1, F1⟩ := adv2 hq S
      have hS := S1
      obtain ⟨T1, T2, KA, KB, hp', h12, h14, PP, W, hR, hN⟩ := hS
      have pm : p < min L 900 := by
        by_cases y : p < min L 900
        · exact y
        · exact absurd (tkK_end (by omega)) hK
      have eE : RD_isAtEnd mA = some (0, m1) := by rw [RD_isAtEnd, e1, bM_s, KA.1, if_neg (by rw [k0, n_eq (by omega) (by omega)]; exact hK)]
      have k10 : ¬ gI mB 133 10 = 0 := by rw [KB.1, if_neg (by omega), k0, n_eq (by omega) (by omega)]; exact hK
      rw [PH_tell_L6, if_neg (by rw [k900, n_lt (by omega) (by omega)]; omega), eE, bV_s, if_pos rfl, RM_parish_L35, if_neg k10]
      rcases row2 hq S1 with ⟨m2, n1, n2, p', r1, r2, r3, S2, l2⟩ | ⟨m2, n2, r1, r2, B⟩
      · have F2 : Frm Lpr [] mB n2 := ((RM_row_fr (L := W_RM_row) (R := []) (wL_sub rfl) mB _ r2).mo (wL_sub rfl)).tr ((RM_sign_fr (L := W_RM_sign) (R := []) (wL_sub rfl) n1 _ _ r3).mo (wL_sub rfl))
        have g18 : gI n2 133 18 = nI x := by
          have := (RM_row_fr (L := W_RM_row) (R := []) (wL_sub rfl) mB _ r2).I 133 18 rfl
          rw [(RM_sign_fr (L := W_RM_sign) (R := []) (wL_sub rfl) n1 _ _ r3).I 133 18 rfl, this, h18]
        rw [r1, bV_s, if_neg (show ¬ (1 : Int32) = 0 by decide), r2, bV_s, if_neg (show ¬ (1 : Int32) = 0 by decide), r3, bV_s, if_neg (show ¬ (1 : Int32) = 0 by decide), g18, show nI x + 1 = nI (x + 1) by rw [k1, n_add], letM_p]
        have F3 : Frm Lpr [] n2 (sI n2 133 18 (nI (x + 1))) := Frm.sI rfl rfl
        rcases ih p' (x + 1) f g m2 (sI n2 133 18 (nI (x + 1))) (by omega) (by omega) (by omega) (by omega) (by omega) (S2.cnt _) (by rw [gI_sI, if_pos ⟨rfl, rfl⟩]) with ⟨v, mA', mB', t1, t2, t3, t4, t5, t6, t7, t8, t9, t10⟩ | ⟨mA', mB', t1, t2, t3, t4⟩
        · exact Or.inl ⟨v, mA', mB', t1, t2, t3, t4, t5, t6, t7, t8, t9, F2.tr (F3.tr t10)⟩
        · exact Or.inr ⟨mA', mB', t1, t2, t3, F2.tr (F3.tr t4)⟩
      · right
        rcases r2 with r2 | ⟨n1, r2, r3⟩
        · exact ⟨m2, n2, by rw [r1, bV_s, if_pos rfl], by rw [r2, bV_s, if_pos rfl], B, (RM_row_fr (L := W_RM_row) (R := []) (wL_sub rfl) mB _ r2).mo (wL_sub rfl)⟩
        · exact ⟨m2, n2, by rw [r1, bV_s, if_pos rfl], by rw [r2, bV_s, if_neg (show ¬ (1 : Int32) = 0 by decide), r3, bV_s, if_pos rfl], B, ((RM_row_fr (L := W_RM_row) (R := []) (wL_sub rfl) mB _ r2).mo (wL_sub rfl)).tr ((RM_sign_fr (L := W_RM_sign) (R := []) (wL_sub rfl) n1 _ _ r3).mo (wL_sub rfl))⟩
/-- a parish of nothing -/
theorem plain_eq (m : Mem) : ∃ m', RM_plain m = some m' ∧ (∀ j, j < 116 → gI m' 136 j = if 7 ≤ j ∧ j < 11 then nI (j - 7) else 0) ∧ Frm [(136, 999999)] [] m m' := by
  have l1 : ∀ (k j fu : Nat) (m : Mem) (kx : Mem → Option Mem), j + k = 116 → k < fu → (∀ i, i < j → gI m 136 i = 0) → ∃ m', RM_plain_L2 kx fu m (nI j) = kx m' ∧ (∀ i, i < 116 → gI m' 136 i = 0) ∧ Frm [(136, 999999)] [] m m' := by
    intro k
    induction k with
    | zero =>
      intro j fu m kx hj hf h
      obtain ⟨f, rfl⟩ : ∃ f, fu = f + 1 := ⟨fu - 1, by omega⟩
      exact ⟨m, by rw [RM_plain_L2, if_pos (by rw [k116, n_le (by omega) (by omega)]; omega)], fun i hi => h i (by omega), Frm.rf⟩
    | succ k ih =>
      intro j fu m kx hj hf h
      obtain ⟨f, rfl⟩ : ∃ f, fu = f + 1 := ⟨fu - 1, by omega⟩
      obtain ⟨m', e, a, F⟩ := ih (j + 1) f (sI m 136 j 0) kx (by omega) (by omega) (fun i hi => by
        rw [gI_sI]
        by_cases z : i = j
        · rw [if_pos ⟨rfl, z⟩]
        · rw [if_neg (fun t => z t.2)]; exact h i (by omega))
      exact ⟨m', by rw [RM_plain_L2, if_neg (by rw [k116, n_le (by omega) (by omega)]; omega), if_pos (n_in (by omega) (by omega)), n_ixn (by omega), letM_o, show nI j + 1 = nI (j + 1) by rw [k1, n_add], e], a, (Frm.sI rfl rfl).tr F⟩
  have l2 : ∀ (k j fu : Nat) (m : Mem), j + k = 4 → k < fu → (∀ i, i < 116 → gI m 136 i = if 7 ≤ i ∧ i < 7 + j then nI (i - 7) else 0) → ∃ m', RM_plain_L23 (fun m2 => some m2) fu m (nI j) = some m' ∧ (∀ i, i < 116 → gI m' 136 i = if 7 ≤ i ∧ i < 11 then nI (i - 7) else 0) ∧ Frm [(136, 999999)] [] m m' := by
    intro k
    induction k with
    | zero =>
      intro j fu m hj hf h
      obtain ⟨f, rfl⟩ : ∃ f, fu = f + 1 := ⟨fu - 1, by omega⟩
      refine ⟨m, by rw [RM_plain_L23, if_pos (by rw [k4, n_le (by omega) (by omega)]; omega)], fun i hi => ?_, Frm.rf⟩
      rw [h i hi, show 7 + j = 11 by omega]
    | succ k ih =>
      intro j fu m hj hf h
      obtain ⟨f, rfl⟩ : ∃ f, fu = f + 1 := ⟨fu - 1, by omega⟩
      obtain ⟨m', e, a, F⟩ := ih (j + 1) f (sI m 136 (7 + j) (nI j)) (by omega) (by omega) (fun i hi => by
        rw [gI_sI]
        by_cases z : i = 7 + j
        · rw [if_pos ⟨rfl, z⟩, if_pos (by omega), z, show 7 + j - 7 = j by omega]
        · rw [if_neg (fun t => z t.2), h i hi]
          by_cases w : 7 ≤ i ∧ i < 7 + j
          · rw [if_pos w, if_pos (by omega)]
          · rw [if_neg w, if_neg (by omega)])
      exact ⟨m', by rw [RM_plain_L23, if_neg (by rw [k4, n_le (by omega) (by omega)]; omega), show (7 : Int32) + nI j = nI (7 + j) by rw [k7, n_add], if_pos (n_in (by omega) (by omega)), n_ixn (by omega), letM_o, show nI j + 1 = nI (j + 1) by rw [k1, n_add], e], a, (Frm.sI rfl rfl).tr F⟩
  obtain ⟨m1, e1, a1, F1⟩ := l1 116 0 FU m (fun m1 => RM_plain_L23 (fun m2 => some m2) FU m1 0) (by omega) (by unfold FU; omega) (fun i hi => by omega)
  obtain ⟨m2, e2, a2, F2⟩ := l2 4 0 FU m1 (by omega) (by unfold FU; omega) (fun i hi => by rw [a1 i hi, if_neg (by omega)])
  exact ⟨m2, (show RM_plain m = some m2 from e1.trans e2), a2, F1.tr F2⟩
theorem clear_eq {m : Mem} {q : Nat} : ∃ m', PH_clear m q = some m' ∧ (∀ k, k < 4 → gI m' (q + 15) k = nI k) ∧ (∀ j, 6 ≤ j → j ≤ 13 → gI m' q j = 0) ∧ (∀ c k, c < q → gI m' c k = gI m c k ∧ gJ m' c k = gJ m c k) := by
  have l1 : ∀ (k j fu : Nat) (m : Mem) (kx : Mem → Option Mem), j + k = 4 → k < fu → (∀ i, i < j → gI m (q + 15) i = nI i) → ∃ m', PH_clear_L2 q kx fu m (nI j) = kx m' ∧ (∀ i, i < 4 → gI m' (q + 15) i = nI i) ∧ (∀ c k, c < q → gI m' c k = gI m c k ∧ gJ m' c k = gJ m c k) := by
    intro k
    induction k with
    | zero =>
      intro j fu m kx hj hf h
      obtain ⟨f, rfl⟩ : ∃ f, fu = f + 1 := ⟨fu - 1, by omega⟩
      exact ⟨m, by rw [PH_clear_L2, if_pos (by rw [k4, n_le (by omega) (by omega)]; omega)], fun i hi => h i (by omega), fun c k _ => ⟨rfl, rfl⟩⟩
    | succ k ih =>
      intro j fu m kx hj hf h
      obtain ⟨f, rfl⟩ : ∃ f, fu = f + 1 := ⟨fu - 1, by omega⟩
      obtain ⟨m', e, a, F⟩ := ih (j + 1) f (sI m (q + 15) j (nI j)) kx (by omega) (by omega) (fun i hi => by
        rw [gI_sI]
        by_cases z : i = j
        · rw [if_pos ⟨rfl, z⟩, z]
        · rw [if_neg (fun t => z t.2)]; exact h i (by omega))
      refine ⟨m', by rw [PH_clear_L2, if_neg (by rw [k4, n_le (by omega) (by omega)]; omega), if_pos (n_in (by omega) (by omega)), n_ixn (by omega), letM_o, show nI j + 1 = nI (j + 1) by rw [k1, n_add], e], a, fun c k hc => ?_⟩
      rw [(F c k hc).1, (F c k hc).2, gI_sI, if_neg (by omega), gJ_sI]
      exact ⟨rfl, rfl⟩
  obtain ⟨m1, e1, a1, F1⟩ := l1 4 0 FU m (fun m1 => letM (sI m1 q 6 0) fun m2 => letM (sI m2 q 7 0) fun m3 => letM (sI m3 q 8 0) fun m4 => letM (sI m4 q 9 0) fun m5 => letM (sI m5 q 10 0) fun m6 => letM (sI m6 q 11 0) fun m7 => letM (sI m7 q 12 0) fun m8 => letM (sI m8 q 13 0) fun m9 => some m9) (by omega) (by unfold FU; omega) (fun i hi => by omega)
  rw [letM_o, letM_o, letM_o, letM_o, letM_o, letM_o, letM_o, letM_o] at e1
  refine ⟨_, by rw [PH_clear, k0]; exact e1, fun k hk => ?_, fun j h1 h2 => ?_, fun c k hc => ⟨?_, ?_⟩⟩
  · simp only [gI_sI]
    rw [if_neg (by omega), if_neg (by omega), if_neg (by omega), if_neg (by omega), if_neg (by omega), if_neg (by omega), if_neg (by omega), if_neg (by omega)]
    exact a1 k hk
  · rcases (show j = 6 ∨ j = 7 ∨ j = 8 ∨ j = 9 ∨ j = 10 ∨ j = 11 ∨ j = 12 ∨ j = 13 by omega) with rfl | rfl | rfl | rfl | rfl | rfl | rfl | rfl <;> simp [gI_sI]
  · simp only [gI_sI]
    rw [if_neg (by omega), if_neg (by omega), if_neg (by omega), if_neg (by omega), if_neg (by omega), if_neg (by omega), if_neg (by omega), if_neg (by omega)]
    exact (F1 c k hc).1
  · exact (F1 c k hc).2

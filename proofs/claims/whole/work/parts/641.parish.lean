theorem pr_copy {kx : Mem → Option (Int32 × Mem)} : ∀ (k j fu : Nat) (m : Mem), j + k = 116 → k < fu → ∃ m', RM_parish_L80 kx fu m (nI j) = kx m' ∧ (∀ s, j ≤ s → s < 116 → gI m' 135 s = gI m 136 s) ∧ (∀ c i, ¬ (c = 135 ∧ j ≤ i ∧ i < 116) → gI m' c i = gI m c i) ∧ m'.2 = m.2
  | 0, j, fu, m, hj, hf => by
    obtain ⟨f, rfl⟩ : ∃ f, fu = f + 1 := ⟨fu - 1, by omega⟩
    exact ⟨m, by rw [RM_parish_L80, if_pos (by rw [k116, n_le (by omega) (by omega)]; omega)], fun s a c => by omega, fun c i _ => rfl, rfl⟩
  | k + 1, j, fu, m, hj, hf => by
    obtain ⟨f, rfl⟩ : ∃ f, fu = f + 1 := ⟨fu - 1, by omega⟩
    obtain ⟨m', e, a1, a2, a3⟩ := pr_copy (kx := kx) k (j + 1) f (sI m 135 j (gI m 136 j)) (by omega) (by omega)
    refine ⟨m', by rw [RM_parish_L80, if_neg (by rw [k116, n_le (by omega) (by omega)]; omega), if_pos (n_in (by omega) (by omega)), n_ixn (by omega), letM_p, show nI j + 1 = nI (j + 1) by rw [k1, n_add], e], fun s h1 h2 => ?_, fun c i z => ?_, by rw [a3]; rfl⟩
    · by_cases w : s = j
      · rw [w, a2 _ _ (by omega), gI_sI, if_pos ⟨rfl, rfl⟩]
      · rw [a1 s (by omega) h2, gI_sI, if_neg (by omega)]
    · rw [a2 c i (by omega), gI_sI, if_neg (by omega)]
theorem pr_nam {kx : Mem → Option (Int32 × Mem)} : ∀ (k j fu : Nat) (m : Mem), j + k = 13 → k < fu → ∃ m', RM_parish_L106 kx fu m (nI j) = kx m' ∧ (∀ s, j ≤ s → s < 13 → gJ m' 137 s = gJ m 137 (13 + s)) ∧ (∀ c i, ¬ (c = 137 ∧ j ≤ i ∧ i < 13) → gJ m' c i = gJ m c i) ∧ m'.1 = m.1 ∧ m'.2.2 = m.2.2
  | 0, j, fu, m, hj, hf => by
    obtain ⟨f, rfl⟩ : ∃ f, fu = f + 1 := ⟨fu - 1, by omega⟩
    exact ⟨m, by rw [RM_parish_L106, if_pos (by rw [k13, n_le (by omega) (by omega)]; omega)], fun s a c => by omega, fun c i _ => rfl, rfl, rfl⟩
  | k + 1, j, fu, m, hj, hf => by
    obtain ⟨f, rfl⟩ : ∃ f, fu = f + 1 := ⟨fu - 1, by omega⟩
    obtain ⟨m', e, a1, a2, a3, a4⟩ := pr_nam (kx := kx) k (j + 1) f (sJ m 137 j (gJ m 137 (13 + j))) (by omega) (by omega)
    have e13 : (13 : Int32) + nI j = nI (13 + j) := by rw [k13, n_add]
    refine ⟨m', by rw [RM_parish_L106, if_neg (by rw [k13, n_le (by omega) (by omega)]; omega), e13, if_pos (n_in (by omega) (by omega)), if_pos (n_in (by omega) (by omega)), n_ixn (by omega), n_ixn (by omega), letM_p, show nI j + 1 = nI (j + 1) by rw [k1, n_add], e], fun s h1 h2 => ?_, fun c i z => ?_, by rw [a3]; rfl, by rw [a4]; rfl⟩
    · by_cases w : s = j
      · rw [w, a2 _ _ (by omega), gJ_sJ, if_pos ⟨rfl, rfl⟩]
      · rw [a1 s (by omega) h2, gJ_sJ, if_neg (by omega)]
    · rw [a2 c i (by omega), gJ_sJ, if_neg (by omega)]
def prK : Mem → Option (Int32 × Mem) := fun m11 => RM_parish_L80 (fun m12 => RM_parish_L106 (fun m13 => letM (sI m13 133 40 0) fun m14 => some ((gI m14 133 18), m14)) FU m12 0) FU m11 0
theorem prK_eq (m : Mem) : ∃ m', prK m = some (gI m 133 18, m') ∧ (∀ s, s < 116 → gI m' 135 s = gI m 136 s) ∧ (∀ s, s < 13 → gJ m' 137 s = gJ m 137 (13 + s)) ∧ gI m' 133 40 = 0 ∧ (∀ c i, c ≠ 135 → ¬ (c = 133 ∧ i = 40) → gI m' c i = gI m c i) ∧ (∀ c i, c ≠ 137 → gJ m' c i = gJ m c i) ∧ m'.2.2 = m.2.2 := by
  obtain ⟨m1, e1, a1, a2, a3⟩ := pr_copy (kx := fun m12 => RM_parish_L106 (fun m13 => letM (sI m13 133 40 0) fun m14 => some ((gI m14 133 18), m14)) FU m12 0) 116 0 FU m (by omega) (by unfold FU; omega)
  obtain ⟨m2, e2, b1, b2, b3, b4⟩ := pr_nam (kx := fun m13 => letM (sI m13 133 40 0) fun m14 => some ((gI m14 133 18), m14)) 13 0 FU m1 (by omega) (by unfold FU; omega)
  have g2 : ∀ c i, gI m2 c i = gI m1 c i := fun c i => by unfold gI; rw [b3]
  have j1 : ∀ c i, gJ m1 c i = gJ m c i := fun c i => by unfold gJ; rw [a3]
  have n1 : m1.2.2 = m.2.2 := by rw [a3]
  refine ⟨sI m2 133 40 0, ?_, fun s hs => ?_, fun s hs => ?_, by rw [gI_sI, if_pos ⟨rfl, rfl⟩], fun c i h1 h2 => ?_, fun c i h1 => ?_, ?_⟩
  · have g18 : gI (sI m2 133 40 0) 133 18 = gI m 133 18 := by rw [gI_sI, if_neg (by omega), g2, a2 _ _ (by omega)]
    have : prK m = letM (sI m2 133 40 0) fun m14 => some ((gI m14 133 18), m14) := e1.trans e2
    rw [this, letM_p, g18]
  · rw [gI_sI, if_neg (by omega), g2, a1 s (by omega) hs]
  · rw [gJ_sI, b1 s (by omega) hs, j1]
  · rw [gI_sI, if_neg h2, g2, a2 c i (by omega)]
  · rw [gJ_sI, b2 c i (by omega), j1]
  · show m2.2.2 = m.2.2
    rw [b4, n1]
abbrev Lsp : List (Nat × Nat) := [(133, 0), (133, 2), (133, 3), (133, 4), (133, 5), (133, 10), (133, 11), (133, 12), (133, 13), (133, 14), (133, 16), (133, 18), (133, 19), (136, 999999)]
/-- how the reference begins -/
theorem pr_start {mm : Mem} {b : Nat → Nat} {L : Nat} (hL : L ≤ 940) (e2 : gI mm 133 2 = nI L) (hb : ∀ i, i < L → b i < 256 ∧ gI mm 134 i &&& 255 = nI (b i)) : ∃ mB, RM_parish mm = RM_parish_L35 prK FU mB ∧ TB mB b L 900 ∧ CKB mB b L 900 0 ∧ gI mB 133 14 = 0 ∧ gI mB 133 18 = 0 ∧ gI mB 133 19 = 0 ∧ gI mB 133 2 = 0 ∧ (∀ j, j < 116 → gI mB 136 j = if 7 ≤ j ∧ j < 11 then nI (j - 7) else 0) ∧ Frm Lsp [] mm mB := by
  obtain ⟨m2, t1, t2, t3, t4, t5, F2⟩ := taken_eq (m := sI mm 133 0 0) (L := L) 900 (by rw [gI_sI, if_neg (by omega)]; exact e2)
  let m6 := sI (sI (sI m2 133 14 0) 133 18 0) 133 19 0
  have h6 : m6 = sI (sI (sI m2 133 14 0) 133 18 0) 133 19 0 := rfl
  have F6 : Frm [(133, 14), (133, 18), (133, 19)] [] m2 m6 := (Frm.sI rfl rfl).tr ((Frm.sI rfl rfl).tr (Frm.sI rfl rfl))
  obtain ⟨m7, p1, p2, F7⟩ := plain_eq m6
  have T7 : TB m7 b L 900 := ⟨hL, by omega, by rw [F7.I 133 3 rfl, F6.I 133 3 rfl, t2], by rw [F7.I 133 5 rfl, F6.I 133 5 rfl, t5]; rfl, fun i hi => ⟨(hb i hi).1, by rw [F7.I 134 i rfl, F6.I 134 i rfl, F2.I 134 i rfl, gI_sI, if_neg (by omega)]; exact (hb i hi).2⟩⟩
  obtain ⟨m9, x1, K9, T9, F9⟩ := nxt (p := 0) T7 (by rw [F7.I 133 4 rfl, F6.I 133 4 rfl, t4]; rfl) (by omega)
  refine ⟨m9, ?_, T9, K9, ?_, ?_, ?_, ?_, fun j hj => ?_, ?_⟩
  · rw [RM_parish, letM_p, t1, bM_s, letM_p, letM_p, letM_p, ← h6, p1, bM_s, x1, bM_s]
    rfl
  · rw [F9.I 133 14 rfl, F7.I 133 14 rfl, h6, gI_sI, if_neg (by omega), gI_sI, if_neg (by omega), gI_sI, if_pos ⟨rfl, rfl⟩]
  · rw [F9.I 133 18 rfl, F7.I 133 18 rfl, h6, gI_sI, if_neg (by omega), gI_sI, if_pos ⟨rfl, rfl⟩]
  · rw [F9.I 133 19 rfl, F7.I 133 19 rfl, h6, gI_sI, if_pos ⟨rfl, rfl⟩]
  · rw [F9.I 133 2 rfl, F7.I 133 2 rfl, F6.I 133 2 rfl, t3]
  · rw [F9.I 136 j rfl, p2 j hj]
  · exact (Frm.sI rfl rfl).tr ((F2.mo (wL_sub rfl)).tr ((F6.mo (wL_sub rfl)).tr ((F7.mo (wL_sub rfl)).tr (F9.mo (wL_sub rfl)))))
theorem ST0 {mc mB : Mem} {q : Nat} {b : Nat → Nat} {L : Nat} {N : Nat → Int64} (hq : 11 ≤ q) (TAm : TA mc b L 900) (h10 : gI mc 1 10 = 0) (h12 : gI mc 1 2 = 0) (c1 : ∀ k, k < 4 → gI mc (q + 15) k = nI k) (c2 : ∀ j, 6 ≤ j → j ≤ 13 → gI mc q j = 0) (TBm : TB mB b L 900) (K : CKB mB b L 900 0) (h14 : gI mB 133 14 = 0) (h19 : gI mB 133 19 = 0) (pl : ∀ j, j < 116 → gI mB 136 j = if 7 ≤ j ∧ j < 11 then nI (j - 7) else 0) (hR : ∀ k, k < 17 → gJ mB 138 k = resW.getD k 0) (hN : ∀ j, j < 13 → gJ mB 137 j = N j) : ST mc mB q b L 0 N := by
  have z : ∀ j, j < 7 → gI mB 136 j = 0 := fun j hj => by rw [pl j (by omega), if_neg (by omega)]
  have n0 : ∀ B, isN (0 : Int32) B := fun B => ⟨by decide, by show (0 : Int) ≤ B; omega⟩
  refine ⟨⟨TAm, TBm, by rw [h10]; rfl, K, by omega⟩, h12, h14, ⟨by rw [c2 _ (by omega) (by omega), z _ (by omega)], by rw [c2 _ (by omega) (by omega), z _ (by omega)], by rw [c2 _ (by omega) (by omega), z _ (by omega)], by rw [c2 _ (by omega) (by omega), z _ (by omega)], by rw [c2 _ (by omega) (by omega), z _ (by omega)], by rw [c2 _ (by omega) (by omega), z _ (by omega)], by rw [c2 _ (by omega) (by omega), z _ (by omega)], fun k hk => by rw [c1 k hk, pl _ (by omega), if_pos (by omega), show 7 + k - 7 = k by omega], fun k hk => ?_, fun k hk => ?_, by rw [c2 _ (by omega) (by omega), h19], by rw [h19]; exact n0 _⟩, ⟨by rw [z _ (by omega)]; exact n0 _, by rw [z _ (by omega)]; exact n0 _, by rw [z _ (by omega)]; exact n0 _, by rw [z _ (by omega)]; exact n0 _, by rw [z _ (by omega)]; exact n0 _, by rw [z _ (by omega)]; exact n0 _, fun k hk => ?_, fun k hk => ?_, fun k hk => ?_⟩, hR, hN⟩
  · rw [z _ (by omega)] at hk; rw [show ixn 0 = 0 from rfl] at hk; omega
  · rw [z _ (by omega)] at hk; rw [show ixn 0 = 0 from rfl] at hk; omega
  · rw [pl _ (by omega), if_pos (by omega)]; exact isN.of (by omega) (by omega)
  · rw [z _ (by omega)] at hk; rw [show ixn 0 = 0 from rfl] at hk; omega
  · rw [z _ (by omega)] at hk; rw [show ixn 0 = 0 from rfl] at hk; omega

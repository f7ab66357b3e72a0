/-! image, restore: copies of a whole parish -/
theorem im_row {k : Nat} (hk : k < 2) {kx : Mem → Option (Int32 × Mem)} : ∀ (d i fu : Nat) (m : Mem), i + d = 116 → d < fu → ∃ m', RM_image_L18 (nI k) kx fu m (nI i) = kx m' ∧ (∀ s, i ≤ s → s < 116 → gI m' 159 (116 * k + s) = gI m 135 s) ∧ (∀ c j, ¬ (c = 159 ∧ 116 * k + i ≤ j ∧ j < 116 * k + 116) → gI m' c j = gI m c j) ∧ m'.2 = m.2
  | 0, i, fu, m, hd, hf => by
    obtain ⟨f, rfl⟩ : ∃ f, fu = f + 1 := ⟨fu - 1, by omega⟩
    obtain rfl : i = 116 := by omega
    exact ⟨m, by rw [RM_image_L18, if_pos (by decide)], fun s a b => by omega, fun _ _ _ => rfl, rfl⟩
  | d + 1, i, fu, m, hd, hf => by
    obtain ⟨f, rfl⟩ : ∃ f, fu = f + 1 := ⟨fu - 1, by omega⟩
    obtain ⟨m', e, a, c, F⟩ := im_row hk (kx := kx) d (i + 1) f (sI m 159 (116 * k + i) (gI m 135 i)) (by omega) (by omega)
    refine ⟨m', ?_, fun s h1 h2 => ?_, fun c' j q => ?_, F⟩
    · rw [RM_image_L18, if_neg (by rw [k116, n_le (by omega) (by omega)]; omega), k116, n_mul, n_add, if_pos (n_in (by omega) (by omega)), if_pos (n_in (by omega) (by omega)), n_ixn (by omega), n_ixn (by omega), show nI i + 1 = nI (i + 1) by rw [k1, n_add]]
      exact e
    · by_cases q : s = i
      · rw [c _ _ (by omega), gI_sI, if_pos ⟨rfl, by omega⟩, q]
      · rw [a s (by omega) h2, gI_sI, if_neg (by omega)]
    · rw [c c' j (by omega), gI_sI, if_neg (by omega)]
theorem im_nam {k : Nat} (hk : k < 2) {kx : Mem → Option (Int32 × Mem)} : ∀ (d i fu : Nat) (m : Mem), i + d = 13 → d < fu → ∃ m', RM_image_L49 (nI k) kx fu m (nI i) = kx m' ∧ (∀ s, i ≤ s → s < 13 → gJ m' 160 (13 * k + s) = gJ m 137 s) ∧ (∀ c j, ¬ (c = 160 ∧ 13 * k + i ≤ j ∧ j < 13 * k + 13) → gJ m' c j = gJ m c j) ∧ m'.1 = m.1 ∧ m'.2.2 = m.2.2
  | 0, i, fu, m, hd, hf => by
    obtain ⟨f, rfl⟩ : ∃ f, fu = f + 1 := ⟨fu - 1, by omega⟩
    obtain rfl : i = 13 := by omega
    exact ⟨m, by rw [RM_image_L49, if_pos (by decide)], fun s a b => by omega, fun _ _ _ => rfl, rfl, rfl⟩
  | d + 1, i, fu, m, hd, hf => by
    obtain ⟨f, rfl⟩ : ∃ f, fu = f + 1 := ⟨fu - 1, by omega⟩
    obtain ⟨m', e, a, c, F1, F2⟩ := im_nam hk (kx := kx) d (i + 1) f (sJ m 160 (13 * k + i) (gJ m 137 i)) (by omega) (by omega)
    refine ⟨m', ?_, fun s h1 h2 => ?_, fun c' j q => ?_, F1, F2⟩
    · rw [RM_image_L49, if_neg (by rw [k13, n_le (by omega) (by omega)]; omega), k13, n_mul, n_add, if_pos (n_in (by omega) (by omega)), if_pos (n_in (by omega) (by omega)), n_ixn (by omega), n_ixn (by omega), show nI i + 1 = nI (i + 1) by rw [k1, n_add]]
      exact e
    · by_cases q : s = i
      · rw [c _ _ (by omega), gJ_sJ, if_pos ⟨rfl, by omega⟩, q]
      · rw [a s (by omega) h2, gJ_sJ, if_neg (by omega)]
    · rw [c c' j (by omega), gJ_sJ, if_neg (by omega)]
theorem re_row {k : Nat} (hk : k < 2) {kx : Mem → Option (Int32 × Mem)} : ∀ (d i fu : Nat) (m : Mem), i + d = 116 → d < fu → ∃ m', RM_restore_L27 (nI k) kx fu m (nI i) = kx m' ∧ (∀ s, i ≤ s → s < 116 → gI m' 135 s = gI m 159 (116 * k + s)) ∧ (∀ c j, ¬ (c = 135 ∧ i ≤ j ∧ j < 116) → gI m' c j = gI m c j) ∧ m'.2 = m.2
  | 0, i, fu, m, hd, hf => by
    obtain ⟨f, rfl⟩ : ∃ f, fu = f + 1 := ⟨fu - 1, by omega⟩
    obtain rfl : i = 116 := by omega
    exact ⟨m, by rw [RM_restore_L27, if_pos (by decide)], fun s a b => by omega, fun _ _ _ => rfl, rfl⟩
  | d + 1, i, fu, m, hd, hf => by
    obtain ⟨f, rfl⟩ : ∃ f, fu = f + 1 := ⟨fu - 1, by omega⟩
    obtain ⟨m', e, a, c, F⟩ := re_row hk (kx := kx) d (i + 1) f (sI m 135 i (gI m 159 (116 * k + i))) (by omega) (by omega)
    refine ⟨m', ?_, fun s h1 h2 => ?_, fun c' j q => ?_, F⟩
    · rw [RM_restore_L27, if_neg (by rw [k116, n_le (by omega) (by omega)]; omega), k116, n_mul, n_add, if_pos (n_in (by omega) (by omega)), if_pos (n_in (by omega) (by omega)), n_ixn (by omega), n_ixn (by omega), show nI i + 1 = nI (i + 1) by rw [k1, n_add]]
      exact e
    · by_cases q : s = i
      · rw [c _ _ (by omega), gI_sI, if_pos ⟨rfl, by omega⟩, q]
      · rw [a s (by omega) h2, gI_sI, if_neg (by omega)]
    · rw [c c' j (by omega), gI_sI, if_neg (by omega)]
theorem re_nam {k : Nat} (hk : k < 2) {kx : Mem → Option (Int32 × Mem)} : ∀ (d i fu : Nat) (m : Mem), i + d = 13 → d < fu → ∃ m', RM_restore_L58 (nI k) kx fu m (nI i) = kx m' ∧ (∀ s, i ≤ s → s < 13 → gJ m' 137 s = gJ m 160 (13 * k + s)) ∧ (∀ c j, ¬ (c = 137 ∧ i ≤ j ∧ j < 13) → gJ m' c j = gJ m c j) ∧ m'.1 = m.1 ∧ m'.2.2 = m.2.2
  | 0, i, fu, m, hd, hf => by
    obtain ⟨f, rfl⟩ : ∃ f, fu = f + 1 := ⟨fu - 1, by omega⟩
    obtain rfl : i = 13 := by omega
    exact ⟨m, by rw [RM_restore_L58, if_pos (by decide)], fun s a b => by omega, fun _ _ _ => rfl, rfl, rfl⟩
  | d + 1, i, fu, m, hd, hf => by
    obtain ⟨f, rfl⟩ : ∃ f, fu = f + 1 := ⟨fu - 1, by omega⟩
    obtain ⟨m', e, a, c, F1, F2⟩ := re_nam hk (kx := kx) d (i + 1) f (sJ m 137 i (gJ m 160 (13 * k + i))) (by omega) (by omega)
    refine ⟨m', ?_, fun s h1 h2 => ?_, fun c' j q => ?_, F1, F2⟩
    · rw [RM_restore_L58, if_neg (by rw [k13, n_le (by omega) (by omega)]; omega), k13, n_mul, n_add, if_pos (n_in (by omega) (by omega)), if_pos (n_in (by omega) (by omega)), n_ixn (by omega), n_ixn (by omega), show nI i + 1 = nI (i + 1) by rw [k1, n_add]]
      exact e
    · by_cases q : s = i
      · rw [c _ _ (by omega), gJ_sJ, if_pos ⟨rfl, by omega⟩, q]
      · rw [a s (by omega) h2, gJ_sJ, if_neg (by omega)]
    · rw [c c' j (by omega), gJ_sJ, if_neg (by omega)]
theorem copyLn {m : Mem} {a b : Nat} (h : a + 3 ≤ b ∨ b + 3 ≤ a) : ∃ m', LN_copyFrom m a b = some m' ∧ gI m' a 1 = gI m b 1 ∧ gJ m' a 0 = gJ m b 0 ∧ (∀ j, j < 12 → gI m' (a + 1) j = gI m (b + 1) j ∧ gI m' (a + 2) j = gI m (b + 2) j) ∧ (∀ c j, c < a ∨ a + 3 ≤ c → gI m' c j = gI m c j ∧ gJ m' c j = gJ m c j) ∧ m'.2.2 = m.2.2 := by
  have t : ixn 0 = 0 := rfl
  have t12 : ixn 12 = 12 := rfl
  refine ⟨_, rfl, ?_, ?_, fun j hj => ⟨?_, ?_⟩, fun c j hc => ⟨?_, ?_⟩, rfl⟩
  · rw [gI_cpI, if_neg (by omega), gI_cpI, if_neg (by omega), gI_sI, if_pos ⟨rfl, rfl⟩, gI_sJ]
  · rw [gJ_cpI, gJ_cpI, gJ_sI, gJ_sJ, if_pos ⟨rfl, rfl⟩]
  · rw [gI_cpI, if_neg (by omega), gI_cpI, if_pos (by omega), gI_sI, if_neg (by omega), gI_sJ, t, show 0 + (j - 0) = j by omega]
  · rw [gI_cpI, if_pos (by omega), gI_cpI, if_neg (by omega), gI_sI, if_neg (by omega), gI_sJ, t, show 0 + (j - 0) = j by omega]
  · rw [gI_cpI, if_neg (by omega), gI_cpI, if_neg (by omega), gI_sI, if_neg (by omega), gI_sJ]
  · rw [gJ_cpI, gJ_cpI, gJ_sI, gJ_sJ, if_neg (by omega)]
theorem cp_step {m : Mem} {a b t f : Nat} {kx : Mem → Option Mem} (h : a + 16 ≤ b ∨ b + 16 ≤ a) (ht : t < 3) : ∃ m', PH_copyFrom_L2 a b kx (f + 1) m (nI t) = PH_copyFrom_L2 a b kx f m' (nI (t + 1)) ∧ gI m' (a + 2 + 3 * t) 1 = gI m (b + 2 + 3 * t) 1 ∧ gJ m' (a + 2 + 3 * t) 0 = gJ m (b + 2 + 3 * t) 0 ∧ (∀ j, j < 12 → gI m' (a + 2 + 3 * t + 1) j = gI m (b + 2 + 3 * t + 1) j ∧ gI m' (a + 2 + 3 * t + 2) j = gI m (b + 2 + 3 * t + 2) j) ∧ (∀ c j, c < a + 2 + 3 * t ∨ a + 2 + 3 * t + 3 ≤ c → gI m' c j = gI m c j ∧ gJ m' c j = gJ m c j) ∧ m'.2.2 = m.2.2 := by
  obtain ⟨m', e, p⟩ := copyLn (m := m) (a := a + 2 + 3 * t) (b := b + 2 + 3 * t) (by omega)
  refine ⟨m', ?_, p⟩
  rw [PH_copyFrom_L2, if_neg (by rw [k3, n_le (by omega) (by omega)]; omega), if_pos (n_in ht (by omega)), n_ixn (by omega), e, show nI t + 1 = nI (t + 1) by rw [k1, n_add]]
  rfl
/-- the parish at a is now that at b -/
def ParEq (m m' : Mem) (a b : Nat) : Prop := (∀ j, 6 ≤ j → j ≤ 12 → gI m' a j = gI m b j) ∧ (∀ j, j < 4 → gI m' (a + 15) j = gI m (b + 15) j) ∧ (∀ t, t < 3 → gI m' (a + 2 + 3 * t) 1 = gI m (b + 2 + 3 * t) 1 ∧ gJ m' (a + 2 + 3 * t) 0 = gJ m (b + 2 + 3 * t) 0 ∧ ∀ j, j < 12 → gI m' (a + 2 + 3 * t + 1) j = gI m (b + 2 + 3 * t + 1) j ∧ gI m' (a + 2 + 3 * t + 2) j = gI m (b + 2 + 3 * t + 2) j) ∧ (∀ j, j < 10 → gI m' (a + 11) j = gI m (b + 11) j ∧ gI m' (a + 12) j = gI m (b + 12) j ∧ gI m' (a + 13) j = gI m (b + 13) j ∧ gJ m' (a + 14) j = gJ m (b + 14) j)
theorem cp_lines {m : Mem} {a b : Nat} {kx : Mem → Option Mem} (h : a + 16 ≤ b ∨ b + 16 ≤ a) : ∃ m3, PH_copyFrom_L2 a b kx FU m 0 = kx m3 ∧ (∀ t, t < 3 → gI m3 (a + 2 + 3 * t) 1 = gI m (b + 2 + 3 * t) 1 ∧ gJ m3 (a + 2 + 3 * t) 0 = gJ m (b + 2 + 3 * t) 0 ∧ ∀ j, j < 12 → gI m3 (a + 2 + 3 * t + 1) j = gI m (b + 2 + 3 * t + 1) j ∧ gI m3 (a + 2 + 3 * t + 2) j = gI m (b + 2 + 3 * t + 2) j) ∧ (∀ c j, c < a + 2 ∨ a + 11 ≤ c → gI m3 c j = gI m c j ∧ gJ m3 c j = gJ m c j) ∧ m3.2.2 = m.2.2 := by
  obtain ⟨f, hf⟩ : ∃ f, FU = f + 1 + 1 + 1 + 1 := ⟨FU - 4, by unfold FU; omega⟩
  obtain ⟨m1, e1, a1, b1, c1, d1, n1⟩ := cp_step (m := m) (f := f + 1 + 1 + 1) (t := 0) (kx := kx) h (by omega)
  obtain ⟨m2, e2, a2, b2, c2, d2, n2⟩ := cp_step (m := m1) (f := f + 1 + 1) (t := 1) (kx := kx) h (by omega)
  obtain ⟨m3, e3, a3, b3, c3, d3, n3⟩ := cp_step (m := m2) (f := f + 1) (t := 2) (kx := kx) h (by omega)
  refine ⟨m3, ?_, fun t ht => ?_, fun c j hc => ?_, n3.trans (n2.trans n1)⟩
  · rw [hf, show (0 : Int32) = nI 0 from k0, e1, e2, e3, PH_copyFrom_L2, if_pos (by decide)]
  · rcases (show t = 0 ∨ t = 1 ∨ t = 2 by omega) with rfl | rfl | rfl
    · refine ⟨?_, ?_, fun j hj => ⟨?_, ?_⟩⟩
      · rw [(d3 _ _ (by omega)).1, (d2 _ _ (by omega)).1, a1]
      · rw [(d3 _ _ (by omega)).2, (d2 _ _ (by omega)).2, b1]
      · rw [(d3 _ _ (by omega)).1, (d2 _ _ (by omega)).1, (c1 j hj).1]
      · rw [(d3 _ _ (by omega)).1, (d2 _ _ (by omega)).1, (c1 j hj).2]
    · refine ⟨?_, ?_, fun j hj => ⟨?_, ?_⟩⟩
      · rw [(d3 _ _ (by omega)).1, a2, (d1 _ _ (by omega)).1]
      · rw [(d3 _ _ (by omega)).2, b2, (d1 _ _ (by omega)).2]
      · rw [(d3 _ _ (by omega)).1, (c2 j hj).1, (d1 _ _ (by omega)).1]
      · rw [(d3 _ _ (by omega)).1, (c2 j hj).2, (d1 _ _ (by omega)).1]
    · refine ⟨?_, ?_, fun j hj => ⟨?_, ?_⟩⟩
      · rw [a3, (d2 _ _ (by omega)).1, (d1 _ _ (by omega)).1]
      · rw [b3, (d2 _ _ (by omega)).2, (d1 _ _ (by omega)).2]
      · rw [(c3 j hj).1, (d2 _ _ (by omega)).1, (d1 _ _ (by omega)).1]
      · rw [(c3 j hj).2, (d2 _ _ (by omega)).1, (d1 _ _ (by omega)).1]
  · rw [(d3 c j (by omega)).1, (d2 c j (by omega)).1, (d1 c j (by omega)).1, (d3 c j (by omega)).2, (d2 c j (by omega)).2, (d1 c j (by omega)).2]
    exact ⟨rfl, rfl⟩

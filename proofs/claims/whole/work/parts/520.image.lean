/-! image, restore: copies of a whole parish -/
theorem im_row {k : Nat} (hk : k < 2) {kx : Mem → Option (Int32 × Mem)} : ∀ (d i fu : Nat) (m : Mem), i + d = 116 → d < fu → ∃ m', RM_image_L18 (nI k) kx fu m (nI i) = kx m' ∧ (∀ s, i ≤ s → s < 116 → gI m' 159 (116 * k + s) = gI m 135 s) ∧ (∀ c j, ¬ (c = 159 ∧ 116 * k + i ≤ j ∧ j < 116 * k + 116) → gI m' c j = gI m c j) ∧ m'.2 = m.2
  | 0, i, fu, m, hd, hf => by
    obtain ⟨f, rfl⟩ : ∃ f, fu = f + 1 := ⟨fu - 1, by omega⟩
    obtain rfl : i = 116 := by omega
    exact ⟨m, by rw [RM_image_L18, if_pos (by decide)], fun s a b => by omega, fun _ _ _ => rfl, rfl⟩
  | d + 1, i, fu, m, hd, hf => by
    obtain ⟨f, rfl⟩ : ∃ f, fu = f + 1 := ⟨fu - 1, by omega⟩
    obtain ⟨m', e, a, c, F⟩ := im_row hk (kx := kx) d (i + 1) f (sI m 159 (116 * k + i) (gI m 135 i)) (by omega) (by omega)
    refine ⟨m', ?_, fun s h1 h2 => ?_, fun c' j q => ?_, F⟩
    · rw [RM_image_L18, if_neg (by rw [k116, n_le (by omega) (by omega)]; omega), k116, n_mul, n_add, if_pos (n_in (by omega) (by omega)), if_pos (n_in (by omega) (by omega)), n_ixn (by omega), n_ixn (by omega), show nI i + 1 = nI (i + 1) by rw [k1, n_add]]
      exact e
    · by_cases q : s = i
      · rw [c _ _ (by omega), gI_sI, if_pos ⟨rfl, by omega⟩, q]
      · rw [a s (by omega) h2, gI_sI, if_neg (by omega)]
    · rw [c c' j (by omega), gI_sI, if_neg (by omega)]
theorem im_nam {k : Nat} (hk : k < 2) {kx : Mem → Option (Int32 × Mem)} : ∀ (d i fu : Nat) (m : Mem), i + d = 13 → d < fu → ∃ m', RM_image_L49 (nI k) kx fu m (nI i) = kx m' ∧ (∀ s, i ≤ s → s < 13 → gJ m' 160 (13 * k + s) = gJ m 137 s) ∧ (∀ c j, ¬ (c = 160 ∧ 13 * k + i ≤ j ∧ j < 13 * k + 13) → gJ m' c j = gJ m c j) ∧ m'.1 = m.1 ∧ m'.2.2 = m.2.2
  | 0, i, fu, m, hd, hf => by
    obtain ⟨f, rfl⟩ : ∃ f, fu = f + 1 := ⟨fu - 1, by omega⟩
    obtain rfl : i = 13 := by omega
    exact ⟨m, by rw [RM_image_L49, if_pos (by decide)], fun s a b => by omega, fun _ _ _ => rfl, rfl, rfl⟩
  | d + 1, i, fu, m, hd, hf => by
    obtain ⟨f, rfl⟩ : ∃ f, fu = f + 1 := ⟨fu - 1, by omega⟩
    obtain ⟨m', e, a, c, F1, F2⟩ := im_nam hk (kx := kx) d (i + 1) f (sJ m 160 (13 * k + i) (gJ m 137 i)) (by omega) (by omega)
    refine ⟨m', ?_, fun s h1 h2 => ?_, fun c' j q => ?_, F1, F2⟩
    · rw [RM_image_L49, if_neg (by rw [k13, n_le (by omega) (by omega)]; omega), k13, n_mul, n_add, if_pos (n_in (by omega) (by omega)), if_pos (n_in (by omega) (by omega)), n_ixn (by omega), n_ixn (by omega), show nI i + 1 = nI (i + 1) by rw [k1, n_add]]
      exact e
    · by_cases q : s = i
      · rw [c _ _ (by omega), gJ_sJ, if_pos ⟨rfl, by omega⟩, q]
      · rw [a s (by omega) h2, gJ_sJ, if_neg (by omega)]
    · rw [c c' j (by omega), gJ_sJ, if_neg (by omega)]
theorem re_row {k : Nat} (hk : k < 2) {kx : Mem → Option (Int32 × Mem)} : ∀ (d i fu : Nat) (m : Mem), i + d = 116 → d < fu → ∃ m', RM_restore_L27 (nI k) kx fu m (nI i) = kx m' ∧ (∀ s, i ≤ s → s < 116 → gI m' 135 s = gI m 159 (116 * k + s)) ∧ (∀ c j, ¬ (c = 135 ∧ i ≤ j ∧ j < 116) → gI m' c j = gI m c j) ∧ m'.2 = m.2
  | 0, i, fu, m, hd, hf => by
    obtain ⟨f, rfl⟩ : ∃ f, fu = f + 1 := ⟨fu - 1, by omega⟩
    obtain rfl : i = 116 := by omega
    exact ⟨m, by rw [RM_restore_L27, if_pos (by decide)], fun s a b => by omega, fun _ _ _ => rfl, rfl⟩
  | d + 1, i, fu, m, hd, hf => by
    obtain ⟨f, rfl⟩ : ∃ f, fu = f + 1 := ⟨fu - 1, by omega⟩
    obtain ⟨m', e, a, c, F⟩ := re_row hk (kx := kx) d (i + 1) f (sI m 135 i (gI m 159 (116 * k + i))) (by omega) (by omega)
    refine ⟨m', ?_, fun s h1 h2 => ?_, fun c' j q => ?_, F⟩
    · rw [RM_restore_L27, if_neg (by rw [k116, n_le (by omega) (by omega)]; omega), k116, n_mul, n_add, if_pos (n_in (by omega) (by omega)), if_pos (n_in (by omega) (by omega)), n_ixn (by omega), n_ixn (by omega), show nI i + 1 = nI (i + 1) by rw [k1, n_add]]
      exact e
    · by_cases q : s = i
      · rw [c _ _ (by omega), gI_sI, if_pos ⟨rfl, by omega⟩, q]
      · rw [a s (by omega) h2, gI_sI, if_neg (by omega)]
    · rw [c c' j (by omega), gI_sI, if_neg (by omega)]
theorem re_nam {k : Nat} (hk : k < 2) {kx : Mem → Option (Int32 × Mem)} : ∀ (d i fu : Nat) (m : Mem), i + d = 13 → d < fu → ∃ m', RM_restore_L58 (nI k) kx fu m (nI i) = kx m' ∧ (∀ s, i ≤ s → s < 13 → gJ m' 137 s = gJ m 160 (13 * k + s)) ∧ (∀ c j, ¬ (c = 137 ∧ i ≤ j ∧ j < 13) → gJ m' c j = gJ m c j) ∧ m'.1 = m.1 ∧ m'.2.2 = m.2.2
  | 0, i, fu, m, hd, hf => by
    obtain ⟨f, rfl⟩ : ∃ f, fu = f + 1 := ⟨fu - 1, by omega⟩
    obtain rfl : i = 13 := by omega
    exact ⟨m, by rw [RM_restore_L58, if_pos (by decide)], fun s a b => by omega, fun _ _ _ => rfl, rfl, rfl⟩
  | d + 1, i, fu, m, hd, hf => by
    obtain ⟨f, rfl⟩ : ∃ f, fu = f + 1 := ⟨fu - 1, by omega⟩
    obtain ⟨m', e, a, c, F1, F2⟩ := re_nam hk (kx := kx) d (i + 1) f (sJ m 137 i (gJ m 160 (13 * k + i))) (by omega) (by omega)
    refine ⟨m', ?_, fun s h1 h2 => ?_, fun c' j q => ?_, F1, F2⟩
    · rw [RM_restore_L58, if_neg (by rw [k13, n_le (by omega) (by omega)]; omega), k13, n_mul, n_add, if_pos (n_in (by omega) (by omega)), if_pos (n_in (by omega) (by omega)), n_ixn (by omega), n_ixn (by omega), show nI i + 1 = nI (i + 1) by rw [k1, n_add]]
      exact e
    · by_cases q : s = i
      · rw [c _ _ (by omega), gJ_sJ, if_pos ⟨rfl, by omega⟩, q]
      · rw [a s (by omega) h2, gJ_sJ, if_neg (by omega)]
    · rw [c c' j (by omega), gJ_sJ, if_neg (by omega)]
theorem copyLn {m : Mem} {a b : Nat} (h : a + 3 ≤ b ∨ b + 3 ≤ a) : ∃ m', LN_copyFrom m a b = some m' ∧ gI m' a 1 = gI m b 1 ∧ gJ m' a 0 = gJ m b 0 ∧ (∀ j, j < 12 → gI m' (a + 1) j = gI m (b + 1) j ∧ gI m' (a + 2) j = gI m (b + 2) j) ∧ (∀ c j, c < a ∨ a + 3 ≤ c → gI m' c j = gI m c j ∧ gJ m' c j = gJ m c j) ∧ m'.2.2 = m.2.2 := by
  have t : ixn 0 = 0 := rfl
  have t12 : ixn 12 = 12 := rfl
  refine ⟨_, rfl, ?_, ?_, fun j hj => ⟨?_, ?_⟩, fun c j hc => ⟨?_, ?_⟩, rfl⟩
  · rw [gI_cpI, if_neg (by omega), gI_cpI, if_neg (by omega), gI_sI, if_pos ⟨rfl, rfl⟩, gI_sJ]
  · rw [gJ_cpI, gJ_cpI, gJ_sI, gJ_sJ, if_pos ⟨rfl, rfl⟩]
  · rw [gI_cpI, if_neg (by omega), gI_cpI, if_pos (by omega), gI_sI, if_neg (by omega), gI_sJ, t, show 0 + (j - 0) = j by omega]
  · rw [gI_cpI, if_pos (by omega), gI_cpI, if_neg (by omega), gI_sI, if_neg (by omega), gI_sJ, t, show 0 + (j - 0) = j by omega]
  · rw [gI_cpI, if_neg (by omega), gI_cpI, if_neg (by omega), gI_sI, if_neg (by omega), gI_sJ]
  · rw [gJ_cpI, gJ_cpI, gJ_sI, gJ_sJ, if_neg (by omega)]
theorem cp_step {m : Mem} {a b t f : Nat} {kx : Mem → Option Mem} (h : a + 16 ≤ b ∨ b + 16 ≤ a) (ht : t < 3) : ∃ m', PH_copyFrom_L2 a b kx (f + 1) m (nI t) = PH_copyFrom_L2 a b kx f m' (nI (t + 1)) ∧ gI m' (a + 2 + 3 * t) 1 = gI m (b + 2 + 3 * t) 1 ∧ gJ m' (a + 2 + 3 * t) 0 = gJ m (b + 2 + 3 * t) 0 ∧ (∀ j, j < 12 → gI m' (a + 2 + 3 * t + 1) j = gI m (b + 2 + 3 * t + 1) j ∧ gI m' (a + 2 + 3 * t + 2) j = gI m (b + 2 + 3 * t + 2) j) ∧ (∀ c j, c < a + 2 + 3 * t ∨ a + 2 + 3 * t + 3 ≤ c → gI m' c j = gI m c j ∧ gJ m' c j = gJ m c j) ∧ m'.2.2 = m.2.2 := by
  obtain ⟨m', e, p⟩ := copyLn (m := m) (a := a + 2 + 3 * t) (b := b + 2 + 3 * t) (by omega)
  refine ⟨m', ?_, p⟩
  rw [PH_copyFrom_L2, if_neg (by rw [k3, n_le (by omega) (by omega)]; omega), if_pos (n_in ht (by omega)), n_ixn (by omega), e, show nI t + 1 = nI (t + 1) by rw [k1, n_add]]
  rfl
/-- the parish at a is now that at b -/
def ParEq (m m' : Mem) (a b : Nat) : Prop := (∀ j, 6 ≤ j → j ≤ 12 → gI m' a j = gI m b j) ∧ (∀ j, j < 4 → gI m' (a + 15) j = gI m (b + 15) j) ∧ (∀ t, t < 3 → gI m' (a + 2 + 3 * t) 1 = gI m (b + 2 + 3 * t) 1 ∧ gJ m' (a + 2 + 3 * t) 0 = gJ m (b + 2 + 3 * t) 0 ∧ ∀ j, j < 12 → gI m' (a + 2 + 3 * t + 1) j = gI m (b + 2 + 3 * t + 1) j ∧ gI m' (a + 2 + 3 * t + 2) j = gI m (b + 2 + 3 * t + 2) j) ∧ (∀ j, j < 10 → gI m' (a + 11) j = gI m (b + 11) j ∧ gI m' (a + 12) j = gI m (b + 12) j ∧ gI m' (a + 13) j = gI m (b + 13) j ∧ gJ m' (a + 14) j = gJ m (b + 14) j)
theorem cp_lines {m : Mem} {a b : Nat} {kx : Mem → Option Mem} (h : a + 16 ≤ b ∨ b + 16 ≤ a) : ∃ m3, PH_copyFrom_L2 a b kx FU m 0 = kx m3 ∧ (∀ t, t < 3 → gI m3 (a + 2 + 3 * t) 1 = gI m (b + 2 + 3 * t) 1 ∧ gJ m3 (a + 2 + 3 * t) 0 = gJ m (b + 2 + 3 * t) 0 ∧ ∀ j, j < 12 → gI m3 (a + 2 + 3 * t + 1) j = gI m (b + 2 + 3 * t + 1) j ∧ gI m3 (a + 2 + 3 * t + 2) j = gI m (b + 2 + 3 * t + 2) j) ∧ (∀ c j, c < a + 2 ∨ a + 11 ≤ c → gI m3 c j = gI m c j ∧ gJ m3 c j = gJ m c j) ∧ m3.2.2 = m.2.2 := by
  obtain ⟨f, hf⟩ : ∃ f, FU = f + 1 + 1 + 1 + 1 := ⟨FU - 4, by unfold FU; omega⟩
  obtain ⟨m1, e1, a1, b1, c1, d1, n1⟩ := cp_step (m := m) (f := f + 1 + 1 + 1) (t := 0) (kx := kx) h (by omega)
  obtain ⟨m2, e2, a2, b2, c2, d2, n2⟩ := cp_step (m := m1) (f := f + 1 + 1) (t := 1) (kx := kx) h (by omega)
  obtain ⟨m3, e3, a3, b3, c3, d3, n3⟩ := cp_step (m := m2) (f := f + 1) (t := 2) (kx := kx) h (by omega)
  refine ⟨m3, ?_, fun t ht => ?_, fun c j hc => ?_, n3.trans (n2.trans n1)⟩
  · rw [hf, show (0 : Int32) = nI 0 from k0, e1, e2, e3, PH_copyFrom_L2, if_pos (by decide)]
  · rcases (show t = 0 ∨ t = 1 ∨ t = 2 by omega) with rfl | rfl | rfl
    · refine ⟨?_, ?_, fun j hj => ⟨?_, ?_⟩⟩
      · rw [(d3 _ _ (by omega)).1, (d2 _ _ (by omega)).1, a1]
      · rw [(d3 _ _ (by omega)).2, (d2 _ _ (by omega)).2, b1]
      · rw [(d3 _ _ (by omega)).1, (d2 _ _ (by omega)).1, (c1 j hj).1]
      · rw [(d3 _ _ (by omega)).1, (d2 _ _ (by omega)).1, (c1 j hj).2]
    · refine ⟨?_, ?_, fun j hj => ⟨?_, ?_⟩⟩
      · rw [(d3 _ _ (by omega)).1, a2, (d1 _ _ (by omega)).1]
      · rw [(d3 _ _ (by omega)).2, b2, (d1 _ _ (by omega)).2]
      · rw [(d3 _ _ (by omega)).1, (c2 j hj).1, (d1 _ _ (by omega)).1]
      · rw [(d3 _ _ (by omega)).1, (c2 j hj).2, (d1 _ _ (by omega)).1]
    · refine ⟨?_, ?_, fun j hj => ⟨?_, ?_⟩⟩
      · rw [a3, (d2 _ _ (by omega)).1, (d1 _ _ (by omega)).1]
      · rw [b3, (d2 _ _ (by omega)).2, (d1 _ _ (by omega)).2]
      · rw [(c3 j hj).1, (d2 _ _ (by omega)).1, (d1 _ _ (by omega)).1]
      · rw [(c3 j hj).2, (d2 _ _ (by omega)).1, (d1 _ _ (by omega)).1]
  · rw [(d3 c j (by omega)).1, (d2 c j (by omega)).1, (d1 c j (by omega)).1, (d3 c j (by omega)).2, (d2 c j (by omega)).2, (d1 c j (by omega)).2]
    exact ⟨rfl, rfl⟩
theorem cp_f (m : Mem) (a b j : Nat) : ∃ m', (∀ kx : Mem → Option Mem, letM (sI m a j (gI m b j)) kx = kx m') ∧ gI m' a j = gI m b j ∧ (∀ c i, ¬ (c = a ∧ i = j) → gI m' c i = gI m c i) ∧ (∀ c i, gJ m' c i = gJ m c i) ∧ m'.2.2 = m.2.2 :=
  ⟨sI m a j (gI m b j), fun _ => rfl, by rw [gI_sI, if_pos ⟨rfl, rfl⟩], fun c i q => by rw [gI_sI, if_neg q], fun _ _ => rfl, rfl⟩
theorem cp_c (m : Mem) (a b n : Nat) : ∃ m', (∀ kx : Mem → Option Mem, letM (cpI m b 0 a 0 n) kx = kx m') ∧ (∀ j, j < n → gI m' a j = gI m b j) ∧ (∀ c i, c ≠ a → gI m' c i = gI m c i) ∧ (∀ c i, gJ m' c i = gJ m c i) ∧ m'.2.2 = m.2.2 :=
  ⟨cpI m b 0 a 0 n, fun _ => rfl, fun j hj => by rw [gI_cpI, if_pos (by omega), show 0 + (j - 0) = j by omega], fun c i q => by rw [gI_cpI, if_neg (fun z => q z.1)], fun _ _ => rfl, rfl⟩
theorem cp_j (m : Mem) (a b n : Nat) : ∃ m', (∀ kx : Mem → Option Mem, letM (cpJ m b 0 a 0 n) kx = kx m') ∧ (∀ j, j < n → gJ m' a j = gJ m b j) ∧ (∀ c i, c ≠ a → gJ m' c i = gJ m c i) ∧ (∀ c i, gI m' c i = gI m c i) ∧ m'.2.2 = m.2.2 :=
  ⟨cpJ m b 0 a 0 n, fun _ => rfl, fun j hj => by rw [gJ_cpJ, if_pos (by omega), show 0 + (j - 0) = j by omega], fun c i q => by rw [gJ_cpJ, if_neg (fun z => q z.1)], fun _ _ => rfl, rfl⟩
theorem copyPar {m : Mem} {a b : Nat} (h : a + 16 ≤ b ∨ b + 16 ≤ a) : ∃ m', PH_copyFrom m a b = some m' ∧ ParEq m m' a b ∧ (∀ c j, c < a ∨ a + 16 ≤ c → gI m' c j = gI m c j ∧ gJ m' c j = gJ m c j) ∧ m'.2.2 = m.2.2 := by
  obtain ⟨m0, e0, l0, o0, n0⟩ := cp_lines (m := m) (kx := fun m1 => letM (cpI m1 (b + 11) (ixn 0) (a + 11) (ixn 0) (ixn 10)) fun m2 =>
    letM (cpI m2 (b + 12) (ixn 0) (a + 12) (ixn 0) (ixn 10)) fun m3 =>
    letM (cpI m3 (b + 13) (ixn 0) (a + 13) (ixn 0) (ixn 10)) fun m4 =>
    letM (cpJ m4 (b + 14) (ixn 0) (a + 14) (ixn 0) (ixn 10)) fun m5 =>
    letM (cpI m5 (b + 15) (ixn 0) (a + 15) (ixn 0) (ixn 4)) fun m6 =>
    letM (sI m6 a 6 (gI m6 b 6)) fun m7 =>
    letM (sI m7 a 7 (gI m7 b 7)) fun m8 =>
    letM (sI m8 a 8 (gI m8 b 8)) fun m9 =>
    letM (sI m9 a 9 (gI m9 b 9)) fun m10 =>
    letM (sI m10 a 10 (gI m10 b 10)) fun m11 =>
    letM (sI m11 a 11 (gI m11 b 11)) fun m12 =>
    letM (sI m12 a 12 (gI m12 b 12)) fun m13 =>
    some m13) h
  obtain ⟨m1, e1, v1, o1, j1, n1⟩ := cp_c m0 (a + 11) (b + 11) 10
  obtain ⟨m2, e2, v2, o2, j2, n2⟩ := cp_c m1 (a + 12) (b + 12) 10
  obtain ⟨m3, e3, v3, o3, j3, n3⟩ := cp_c m2 (a + 13) (b + 13) 10
  obtain ⟨m4, e4, v4, j4, o4, n4⟩ := cp_j m3 (a + 14) (b + 14) 10
  obtain ⟨m5, e5, v5, o5, j5, n5⟩ := cp_c m4 (a + 15) (b + 15) 4
  obtain ⟨m6, e6, v6, o6, j6, n6⟩ := cp_f m5 a b 6
  obtain ⟨m7, e7, v7, o7, j7, n7⟩ := cp_f m6 a b 7
  obtain ⟨m8, e8, v8, o8, j8, n8⟩ := cp_f m7 a b 8
  obtain ⟨m9, e9, v9, o9, j9, n9⟩ := cp_f m8 a b 9
  obtain ⟨m10, e10, v10, o10, j10, n10⟩ := cp_f m9 a b 10
  obtain ⟨m11, e11, v11, o11, j11, n11⟩ := cp_f m10 a b 11
  obtain ⟨m12, e12, v12, o12, j12, n12⟩ := cp_f m11 a b 12
  have t0 : ixn 0 = 0 := rfl
  have t10 : ixn 10 = 10 := rfl
  have t4 : ixn 4 = 4 := rfl
  have oA : ∀ c j, c ≠ a → gI m12 c j = gI m5 c j := fun c j q => by
    rw [o12 _ _ (fun z => q z.1), o11 _ _ (fun z => q z.1), o10 _ _ (fun z => q z.1), o9 _ _ (fun z => q z.1), o8 _ _ (fun z => q z.1), o7 _ _ (fun z => q z.1), o6 _ _ (fun z => q z.1)]
  have jA : ∀ c j, gJ m12 c j = gJ m4 c j := fun c j => by
    rw [j12, j11, j10, j9, j8, j7, j6, j5]
  have oB : ∀ c j, c < a + 11 ∨ a + 16 ≤ c → gI m5 c j = gI m0 c j := fun c j q => by
    rw [o5 _ _ (by omega), o4, o3 _ _ (by omega), o2 _ _ (by omega), o1 _ _ (by omega)]
  have jB : ∀ c j, c ≠ a + 14 → gJ m12 c j = gJ m0 c j := fun c j q => by
    rw [jA, j4 _ _ q, j3, j2, j1]
  refine ⟨m12, ?_, ⟨fun j h1 h2 => ?_, fun j hj => ?_, fun t ht => ?_, fun j hj => ⟨?_, ?_, ?_, ?_⟩⟩, fun c j hc => ⟨?_, ?_⟩, ?_⟩
  · unfold PH_copyFrom
    rw [e0, t0, t10, t4, e1, e2, e3, e4, e5, e6, e7, e8, e9, e10, e11, e12]
  · have ob : ∀ j, gI m5 b j = gI m b j := fun j => by rw [oB _ _ (by omega), (o0 _ _ (by omega)).1]
    rcases (show j = 6 ∨ j = 7 ∨ j = 8 ∨ j = 9 ∨ j = 10 ∨ j = 11 ∨ j = 12 by omega) with rfl | rfl | rfl | rfl | rfl | rfl | rfl
    · rw [o12 _ _ (by omega), o11 _ _ (by omega), o10 _ _ (by omega), o9 _ _ (by omega), o8 _ _ (by omega), o7 _ _ (by omega), v6, ob]
    · rw [o12 _ _ (by omega), o11 _ _ (by omega), o10 _ _ (by omega), o9 _ _ (by omega), o8 _ _ (by omega), v7, o6 _ _ (by omega), ob]
    · rw [o12 _ _ (by omega), o11 _ _ (by omega), o10 _ _ (by omega), o9 _ _ (by omega), v8, o7 _ _ (by omega), o6 _ _ (by omega), ob]
    · rw [o12 _ _ (by omega), o11 _ _ (by omega), o10 _ _ (by omega), v9, o8 _ _ (by omega), o7 _ _ (by omega), o6 _ _ (by omega), ob]
    · rw [o12 _ _ (by omega), o11 _ _ (by omega), v10, o9 _ _ (by omega), o8 _ _ (by omega), o7 _ _ (by omega), o6 _ _ (by omega), ob]
    · rw [o12 _ _ (by omega), v11, o10 _ _ (by omega), o9 _ _ (by omega), o8 _ _ (by omega), o7 _ _ (by omega), o6 _ _ (by omega), ob]
    · rw [v12, o11 _ _ (by omega), o10 _ _ (by omega), o9 _ _ (by omega), o8 _ _ (by omega), o7 _ _ (by omega), o6 _ _ (by omega), ob]
  · rw [oA _ _ (by omega), v5 j hj, o4, o3 _ _ (by omega), o2 _ _ (by omega), o1 _ _ (by omega), (o0 _ _ (by omega)).1]
  · obtain ⟨c1, c2, c3⟩ := l0 t ht
    refine ⟨?_, ?_, fun j hj => ⟨?_, ?_⟩⟩
    · rw [oA _ _ (by omega), oB _ _ (by omega), c1]
    · rw [jB _ _ (by omega), c2]
    · rw [oA _ _ (by omega), oB _ _ (by omega), (c3 j hj).1]
    · rw [oA _ _ (by omega), oB _ _ (by omega), (c3 j hj).2]
  · rw [oA _ _ (by omega), o5 _ _ (by omega), o4, o3 _ _ (by omega), o2 _ _ (by omega), v1 j hj, (o0 _ _ (by omega)).1]
  · rw [oA _ _ (by omega), o5 _ _ (by omega), o4, o3 _ _ (by omega), v2 j hj, o1 _ _ (by omega), (o0 _ _ (by omega)).1]
  · rw [oA _ _ (by omega), o5 _ _ (by omega), o4, v3 j hj, o2 _ _ (by omega), o1 _ _ (by omega), (o0 _ _ (by omega)).1]
  · rw [jA, v4 j hj, j3, j2, j1, (o0 _ _ (by omega)).2]
  · rw [oA _ _ (by omega), oB _ _ (by omega), (o0 _ _ (by omega)).1]
  · rw [jB _ _ (by omega), (o0 _ _ (by omega)).2]
  · rw [n12, n11, n10, n9, n8, n7, n6, n5, n4, n3, n2, n1, n0]

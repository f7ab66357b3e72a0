/-! the small calls -/
theorem k0 : (0 : Int32) = nI 0 := by decide
theorem k1 : (1 : Int32) = nI 1 := by decide
theorem k2 : (2 : Int32) = nI 2 := by decide
theorem k3 : (3 : Int32) = nI 3 := by decide
theorem k4 : (4 : Int32) = nI 4 := by decide
theorem k5 : (5 : Int32) = nI 5 := by decide
theorem k6 : (6 : Int32) = nI 6 := by decide
theorem k7 : (7 : Int32) = nI 7 := by decide
theorem k8 : (8 : Int32) = nI 8 := by decide
theorem k9 : (9 : Int32) = nI 9 := by decide
theorem k10 : (10 : Int32) = nI 10 := by decide
theorem k11 : (11 : Int32) = nI 11 := by decide
theorem k12 : (12 : Int32) = nI 12 := by decide
theorem k13 : (13 : Int32) = nI 13 := by decide
theorem k14 : (14 : Int32) = nI 14 := by decide
theorem k15 : (15 : Int32) = nI 15 := by decide
theorem k16 : (16 : Int32) = nI 16 := by decide
theorem k17 : (17 : Int32) = nI 17 := by decide
theorem k18 : (18 : Int32) = nI 18 := by decide
theorem k19 : (19 : Int32) = nI 19 := by decide
theorem k20 : (20 : Int32) = nI 20 := by decide
theorem k21 : (21 : Int32) = nI 21 := by decide
theorem k22 : (22 : Int32) = nI 22 := by decide
theorem k23 : (23 : Int32) = nI 23 := by decide
theorem k24 : (24 : Int32) = nI 24 := by decide
theorem k25 : (25 : Int32) = nI 25 := by decide
theorem k26 : (26 : Int32) = nI 26 := by decide
theorem k27 : (27 : Int32) = nI 27 := by decide
theorem k28 : (28 : Int32) = nI 28 := by decide
theorem k29 : (29 : Int32) = nI 29 := by decide
theorem k30 : (30 : Int32) = nI 30 := by decide
theorem k31 : (31 : Int32) = nI 31 := by decide
theorem k32 : (32 : Int32) = nI 32 := by decide
theorem k33 : (33 : Int32) = nI 33 := by decide
theorem k34 : (34 : Int32) = nI 34 := by decide
theorem k35 : (35 : Int32) = nI 35 := by decide
theorem k36 : (36 : Int32) = nI 36 := by decide
theorem k37 : (37 : Int32) = nI 37 := by decide
theorem k38 : (38 : Int32) = nI 38 := by decide
theorem k39 : (39 : Int32) = nI 39 := by decide
theorem k40 : (40 : Int32) = nI 40 := by decide
theorem k41 : (41 : Int32) = nI 41 := by decide
theorem k48 : (48 : Int32) = nI 48 := by decide
theorem k57 : (57 : Int32) = nI 57 := by decide
theorem k59 : (59 : Int32) = nI 59 := by decide
theorem k73 : (73 : Int32) = nI 73 := by decide
theorem k97 : (97 : Int32) = nI 97 := by decide
theorem k99 : (99 : Int32) = nI 99 := by decide
theorem k116 : (116 : Int32) = nI 116 := by decide
theorem k122 : (122 : Int32) = nI 122 := by decide
theorem k255 : (255 : Int32) = nI 255 := by decide
theorem k300 : (300 : Int32) = nI 300 := by decide
theorem k400 : (400 : Int32) = nI 400 := by decide
theorem k576 : (576 : Int32) = nI 576 := by decide
theorem k584 : (584 : Int32) = nI 584 := by decide
theorem k900 : (900 : Int32) = nI 900 := by decide
theorem k928 : (928 : Int32) = nI 928 := by decide
theorem k940 : (940 : Int32) = nI 940 := by decide
theorem k999 : (999 : Int32) = nI 999 := by decide
theorem k1000 : (1000 : Int32) = nI 1000 := by decide
theorem k1001 : (1001 : Int32) = nI 1001 := by decide
theorem spl (x : Int32) (n : Nat) (hn : n < 2147483648) : x < 0 ∨ (¬ x < 0 ∧ nI n ≤ x) ∨ ∃ k, k < n ∧ x = nI k := by
  by_cases h1 : x < 0
  · exact Or.inl h1
  · by_cases h2 : nI n ≤ x
    · exact Or.inr (Or.inl ⟨h1, h2⟩)
    · refine Or.inr (Or.inr ?_)
      have h3 : (0 : Int32).toInt = 0 := rfl
      rw [Int32.lt_iff_toInt_lt, h3] at h1
      rw [Int32.le_iff_toInt_le, n_toInt hn] at h2
      refine ⟨ixn x, ?_, ?_⟩
      · show x.toInt.toNat < n; omega
      · exact (show isN x n from ⟨by omega, by omega⟩).eq

theorem fr0 {m : Mem} : Frm Lsc [] m (sI m 133 0 0) := Frm.sI rfl rfl
theorem op_fault {m : Mem} (h : Inv m) : ∃ m2, RM_fault m = some (OH_fault m, m2) ∧ Inv m2 := by
  refine ⟨sI m 133 0 0, ?_, inv_frame fr0 h⟩
  simp [RM_fault, OH_fault, letM, gI_sI, h.2.2.2.2.2.2.1.1]
theorem op_wrong {m : Mem} (h : Inv m) : ∃ m2, RM_wrong m = some (OH_wrong m, m2) ∧ Inv m2 := by
  refine ⟨sI m 133 0 0, ?_, inv_frame fr0 h⟩
  simp [RM_wrong, OH_wrong, letM, gI_sI, h.2.2.2.2.2.2.1.2.1]
theorem op_ways {m : Mem} (h : Inv m) : ∃ m2, RM_ways m = some (OH_ways m, m2) ∧ Inv m2 := by
  refine ⟨sI m 133 0 0, ?_, inv_frame fr0 h⟩
  simp [RM_ways, OH_ways, letM, gI_sI, h.2.2.2.2.2.2.1.2.2.2.2.2.1]
theorem in_of {x : Int32} {n : Nat} (h1 : ¬ x < 0) (h2 : x < nI n) (hn : n < 2147483648) : ∃ k, k < n ∧ x = nI k := by
  rw [Int32.lt_iff_toInt_lt] at h1 h2
  rw [n_toInt hn] at h2
  have h3 : (0 : Int32).toInt = 0 := rfl
  rw [h3] at h1
  refine ⟨ixn x, ?_, ?_⟩
  · show x.toInt.toNat < n; omega
  · exact (show isN x n from ⟨by omega, by omega⟩).eq
theorem isIn_eq {x a b : Int32} : RM_isIn x a b = if a ≤ x ∧ x ≤ b then 1 else 0 := by
  unfold RM_isIn
  by_cases h1 : x < a
  · rw [if_pos h1, if_neg (fun q => by have := q.1; rw [Int32.le_iff_toInt_le] at this; rw [Int32.lt_iff_toInt_lt] at h1; omega)]
  · rw [if_neg h1]
    by_cases h2 : b < x
    · rw [if_pos h2, if_neg (fun q => by have := q.2; rw [Int32.le_iff_toInt_le] at this; rw [Int32.lt_iff_toInt_lt] at h2; omega)]
    · rw [if_neg h2, if_pos ⟨Int32.not_lt.mp h1, Int32.not_lt.mp h2⟩]
/-- within 0 .. n - 1, as the reference asks it -/
theorem isIn_n {x : Int32} {n : Nat} (hn : n < 2147483647) : (RM_isIn x 0 (nI n) = 0 ∧ (x < 0 ∨ nI n < x)) ∨ (RM_isIn x 0 (nI n) = 1 ∧ ∃ k, k ≤ n ∧ x = nI k) := by
  rw [isIn_eq]
  by_cases h1 : x < 0
  · exact Or.inl ⟨if_neg (fun q => absurd h1 (Int32.not_lt.mpr q.1)), Or.inl h1⟩
  · by_cases h2 : nI n < x
    · exact Or.inl ⟨if_neg (fun q => absurd h2 (Int32.not_lt.mpr q.2)), Or.inr h2⟩
    · refine Or.inr ⟨if_pos ⟨Int32.not_lt.mp h1, Int32.not_lt.mp h2⟩, ?_⟩
      obtain ⟨k, hk, e⟩ := in_of (n := n + 1) h1 (by
        rw [Int32.lt_iff_toInt_lt] at *
        rw [n_toInt (by omega)] at *
        omega) (by omega)
      exact ⟨k, by omega, e⟩
theorem op_count {m : Mem} (h : Inv m) (x : Int32) : ∃ m2, RM_count m x = some (OH_count m x, m2) ∧ Inv m2 := by
  refine ⟨sI m 133 0 0, ?_, inv_frame fr0 h⟩
  obtain ⟨-, hT, ⟨h1, h2, h3, h4, h5, h6, h7, -⟩, -⟩ := h
  have e7 : (7 : Int32) = nI 7 := rfl
  simp only [RM_count, letM]
  rcases isIn_n (x := x) (n := 6) (by omega) with ⟨e, hx⟩ | ⟨e, k, hk, rfl⟩
  · rw [show (6 : Int32) = nI 6 from rfl, e]
    by_cases h8 : x = 7
    · subst h8
      simp [OH_count, gI_sI, hT.1]
    · rw [if_neg h8, if_pos rfl]
      have hne : ∀ k, k ≤ 6 → x ≠ nI k := by
        intro k hk e2
        subst e2
        rcases hx with hx | hx
        · rw [show (0 : Int32) = nI 0 from rfl, n_lt (by omega) (by omega)] at hx; omega
        · rw [n_lt (by omega) (by omega)] at hx; omega
      unfold OH_count
      rw [if_neg (show ¬ x = 0 from hne 0 (by omega)), if_neg (show ¬ x = 1 from hne 1 (by omega)), if_neg (show ¬ x = 2 from hne 2 (by omega)), if_neg (show ¬ x = 3 from hne 3 (by omega)), if_neg (show ¬ x = 4 from hne 4 (by omega)), if_neg (show ¬ x = 5 from hne 5 (by omega)), if_neg (show ¬ x = 6 from hne 6 (by omega)), if_neg h8]
  · rw [show (6 : Int32) = nI 6 from rfl, e, if_neg (by rw [e7, n_eq (by omega) (by omega)]; omega), if_neg (by decide), if_pos (n_in (by omega) (by omega)), n_ixn (by omega)]
    rcases (show k = 0 ∨ k = 1 ∨ k = 2 ∨ k = 3 ∨ k = 4 ∨ k = 5 ∨ k = 6 by omega) with rfl | rfl | rfl | rfl | rfl | rfl | rfl
    · simp [OH_count, gI_sI, h1, nI]
    · simp [OH_count, gI_sI, h2, nI]
    · simp [OH_count, gI_sI, h3, nI]
    · simp [OH_count, gI_sI, h4, nI]
    · simp [OH_count, gI_sI, h5, nI]
    · simp [OH_count, gI_sI, h6, nI]
    · simp [OH_count, gI_sI, h7, nI]

theorem isIn_lo {x a b : Int32} (h : x < a) : RM_isIn x a b = 0 := by unfold RM_isIn; rw [if_pos h]
theorem isIn_hi {x a : Int32} {n : Nat} (hn : n < 2147483647) (h : nI (n + 1) ≤ x) : RM_isIn x a (nI n) = 0 := by
  unfold RM_isIn
  by_cases h1 : x < a
  · rw [if_pos h1]
  · rw [if_neg h1, if_pos]
    rw [Int32.le_iff_toInt_le, n_toInt (by omega)] at h
    rw [Int32.lt_iff_toInt_lt, n_toInt (by omega)]
    omega
theorem isIn_in {a k b : Nat} (h1 : a ≤ k) (h2 : k ≤ b) (hb : b < 2147483648) : RM_isIn (nI k) (nI a) (nI b) = 1 := by
  unfold RM_isIn
  rw [if_neg (by rw [n_lt (by omega) (by omega)]; omega), if_neg (by rw [n_lt (by omega) (by omega)]; omega)]
theorem isIn_out {a k b : Nat} (h : ¬ (a ≤ k ∧ k ≤ b)) (h1 : a < 2147483648) (h2 : k < 2147483648) (h3 : b < 2147483648) : RM_isIn (nI k) (nI a) (nI b) = 0 := by
  unfold RM_isIn
  by_cases h4 : k < a
  · rw [if_pos (by rw [n_lt (by omega) (by omega)]; omega)]
  · rw [if_neg (by rw [n_lt (by omega) (by omega)]; omega), if_pos (by rw [n_lt (by omega) (by omega)]; omega)]
theorem one_ne : ¬ (1 : Int32) = nI 0 := by decide
theorem one_n : (1 : Int32) = nI 1 := by decide
theorem op_side {m : Mem} (h : Inv m) (x : Int32) : ∃ v m2, OH_side m x = some v ∧ RM_side m x = some (v, m2) ∧ Inv m2 := by
  obtain ⟨-, -, -, -, hs, -⟩ := id h.2.2.2.2.2.2.1
  have g0 : ∀ i, gI (sI m 133 0 (nI 0)) 154 i = gI m 154 i := fun i => by simp [gI_sI]
  have g1 : gI (sI m 133 0 (nI 0)) 133 49 = gI m 133 49 := by simp [gI_sI]
  have hI : Inv (sI m 133 0 (nI 0)) := inv_frame fr0 h
  rcases spl x 4 (by omega) with hx | ⟨hx, hx2⟩ | ⟨k, hk, rfl⟩
  · refine ⟨-1, sI m 133 0 (nI 0), by simp [OH_side, hx], ?_, hI⟩
    rw [k0] at hx
    simp only [RM_side, letM, k0, isIn_lo hx, if_pos, ite_self]
  · rw [k0] at hx
    refine ⟨-1, sI m 133 0 (nI 0), by simp only [OH_side, k0, k4]; rw [if_neg hx, if_pos hx2], ?_, hI⟩
    simp only [RM_side, letM, k0, k3, isIn_hi (n := 3) (by omega) hx2, if_pos, ite_self]
  · refine ⟨gI m 66 k, sI m 133 0 (nI 0), ?_, ?_, hI⟩
    · simp only [OH_side, k0, k4]
      rw [if_neg (by rw [n_lt (by omega) (by omega)]; omega), if_neg (by rw [n_le (by omega) (by omega)]; omega), if_pos (n_in hk (by omega)), n_ixn (by omega)]
    · simp only [RM_side, letM, k0, k3, g1]
      rw [isIn_in (Nat.zero_le _) (by omega) (by omega), if_neg one_ne, if_pos (n_in hk (by omega)), n_ixn (by omega), g0]
      rcases hs with ⟨a, b⟩ | ⟨a, b⟩
      · rw [k0] at a; rw [if_pos a, b k hk]
      · rw [if_neg (by rw [a]; decide), b k hk]
theorem op_walked {m : Mem} (h : Inv m) (x : Int32) : ∃ v m2, OH_walked m x = some v ∧ RM_walked m x = some (v, m2) ∧ Inv m2 := by
  obtain ⟨-, -, hs, -⟩ := id h.2.2.2.2.2.2.1
  have g0 : ∀ i, gI (sI m 133 0 (nI 0)) 148 i = gI m 148 i := fun i => by simp [gI_sI]
  have g1 : gI (sI m 133 0 (nI 0)) 133 36 = gI m 133 36 := by simp [gI_sI]
  have hI : Inv (sI m 133 0 (nI 0)) := inv_frame fr0 h
  rcases spl x 3 (by omega) with hx | ⟨hx, hx2⟩ | ⟨k, hk, rfl⟩
  · refine ⟨-1, sI m 133 0 (nI 0), by simp [OH_walked, hx], ?_, hI⟩
    rw [k0] at hx
    simp only [RM_walked, letM, k0, isIn_lo hx, if_pos, ite_self]
  · rw [k0] at hx
    refine ⟨-1, sI m 133 0 (nI 0), by simp only [OH_walked, k0, k3]; rw [if_neg hx, if_pos hx2], ?_, hI⟩
    simp only [RM_walked, letM, k0, k2, isIn_hi (n := 2) (by omega) hx2, if_pos, ite_self]
  · refine ⟨gI m 27 k, sI m 133 0 (nI 0), ?_, ?_, hI⟩
    · simp only [OH_walked, k0, k3]
      rw [if_neg (by rw [n_lt (by omega) (by omega)]; omega), if_neg (by rw [n_le (by omega) (by omega)]; omega), if_pos (n_in hk (by omega)), n_ixn (by omega)]
    · simp only [RM_walked, letM, k0, k2, g1]
      rw [isIn_in (Nat.zero_le _) (by omega) (by omega), if_neg one_ne, if_pos (n_in hk (by omega)), n_ixn (by omega), g0]
      rcases hs with ⟨a, b⟩ | ⟨a, b⟩
      · rw [k0] at a; rw [if_pos a, b k hk]
      · rw [if_neg (by rw [a]; decide), b k hk]
theorem op_paced {m : Mem} (h : Inv m) (x : Int32) : ∃ v m2, OH_paced m x = some v ∧ RM_paced m x = some (v, m2) ∧ Inv m2 := by
  obtain ⟨-, -, -, hs, -⟩ := id h.2.2.2.2.2.2.1
  have g0 : ∀ i, gI (sI m 133 0 (nI 0)) 155 i = gI m 155 i := fun i => by simp [gI_sI]
  have g1 : gI (sI m 133 0 (nI 0)) 133 52 = gI m 133 52 := by simp [gI_sI]
  have hI : Inv (sI m 133 0 (nI 0)) := inv_frame fr0 h
  rcases spl x 4 (by omega) with hx | ⟨hx, hx2⟩ | ⟨k, hk, rfl⟩
  · refine ⟨-1001, sI m 133 0 (nI 0), by simp [OH_paced, hx], ?_, hI⟩
    rw [k0] at hx
    simp only [RM_paced, letM, k0, isIn_lo hx, if_pos, ite_self]
  · rw [k0] at hx
    refine ⟨-1001, sI m 133 0 (nI 0), by simp only [OH_paced, k0, k4]; rw [if_neg hx, if_pos hx2], ?_, hI⟩
    simp only [RM_paced, letM, k0, k3, isIn_hi (n := 3) (by omega) hx2, if_pos, ite_self]
  · refine ⟨gI m 32 k, sI m 133 0 (nI 0), ?_, ?_, hI⟩
    · simp only [OH_paced, k0, k4]
      rw [if_neg (by rw [n_lt (by omega) (by omega)]; omega), if_neg (by rw [n_le (by omega) (by omega)]; omega), if_pos (n_in hk (by omega)), n_ixn (by omega)]
    · simp only [RM_paced, letM, k0, k3, g1]
      rw [isIn_in (Nat.zero_le _) (by omega) (by omega), if_neg one_ne, if_pos (n_in hk (by omega)), n_ixn (by omega), g0]
      rcases hs with ⟨a, b⟩ | ⟨a, b⟩
      · rw [k0] at a; rw [if_pos a, b k hk]
      · rw [if_neg (by rw [a]; decide), b k hk]
theorem n_sub {a b : Nat} (h : b ≤ a) : nI a - nI b = nI (a - b) := by rw [nI_iz, nI_iz, nI_iz, iz_sub]; congr 1; omega
theorem op_way {m : Mem} (h : Inv m) (x y : Int32) : ∃ v m2, OH_way m x y = some v ∧ RM_way m x y = some (v, m2) ∧ Inv m2 := by
  obtain ⟨-, -, -, -, -, -, hs⟩ := id h.2.2.2.2.2.2.1
  have g0 : ∀ i, gI (sI m 133 0 (nI 0)) 153 i = gI m 153 i := fun i => by simp [gI_sI]
  have g1 : gI (sI m 133 0 (nI 0)) 133 45 = gI m 133 45 := by simp [gI_sI]
  have g2 : gI (sI m 133 0 (nI 0)) 133 46 = gI m 133 46 := by simp [gI_sI]
  have hI : Inv (sI m 133 0 (nI 0)) := inv_frame fr0 h
  rw [k0] at hs
  by_cases hx0 : x < nI 0
  · refine ⟨-1, sI m 133 0 (nI 0), by simp only [OH_way, k0, if_pos hx0], ?_, hI⟩
    simp only [RM_way, letM, k0, isIn_lo hx0, if_pos, ite_self]
  rcases hs with ⟨a, b⟩ | ⟨a, b, c, d⟩
  · refine ⟨-1, sI m 133 0 (nI 0), ?_, ?_, hI⟩
    · simp only [OH_way, k0, b]
      rw [if_neg hx0, if_pos (c := nI 0 ≤ x) (Int32.not_lt.mp hx0), ite_self]
    · simp only [RM_way, letM, k0, g1, a]
      rw [if_pos (by decide)]
  · obtain ⟨f, hf, e⟩ := c.ex
    have ha : ¬ gI m 133 45 ≤ nI 0 := Int32.not_le.mpr a
    rw [e, n_ixn (by omega)] at d
    rcases spl x f (by omega) with hx | ⟨hx, hx2⟩ | ⟨k, hk, rfl⟩
    · exact absurd hx hx0
    · refine ⟨-1, sI m 133 0 (nI 0), ?_, ?_, hI⟩
      · simp only [OH_way, k0, b, e]
        rw [if_neg hx0, if_pos hx2, ite_self]
      · simp only [RM_way, letM, k0, g1, g2, e, if_neg ha]
        have : RM_isIn x (nI 0) (nI f - 1) = nI 0 := by
          rcases Nat.eq_zero_or_pos f with rfl | hp
          · unfold RM_isIn
            rw [if_neg hx0, if_pos]; · rfl
            rw [show (nI 0 - 1 : Int32) = -1 from rfl, Int32.lt_iff_toInt_lt]
            rw [Int32.lt_iff_toInt_lt, n_toInt (by omega)] at hx0
            rw [show (-1 : Int32).toInt = -1 from rfl]
            omega
          · rw [k1, n_sub hp]
            exact isIn_hi (by omega) (by rw [show f - 1 + 1 = f by omega]; exact hx2)
        rw [this, if_pos rfl]
    · rcases spl y 3 (by omega) with hy | ⟨hy, hy2⟩ | ⟨j, hj, rfl⟩
      · rw [k0] at hy
        refine ⟨-1, sI m 133 0 (nI 0), ?_, ?_, hI⟩
        · simp only [OH_way, k0, if_pos hy, ite_self]
        · simp only [RM_way, letM, k0, isIn_lo hy, if_pos, ite_self]
      · rw [k0] at hy
        refine ⟨-1, sI m 133 0 (nI 0), ?_, ?_, hI⟩
        · have : ¬ y ≤ 2 := by
            rw [Int32.le_iff_toInt_le] at *; rw [n_toInt (by omega)] at hy2; rw [show (2 : Int32).toInt = 2 from rfl]; omega
          simp only [OH_way, if_neg this, ite_self]
        · simp only [RM_way, letM, k0, k2, isIn_hi (n := 2) (by omega) hy2, if_pos, ite_self]
      · have e2 : (nI k * nI 3) + nI j = nI (3 * k + j) := by rw [n_mul, n_add, Nat.mul_comm]
        have e3 : (nI 3 * nI k) + nI j = nI (3 * k + j) := by rw [n_mul, n_add]
        have e1 : nI f - 1 = nI (f - 1) := by rw [k1, n_sub (by omega)]
        refine ⟨gI m 41 (3 * k + j), sI m 133 0 (nI 0), ?_, ?_, hI⟩
        · have c1 : ¬ (1 : Int32) < nI k := by rw [k1, n_lt (by omega) (by omega)]; omega
          simp only [OH_way, k0, k2, k3, b, e, e2, if_neg c1]
          rw [if_neg hx0, if_neg (by rw [n_le (by omega) (by omega)]; omega), if_neg (by rw [n_lt (by omega) (by omega)]; omega), if_pos (by rw [n_le (by omega) (by omega)]; omega), if_pos (n_in (by omega) (by omega)), n_ixn (by omega)]
        · simp only [RM_way, letM, k0, k2, k3, g1, g2, e, if_neg ha, e1, e3]
          rw [isIn_in (Nat.zero_le _) (by omega) (by omega), isIn_in (Nat.zero_le _) (by omega) (by omega), if_neg one_ne, if_neg one_ne, if_pos (n_in (by omega) (by omega)), n_ixn (by omega), g0, d (3 * k + j) (by omega)]

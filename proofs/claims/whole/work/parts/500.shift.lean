/-! shift -/
theorem st_loop {m : Mem} {k n : Nat} {X Y : Nat → Int} (hk : k < 3) (D : LineD m k n X Y) (x y : Int32) :
    ∀ (d i fu fu' : Nat), i + d = n → d < fu → d < fu' → (LN_staysBy_L28 m (gN m 13 + 2 + 3 * k) x y (some 1) fu (nI i) = some 0 ∧ ∀ (kx : Mem → Option (Int32 × Mem)) (m1 : Mem), (∀ j, gI m1 135 j = gI m 135 j) → RM_shift_L48 (nI k) x y kx fu' m1 (nI i) = some (0, m1)) ∨
      ((∀ j, i ≤ j → j < n → RM_isPoint (iz (X j) + x) (iz (Y j) + y) = 1) ∧ LN_staysBy_L28 m (gN m 13 + 2 + 3 * k) x y (some 1) fu (nI i) = some 1 ∧ ∀ (kx : Mem → Option (Int32 × Mem)) (m1 : Mem), (∀ j, gI m1 135 j = gI m 135 j) → RM_shift_L48 (nI k) x y kx fu' m1 (nI i) = kx m1)
  | 0, i, fu, fu', hd, hf, hf' => by
    obtain ⟨f, rfl⟩ : ∃ f, fu = f + 1 := ⟨fu - 1, by omega⟩
    obtain ⟨f', rfl⟩ : ∃ f, fu' = f + 1 := ⟨fu' - 1, by omega⟩
    have hn := D.2.1
    refine Or.inr ⟨fun j a b => by omega, ?_, fun kx m1 q => ?_⟩
    · rw [LN_staysBy_L28, D.2.2.2.2.1.1, if_pos (by rw [n_le (by omega) (by omega)]; omega)]
    · rw [RM_shift_L48, show 11 + nI k = nI (11 + k) by rw [k11, n_add], if_pos (n_in (show 11 + k < 116 by omega) (by omega)), n_ixn (by omega), q, D.2.2.1, if_pos (by rw [n_le (by omega) (by omega)]; omega)]
  | d + 1, i, fu, fu', hd, hf, hf' => by
    obtain ⟨f, rfl⟩ : ∃ f, fu = f + 1 := ⟨fu - 1, by omega⟩
    obtain ⟨f', rfl⟩ : ∃ f, fu' = f + 1 := ⟨fu' - 1, by omega⟩
    have hn := D.2.1
    obtain ⟨a1, a2, -, -⟩ := D.2.2.2.1 i (by omega)
    obtain ⟨b1, b2, -, -⟩ := D.2.2.2.2.1.2.2 i (by omega)
    have eC : LN_staysBy_L28 m (gN m 13 + 2 + 3 * k) x y (some 1) (f + 1) (nI i) = if OH_isPoint (iz (X i) + x) (iz (Y i) + y) = 0 then some 0 else LN_staysBy_L28 m (gN m 13 + 2 + 3 * k) x y (some 1) f (nI (i + 1)) := by
      rw [LN_staysBy_L28, D.2.2.2.2.1.1, if_neg (by rw [n_le (by omega) (by omega)]; omega), if_pos (n_in (by omega) (by omega)), n_ixn (by omega), b1, b2, show nI i + 1 = nI (i + 1) by rw [k1, n_add]]
    have eR : ∀ (kx : Mem → Option (Int32 × Mem)) (m1 : Mem), (∀ j, gI m1 135 j = gI m 135 j) → RM_shift_L48 (nI k) x y kx (f' + 1) m1 (nI i) = if RM_isPoint (iz (X i) + x) (iz (Y i) + y) = 0 then some (0, m1) else RM_shift_L48 (nI k) x y kx f' m1 (nI (i + 1)) := by
      intro kx m1 q
      have e1 : (14 + (24 * nI k)) + (2 * nI i) = nI (14 + 24 * k + 2 * i) := by rw [k14, k24, k2, n_mul, n_mul, n_add, n_add]
      have e2 : nI (14 + 24 * k + 2 * i) + 1 = nI (14 + 24 * k + 2 * i + 1) := by rw [k1, n_add]
      rw [RM_shift_L48, show 11 + nI k = nI (11 + k) by rw [k11, n_add], if_pos (n_in (show 11 + k < 116 by omega) (by omega)), n_ixn (by omega), q, D.2.2.1, if_neg (by rw [n_le (by omega) (by omega)]; omega), e1, e2, if_pos (n_in (by omega) (by omega)), if_pos (n_in (by omega) (by omega)), n_ixn (by omega), n_ixn (by omega), q, q, a1, a2, show nI i + 1 = nI (i + 1) by rw [k1, n_add]]
    rcases isPoint_eq (iz (X i) + x) (iz (Y i) + y) with ⟨h3, h4⟩ | ⟨a, b, ha, hb, e1, e2, h3, h4⟩
    · exact Or.inl ⟨by rw [eC, h3, if_pos rfl], fun kx m1 q => by rw [eR kx m1 q, h4, if_pos rfl]⟩
    · rcases st_loop hk D x y d (i + 1) f f' (by omega) (by omega) (by omega) with ⟨p1, p2⟩ | ⟨p1, p2, p3⟩
      · exact Or.inl ⟨by rw [eC, h3, if_neg (by decide)]; exact p1, fun kx m1 q => by rw [eR kx m1 q, h4, if_neg (by decide)]; exact p2 kx m1 q⟩
      · refine Or.inr ⟨fun j q1 q2 => ?_, by rw [eC, h3, if_neg (by decide)]; exact p2, fun kx m1 q => by rw [eR kx m1 q, h4, if_neg (by decide)]; exact p3 kx m1 q⟩
        by_cases q : j = i
        · rw [q]; exact h4
        · exact p1 j (by omega) q2
theorem pc_loop {k n p : Nat} {X Y : Nat → Int} {dx dy : Int} {kx : Mem → Option (Int32 × Mem)} (hk : k < 3) (hn : n ≤ 12) :
    ∀ (d i fu : Nat) (m : Mem), i + d = n → d < fu → gN m 13 = p → gI m (p + 2 + 3 * k) 1 = nI n → (∀ j, i ≤ j → j < n → gI m (p + 2 + 3 * k + 1) j = iz (X j) ∧ gI m (p + 2 + 3 * k + 2) j = iz (Y j)) →
      ∃ m', OH_shift_L63 (nI k) (iz dx) (iz dy) (p + 2 + 3 * k) kx fu m (nI i) = kx m' ∧ (∀ j, i ≤ j → j < n → gI m' (p + 2 + 3 * k + 1) j = iz (X j + dx) ∧ gI m' (p + 2 + 3 * k + 2) j = iz (Y j + dy)) ∧ (∀ j, j < i → gI m' (p + 2 + 3 * k + 1) j = gI m (p + 2 + 3 * k + 1) j ∧ gI m' (p + 2 + 3 * k + 2) j = gI m (p + 2 + 3 * k + 2) j) ∧ gI m' p 12 = gI m p 12 + nI d ∧ (∀ c j, ¬ (c = p ∧ j = 12) → c ≠ p + 2 + 3 * k + 1 → c ≠ p + 2 + 3 * k + 2 → gI m' c j = gI m c j) ∧ m'.2 = m.2
  | 0, i, fu, m, hd, hf, hp, hc, hX => by
    obtain ⟨f, rfl⟩ : ∃ f, fu = f + 1 := ⟨fu - 1, by omega⟩
    refine ⟨m, ?_, fun j a b => by omega, fun j _ => ⟨rfl, rfl⟩, ?_, fun _ _ _ _ _ => rfl, rfl⟩
    · rw [OH_shift_L63, hc, if_pos (by rw [n_le (by omega) (by omega)]; omega)]
    · rw [show nI 0 = 0 from k0.symm, Int32.add_zero]
  | d + 1, i, fu, m, hd, hf, hp, hc, hX => by
    obtain ⟨f, rfl⟩ : ∃ f, fu = f + 1 := ⟨fu - 1, by omega⟩
    obtain ⟨x1, x2⟩ := hX i (by omega) (by omega)
    obtain ⟨m', e, a1, a2, a3, a4, a5⟩ := pc_loop (p := p) (X := X) (Y := Y) (dx := dx) (dy := dy) (kx := kx) hk hn d (i + 1) f (sI (sI (sI m (p + 2 + 3 * k + 1) i (iz (X i + dx))) (p + 2 + 3 * k + 2) i (iz (Y i + dy))) p 12 (gI m p 12 + 1)) (by omega) (by omega) hp (by rw [gI_sI, if_neg (by omega), gI_sI, if_neg (by omega), gI_sI, if_neg (by omega)]; exact hc) (fun j q1 q2 => by
      rw [gI_sI, if_neg (by omega), gI_sI, if_neg (by omega), gI_sI, if_neg (by omega), gI_sI, if_neg (by omega), gI_sI, if_neg (by omega), gI_sI, if_neg (by omega)]
      exact hX j (by omega) q2)
    have g12 : gI (sI (sI m (p + 2 + 3 * k + 1) i (iz (X i + dx))) (p + 2 + 3 * k + 2) i (iz (Y i + dy))) p 12 = gI m p 12 := by rw [gI_sI, if_neg (by omega), gI_sI, if_neg (by omega)]
    refine ⟨m', ?_, fun j q1 q2 => ?_, fun j q => ?_, ?_, fun c j q1 q2 q3 => ?_, a5⟩
    · rw [OH_shift_L63, hc, if_neg (by rw [n_le (by omega) (by omega)]; omega), if_pos (n_in (by omega) (by omega)), n_ixn (by omega), x1, x2, iz_add, iz_add, hp, show nI i + 1 = nI (i + 1) by rw [k1, n_add]]
      simp only [PH_put, if_pos (n_in hk (by omega)), if_pos (n_in (show i < 12 by omega) (by omega)), n_ixn (show k < 2147483648 by omega), n_ixn (show i < 2147483648 by omega), letM, bM, g12]
      exact e
    · by_cases q : j = i
      · subst q
        rw [(a2 j (by omega)).1, (a2 j (by omega)).2]
        refine ⟨?_, ?_⟩
        · rw [gI_sI, if_neg (by omega), gI_sI, if_neg (by omega), gI_sI, if_pos ⟨rfl, rfl⟩]
        · rw [gI_sI, if_neg (by omega), gI_sI, if_pos ⟨rfl, rfl⟩]
      · exact a1 j (by omega) q2
    · rw [(a2 j (by omega)).1, (a2 j (by omega)).2]
      refine ⟨?_, ?_⟩
      · rw [gI_sI, if_neg (by omega), gI_sI, if_neg (by omega), gI_sI, if_neg (by omega)]
      · rw [gI_sI, if_neg (by omega), gI_sI, if_neg (by omega), gI_sI, if_neg (by omega)]
    · rw [a3, gI_sI, if_pos ⟨rfl, rfl⟩, k1, Int32.add_assoc, n_add, Nat.add_comm 1 d]
    · rw [a4 c j q1 q2 q3, gI_sI, if_neg q1, gI_sI, if_neg (fun z => q3 z.1), gI_sI, if_neg (fun z => q2 z.1)]
theorem pr_loop {k n : Nat} {X Y : Nat → Int} {dx dy : Int} {kx : Mem → Option (Int32 × Mem)} (hk : k < 3) (hn : n ≤ 12) :
    ∀ (d i fu : Nat) (m : Mem), i + d = n → d < fu → gI m 135 (11 + k) = nI n → (∀ j, i ≤ j → j < n → gI m 135 (14 + 24 * k + 2 * j) = iz (X j) ∧ gI m 135 (14 + 24 * k + 2 * j + 1) = iz (Y j)) →
      ∃ m', RM_shift_L123 (nI k) (iz dx) (iz dy) kx fu m (nI i) = kx m' ∧ (∀ j, i ≤ j → j < n → gI m' 135 (14 + 24 * k + 2 * j) = iz (X j + dx) ∧ gI m' 135 (14 + 24 * k + 2 * j + 1) = iz (Y j + dy)) ∧ (∀ j, (j < 14 + 24 * k + 2 * i ∨ 14 + 24 * k + 2 * n ≤ j) → gI m' 135 j = gI m 135 j) ∧ (∀ c j, c ≠ 135 → gI m' c j = gI m c j) ∧ m'.2 = m.2
  | 0, i, fu, m, hd, hf, hc, hX => by
    obtain ⟨f, rfl⟩ : ∃ f, fu = f + 1 := ⟨fu - 1, by omega⟩
    refine ⟨m, ?_, fun j a b => by omega, fun j _ => rfl, fun _ _ _ => rfl, rfl⟩
    rw [RM_shift_L123, show 11 + nI k = nI (11 + k) by rw [k11, n_add], if_pos (n_in (show 11 + k < 116 by omega) (by omega)), n_ixn (by omega), hc, if_pos (by rw [n_le (by omega) (by omega)]; omega)]
  | d + 1, i, fu, m, hd, hf, hc, hX => by
    obtain ⟨f, rfl⟩ : ∃ f, fu = f + 1 := ⟨fu - 1, by omega⟩
    obtain ⟨x1, x2⟩ := hX i (by omega) (by omega)
    obtain ⟨m', e, a1, a2, a4, a5⟩ := pr_loop (X := X) (Y := Y) (dx := dx) (dy := dy) (kx := kx) hk hn d (i + 1) f (sI (sI m 135 (14 + 24 * k + 2 * i) (iz (X i + dx))) 135 (14 + 24 * k + 2 * i + 1) (iz (Y i + dy))) (by omega) (by omega) (by rw [gI_sI, if_neg (by omega), gI_sI, if_neg (by omega)]; exact hc) (fun j q1 q2 => by
      rw [gI_sI, if_neg (by omega), gI_sI, if_neg (by omega), gI_sI, if_neg (by omega), gI_sI, if_neg (by omega)]
      exact hX j (by omega) q2)
    have e1 : (14 + (24 * nI k)) + (2 * nI i) = nI (14 + 24 * k + 2 * i) := by rw [k14, k24, k2, n_mul, n_mul, n_add, n_add]
    have e2 : nI (14 + 24 * k + 2 * i) + 1 = nI (14 + 24 * k + 2 * i + 1) := by rw [k1, n_add]
    refine ⟨m', ?_, fun j q1 q2 => ?_, fun j q => ?_, fun c j q => ?_, a5⟩
    · rw [RM_shift_L123, show 11 + nI k = nI (11 + k) by rw [k11, n_add], if_pos (n_in (show 11 + k < 116 by omega) (by omega)), n_ixn (by omega), hc, if_neg (by rw [n_le (by omega) (by omega)]; omega), e1, e2, if_pos (n_in (by omega) (by omega)), if_pos (n_in (by omega) (by omega)), n_ixn (by omega), n_ixn (by omega), x1, x2, iz_add, iz_add, puts_eq hk (by omega), show nI i + 1 = nI (i + 1) by rw [k1, n_add]]
      exact e
    · by_cases q : j = i
      · subst q
        rw [a2 _ (by omega), a2 _ (by omega), gI_sI, if_neg (by omega), gI_sI, if_pos ⟨rfl, rfl⟩, gI_sI, if_pos ⟨rfl, rfl⟩]
        exact ⟨rfl, rfl⟩
      · exact a1 j (by omega) q2
    · rw [a2 j (by omega), gI_sI, if_neg (by omega), gI_sI, if_neg (by omega)]
    · rw [a4 c j q, gI_sI, if_neg (fun z => q z.1), gI_sI, if_neg (fun z => q z.1)]
theorem op_shift {m : Mem} (h : Inv m) (x y z : Int32) : ∃ v m1 m2, OH_shift m x y z = some (v, m1) ∧ RM_shift m1 x y z = some (v, m2) ∧ Inv m2 := by
  have hI : Inv (sI m 133 0 0) := inv_frame fr0 h
  have g0 : ∀ j, gI (sI m 133 0 0) 135 j = gI m 135 j := fun j => by rw [gI_sI, if_neg (by omega)]
  rcases line_cases h x with ⟨h1, h2⟩ | ⟨k, hk, hk2, rfl, h1, h2⟩
  · refine ⟨0, m, sI m 133 0 0, by rw [OH_shift, h1, if_pos rfl], ?_, hI⟩
    simp only [RM_shift, letM, h2 _ (g0 0), bI, if_pos]
  · obtain ⟨n, X, Y, D⟩ := lineD h hk2
    have hn := D.2.1
    by_cases hz : y = 0 ∧ z = 0
    · refine ⟨0, m, sI m 133 0 0, by rw [OH_shift, h1, if_neg (by decide), if_pos hz.1, if_pos hz.2], ?_, hI⟩
      simp only [RM_shift, letM, h2 _ (g0 0), bI]
      rw [if_neg (by decide), if_pos hz.1, if_pos hz.2]
    · have eO : OH_shift m (nI k) y z = OH_shift_J19 m (nI k) y z := by
        rw [OH_shift, h1, if_neg (by decide)]
        by_cases q : y = 0
        · rw [if_pos q, if_neg (fun w => hz ⟨q, w⟩)]
        · rw [if_neg q]
      have eR : ∀ m1, gI (sI m1 133 0 0) 135 0 = gI m 135 0 → RM_shift m1 (nI k) y z = RM_shift_J21 (sI m1 133 0 0) (nI k) y z := by
        intro m1 q0
        simp only [RM_shift, letM, h2 _ q0, bI]
        rw [if_neg (by decide)]
        by_cases q : y = 0
        · rw [if_pos q, if_neg (fun w => hz ⟨q, w⟩)]
        · rw [if_neg q]
      have c20 : (20 : Int32).toInt = 20 := by decide
      have cm20 : (-20 : Int32).toInt = -20 := by decide
      by_cases hr : bd 20 y.toInt ∧ bd 20 z.toInt
      · have s1 : LN_staysBy m (gN m 13 + 2 + 3 * k) y z = LN_staysBy_L28 m (gN m 13 + 2 + 3 * k) y z (some 1) FU 0 := by
          rw [LN_staysBy, if_neg (by rw [Int32.lt_iff_toInt_lt]; omega), if_neg (by rw [Int32.lt_iff_toInt_lt]; omega), if_neg (by rw [Int32.lt_iff_toInt_lt]; omega), if_pos (by rw [Int32.le_iff_toInt_le]; omega)]
        have s2 : RM_isIn y (-20) 20 = 1 := by rw [isIn_eq, if_pos (by rw [Int32.le_iff_toInt_le, Int32.le_iff_toInt_le]; omega)]
        have s3 : RM_isIn z (-20) 20 = 1 := by rw [isIn_eq, if_pos (by rw [Int32.le_iff_toInt_le, Int32.le_iff_toInt_le]; omega)]
        have ey : y = iz y.toInt := (iz_of y).symm
        have ez : z = iz z.toInt := (iz_of z).symm
        rcases st_loop hk D y z n 0 FU FU (by omega) (by unfold FU; omega) (by unfold FU; omega) with ⟨t1, t2⟩ | ⟨t0, t1, t2⟩
        · rw [show nI 0 = 0 from k0.symm] at t1 t2
          refine ⟨0, m, sI m 133 0 0, ?_, ?_, hI⟩
          · rw [eO, OH_shift_J19, if_pos (n_in hk (by omega)), n_ixn (by omega), s1, t1]
            simp only [bI, if_pos]
          · rw [eR m (g0 0), RM_shift_J21, s2, s3, if_neg (by decide), if_neg (by decide), t2 _ _ g0]
        · rw [show nI 0 = 0 from k0.symm] at t1 t2
          have hp : gN m 13 = 101 ∨ gN m 13 = 117 := by rcases h.1 with q | q <;> omega
          obtain ⟨u, hu, u40, u31⟩ := undo_n h
          obtain ⟨mc, ec, c1, c2, c3, c4, Fc⟩ := keepC hu (show 68 ≤ gN m 13 by omega) u31
          have Nc : gN mc 13 = gN m 13 := Fc.N 13
          have Fc0 : ∀ d j, d ≠ 4 → ¬ (d = 3 ∧ j = 1) → gI mc d j = gI m d j ∧ gJ mc d j = gJ m d j := fun d j a1 a2 => by
            apply Fc.1 d j _ (fun _ q => by cases q)
            unfold wL
            simp
            omega
          obtain ⟨mp, ep, x1, -, x3, x4, x5⟩ := pc_loop (p := gN m 13) (X := X) (Y := Y) (dx := y.toInt) (dy := z.toInt) (kx := fun m9 => some (1, m9)) hk hn n 0 FU mc (by omega) (by unfold FU; omega) Nc (by rw [(Fc0 _ _ (by omega) (by omega)).1]; exact D.2.2.2.2.1.1) (fun j _ hj => by
            rw [(Fc0 _ _ (by omega) (by omega)).1, (Fc0 _ _ (by omega) (by omega)).1]
            exact ⟨(D.2.2.2.2.1.2.2 j hj).1, (D.2.2.2.2.1.2.2 j hj).2.1⟩)
          rw [show nI 0 = 0 from k0.symm, ← ey, ← ez] at ep
          have eO2 : OH_shift m (nI k) y z = some (1, mp) := by
            rw [eO, OH_shift_J19, if_pos (n_in hk (by omega)), n_ixn (by omega), s1, t1]
            simp only [bI]
            rw [if_neg (by decide), ec]
            simp only [bM]
            rw [Nc]
            exact ep
          have f1 : ∀ j, gI (sI mp 133 0 0) 135 j = gI m 135 j := fun j => by rw [gI_sI, if_neg (by omega), x4 _ _ (by omega) (by omega) (by omega), (Fc0 _ _ (by omega) (by omega)).1]
          have f2 : ∀ j, gI (sI mp 133 0 0) 151 j = gI m 151 j := fun j => by rw [gI_sI, if_neg (by omega), x4 _ _ (by omega) (by omega) (by omega), (Fc0 _ _ (by omega) (by omega)).1]
          have f3 : gI (sI mp 133 0 0) 133 40 = nI u := by rw [gI_sI, if_neg (by omega), x4 _ _ (by omega) (by omega) (by omega), (Fc0 _ _ (by omega) (by omega)).1, u40]
          obtain ⟨mr, er, r1', r2', r3', Fr⟩ := keepR hu f3
          have Fr0 : ∀ d j, d ≠ 151 → ¬ (d = 133 ∧ j = 40) → gI mr d j = gI (sI mp 133 0 0) d j ∧ gJ mr d j = gJ (sI mp 133 0 0) d j := fun d j a1 a2 => by
            apply Fr.1 d j _ (fun _ q => by cases q)
            unfold wL
            simp
            omega
          have r6 : ∀ j, gI mr 135 j = gI m 135 j := fun j => by rw [(Fr0 _ _ (by omega) (by omega)).1, f1]
          obtain ⟨ms, es, y1, y2, y4, y5⟩ := pr_loop (X := X) (Y := Y) (dx := y.toInt) (dy := z.toInt) (kx := fun m4 => if inb 6 116 then (if inb (11 + nI k) 116 then (letM (sI m4 135 (ixn 6) ((gI m4 135 (ixn 6)) + (gI m4 135 (ixn (11 + nI k))))) fun m7 => some (1, m7)) else none) else none) hk hn n 0 FU mr (by omega) (by unfold FU; omega) (by rw [r6]; exact D.2.2.1) (fun j _ hj => by
            rw [r6, r6]
            exact ⟨(D.2.2.2.1 j hj).1, (D.2.2.2.1 j hj).2.1⟩)
          rw [show nI 0 = 0 from k0.symm, ← ey, ← ez] at es
          have s6 : gI ms 135 6 = gI m 135 6 := by rw [y2 _ (by omega), r6]
          have s11 : gI ms 135 (11 + k) = nI n := by rw [y2 _ (by omega), r6]; exact D.2.2.1
          have eR2 : RM_shift mp (nI k) y z = some (1, sI ms 135 6 (gI m 135 6 + nI n)) := by
            rw [eR mp (f1 0), RM_shift_J21, s2, s3, if_neg (by decide), if_neg (by decide), t2 _ _ f1, er]
            simp only [bM]
            rw [es, if_pos (by decide), show 11 + nI k = nI (11 + k) by rw [k11, n_add], if_pos (n_in (by omega) (by omega)), n_ixn (by omega), show ixn 6 = 6 from rfl, s6, s11]
            rfl
          have MI : ∀ d j, d ≠ 135 → gI (sI ms 135 6 (gI m 135 6 + nI n)) d j = gI mr d j := fun d j a1 => by rw [gI_sI, if_neg (fun z => a1 z.1), y4 d j a1]
          have low : ∀ d j, d < 100 → gI (sI ms 135 6 (gI m 135 6 + nI n)) d j = gI mc d j := fun d j hd => by rw [MI d j (by omega), (Fr0 d j (by omega) (by omega)).1, gI_sI, if_neg (by omega), x4 d j (by omega) (by omega) (by omega)]
          refine ⟨1, mp, _, eO2, eR2, inv_change (X' := fun i => X i + y.toInt) (Y' := fun i => Y i + z.toInt) h hu u40 hk hk2 D ?_ ?_ ?_ ?_ ?_ ?_ ?_ ?_ ?_⟩
          · refine ⟨by rw [low _ _ (by omega)]; exact c1, fun v hv s hs => by rw [low _ _ (by omega)]; exact c2 v hv s hs, by rw [low _ _ (by omega)]; exact c3, fun t ht j hj => by rw [low _ _ (by omega), low _ _ (by omega)]; exact c4 t ht j hj, by rw [MI _ _ (by omega)]; exact r1', fun v hv s hs => by rw [MI _ _ (by omega), r2' v hv s hs, f2], fun s hs => by rw [MI _ _ (by omega), r3' s hs, f1]⟩
          · have e1 : ms.2.2 = mr.2.2 := by rw [y5]
            have e2 : mp.2.2 = mc.2.2 := by rw [x5]
            exact e1.trans (Fr.2.trans (e2.trans Fc.2))
          · intro d j a1 a2 a3 a4 a5 a6 a7 a8 a9
            have a0 : ¬ (d = 133 ∧ j = 0) := by rintro ⟨rfl, rfl⟩; exact absurd a1 (by decide)
            rw [MI d j a4, (Fr0 d j a3 a6).1, gI_sI, if_neg a0, x4 d j a7 a8 a9, (Fc0 d j a2 a5).1]
          · intro d j a1 a2 a3 a4 a5
            have e1 : gJ ms d j = gJ mr d j := by unfold gJ; rw [y5]
            have e2 : gJ mp d j = gJ mc d j := by unfold gJ; rw [x5]
            rw [gJ_sI, e1, (Fr0 d j a3 (by omega)).2, gJ_sI, e2, (Fc0 d j a2 (by omega)).2]
          · rw [MI _ _ (by omega), (Fr0 _ _ (by omega) (by omega)).1, gI_sI, if_neg (by omega), x3, gI_sI, if_pos ⟨rfl, rfl⟩, (Fc0 _ _ (by omega) (by omega)).1]
            congr 1
            exact h.2.2.1.2.2.2.2.2.2.1
          · intro j a1 a2
            rw [gI_sI, if_neg (by omega), y2 j (by omega), r6]
          · intro t ht
            refine ⟨?_, ?_, ?_, ?_⟩
            · rw [gI_sI, if_neg (by omega)]; exact (y1 t (by omega) ht).1
            · rw [gI_sI, if_neg (by omega)]; exact (y1 t (by omega) ht).2
            · rw [MI _ _ (by omega), (Fr0 _ _ (by omega) (by omega)).1, gI_sI, if_neg (by omega)]; exact (x1 t (by omega) ht).1
            · rw [MI _ _ (by omega), (Fr0 _ _ (by omega) (by omega)).1, gI_sI, if_neg (by omega)]; exact (x1 t (by omega) ht).2
          · intro t ht
            obtain ⟨-, -, d3, d4⟩ := D.2.2.2.1 t ht
            have ht0 := t0 t (by omega) ht
            rcases isPoint_eq (iz (X t) + y) (iz (Y t) + z) with ⟨-, q4⟩ | ⟨a, b, ha, hb, e1, e2, -, -⟩
            · rw [q4] at ht0; exact absurd ht0 (by decide)
            · rw [ey, iz_add, izn_eq (by omega) ha] at e1
              rw [ez, iz_add, izn_eq (by omega) hb] at e2
              omega
          · intro t ht q
            exact D.2.2.2.2.2 t ht ⟨by have := q.1; omega, by have := q.2; omega⟩
      · have s1 : LN_staysBy m (gN m 13 + 2 + 3 * k) y z = some 0 := by
          rw [LN_staysBy]
          by_cases q1 : y < -20
          · rw [if_pos q1]
          · rw [if_neg q1]
            by_cases q2 : 20 < y
            · rw [if_pos q2]
            · rw [if_neg q2]
              by_cases q3 : z < -20
              · rw [if_pos q3]
              · rw [if_neg q3]
                rw [Int32.lt_iff_toInt_lt] at q1 q2 q3
                rw [if_neg (by rw [Int32.le_iff_toInt_le]; omega)]
        refine ⟨0, m, sI m 133 0 0, ?_, ?_, hI⟩
        · rw [eO, OH_shift_J19, if_pos (n_in hk (by omega)), n_ixn (by omega), s1]
          simp only [bI, if_pos]
        · rw [eR m (g0 0), RM_shift_J21, isIn_eq, isIn_eq]
          by_cases q : (-20 : Int32) ≤ y ∧ y ≤ 20
          · rw [if_pos q, if_neg (by decide), if_neg (show ¬ ((-20 : Int32) ≤ z ∧ z ≤ 20) from fun q2 => by
              rw [Int32.le_iff_toInt_le, Int32.le_iff_toInt_le] at q q2
              exact hr ⟨by omega, by omega⟩), if_pos rfl]
          · rw [if_neg q, if_pos rfl]

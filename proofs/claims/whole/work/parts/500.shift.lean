/-! shift -/
theorem st_loop {m : Mem} {k n : Nat} {X Y : Nat → Int} (hk : k < 3) (D : LineD m k n X Y) (x y : Int32) :
    ∀ (d i fu fu' : Nat), i + d = n → d < fu → d < fu' → (LN_staysBy_L28 m (gN m 13 + 2 + 3 * k) x y (some 1) fu (nI i) = some 0 ∧ ∀ (kx : Mem → Option (Int32 × Mem)) (m1 : Mem), (∀ j, gI m1 135 j = gI m 135 j) → RM_shift_L48 (nI k) x y kx fu' m1 (nI i) = some (0, m1)) ∨
      ((∀ j, i ≤ j → j < n → RM_isPoint (iz (X j) + x) (iz (Y j) + y) = 1) ∧ LN_staysBy_L28 m (gN m 13 + 2 + 3 * k) x y (some 1) fu (nI i) = some 1 ∧ ∀ (kx : Mem → Option (Int32 × Mem)) (m1 : Mem), (∀ j, gI m1 135 j = gI m 135 j) → RM_shift_L48 (nI k) x y kx fu' m1 (nI i) = kx m1)
  | 0, i, fu, fu', hd, hf, hf' => by
    obtain ⟨f, rfl⟩ : ∃ f, fu = f + 1 := ⟨fu - 1, by omega⟩
    obtain ⟨f', rfl⟩ : ∃ f, fu' = f + 1 := ⟨fu' - 1, by omega⟩
    have hn := D.2.1
    refine Or.inr ⟨fun j a b => by omega, ?_, fun kx m1 q => ?_⟩
    · rw [LN_staysBy_L28, D.2.2.2.2.1.1, if_pos (by rw [n_le (by omega) (by omega)]; omega)]
    · rw [RM_shift_L48, show 11 + nI k = nI (11 + k) by rw [k11, n_add], if_pos (n_in (show 11 + k < 116 by omega) (by omega)), n_ixn (by omega), q, D.2.2.1, if_pos (by rw [n_le (by omega) (by omega)]; omega)]
  | d + 1, i, fu, fu', hd, hf, hf' => by
    obtain ⟨f, rfl⟩ : ∃ f, fu = f + 1 := ⟨fu - 1, by omega⟩
    obtain ⟨f', rfl⟩ : ∃ f, fu' = f + 1 := ⟨fu' - 1, by omega⟩
    have hn := D.2.1
    obtain ⟨a1, a2, -, -⟩ := D.2.2.2.1 i (by omega)
    obtain ⟨b1, b2, -, -⟩ := D.2.2.2.2.1.2.2 i (by omega)
    have eC : LN_staysBy_L28 m (gN m 13 + 2 + 3 * k) x y (some 1) (f + 1) (nI i) = if OH_isPoint (iz (X i) + x) (iz (Y i) + y) = 0 then some 0 else LN_staysBy_L28 m (gN m 13 + 2 + 3 * k) x y (some 1) f (nI (i + 1)) := by
      rw [LN_staysBy_L28, D.2.2.2.2.1.1, if_neg (by rw [n_le (by omega) (by omega)]; omega), if_pos (n_in (by omega) (by omega)), n_ixn (by omega), b1, b2, show nI i + 1 = nI (i + 1) by rw [k1, n_add]]
    have eR : ∀ (kx : Mem → Option (Int32 × Mem)) (m1 : Mem), (∀ j, gI m1 135 j = gI m 135 j) → RM_shift_L48 (nI k) x y kx (f' + 1) m1 (nI i) = if RM_isPoint (iz (X i) + x) (iz (Y i) + y) = 0 then some (0, m1) else RM_shift_L48 (nI k) x y kx f' m1 (nI (i + 1)) := by
      intro kx m1 q
      have e1 : (14 + (24 * nI k)) + (2 * nI i) = nI (14 + 24 * k + 2 * i) := by rw [k14, k24, k2, n_mul, n_mul, n_add, n_add]
      have e2 : nI (14 + 24 * k + 2 * i) + 1 = nI (14 + 24 * k + 2 * i + 1) := by rw [k1, n_add]
      rw [RM_shift_L48, show 11 + nI k = nI (11 + k) by rw [k11, n_add], if_pos (n_in (show 11 + k < 116 by omega) (by omega)), n_ixn (by omega), q, D.2.2.1, if_neg (by rw [n_le (by omega) (by omega)]; omega), e1, e2, if_pos (n_in (by omega) (by omega)), if_pos (n_in (by omega) (by omega)), n_ixn (by omega), n_ixn (by omega), q, q, a1, a2, show nI i + 1 = nI (i + 1) by rw [k1, n_add]]
    rcases isPoint_eq (iz (X i) + x) (iz (Y i) + y) with ⟨h3, h4⟩ | ⟨a, b, ha, hb, e1, e2, h3, h4⟩
    · exact Or.inl ⟨by rw [eC, h3, if_pos rfl], fun kx m1 q => by rw [eR kx m1 q, h4, if_pos rfl]⟩
    · rcases st_loop hk D x y d (i + 1) f f' (by omega) (by omega) (by omega) with ⟨p1, p2⟩ | ⟨p1, p2, p3⟩
      · exact Or.inl ⟨by rw [eC, h3, if_neg (by decide)]; exact p1, fun kx m1 q => by rw [eR kx m1 q, h4, if_neg (by decide)]; exact p2 kx m1 q⟩
      · refine Or.inr ⟨fun j q1 q2 => ?_, by rw [eC, h3, if_neg (by decide)]; exact p2, fun kx m1 q => by rw [eR kx m1 q, h4, if_neg (by decide)]; exact p3 kx m1 q⟩
        by_cases q : j = i
        · rw [q]; exact h4
        · exact p1 j (by omega) q2
theorem pc_loop {k n p : Nat} {X Y : Nat → Int} {dx dy : Int} {kx : Mem → Option (Int32 × Mem)} (hk : k < 3) (hn : n ≤ 12) :
    ∀ (d i fu : Nat) (m : Mem), i + d = n → d < fu → gN m 13 = p → gI m (p + 2 + 3 * k) 1 = nI n → (∀ j, i ≤ j → j < n → gI m (p + 2 + 3 * k + 1) j = iz (X j) ∧ gI m (p + 2 + 3 * k + 2) j = iz (Y j)) →
      ∃ m', OH_shift_L63 (nI k) (iz dx) (iz dy) (p + 2 + 3 * k) kx fu m (nI i) = kx m' ∧ (∀ j, i ≤ j → j < n → gI m' (p + 2 + 3 * k + 1) j = iz (X j + dx) ∧ gI m' (p + 2 + 3 * k + 2) j = iz (Y j + dy)) ∧ (∀ j, j < i → gI m' (p + 2 + 3 * k + 1) j = gI m (p + 2 + 3 * k + 1) j ∧ gI m' (p + 2 + 3 * k + 2) j = gI m (p + 2 + 3 * k + 2) j) ∧ gI m' p 12 = gI m p 12 + nI d ∧ (∀ c j, ¬ (c = p ∧ j = 12) → c ≠ p + 2 + 3 * k + 1 → c ≠ p + 2 + 3 * k + 2 → gI m' c j = gI m c j) ∧ m'.2 = m.2
  | 0, i, fu, m, hd, hf, hp, hc, hX => by
    obtain ⟨f, rfl⟩ : ∃ f, fu = f + 1 := ⟨fu - 1, by omega⟩
    refine ⟨m, ?_, fun j a b => by omega, fun j _ => ⟨rfl, rfl⟩, ?_, fun _ _ _ _ _ => rfl, rfl⟩
    · rw [OH_shift_L63, hc, if_pos (by rw [n_le (by omega) (by omega)]; omega)]
    · rw [show nI 0 = 0 from k0.symm, Int32.add_zero]
  | d + 1, i, fu, m, hd, hf, hp, hc, hX => by
    obtain ⟨f, rfl⟩ : ∃ f, fu = f + 1 := ⟨fu - 1, by omega⟩
    obtain ⟨x1, x2⟩ := hX i (by omega) (by omega)
    obtain ⟨m', e, a1, a2, a3, a4, a5⟩ := pc_loop (p := p) (X := X) (Y := Y) (dx := dx) (dy := dy) (kx := kx) hk hn d (i + 1) f (sI (sI (sI m (p + 2 + 3 * k + 1) i (iz (X i + dx))) (p + 2 + 3 * k + 2) i (iz (Y i + dy))) p 12 (gI m p 12 + 1)) (by omega) (by omega) hp (by rw [gI_sI, if_neg (by omega), gI_sI, if_neg (by omega), gI_sI, if_neg (by omega)]; exact hc) (fun j q1 q2 => by
      rw [gI_sI, if_neg (by omega), gI_sI, if_neg (by omega), gI_sI, if_neg (by omega), gI_sI, if_neg (by omega), gI_sI, if_neg (by omega), gI_sI, if_neg (by omega)]
      exact hX j (by omega) q2)
    have g12 : gI (sI (sI m (p + 2 + 3 * k + 1) i (iz (X i + dx))) (p + 2 + 3 * k + 2) i (iz (Y i + dy))) p 12 = gI m p 12 := by rw [gI_sI, if_neg (by omega), gI_sI, if_neg (by omega)]
    refine ⟨m', ?_, fun j q1 q2 => ?_, fun j q => ?_, ?_, fun c j q1 q2 q3 => ?_, a5⟩
    · rw [OH_shift_L63, hc, if_neg (by rw [n_le (by omega) (by omega)]; omega), if_pos (n_in (by omega) (by omega)), n_ixn (by omega), x1, x2, iz_add, iz_add, hp, show nI i + 1 = nI (i + 1) by rw [k1, n_add]]
      simp only [PH_put, if_pos (n_in hk (by omega)), if_pos (n_in (show i < 12 by omega) (by omega)), n_ixn (show k < 2147483648 by omega), n_ixn (show i < 2147483648 by omega), letM, bM, g12]
      exact e
    · by_cases q : j = i
      · subst q
        rw [(a2 j (by omega)).1, (a2 j (by omega)).2]
        refine ⟨?_, ?_⟩
        · rw [gI_sI, if_neg (by omega), gI_sI, if_neg (by omega), gI_sI, if_pos ⟨rfl, rfl⟩]
        · rw [gI_sI, if_neg (by omega), gI_sI, if_pos ⟨rfl, rfl⟩]
      · exact a1 j (by omega) q2
    · rw [(a2 j (by omega)).1, (a2 j (by omega)).2]
      refine ⟨?_, ?_⟩
      · rw [gI_sI, if_neg (by omega), gI_sI, if_neg (by omega), gI_sI, if_neg (by omega)]
      · rw [gI_sI, if_neg (by omega), gI_sI, if_neg (by omega), gI_sI, if_neg (by omega)]
    · rw [a3, gI_sI, if_pos ⟨rfl, rfl⟩, k1, Int32.add_assoc, n_add, Nat.add_comm 1 d]
    · rw [a4 c j q1 q2 q3, gI_sI, if_neg q1, gI_sI, if_neg (fun z => q3 z.1), gI_sI, if_neg (fun z => q2 z.1)]
theorem pr_loop {k n : Nat} {X Y : Nat → Int} {dx dy : Int} {kx : Mem → Option (Int32 × Mem)} (hk : k < 3) (hn : n ≤ 12) :
    ∀ (d i fu : Nat) (m : Mem), i + d = n → d < fu → gI m 135 (11 + k) = nI n → (∀ j, i ≤ j → j < n → gI m 135 (14 + 24 * k + 2 * j) = iz (X j) ∧ gI m 135 (14 + 24 * k + 2 * j + 1) = iz (Y j)) →
      ∃ m', RM_shift_L123 (nI k) (iz dx) (iz dy) kx fu m (nI i) = kx m' ∧ (∀ j, i ≤ j → j < n → gI m' 135 (14 + 24 * k + 2 * j) = iz (X j + dx) ∧ gI m' 135 (14 + 24 * k + 2 * j + 1) = iz (Y j + dy)) ∧ (∀ j, (j < 14 + 24 * k + 2 * i ∨ 14 + 24 * k + 2 * n ≤ j) → gI m' 135 j = gI m 135 j) ∧ (∀ c j, c ≠ 135 → gI m' c j = gI m c j) ∧ m'.2 = m.2
  | 0, i, fu, m, hd, hf, hc, hX => by
    obtain ⟨f, rfl⟩ : ∃ f, fu = f + 1 := ⟨fu - 1, by omega⟩
    refine ⟨m, ?_, fun j a b => by omega, fun j _ => rfl, fun _ _ _ => rfl, rfl⟩
    rw [RM_shift_L123, show 11 + nI k = nI (11 + k) by rw [k11, n_add], if_pos (n_in (show 11 + k < 116 by omega) (by omega)), n_ixn (by omega), hc, if_pos (by rw [n_le (by omega) (by omega)]; omega)]
  | d + 1, i, fu, m, hd, hf, hc, hX => by
    obtain ⟨f, rfl⟩ : ∃ f, fu = f + 1 := ⟨fu - 1, by omega⟩
    obtain ⟨x1, x2⟩ := hX i (by omega) (by omega)
    obtain ⟨m', e, a1, a2, a4, a5⟩ := pr_loop (X := X) (Y := Y) (dx := dx) (dy := dy) (kx := kx) hk hn d (i + 1) f (sI (sI m 135 (14 + 24 * k + 2 * i) (iz (X i + dx))) 135 (14 + 24 * k + 2 * i + 1) (iz (Y i + dy))) (by omega) (by omega) (by rw [gI_sI, if_neg (by omega), gI_sI, if_neg (by omega)]; exact hc) (fun j q1 q2 => by
      rw [gI_sI, if_neg (by omega), gI_sI, if_neg (by omega), gI_sI, if_neg (by omega), gI_sI, if_neg (by omega)]
      exact hX j (by omega) q2)
    have e1 : (14 + (24 * nI k)) + (2 * nI i) = nI (14 + 24 * k + 2 * i) := by rw [k14, k24, k2, n_mul, n_mul, n_add, n_add]
    have e2 : nI (14 + 24 * k + 2 * i) + 1 = nI (14 + 24 * k + 2 * i + 1) := by rw [k1, n_add]
    refine ⟨m', ?_, fun j q1 q2 => ?_, fun j q => ?_, fun c j q => ?_, a5⟩
    · rw [RM_shift_L123, show 11 + nI k = nI (11 + k) by rw [k11, n_add], if_pos (n_in (show 11 + k < 116 by omega) (by omega)), n_ixn (by omega), hc, if_neg (by rw [n_le (by omega) (by omega)]; omega), e1, e2, if_pos (n_in (by omega) (by omega)), if_pos (n_in (by omega) (by omega)), n_ixn (by omega), n_ixn (by omega), x1, x2, iz_add, iz_add, puts_eq hk (by omega), show nI i + 1 = nI (i + 1) by rw [k1, n_add]]
      exact e
    · by_cases q : j = i
      · subst q
        rw [a2 _ (by omega), a2 _ (by omega), gI_sI, if_neg (by omega), gI_sI, if_pos ⟨rfl, rfl⟩, gI_sI, if_pos ⟨rfl, rfl⟩]
        exact ⟨rfl, rfl⟩
      · exact a1 j (by omega) q2
    · rw [a2 j (by omega), gI_sI, if_neg (by omega), gI_sI, if_neg (by omega)]
    · rw [a4 c j q, gI_sI, if_neg (fun z => q z.1), gI_sI, if_neg (fun z => q z.1)]

theorem b255 : ∀ i, i < 32 → 8 ≤ i → (255#32).getLsbD i = false := by decide
theorem byt24 (x : Int32) : jushr x 24 &&& 255 = Int8.toInt32 (Int32.toInt8 (Int8.toInt32 (Int32.toInt8 (jshr x 24)))) &&& 255 := by
  unfold jushr jshr
  apply Int32.toBitVec_inj.mp
  apply BitVec.eq_of_getLsbD_eq
  intro i hi
  by_cases h8 : i < 8
  · have h1 : 24 + i < 32 := by omega
    have h2 : i < 32 := by omega
    simp [BitVec.getElem_signExtend, BitVec.getLsbD_sshiftRight, BitVec.getElem_sshiftRight, h8, h1, h2]
  · simp [b255 i hi (by omega)]
theorem byt16 (x : Int32) : jushr x 16 &&& 255 = Int8.toInt32 (Int32.toInt8 (Int8.toInt32 (Int32.toInt8 (jshr x 16)))) &&& 255 := by
  unfold jushr jshr
  apply Int32.toBitVec_inj.mp
  apply BitVec.eq_of_getLsbD_eq
  intro i hi
  by_cases h8 : i < 8
  · have h1 : 16 + i < 32 := by omega
    have h2 : i < 32 := by omega
    simp [BitVec.getElem_signExtend, BitVec.getLsbD_sshiftRight, BitVec.getElem_sshiftRight, h8, h1, h2]
  · simp [b255 i hi (by omega)]
theorem byt8 (x : Int32) : jushr x 8 &&& 255 = Int8.toInt32 (Int32.toInt8 (Int8.toInt32 (Int32.toInt8 (jshr x 8)))) &&& 255 := by
  unfold jushr jshr
  apply Int32.toBitVec_inj.mp
  apply BitVec.eq_of_getLsbD_eq
  intro i hi
  by_cases h8 : i < 8
  · have h1 : 8 + i < 32 := by omega
    have h2 : i < 32 := by omega
    simp [BitVec.getElem_signExtend, BitVec.getLsbD_sshiftRight, BitVec.getElem_sshiftRight, h8, h1, h2]
  · simp [b255 i hi (by omega)]
theorem byt0 (x : Int32) : jushr x 0 &&& 255 = Int8.toInt32 (Int32.toInt8 (Int8.toInt32 (Int32.toInt8 (jshr x 0)))) &&& 255 := by
  unfold jushr jshr
  apply Int32.toBitVec_inj.mp
  apply BitVec.eq_of_getLsbD_eq
  intro i hi
  by_cases h8 : i < 8
  · have h1 : 0 + i < 32 := by omega
    have h2 : i < 32 := by omega
    simp [BitVec.getElem_signExtend, BitVec.getLsbD_sshiftRight, BitVec.getElem_sshiftRight, h8, h1, h2]
  · simp [b255 i hi (by omega)]
theorem byt {x : Int32} {j : Nat} (h : j < 4) : jushr x (nI (24 - 8 * j)) &&& 255 = Int8.toInt32 (Int32.toInt8 (Int8.toInt32 (Int32.toInt8 (jshr x (nI (24 - 8 * j)))))) &&& 255 := by
  rcases (show j = 0 ∨ j = 1 ∨ j = 2 ∨ j = 3 by omega) with rfl | rfl | rfl | rfl
  · exact byt24 x
  · exact byt16 x
  · exact byt8 x
  · exact byt0 x
theorem RD_put_st {x : Int32} {kx : Mem → Option Mem} {n s L : Nat} {m : Mem} (hs : s ≤ 24) (h : gI m 1 1 = nI L) (hL : L < 940) : RD_put_L3 x kx (n + 1) m (nI s) = RD_put_L3 x kx n (sI (sI m 2 L (jushr x (nI s) &&& 255)) 1 1 (nI (L + 1))) (nI s + (-8)) := by
  rw [RD_put_L3]
  have c1 : ¬ nI s < 0 := by rw [k0, n_lt (by omega) (by omega)]; omega
  have c2 : ¬ (940 : Int32) ≤ nI L := by rw [k940, n_le (by omega) (by omega)]; omega
  have c3 : inb (nI L) 940 := n_in hL (by omega)
  have c4 : nI L + 1 = nI (L + 1) := by rw [k1, n_add]
  simp only [if_neg c1, h, if_neg c2, if_pos c3, letM, gI_sI, n_ixn (show L < 2147483648 by omega)]
  simp [h, c4]
theorem RM_four_st {x : Int32} {kx : Mem → Option Mem} {n s L : Nat} {m : Mem} (hs : s ≤ 24) (h : gI m 133 2 = nI L) (hL : L < 940) : RM_four_L3 x kx (n + 1) m (nI s) = RM_four_L3 x kx n (sI (sI m 134 L (Int8.toInt32 (Int32.toInt8 (Int8.toInt32 (Int32.toInt8 (jshr x (nI s))))))) 133 2 (nI (L + 1))) (nI s + (-8)) := by
  rw [RM_four_L3]
  have c1 : ¬ nI s < 0 := by rw [k0, n_lt (by omega) (by omega)]; omega
  have c3 : inb (nI L) 940 := n_in hL (by omega)
  have c4 : nI L + 1 = nI (L + 1) := by rw [k1, n_add]
  simp only [if_neg c1, h, if_pos c3, letM, gI_sI, n_ixn (show L < 2147483648 by omega)]
  simp [h, c4]
theorem RD_put_eq {x : Int32} {m : Mem} {L : Nat} (h : gI m 1 1 = nI L) (hL : L + 4 ≤ 940) : ∃ m', RD_put m x = some m' ∧ gI m' 1 1 = nI (L + 4) ∧ (∀ i, gI m' 2 i = if L ≤ i ∧ i < L + 4 then jushr x (nI (24 - 8 * (i - L))) &&& 255 else gI m 2 i) := by
  refine ⟨?w, ?h1, ?h2, ?h3⟩
  case h1 =>
    rw [RD_put, show FU = 3999995 + 1 + 1 + 1 + 1 + 1 from rfl, k24, RD_put_st (L := L) (by omega) h (by omega), show nI 24 + -8 = nI 16 from by decide, RD_put_st (L := L + 1) (by omega) (by simp [gI_sI]) (by omega), show nI 16 + -8 = nI 8 from by decide, RD_put_st (L := L + 2) (by omega) (by simp [gI_sI]) (by omega), show nI 8 + -8 = nI 0 from by decide, RD_put_st (L := L + 3) (by omega) (by simp [gI_sI]) (by omega), RD_put_L3, if_pos (by decide)]
  · simp [gI_sI]
  · intro i
    simp only [gI_sI]
    rcases (show i < L ∨ i = L ∨ i = L + 1 ∨ i = L + 2 ∨ i = L + 3 ∨ L + 4 ≤ i by omega) with h1 | rfl | rfl | rfl | rfl | h1
    · rw [if_neg (c := L ≤ i ∧ i < L + 4) (by omega)]; simp [show i ≠ L by omega, show i ≠ L + 1 by omega, show i ≠ L + 2 by omega, show i ≠ L + 3 by omega]
    · simp
    · simp
    · simp
    · simp
    · rw [if_neg (c := L ≤ i ∧ i < L + 4) (by omega)]; simp [show i ≠ L by omega, show i ≠ L + 1 by omega, show i ≠ L + 2 by omega, show i ≠ L + 3 by omega]
theorem RM_four_eq {x : Int32} {m : Mem} {L : Nat} (h : gI m 133 2 = nI L) (hL : L + 4 ≤ 940) : ∃ m', RM_four m x = some m' ∧ gI m' 133 2 = nI (L + 4) ∧ (∀ i, gI m' 134 i = if L ≤ i ∧ i < L + 4 then Int8.toInt32 (Int32.toInt8 (Int8.toInt32 (Int32.toInt8 (jshr x (nI (24 - 8 * (i - L))))))) else gI m 134 i) := by
  refine ⟨?w, ?h1, ?h2, ?h3⟩
  case h1 =>
    rw [RM_four, show FU = 3999995 + 1 + 1 + 1 + 1 + 1 from rfl, k24, RM_four_st (L := L) (by omega) h (by omega), show nI 24 + -8 = nI 16 from by decide, RM_four_st (L := L + 1) (by omega) (by simp [gI_sI]) (by omega), show nI 16 + -8 = nI 8 from by decide, RM_four_st (L := L + 2) (by omega) (by simp [gI_sI]) (by omega), show nI 8 + -8 = nI 0 from by decide, RM_four_st (L := L + 3) (by omega) (by simp [gI_sI]) (by omega), RM_four_L3, if_pos (by decide)]
  · simp [gI_sI]
  · intro i
    simp only [gI_sI]
    rcases (show i < L ∨ i = L ∨ i = L + 1 ∨ i = L + 2 ∨ i = L + 3 ∨ L + 4 ≤ i by omega) with h1 | rfl | rfl | rfl | rfl | h1
    · rw [if_neg (c := L ≤ i ∧ i < L + 4) (by omega)]; simp [show i ≠ L by omega, show i ≠ L + 1 by omega, show i ≠ L + 2 by omega, show i ≠ L + 3 by omega]
    · simp
    · simp
    · simp
    · simp
    · rw [if_neg (c := L ≤ i ∧ i < L + 4) (by omega)]; simp [show i ≠ L by omega, show i ≠ L + 1 by omega, show i ≠ L + 2 by omega, show i ≠ L + 3 by omega]
theorem op_feed {m : Mem} (h : Inv m) (a b c d e : Int32) : ∃ v m1 m2, OH_feed m a b c d e = some (v, m1) ∧ RM_feed m1 a b c d e = some (v, m2) ∧ Inv m2 := by
  obtain ⟨hN, hT, hrest⟩ := id h
  obtain ⟨L, hL, eL⟩ := hT.2.1.ex
  have eC : gI m 1 1 = nI L := by rw [hT.1, eL]
  by_cases hf : L + 20 ≤ 940
  · obtain ⟨m1, p1, q1, r1⟩ := RD_put_eq (x := a) eC (by omega)
    obtain ⟨m2, p2, q2, r2⟩ := RD_put_eq (x := b) q1 (by omega)
    obtain ⟨m3, p3, q3, r3⟩ := RD_put_eq (x := c) q2 (by omega)
    obtain ⟨m4, p4, q4, r4⟩ := RD_put_eq (x := d) q3 (by omega)
    obtain ⟨m5, p5, q5, r5⟩ := RD_put_eq (x := e) q4 (by omega)
    have g : (nI L + 20 : Int32) ≤ 940 := by rw [k20, k940, n_add, n_le (by omega) (by omega)]; exact hf
    have eO : OH_feed m a b c d e = some (nI (L + 20), m5) := by
      simp only [OH_feed, eC, if_pos g, bM, p1, p2, p3, p4, p5, q5]
    have F1 : Frm W_OH_feed [] m m5 := OH_feed_fr (wL_sub rfl) m a b c d e _ eO
    have t1 : gI (sI m5 133 0 0) 133 2 = nI L := by
      rw [gI_sI, if_neg (by decide), F1.I 133 2 rfl, eL]
    obtain ⟨m6, p6, q6, r6⟩ := RM_four_eq (x := a) t1 (by omega)
    obtain ⟨m7, p7, q7, r7⟩ := RM_four_eq (x := b) q6 (by omega)
    obtain ⟨m8, p8, q8, r8⟩ := RM_four_eq (x := c) q7 (by omega)
    obtain ⟨m9, p9, q9, r9⟩ := RM_four_eq (x := d) q8 (by omega)
    obtain ⟨mm, pm, qm, rm⟩ := RM_four_eq (x := e) q9 (by omega)
    have eR : RM_feed m5 a b c d e = some (nI (L + 20), mm) := by
      simp only [RM_feed, letM, t1, if_pos g, bM, p6, p7, p8, p9, pm, qm]
    have F2 : Frm W_RM_feed [] m5 mm := RM_feed_fr (wL_sub rfl) m5 a b c d e _ eR
    refine ⟨_, _, _, eO, eR, inv_tape (L := W_OH_feed ++ W_RM_feed) ((F1.mo (wL_sub rfl)).tr (F2.mo (wL_sub rfl))) rfl ?_ h⟩
    refine ⟨?_, by rw [qm]; exact isN.of (by omega) (by omega), fun i hi => ?_⟩
    · rw [F2.I 1 1 rfl, q5, qm]
    · rw [qm, n_ixn (by omega)] at hi
      have z : ∀ i, gI (sI m5 133 0 0) 134 i = gI m 134 i := fun i => by rw [gI_sI, if_neg (by omega), F1.I 134 i rfl]
      rw [F2.I 2 i rfl, r5, r4, r3, r2, r1, rm, r9, r8, r7, r6, z]
      rcases (show i < L ∨ (L ≤ i ∧ i < L + 4) ∨ (L + 4 ≤ i ∧ i < L + 4 + 4) ∨ (L + 4 + 4 ≤ i ∧ i < L + 4 + 4 + 4) ∨ (L + 4 + 4 + 4 ≤ i ∧ i < L + 4 + 4 + 4 + 4) ∨ (L + 4 + 4 + 4 + 4 ≤ i ∧ i < L + 4 + 4 + 4 + 4 + 4) by omega) with h1 | h1 | h1 | h1 | h1 | h1
      · simp only [if_neg (show ¬ (L + 4 + 4 + 4 + 4 ≤ i ∧ i < L + 4 + 4 + 4 + 4 + 4) by omega), if_neg (show ¬ (L + 4 + 4 + 4 ≤ i ∧ i < L + 4 + 4 + 4 + 4) by omega), if_neg (show ¬ (L + 4 + 4 ≤ i ∧ i < L + 4 + 4 + 4) by omega), if_neg (show ¬ (L + 4 ≤ i ∧ i < L + 4 + 4) by omega), if_neg (show ¬ (L ≤ i ∧ i < L + 4) by omega)]
        exact hT.2.2 i (by rw [eL, n_ixn (by omega)]; exact h1)
      · simp only [if_neg (show ¬ (L + 4 + 4 + 4 + 4 ≤ i ∧ i < L + 4 + 4 + 4 + 4 + 4) by omega), if_neg (show ¬ (L + 4 + 4 + 4 ≤ i ∧ i < L + 4 + 4 + 4 + 4) by omega), if_neg (show ¬ (L + 4 + 4 ≤ i ∧ i < L + 4 + 4 + 4) by omega), if_neg (show ¬ (L + 4 ≤ i ∧ i < L + 4 + 4) by omega), if_pos h1]
        exact byt (by omega)
      · simp only [if_neg (show ¬ (L + 4 + 4 + 4 + 4 ≤ i ∧ i < L + 4 + 4 + 4 + 4 + 4) by omega), if_neg (show ¬ (L + 4 + 4 + 4 ≤ i ∧ i < L + 4 + 4 + 4 + 4) by omega), if_neg (show ¬ (L + 4 + 4 ≤ i ∧ i < L + 4 + 4 + 4) by omega), if_pos h1]
        exact byt (by omega)
      · simp only [if_neg (show ¬ (L + 4 + 4 + 4 + 4 ≤ i ∧ i < L + 4 + 4 + 4 + 4 + 4) by omega), if_neg (show ¬ (L + 4 + 4 + 4 ≤ i ∧ i < L + 4 + 4 + 4 + 4) by omega), if_pos h1]
        exact byt (by omega)
      · simp only [if_neg (show ¬ (L + 4 + 4 + 4 + 4 ≤ i ∧ i < L + 4 + 4 + 4 + 4 + 4) by omega), if_pos h1]
        exact byt (by omega)
      · simp only [if_pos h1]
        exact byt (by omega)
  · have g : ¬ (nI L + 20 : Int32) ≤ 940 := by rw [k20, k940, n_add, n_le (by omega) (by omega)]; exact hf
    refine ⟨-1, m, sI m 133 0 0, by simp only [OH_feed, eC, if_neg g], ?_, inv_frame fr0 h⟩
    have t1 : gI (sI m 133 0 0) 133 2 = nI L := by
      rw [gI_sI, if_neg (by decide), eL]
    simp only [RM_feed, letM, t1, if_neg g]

def Ltp : List (Nat × Nat) := (1, 1) :: (133, 2) :: (2, 999999) :: (134, 999999) :: Lsc
theorem ltp_par {p d k : Nat} (hp : p = 68 ∨ p = 84 ∨ p = 101 ∨ p = 117) (h1 : p ≤ d) (h2 : d < p + 16) : wL Ltp d k = false := by
  have key : ∀ d, 66 ≤ d → d < 133 → ∀ k, wL Ltp d k = false := by
    intro d h1 h2 k
    unfold wL
    rw [List.any_eq_false]
    have : ∀ q ∈ Ltp, q.1 < 66 ∨ 133 ≤ q.1 := by decide +kernel
    intro q hq
    have := this q hq
    simp only [Bool.and_eq_true, beq_iff_eq, not_and]
    intro h; omega
  exact key d (by omega) (by omega) k
theorem inv_tape {m m' : Mem} {L : List (Nat × Nat)} (hF : Frm L [] m m') (hL : subL L Ltp = true) (hT2 : iTape m') (h : Inv m) : Inv m' := by
  replace hF := hF.mo (wL_sub hL)
  obtain ⟨hN, hT, hP, hW, hU, hI, hQ, hR⟩ := h
  have a135 : ∀ k, gI m' 135 k = gI m 135 k := fun k => hF.I _ _ rfl
  have hpp : ∀ p, (p = 68 ∨ p = 84 ∨ p = 101 ∨ p = 117) → ∀ d k, p ≤ d → d < p + 16 → gI m' d k = gI m d k ∧ gJ m' d k = gJ m d k := fun p hp d k h1 h2 => ⟨hF.I _ _ (ltp_par hp h1 h2), hF.J _ _ (ltp_par hp h1 h2)⟩
  have hnow : gN m 13 = 68 ∨ gN m 13 = 84 ∨ gN m 13 = 101 ∨ gN m 13 = 117 := by rcases hN with h | h <;> omega
  refine ⟨?_, ?_, ?_, hW.cong a135, ?_, ?_, ?_, ?_⟩
  · unfold iNow; rw [hF.N, hF.N]; exact hN
  · exact hT2
  · rw [hF.N]
    exact hP.cong a135 (fun k => hF.J _ _ rfl) (hpp _ hnow) hW.1.le
  · unfold iUndo at *
    rw [hF.I 3 1 rfl, hF.I 133 40 rfl]
    simp only [a135, fun k => hF.I 151 k rfl, fun k => hF.I 4 k rfl]
    refine ⟨hU.1, hU.2.1, fun u hu => ?_⟩
    obtain ⟨b1, b2, b3, b4⟩ := hU.2.2 u hu
    exact ⟨b1, b2, b3, b4.cong (fun k => hF.I 151 k rfl)⟩
  · intro k hk
    obtain ⟨b1, b2, b3⟩ := hI k hk
    rw [hF.I 100 k rfl, hF.I 161 k rfl]
    refine ⟨b1, b2, fun h1 => ?_⟩
    obtain ⟨c1, c2⟩ := b3 h1
    exact ⟨c1.cong (fun k => hF.I 159 k rfl) (fun k => hF.J 160 k rfl) (hpp _ (by omega)) c2.1.le, c2.cong (fun k => hF.I 159 k rfl)⟩
  · unfold iTold at *
    rw [hF.I 0 15 rfl, hF.I 133 14 rfl, hF.I 0 16 rfl, hF.I 133 27 rfl, hF.I 133 36 rfl, hF.I 133 52 rfl, hF.I 133 49 rfl, hF.I 40 1 rfl, hF.I 133 45 rfl, hF.I 40 0 rfl, hF.I 133 46 rfl]
    simp only [fun k => hF.I 27 k rfl, fun k => hF.I 148 k rfl, fun k => hF.I 32 k rfl, fun k => hF.I 155 k rfl, fun k => hF.I 66 k rfl, fun k => hF.I 154 k rfl, fun k => hF.I 41 k rfl, fun k => hF.I 153 k rfl]
    exact hQ
  · intro k hk
    rw [hF.J 138 k rfl]; exact hR k hk
/-! the tape -/
theorem op_end {m : Mem} (h : Inv m) (x : Int32) : ∃ v m1 m2, OH_end m x = some (v, m1) ∧ RM_end m1 x = some (v, m2) ∧ Inv m2 := by
  obtain ⟨hN, hT, hrest⟩ := id h
  by_cases hx : x < 0
  · refine ⟨0, m, sI m 133 0 0, by simp [OH_end, hx], by simp [RM_end, letM, hx], inv_frame fr0 h⟩
  by_cases hx2 : x ≤ gI m 1 1
  · have hx3 : x ≤ gI m 133 2 := by rw [← hT.1]; exact hx2
    refine ⟨1, sI m 1 1 x, sI (sI (sI m 1 1 x) 133 0 0) 133 2 x, by simp [OH_end, hx, hx2, letM], by simp [RM_end, letM, hx, hx3, gI_sI], ?_⟩
    obtain ⟨n, hn, e⟩ := hT.2.1.ex
    have hxn : isN x n := by
      rw [Int32.lt_iff_toInt_lt, show (0 : Int32).toInt = 0 from rfl] at hx
      rw [e, Int32.le_iff_toInt_le, n_toInt (by omega)] at hx3
      exact ⟨by omega, hx3⟩
    have hF : Frm [(1, 1), (133, 0), (133, 2)] [] m (sI (sI (sI m 1 1 x) 133 0 0) 133 2 x) := (Frm.sI rfl rfl).tr ((Frm.sI rfl rfl).tr (Frm.sI rfl rfl))
    have hT2 : iTape (sI (sI (sI m 1 1 x) 133 0 0) 133 2 x) := by
      refine ⟨by simp [gI_sI], by simpa [gI_sI] using hxn.mono hn, fun i hi => ?_⟩
      have hi2 : i < ixn x := by simpa [gI_sI] using hi
      have := hxn.le
      have h5 := hT.2.2 i (by rw [e, n_ixn (by omega)]; omega)
      simpa [gI_sI] using h5
    exact inv_tape hF rfl hT2 h
  · have hx3 : ¬ x ≤ gI m 133 2 := by rw [← hT.1]; exact hx2
    refine ⟨0, m, sI m 133 0 0, by simp [OH_end, hx, hx2], by simp [RM_end, letM, hx, hx3, gI_sI], inv_frame fr0 h⟩

/-! move -/
theorem undo_n {m : Mem} (h : Inv m) : ∃ u, u ≤ 8 ∧ gI m 133 40 = nI u ∧ gI m 3 1 = nI u := by
  obtain ⟨u, hu, e⟩ := h.2.2.2.2.1.2.1.ex
  exact ⟨u, hu, e, by rw [h.2.2.2.2.1.1, e]⟩
theorem op_move {m : Mem} (h : Inv m) (x i y z : Int32) : ∃ v m1 m2, OH_move m x i y z = some (v, m1) ∧ RM_move m1 x i y z = some (v, m2) ∧ Inv m2 := by
  have hI : Inv (sI m 133 0 0) := inv_frame fr0 h
  have g0 : ∀ j, gI (sI m 133 0 0) 135 j = gI m 135 j := fun j => by rw [gI_sI, if_neg (by omega)]
  rcases corner_cases h x i with ⟨h1, h2⟩ | ⟨k, n, X, Y, c, hk, hk2, rfl, D, hc, rfl, h1, h2⟩
  · refine ⟨0, m, sI m 133 0 0, by simp only [OH_move, OH_canMove, h1, bI, if_pos], ?_, hI⟩
    simp only [RM_move, letM, h2 _ g0, bI, if_pos]
  · rcases canMove_cases hk D hc h1 y z with ⟨h3, h4⟩ | ⟨a, b, ha, hb, rfl, rfl, p1, p2, p3, h3, h4⟩
    · refine ⟨0, m, sI m 133 0 0, by simp only [OH_move, h3, bI, if_pos], ?_, hI⟩
      simp only [RM_move, letM, h2 _ g0, h4 _ g0, bI, if_pos, ite_self]
    · have hn := D.2.1
      have hp : gN m 13 = 101 ∨ gN m 13 = 117 := by rcases h.1 with q | q <;> omega
      obtain ⟨u, hu, u40, u31⟩ := undo_n h
      obtain ⟨mc, ec, c1, c2, c3, c4, Fc⟩ := keepC hu (show 68 ≤ gN m 13 by omega) u31
      have Nc : gN mc 13 = gN m 13 := Fc.N 13
      let mp := sI (sI (sI mc (gN m 13 + 2 + 3 * k + 1) c (nI a)) (gN m 13 + 2 + 3 * k + 2) c (nI b)) (gN m 13) 12 (gI mc (gN m 13) 12 + 1)
      have emp : mp = sI (sI (sI mc (gN m 13 + 2 + 3 * k + 1) c (nI a)) (gN m 13 + 2 + 3 * k + 2) c (nI b)) (gN m 13) 12 (gI mc (gN m 13) 12 + 1) := rfl
      have mpI : ∀ d j, ¬ (d = gN m 13 ∧ j = 12) → d ≠ gN m 13 + 2 + 3 * k + 1 → d ≠ gN m 13 + 2 + 3 * k + 2 → gI mp d j = gI mc d j := fun d j a1 a2 a3 => by
        rw [emp, gI_sI, if_neg a1, gI_sI, if_neg (fun z => a3 z.1), gI_sI, if_neg (fun z => a2 z.1)]
      have eO : OH_move m (nI k) (nI c) (nI a) (nI b) = some (1, mp) := by
        have g12 : gI (sI (sI mc (gN m 13 + 2 + 3 * k + 1) c (nI a)) (gN m 13 + 2 + 3 * k + 2) c (nI b)) (gN m 13) 12 = gI mc (gN m 13) 12 := by rw [gI_sI, if_neg (by omega), gI_sI, if_neg (by omega)]
        simp only [OH_move, h3, bI, ec, bM, Nc, PH_put, if_pos (n_in hk (by omega)), if_pos (n_in (show c < 12 by omega) (by omega)), n_ixn (show k < 2147483648 by omega), n_ixn (show c < 2147483648 by omega), letM, g12]
        rw [if_neg (by decide)]
      have Fc0 : ∀ d j, d ≠ 4 → ¬ (d = 3 ∧ j = 1) → gI mc d j = gI m d j ∧ gJ mc d j = gJ m d j := fun d j a1 a2 => by
        apply Fc.1 d j _ (fun _ q => by cases q)
        unfold wL
        simp
        omega
      have f1 : ∀ j, gI (sI mp 133 0 0) 135 j = gI m 135 j := fun j => by rw [gI_sI, if_neg (by omega), mpI _ _ (by omega) (by omega) (by omega), (Fc0 _ _ (by omega) (by omega)).1]
      have f2 : ∀ j, gI (sI mp 133 0 0) 151 j = gI m 151 j := fun j => by rw [gI_sI, if_neg (by omega), mpI _ _ (by omega) (by omega) (by omega), (Fc0 _ _ (by omega) (by omega)).1]
      have f3 : gI (sI mp 133 0 0) 133 40 = nI u := by rw [gI_sI, if_neg (by omega), mpI _ _ (by omega) (by omega) (by omega), (Fc0 _ _ (by omega) (by omega)).1, u40]
      obtain ⟨mr, er, r1', r2', r3', Fr⟩ := keepR hu f3
      have Fr0 : ∀ d j, d ≠ 151 → ¬ (d = 133 ∧ j = 40) → gI mr d j = gI (sI mp 133 0 0) d j ∧ gJ mr d j = gJ (sI mp 133 0 0) d j := fun d j a1 a2 => by
        apply Fr.1 d j _ (fun _ q => by cases q)
        unfold wL
        simp
        omega
      let M := sI (sI (sI mr 135 (14 + 24 * k + 2 * c) (nI a)) 135 (14 + 24 * k + 2 * c + 1) (nI b)) 135 6 (gI mr 135 6 + 1)
      have eM : M = sI (sI (sI mr 135 (14 + 24 * k + 2 * c) (nI a)) 135 (14 + 24 * k + 2 * c + 1) (nI b)) 135 6 (gI mr 135 6 + 1) := rfl
      have g6 : gI (sI (sI mr 135 (14 + 24 * k + 2 * c) (nI a)) 135 (14 + 24 * k + 2 * c + 1) (nI b)) 135 6 = gI mr 135 6 := by rw [gI_sI, if_neg (by omega), gI_sI, if_neg (by omega)]
      have eR : RM_move mp (nI k) (nI c) (nI a) (nI b) = some (1, M) := by
        simp only [RM_move, letM, h2 _ f1, h4 _ f1, bI, er, bM, puts_eq hk (show c < 12 by omega)]
        rw [if_neg (by decide), if_neg (by decide), if_pos (by decide), show ixn 6 = 6 from rfl, g6]
      have MI : ∀ d j, d ≠ 135 → gI M d j = gI mr d j := fun d j a1 => by rw [eM, gI_sI, if_neg (fun z => a1 z.1), gI_sI, if_neg (fun z => a1 z.1), gI_sI, if_neg (fun z => a1 z.1)]
      have low : ∀ d j, d < 100 → gI M d j = gI mc d j := fun d j hd => by rw [MI d j (by omega), (Fr0 d j (by omega) (by omega)).1, gI_sI, if_neg (by omega), mpI d j (by omega) (by omega) (by omega)]
      have r6 : ∀ j, gI mr 135 j = gI m 135 j := fun j => by rw [(Fr0 _ _ (by omega) (by omega)).1, f1]
      refine ⟨1, mp, M, eO, eR, inv_change (X' := upz X c a) (Y' := upz Y c b) h hu u40 hk hk2 D ?_ ?_ ?_ ?_ ?_ ?_ ?_ ?_ ?_⟩
      · refine ⟨by rw [low _ _ (by omega)]; exact c1, fun v hv s hs => by rw [low _ _ (by omega)]; exact c2 v hv s hs, by rw [low _ _ (by omega)]; exact c3, fun t ht j hj => by rw [low _ _ (by omega), low _ _ (by omega)]; exact c4 t ht j hj, by rw [MI _ _ (by omega)]; exact r1', fun v hv s hs => by rw [MI _ _ (by omega), r2' v hv s hs, f2], fun s hs => by rw [MI _ _ (by omega), r3' s hs, f1]⟩
      · exact Fr.2.trans Fc.2
      · intro d j a1 a2 a3 a4 a5 a6 a7 a8 a9
        have a0 : ¬ (d = 133 ∧ j = 0) := by rintro ⟨rfl, rfl⟩; exact absurd a1 (by decide)
        rw [MI d j a4, (Fr0 d j a3 a6).1, gI_sI, if_neg a0, mpI d j a7 a8 a9, (Fc0 d j a2 a5).1]
      · intro d j a1 a2 a3 a4 a5
        rw [show gJ M d j = gJ mr d j from rfl, (Fr0 d j a3 (by omega)).2, show gJ (sI mp 133 0 0) d j = gJ mc d j from rfl, (Fc0 d j a2 (by omega)).2]
      · rw [MI _ _ (by omega), (Fr0 _ _ (by omega) (by omega)).1, gI_sI, if_neg (by omega), emp, gI_sI, if_pos ⟨rfl, rfl⟩, eM, gI_sI, if_pos ⟨rfl, rfl⟩, r6, (Fc0 _ _ (by omega) (by omega)).1]
        congr 1
        exact h.2.2.1.2.2.2.2.2.2.1
      · intro j a1 a2
        rw [eM, gI_sI, if_neg (by omega), gI_sI, if_neg (by omega), gI_sI, if_neg (by omega), r6]
      · intro t ht
        obtain ⟨d1, d2, -, -⟩ := D.2.2.2.1 t ht
        obtain ⟨e1, e2, -, -⟩ := D.2.2.2.2.1.2.2 t ht
        have xa : gI M (gN m 13 + 2 + 3 * k + 1) t = iz (upz X c a t) := by
          rw [MI _ _ (by omega), (Fr0 _ _ (by omega) (by omega)).1, gI_sI, if_neg (by omega), emp, gI_sI, if_neg (by omega), gI_sI, if_neg (by omega), gI_sI]
          unfold upz
          by_cases q : t = c
          · rw [if_pos ⟨rfl, q⟩, if_pos q, nI_iz]
          · rw [if_neg (fun z => q z.2), if_neg q, (Fc0 _ _ (by omega) (by omega)).1, e1]
        have xb : gI M (gN m 13 + 2 + 3 * k + 2) t = iz (upz Y c b t) := by
          rw [MI _ _ (by omega), (Fr0 _ _ (by omega) (by omega)).1, gI_sI, if_neg (by omega), emp, gI_sI, if_neg (by omega), gI_sI]
          unfold upz
          by_cases q : t = c
          · rw [if_pos ⟨rfl, q⟩, if_pos q, nI_iz]
          · rw [if_neg (fun z => q z.2), if_neg q, gI_sI, if_neg (by omega), (Fc0 _ _ (by omega) (by omega)).1, e2]
        refine ⟨?_, ?_, xa, xb⟩
        · rw [eM, gI_sI, if_neg (by omega), gI_sI, if_neg (by omega), gI_sI]
          unfold upz
          by_cases q : t = c
          · rw [if_pos (by omega), if_pos q, nI_iz]
          · rw [if_neg (by omega), if_neg q, r6, d1]
        · rw [eM, gI_sI, if_neg (by omega), gI_sI]
          unfold upz
          by_cases q : t = c
          · rw [if_pos (by omega), if_pos q, nI_iz]
          · rw [if_neg (by omega), if_neg q, gI_sI, if_neg (by omega), r6, d2]
      · intro t ht
        obtain ⟨-, -, d3, d4⟩ := D.2.2.2.1 t ht
        unfold upz
        split <;> omega
      · intro t ht
        have hD := D.2.2.2.2.2 t ht
        have h1 := pv_nx ht
        unfold atP at p1 p2 p3
        simp only [Bool.and_eq_false_iff, decide_eq_false_iff_not] at p1 p2 p3
        have ne : nx n t ≠ t := by have := D.1; unfold nx; split <;> omega
        unfold upz
        by_cases q : t = c
        · subst q
          rw [if_pos rfl, if_pos rfl, if_neg ne, if_neg ne]
          omega
        · by_cases q2 : nx n t = c
          · rw [if_neg q, if_neg q, if_pos q2, if_pos q2]
            rw [← q2, h1] at p2
            omega
          · rw [if_neg q, if_neg q, if_neg q2, if_neg q2]
            exact hD

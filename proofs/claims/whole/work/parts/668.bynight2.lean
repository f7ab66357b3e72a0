theorem fin_night {m m1 m2 : Mem} (h : Inv m) {L : List (Nat × Nat)} (F : Frm L [] m m2) (hL : subM L Lx = true) (hL2 : subM L (W_OH_byNight ++ W_RM_byNight) = true) (t1 : gI m2 1 1 = 0) (t2 : gI m2 133 2 = 0) (hq : gI m2 40 1 = gI m2 133 45 ∧ (gI m2 133 45 = -1 ∧ gI m2 40 0 = 0 ∨ 0 < gI m2 133 45 ∧ gI m2 40 0 = gI m2 133 46 ∧ isN (gI m2 133 46) 2 ∧ ∀ i, i < 3 * ixn (gI m2 133 46) → gI m2 41 i = gI m2 153 i)) : Inv m2 := by
  refine inv_told F hL (iTape0 t1 t2) ?_ h
  have G := F.mo (wL_subM hL2)
  have hQ := h.2.2.2.2.2.2.1
  unfold iTold at hQ ⊢
  rw [G.I 0 15 rfl, G.I 133 14 rfl, G.I 0 16 rfl, G.I 133 27 rfl, G.I 133 36 rfl, G.I 133 52 rfl, G.I 133 49 rfl]
  simp only [fun k => G.I 27 k rfl, fun k => G.I 148 k rfl, fun k => G.I 32 k rfl, fun k => G.I 155 k rfl, fun k => G.I 66 k rfl, fun k => G.I 154 k rfl]
  obtain ⟨q1, q2, q3, q4, q5, -⟩ := hQ
  exact ⟨q1, q2, q3, q4, q5, hq⟩
theorem op_byNight {m : Mem} (h : Inv m) (x1 x2 : Int32) : ∃ v m1 m2, OH_byNight m x1 x2 = some (v, m1) ∧ RM_byNight m1 x1 x2 = some (v, m2) ∧ Inv m2 := by
  have hp13 : gN m 13 = 101 ∨ gN m 13 = 117 := by rcases h.1 with q | q <;> omega
  have hQ6 := h.2.2.2.2.2.2.1.2.2.2.2.2
  -- refused
  have no : ∀ mA mB, Frm [(36, 2), (37, 999999), (38, 999999), (39, 999999)] [] m mA → Frm W_RM_isTold [] (sI (sI mA 1 1 0) 133 0 0) mB → gI mB 133 2 = 0 → Inv mB := by
    intro mA mB FA FB b4
    have F : Frm ((1, 1) :: (133, 0) :: (36, 2) :: (37, 999999) :: (38, 999999) :: (39, 999999) :: W_RM_isTold) [] m mB := (FA.mo (wL_sub rfl)).tr ((Frm.sI rfl rfl).tr ((Frm.sI rfl rfl).tr (FB.mo (wL_sub rfl))))
    refine fin_night (m1 := m) h F (by decide) (by decide) (by rw [FB.I 1 1 rfl, gI_sI, if_neg (by omega), gI_sI, if_pos ⟨rfl, rfl⟩]) b4 ?_
    rw [F.I 40 1 rfl, F.I 133 45 rfl, F.I 40 0 rfl, F.I 133 46 rfl]
    simp only [fun k => F.I 41 k rfl, fun k => F.I 153 k rfl]
    exact hQ6
  rcases take_both h with ⟨N, b, hN1, hN, hb, ⟨mA, a1, a2, a3, FA⟩, hR⟩ | ⟨⟨mA, a1, FA⟩, hR⟩
  · have wA : ∀ c j, c < 36 ∨ 39 < c → gI mA c j = gI m c j := fun c j hc => FA.I c j (by unfold wL; simp; omega)
    have NA' : gN mA 13 = gN m 13 := FA.N 13
    have N4 : gN (sI mA 1 1 0) 13 = gN m 13 := by rw [gN_sI, NA']
    have w4 : ∀ c j, 39 < c → gI (sI mA 1 1 0) c j = gI m c j := fun c j hc => by rw [gI_sI, if_neg (by omega), wA c j (Or.inr hc)]
    obtain ⟨mB, b1, b2, b3, b4, FB⟩ := hR (sI (sI mA 1 1 0) 133 0 0) (by rw [gI_sI, if_neg (by omega), gI_sI, if_neg (by omega), FA.I 133 2 rfl]) (fun i => by rw [gI_sI, if_neg (by omega), gI_sI, if_neg (by omega), FA.I 134 i rfl])
    have hasL : PH_hasLine (sI mA 1 1 0) (gN (sI mA 1 1 0) 13) x1 = PH_hasLine m (gN m 13) x1 := by
      unfold PH_hasLine; rw [N4, w4 _ _ (by omega)]
    have B135 : ∀ j, gI mB 135 j = gI m 135 j := fun j => by rw [FB.I 135 j rfl, gI_sI, if_neg (by omega), w4 _ _ (by omega)]
    rcases line_cases h x1 with ⟨l1, l2⟩ | ⟨k, hk, hk2, rfl, l1, l2⟩
    · refine ⟨-2, sI mA 1 1 0, mB, ?_, ?_, no mA mB FA FB b4⟩
      · rw [OH_byNight, a1, bV_s, letM_p, if_neg (by decide), hasL, l1, if_pos rfl]
      · rw [RM_byNight, letM_p, b1, bV_s, if_neg (by decide), l2 mB (B135 0), bI_s, if_pos rfl]
    · rcases three_cases x2 with ⟨t1, t2⟩ | ⟨r, hr, rfl, t1, t2⟩
      · refine ⟨-2, sI mA 1 1 0, mB, ?_, ?_, no mA mB FA FB b4⟩
        · rw [OH_byNight, a1, bV_s, letM_p, if_neg (by decide), hasL, l1, if_neg (by decide)]
          rcases t2 with t2 | ⟨t2, t3⟩
          · rw [if_pos t2]
          · rw [if_neg t2, if_neg t3]
        · rw [RM_byNight, letM_p, b1, bV_s, if_neg (by decide), l2 mB (B135 0), bI_s, if_neg (by decide), t1, if_pos rfl]
      · obtain ⟨n, X, Y, D⟩ := lineD h hk2
        have e10 : gI m (gN m 13) 10 = gI m 135 4 := h.2.2.1.2.2.2.2.1
        have e11 : gI m (gN m 13) 11 = gI m 135 5 := h.2.2.1.2.2.2.2.2.1
        have hed : gI m 135 5 = 0 ∨ gI m 135 5 = 1 := ed01 h
        have H : NXc N n b (gI m 135 5) X Y := ⟨hN, D.1, D.2.1, hb, hed, fun i hi => ⟨(D.2.2.2.1 i hi).2.2.1, (D.2.2.2.1 i hi).2.2.2⟩⟩
        let m9 := sI (sI (sI mA 1 1 0) 36 0 (gI m 135 4)) 36 1 (gI m 135 5)
        have h9 : m9 = sI (sI (sI mA 1 1 0) 36 0 (gI m 135 4)) 36 1 (gI m 135 5) := rfl
        have w9 : ∀ c j, 39 < c → gI m9 c j = gI m c j := fun c j hc => by rw [h9, gI_sI, if_neg (by omega), gI_sI, if_neg (by omega), w4 c j hc]
        have N9 : gN m9 13 = gN m 13 := by rw [h9, gN_sI, gN_sI, N4]
        have P9 : PolyC m9 (gN m 13 + 2 + 3 * k) n X Y := by
          obtain ⟨p1, p2, p3⟩ := D.2.2.2.2.1
          refine ⟨by rw [w9 _ _ (by omega)]; exact p1, p2, fun i hi => ?_⟩
          rw [w9 _ _ (by omega), w9 _ _ (by omega)]
          exact p3 i hi
        have C9 : CP m9 N b (gI m 135 4) (gI m 135 5) := by
          refine ⟨?_, ?_, ?_, fun i hi => ?_⟩
          · rw [h9, gI_sI, if_neg (by omega), gI_sI, if_neg (by omega), gI_sI, if_neg (by omega)]; exact a2
          · rw [h9, gI_sI, if_neg (by omega), gI_sI, if_pos ⟨rfl, rfl⟩]
          · rw [h9, gI_sI, if_pos ⟨rfl, rfl⟩]
          · have g : ∀ c, 37 ≤ c → gI m9 c i = gI mA c i := fun c hc => by rw [h9, gI_sI, if_neg (by omega), gI_sI, if_neg (by omega), gI_sI, if_neg (by omega)]
            rw [g 37 (by omega), g 38 (by omega), g 39 (by omega)]
            exact a3 i hi
        obtain ⟨v, m1, eS, hC⟩ := search_eq H hr D.2.2.2.2.2 (by omega) P9 C9
        have eO : OH_byNight m (nI k) (nI r) = some (v, m1) := by
          have g10 : gI (sI mA 1 1 0) (gN (sI mA 1 1 0) 13) 10 = gI m 135 4 := by rw [N4, w4 _ _ (by omega), e10]
          have g11 : gI (sI (sI mA 1 1 0) 36 0 (gI m 135 4)) (gN (sI (sI mA 1 1 0) 36 0 (gI m 135 4)) 13) 11 = gI m 135 5 := by rw [gN_sI, N4, gI_sI, if_neg (by omega), w4 _ _ (by omega), e11]
          rw [OH_byNight, a1, bV_s, letM_p, if_neg (by decide), hasL, l1, if_neg (by decide), if_neg t1, if_pos t2, g10, letM_p, g11, letM_p, if_pos (n_in hk (by omega)), n_ixn (by omega)]
          show bV (NI_search m9 (gN m9 13 + 2 + 3 * k) (nI r)) _ = _
          rw [N9, eS, bV_s]
        have FO : Frm W_OH_byNight [] m m1 := OH_byNight_fr (wL_sub rfl) m _ _ _ eO
        have FS : Frm W_NI_search [] m9 m1 := NI_search_fr (wL_sub rfl) m9 _ _ _ eS
        obtain ⟨mC, c1, c2, c3, c4, FC'⟩ := hR (sI m1 133 0 0) (by rw [gI_sI, if_neg (by omega), FO.I 133 2 rfl]) (fun i => by rw [gI_sI, if_neg (by omega), FO.I 134 i rfl])
        have C135 : ∀ j, gI mC 135 j = gI m 135 j := fun j => by rw [FC'.I 135 j rfl, gI_sI, if_neg (by omega), FO.I 135 j rfl]
        have RX : RXn mC k N n b (gI m 135 4) (gI m 135 5) X Y := ⟨by rw [C135]; exact D.2.2.1, fun i hi => by rw [C135, C135]; exact ⟨(D.2.2.2.1 i hi).1, (D.2.2.2.1 i hi).2.1⟩, c2, c3, C135 4, C135 5⟩
        obtain ⟨v', m2, eR, hRr, z2⟩ := rbn H hk hr c1 (l2 mC (C135 0)) RX (by rw [FC'.I 133 45 rfl, gI_sI, if_neg (by omega)]) (by rw [FC'.I 133 46 rfl, gI_sI, if_neg (by omega)]) (fun i => by rw [FC'.I 153 i rfl, gI_sI, if_neg (by omega)])
        have FR : Frm W_RM_byNight [] m1 m2 := RM_byNight_fr (wL_sub rfl) m1 _ _ _ eR
        have ok1 : okA (T1n b N n r (gI m 135 4) (gI m 135 5) X Y) := okA_L _ (fun c _ => R1_ok ..)
        have ok2 : okA (T2n b N n r (gI m 135 4) (gI m 135 5) X Y) := okA_L _ (fun c _ => okA_L _ (fun j _ => R2_ok ..))
        obtain ⟨ev, u1, u2⟩ := both hC hRr (by rw [FO.I 133 45 rfl, w9 _ _ (by omega)]) (by rw [FO.I 133 46 rfl, w9 _ _ (by omega)]) (fun i => by rw [FO.I 153 _ rfl, w9 _ _ (by omega)]) ok1 ok2 (T1_LW b N n r _ _ X Y) (T2_LW b N n r _ _ X Y) (T1_bd hr D.2.1 ..) (T2_bd hr D.2.1 ..) (by
          rw [w9 40 1 (by omega), w9 133 45 (by omega), w9 40 0 (by omega), w9 133 46 (by omega)]
          simp only [fun i => w9 41 i (by omega), fun i => w9 153 i (by omega)]
          exact hQ6)
        subst ev
        refine ⟨v, m1, m2, eO, eR, ?_⟩
        refine fin_night (m1 := m1) (L := W_OH_byNight ++ W_RM_byNight) h ((FO.mo (wL_sub rfl)).tr (FR.mo (wL_sub rfl))) (by decide) (by decide) ?_ (by rw [z2]; exact c4) ?_
        · rw [FR.I 1 1 rfl, FS.I 1 1 rfl, h9, gI_sI, if_neg (by omega), gI_sI, if_neg (by omega), gI_sI, if_pos ⟨rfl, rfl⟩]
        · rw [FR.I 40 1 rfl, FR.I 40 0 rfl]
          simp only [fun i => FR.I 41 i rfl]
          exact ⟨u1, u2⟩
  · obtain ⟨mB, b1, b4, FB⟩ := hR (sI (sI mA 1 1 0) 133 0 0) (by rw [gI_sI, if_neg (by omega), gI_sI, if_neg (by omega), FA.I 133 2 rfl]) (fun i => by rw [gI_sI, if_neg (by omega), gI_sI, if_neg (by omega), FA.I 134 i rfl])
    refine ⟨-2, sI mA 1 1 0, mB, ?_, ?_, no mA mB FA FB b4⟩
    · rw [OH_byNight, a1, bV_s, letM_p, if_pos rfl]
    · rw [RM_byNight, letM_p, b1, bV_s, if_pos rfl]

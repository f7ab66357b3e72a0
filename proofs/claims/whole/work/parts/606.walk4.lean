/-- what was told last, when some of it is told anew -/
theorem taken_eq {m : Mem} {L : Nat} (x : Int32) (h2 : gI m 133 2 = nI L) : ∃ m', RM_taken m x = some m' ∧ gI m' 133 3 = nI L ∧ gI m' 133 2 = 0 ∧ gI m' 133 4 = 0 ∧ gI m' 133 5 = x ∧ Frm [(133, 2), (133, 3), (133, 4), (133, 5)] [] m m' :=
  ⟨_, rfl, by rw [gI_sI, if_neg (by omega), gI_sI, if_neg (by omega), gI_sI, if_neg (by omega), gI_sI, if_pos ⟨rfl, rfl⟩, h2], by rw [gI_sI, if_neg (by omega), gI_sI, if_neg (by omega), gI_sI, if_pos ⟨rfl, rfl⟩], by rw [gI_sI, if_neg (by omega), gI_sI, if_pos ⟨rfl, rfl⟩], by rw [gI_sI, if_pos ⟨rfl, rfl⟩], (Frm.sI rfl rfl).tr ((Frm.sI rfl rfl).tr ((Frm.sI rfl rfl).tr (Frm.sI rfl rfl)))⟩
theorem begin_eq (m : Mem) (x : Int32) : ∃ m', RD_begin m x = some m' ∧ gI m' 1 9 = x ∧ gI m' 1 10 = 0 ∧ gI m' 1 2 = 0 ∧ gI m' 1 3 = 0 ∧ Frm [(1, 9), (1, 10), (1, 2), (1, 3)] [] m m' :=
  ⟨_, rfl, by rw [gI_sI, if_neg (by omega), gI_sI, if_neg (by omega), gI_sI, if_neg (by omega), gI_sI, if_pos ⟨rfl, rfl⟩], by rw [gI_sI, if_neg (by omega), gI_sI, if_neg (by omega), gI_sI, if_pos ⟨rfl, rfl⟩], by rw [gI_sI, if_neg (by omega), gI_sI, if_pos ⟨rfl, rfl⟩], by rw [gI_sI, if_pos ⟨rfl, rfl⟩], (Frm.sI rfl rfl).tr ((Frm.sI rfl rfl).tr ((Frm.sI rfl rfl).tr (Frm.sI rfl rfl)))⟩
theorem closeText_eq (m : Mem) (x : Int32) : ∃ m', OH_closeText m x = some (if gI m 1 2 = 0 then x else -1 - gI m 1 3, m') ∧ gI m' 0 15 = gI m 1 2 ∧ gI m' 1 1 = 0 ∧ Frm [(0, 15), (1, 1)] [] m m' := by
  have g : gI (sI (sI m 0 15 (gI m 1 2)) 1 1 0) 0 15 = gI m 1 2 := by rw [gI_sI, if_neg (by omega), gI_sI, if_pos ⟨rfl, rfl⟩]
  have g3 : gI (sI (sI m 0 15 (gI m 1 2)) 1 1 0) 1 3 = gI m 1 3 := by rw [gI_sI, if_neg (by omega), gI_sI, if_neg (by omega)]
  refine ⟨sI (sI m 0 15 (gI m 1 2)) 1 1 0, ?_, g, by rw [gI_sI, if_pos ⟨rfl, rfl⟩], (Frm.sI rfl rfl).tr (Frm.sI rfl rfl)⟩
  rw [OH_closeText, letM_p, letM_p, g, g3]
  by_cases z : gI m 1 2 = 0
  · rw [if_pos z, if_pos z]
  · rw [if_neg z, if_neg z]
/-- a text refused at once: the tape is taken, nothing else -/
theorem inv_refuse {m : Mem} (h : Inv m) (x : Int32) : ∃ m2, RM_taken (sI (sI m 1 1 0) 133 0 0) x = some m2 ∧ (∀ j, gI m2 135 j = gI m 135 j) ∧ Inv m2 := by
  obtain ⟨L, hL, b, e1, e2, hb, hb'⟩ := tape_b h
  obtain ⟨m2, t1, t2, t3, t4, t5, F⟩ := taken_eq (m := sI (sI m 1 1 0) 133 0 0) x (by rw [gI_sI, if_neg (by omega), gI_sI, if_neg (by omega)]; exact e2)
  refine ⟨m2, t1, fun j => by rw [F.I 135 j rfl, gI_sI, if_neg (by omega), gI_sI, if_neg (by omega)], ?_⟩
  have FF : Frm ((1, 1) :: (133, 0) :: [(133, 2), (133, 3), (133, 4), (133, 5)]) [] m m2 := (Frm.sI rfl rfl).tr ((Frm.sI rfl rfl).tr (F.mo (wL_sub rfl)))
  refine inv_tape FF (by decide) (iTape0 (by rw [F.I 1 1 rfl, gI_sI, if_neg (by omega), gI_sI, if_pos ⟨rfl, rfl⟩]) t3) h
theorem op_walk {m : Mem} (h : Inv m) (x y : Int32) : ∃ v m1 m2, OH_walk m x y = some (v, m1) ∧ RM_walk m1 x y = some (v, m2) ∧ Inv m2 := by
  obtain ⟨L, hL, b, e1, e2, hb, hb'⟩ := tape_b h
  obtain ⟨mr, r1, r2, r3⟩ := inv_refuse h 300
  have hp13 : gN m 13 = 101 ∨ gN m 13 = 117 := by rcases h.1 with q | q <;> omega
  rcases line_cases h x with ⟨h1, h2⟩ | ⟨k, hk, hk2, rfl, h1, h2⟩
  · refine ⟨-2000, sI m 1 1 0, mr, by rw [OH_walk, h1, if_pos rfl, letM_p], ?_, r3⟩
    rw [RM_walk, letM_p, r1, bM_s, h2 _ (r2 0), bI_s, if_pos rfl]
  rcases hay_cases h y with ⟨h3, h4⟩ | ⟨t, a, b', l, ht, ht2, rfl, ha, hb2, hl, u1, u2, -, v1, v2, -, h3, h4⟩
  · refine ⟨-2000, sI m 1 1 0, mr, by rw [OH_walk, h1, if_neg (by decide), h3, if_pos rfl, letM_p], ?_, r3⟩
    rw [RM_walk, letM_p, r1, bM_s, h2 _ (r2 0), bI_s, if_neg (by decide), h4 _ r2, bI_s, if_pos rfl]
  obtain ⟨n, X, Y, D⟩ := lineD h hk2
  have hn := D.2.1
  have hn3 := D.1
  -- the class
  obtain ⟨m1, s1, -, G1, F1⟩ := OH_survey_eq h hk D
  have wf : ∀ c j, c < 5 ∨ 11 ≤ c → gI m1 c j = gI m c j := fun c j hc => F1.I c j (by
    unfold wL
    rw [List.any_eq_false]
    have : ∀ q ∈ W_OH_survey, 5 ≤ q.1 ∧ q.1 < 11 := by decide
    intro q hq
    have := this q hq
    simp only [Bool.and_eq_true, beq_iff_eq, not_and]
    intro h; omega)
  have N1 : gN m1 13 = gN m 13 := F1.N 13
  obtain ⟨m2, b1, b2, b3, b4, b5, F2⟩ := begin_eq m1 300
  have N2 : gN m2 13 = gN m 13 := by rw [F2.N, N1]
  let m5 := sI (sI (sI m2 26 1 (nI (20 * b' + a))) 26 2 0) 26 3 0
  have h5 : m5 = sI (sI (sI m2 26 1 (nI (20 * b' + a))) 26 2 0) 26 3 0 := rfl
  have o5 : ∀ c j, c ≠ 26 → gI m5 c j = gI m2 c j := fun c j z => by rw [h5, gI_sI, if_neg (fun y => z y.1), gI_sI, if_neg (fun y => z y.1), gI_sI, if_neg (fun y => z y.1)]
  have T5 : TA m5 b L 300 := ⟨hL, by omega, by rw [o5 _ _ (by omega), F2.I 1 1 rfl, wf _ _ (by omega)]; exact e1, by rw [o5 _ _ (by omega), b2]; rfl, fun i hi => by rw [o5 _ _ (by omega), F2.I 2 i rfl, wf _ _ (by omega)]; exact hb i hi⟩
  have G5 : GX m5 n (clz n X) (clz n Y) := by
    have g2 : GX m2 n (clz n X) (clz n Y) := GX.fr2 ⟨_, _, G1⟩ F2 (fun c h1 h2 k => by unfold wL; simp; omega)
    obtain ⟨T, O, G⟩ := g2
    refine ⟨T, O, fun r c hr hc => ?_⟩
    rw [o5 _ _ (by omega), o5 _ _ (by omega), o5 _ _ (by omega), o5 _ _ (by omega)]
    exact G r c hr hc
  obtain ⟨v, m6, w1, OA⟩ := wa_loop (b := b) (L := L) (M := 300) hn (by omega) 941 0 0 FU (20 * b' + a) 0 0 m5 (by omega) (by omega) (by omega) (by omega) (by unfold FU; omega) (by omega) T5 (by rw [o5 _ _ (by omega), b3]; rfl) (by rw [h5, gI_sI, if_neg (by omega), gI_sI, if_neg (by omega), gI_sI, if_pos ⟨rfl, rfl⟩]) (by rw [h5, gI_sI, if_neg (by omega), gI_sI, if_pos ⟨rfl, rfl⟩]) (by rw [h5, gI_sI, if_pos ⟨rfl, rfl⟩]) (by rw [o5 _ _ (by omega), b4]) G5
  obtain ⟨m7, c1, c2, c3, F7⟩ := closeText_eq m6 v
  have eO : OH_walk m (nI k) (nI t) = some (if gI m6 1 2 = 0 then v else -1 - gI m6 1 3, m7) := by
    have hs : PH_haySquare m2 (gN m2 13) (nI t) = some (nI (20 * b' + a)) := by
      have fw : ∀ c j, 11 ≤ c → gI m2 c j = gI m c j := fun c j hc => by rw [F2.I c j (by unfold wL; simp; omega), wf c j (by omega)]
      rw [PH_haySquare, N2, if_pos (n_in ht (by omega)), n_ixn (by omega), fw _ _ (by omega), fw _ _ (by omega), v1, v2, squareAt_n]
    have eW : WK_follow m2 5 (nI (20 * b' + a)) = some (v, m6) := by
      rw [WK_follow, letM_p, letM_p, letM_p, ← h5]; exact w1
    rw [OH_walk, h1, if_neg (by decide), h3, if_neg (by decide), s1, bM_s, b1, bM_s, hs, bI_s, eW, bV_s, c1, bV_s]
  have FO := OH_walk_fr (L := W_OH_walk) (R := []) (wL_sub rfl) m _ _ _ eO
  -- the reference
  have f0 : ∀ j, gI (sI m7 133 0 0) 135 j = gI m 135 j := fun j => by rw [gI_sI, if_neg (by omega), FO.I 135 j rfl]
  obtain ⟨m8, t1, t2, t3, t4, t5, F8⟩ := taken_eq (m := sI m7 133 0 0) (L := L) 300 (by rw [gI_sI, if_neg (by omega), FO.I 133 2 rfl]; exact e2)
  have f8 : ∀ j, gI m8 135 j = gI m 135 j := fun j => by rw [F8.I 135 j rfl, f0]
  have f9 : ∀ j, gI (sI m8 133 14 0) 135 j = gI m 135 j := fun j => by rw [gI_sI, if_neg (by omega), f8]
  obtain ⟨m9, l1, l2, F9⟩ := D.look hk f9
  have f10 : ∀ j, gI m9 135 j = gI m 135 j := fun j => by rw [F9.I 135 j rfl, f9]
  have k9 : ∀ j, j = 2 ∨ j = 3 ∨ j = 4 ∨ j = 5 → gI m9 133 j = gI m8 133 j := fun j hj => by
    rcases hj with rfl | rfl | rfl | rfl
    · rw [F9.I 133 2 rfl, gI_sI, if_neg (by omega)]
    · rw [F9.I 133 3 rfl, gI_sI, if_neg (by omega)]
    · rw [F9.I 133 4 rfl, gI_sI, if_neg (by omega)]
    · rw [F9.I 133 5 rfl, gI_sI, if_neg (by omega)]
  have T9 : TB m9 b L 300 := ⟨hL, by omega, by rw [k9 3 (by omega), t2], by rw [k9 5 (by omega), t5]; rfl, fun i hi => ⟨(hb i hi).1, by rw [F9.I 134 i rfl, gI_sI, if_neg (by omega), F8.I 134 i rfl, gI_sI, if_neg (by omega), FO.I 134 i rfl]; exact hb' i hi⟩⟩
  obtain ⟨m10, x1, K10, T10, F10⟩ := nxt (p := 0) T9 (by rw [k9 4 (by omega), t4]; rfl) (by omega)
  have U20 : ∀ i, i ≤ n → 0 ≤ clz n X i ∧ clz n X i ≤ 20 := fun i _ => clz_bx (by omega) (fun i hi => (D.2.2.2.1 i hi).2.2.1) i
  have V20 : ∀ i, i ≤ n → 0 ≤ clz n Y i ∧ clz n Y i ≤ 20 := fun i _ => clz_bx (by omega) (fun i hi => (D.2.2.2.1 i hi).2.2.2) i
  obtain ⟨m11, OB⟩ := wb_loop (b := b) (L := L) (M := 300) (kx := fun m19 y16 y17 y18 => if inb 0 3 then (letM (sI m19 148 (ixn 0) (irm y16 20)) fun m21 =>
    if inb 1 3 then (letM (sI m21 148 (ixn 1) (y16 / 20)) fun m23 =>
    if inb 2 3 then (letM (sI m23 148 (ixn 2) y18) fun m25 =>
    letM (sI m25 133 36 1) fun m26 =>
    some (y17, m26)) else none) else none) else none) U20 V20 941 0 FU (20 * b' + a) 0 0 m10 (by omega) (by omega) (by unfold FU; omega) (by omega) T10 K10 (l2.fr F10 rfl (fun _ => rfl) (fun _ => rfl))
  have e86 : 86 + 3 * nI t = nI (86 + 3 * t) := by rw [show (86 : Int32) = nI 86 from rfl, k3, n_mul, n_add]
  have eR0 : RM_walk m7 (nI k) (nI t) = RM_walk_L81 (fun m19 y16 y17 y18 => if inb 0 3 then (letM (sI m19 148 (ixn 0) (irm y16 20)) fun m21 =>
    if inb 1 3 then (letM (sI m21 148 (ixn 1) (y16 / 20)) fun m23 =>
    if inb 2 3 then (letM (sI m23 148 (ixn 2) y18) fun m25 =>
    letM (sI m25 133 36 1) fun m26 =>
    some (y17, m26)) else none) else none) else none) FU m10 (nI (20 * b' + a)) 0 0 := by
    rw [RM_walk, letM_p, t1, bM_s, h2 _ (f8 0), bI_s, if_neg (by decide), h4 _ f8, bI_s, if_neg (by decide), letM_p, l1, bM_s, e86, show nI (86 + 3 * t) + 1 = nI (86 + 3 * t + 1) by rw [k1, n_add], if_pos (n_in (by omega) (by omega)), if_pos (n_in (by omega) (by omega)), n_ixn (by omega), n_ixn (by omega), f10, f10, u1, u2, show (20 * nI b') + nI a = nI (20 * b' + a) by rw [k20, n_mul, n_add], letV_p, x1, bM_s]
  have F9' : Frm W_RM_walk [] m7 m10 := ((Frm.sI rfl rfl).tr ((F8.mo (wL_sub rfl)).tr ((Frm.sI rfl rfl).tr ((F9.mo (wL_sub rfl)).tr (F10.mo (wL_sub rfl))))))
  have d14 : gI m10 133 14 = 0 := by rw [F10.I 133 14 rfl, F9.I 133 14 rfl, gI_sI, if_pos ⟨rfl, rfl⟩]
  have g133 : gI m10 133 2 = 0 := by rw [F10.I 133 2 rfl, k9 2 (by omega), t3]
  have t11 : gI m7 1 1 = 0 := c3
  have hQ := h.2.2.2.2.2.2.1
  -- the end of both
  have done : ∀ mF, Frm W_RM_walk [] m7 mF → gI mF 133 2 = 0 → gI m7 0 15 = gI mF 133 14 → ((∀ i, i < 3 → gI m7 27 i = gI m 27 i) ∧ (∀ i, gI mF 148 i = gI m 148 i) ∧ gI mF 133 36 = gI m 133 36 ∨ gI mF 133 36 = 1 ∧ ∀ i, i < 3 → gI m7 27 i = gI mF 148 i) → Inv mF := by
    intro mF FF q2 q14 q27
    have Fm : Frm (W_OH_walk ++ W_RM_walk) [] m mF := (FO.mo (wL_sub rfl)).tr (FF.mo (wL_sub rfl))
    refine inv_told Fm (by decide) (iTape0 (by rw [FF.I 1 1 rfl, t11]) q2) ?_ h
    unfold iTold at hQ ⊢
    rw [FF.I 0 15 rfl, q14, Fm.I 0 16 rfl, Fm.I 133 27 rfl, Fm.I 133 52 rfl, Fm.I 133 49 rfl, Fm.I 40 1 rfl, Fm.I 133 45 rfl, Fm.I 40 0 rfl, Fm.I 133 46 rfl]
    simp only [fun k => Fm.I 32 k rfl, fun k => Fm.I 155 k rfl, fun k => Fm.I 66 k rfl, fun k => Fm.I 154 k rfl, fun k => Fm.I 41 k rfl, fun k => Fm.I 153 k rfl, fun k => FF.I 27 k rfl]
    obtain ⟨p1, p2, p3, p4, p5, p6⟩ := hQ
    refine ⟨trivial, p2, ?_, p4, p5, p6⟩
    rcases q27 with ⟨z1, z2, z3⟩ | ⟨z1, z2⟩
    · rw [z3]
      rcases p3 with ⟨y1, y2⟩ | ⟨y1, y2⟩
      · exact Or.inl ⟨y1, fun i hi => by rw [z1 i hi]; exact y2 i hi⟩
      · exact Or.inr ⟨y1, fun i hi => by rw [z1 i hi, z2 i]; exact y2 i hi⟩
    · exact Or.inr ⟨z1, z2⟩
  have u27 : ∀ i, gI m7 27 i = gI m6 27 i := fun i => F7.I 27 i rfl
  have u27' : ∀ i, gI m5 27 i = gI m 27 i := fun i => by rw [o5 _ _ (by omega), F2.I 27 i rfl, wf _ _ (by omega)]
  generalize wkl b L 300 (stX (clz n X) (clz n Y) n) 941 0 (20 * b' + a) 0 0 = o at OA OB
  rcases OA with ⟨a1, a2, a3, a4, a5, a6⟩ | ⟨a1, a2, a3, a4, a5⟩
  · rcases OB with ⟨o1, o2, o3, o4⟩ | ⟨o1, o2, o3, o4⟩
    · rw [if_pos a3] at eO
      let mF := sI (sI (sI (sI m11 148 0 (nI (o.2.2.1 % 20))) 148 1 (nI (o.2.2.1 / 20))) 148 2 o.2.2.2.2) 133 36 1
      have hF : mF = sI (sI (sI (sI m11 148 0 (nI (o.2.2.1 % 20))) 148 1 (nI (o.2.2.1 / 20))) 148 2 o.2.2.2.2) 133 36 1 := rfl
      have eR : RM_walk m7 (nI k) (nI t) = some (v, mF) := by
        rw [eR0, o2]
        dsimp only
        rw [if_pos (show inb 0 3 by decide), show ixn 0 = 0 from rfl, k20, irm_n (by omega) (by omega) (by omega), letM_p, if_pos (show inb 1 3 by decide), show ixn 1 = 1 from rfl, div_n (by omega) (by omega) (by omega), letM_p, if_pos (show inb 2 3 by decide), show ixn 2 = 2 from rfl, letM_p, letM_p, a2]
      refine ⟨v, m7, mF, eO, eR, done mF (RM_walk_fr (wL_sub rfl) m7 _ _ _ eR) ?_ ?_ (Or.inr ⟨by rw [hF, gI_sI, if_pos ⟨rfl, rfl⟩], fun i hi => ?_⟩)⟩
      · rw [hF, gI_sI, if_neg (by omega), gI_sI, if_neg (by omega), gI_sI, if_neg (by omega), gI_sI, if_neg (by omega), o3.I 133 2 rfl, g133]
      · rw [c2, a3, hF, gI_sI, if_neg (by omega), gI_sI, if_neg (by omega), gI_sI, if_neg (by omega), gI_sI, if_neg (by omega), o3.I 133 14 rfl, d14]
      · rw [u27]
        rcases (show i = 0 ∨ i = 1 ∨ i = 2 by omega) with rfl | rfl | rfl
        · rw [a4, hF, gI_sI, if_neg (by omega), gI_sI, if_neg (by omega), gI_sI, if_neg (by omega), gI_sI, if_pos ⟨rfl, rfl⟩]
        · rw [a5, hF, gI_sI, if_neg (by omega), gI_sI, if_neg (by omega), gI_sI, if_pos ⟨rfl, rfl⟩]
        · rw [a6, hF, gI_sI, if_neg (by omega), gI_sI, if_pos ⟨rfl, rfl⟩]
    · omega
  · rcases OB with ⟨o1, o2, o3, o4⟩ | ⟨o1, o2, o3, o4⟩
    · omega
    · have nz : ¬ gI m6 1 2 = 0 := by rw [a3, k0, n_eq (by omega) (by omega)]; omega
      rw [if_neg nz, a4] at eO
      have eR : RM_walk m7 (nI k) (nI t) = some (-1 - nI o.2.1, m11) := by rw [eR0, o2]
      have F148 : ∀ i, gI m11 148 i = gI m 148 i := fun i => by rw [o4.I 148 i rfl, F10.I 148 i rfl, F9.I 148 i rfl, gI_sI, if_neg (by omega), F8.I 148 i rfl, gI_sI, if_neg (by omega), FO.I 148 i rfl]
      have F36 : gI m11 133 36 = gI m 133 36 := by rw [o4.I 133 36 rfl, F10.I 133 36 rfl, F9.I 133 36 rfl, gI_sI, if_neg (by omega), F8.I 133 36 rfl, gI_sI, if_neg (by omega), FO.I 133 36 rfl]
      refine ⟨_, m7, m11, eO, eR, done m11 (RM_walk_fr (wL_sub rfl) m7 _ _ _ eR) (by rw [o4.I 133 2 rfl, g133]) (by rw [c2, a3, o3]) (Or.inl ⟨fun i _ => by rw [u27, a5 i, u27'], F148, F36⟩)⟩

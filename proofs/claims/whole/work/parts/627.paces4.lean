theorem op_paces {m : Mem} (h : Inv m) : ∃ v m1 m2, OH_paces m = some (v, m1) ∧ RM_paces m1 = some (v, m2) ∧ Inv m2 := by
  obtain ⟨L, hL, b, e1, e2, hb, hb'⟩ := tape_b h
  -- the class
  obtain ⟨m2, b1, b2, b3, b4, b5, F2⟩ := begin_eq m 300
  have F3 : Frm [(31, 1)] [] m2 (sI m2 31 1 0) := Frm.sI rfl rfl
  have T3 : TA (sI m2 31 1 0) b L 300 := ⟨hL, by omega, by rw [F3.I 1 1 rfl, F2.I 1 1 rfl]; exact e1, by rw [F3.I 1 9 rfl, b2]; rfl, fun i hi => by rw [F3.I 2 i rfl, F2.I 2 i rfl]; exact hb i hi⟩
  have W0 : WfR 0 (fun _ => 0) (fun _ => 0) := ⟨by omega, fun i hi => by omega⟩
  obtain ⟨m6, OA⟩ := pa_loop (b := b) (L := L) (M := 300) (by omega) 941 0 0 FU 0 (fun _ => 0) (fun _ => 0) (sI m2 31 1 0) (by omega) (by omega) (by omega) (by omega) (by unfold FU; omega) T3 (by rw [F3.I 1 10 rfl, b3]; rfl) W0 (by rw [gI_sI, if_pos ⟨rfl, rfl⟩]; rfl) (fun i hi => by omega) (by rw [F3.I 1 2 rfl, b4])
  have eF : ∀ v m', PA_follow_L7 (fun m2 => some ((-1), m2)) FU (sI m2 31 1 0) (nI 0) = some (v, m') → ∃ m7, OH_paces m = some (if gI m' 1 2 = 0 then v else -1 - gI m' 1 3, m7) ∧ gI m7 0 15 = gI m' 1 2 ∧ gI m7 1 1 = 0 ∧ Frm [(0, 15), (1, 1)] [] m' m7 := fun v m' he => by
    obtain ⟨m7, c1, c2, c3, F7⟩ := closeText_eq m' v
    refine ⟨m7, ?_, c2, c3, F7⟩
    rw [show nI 0 = 0 from rfl] at he
    rw [OH_paces, b1, bM_s, PA_follow, letM_p, he, bV_s, c1, bV_s]
  have hQ := h.2.2.2.2.2.2.1
  -- the reference
  have ref : ∀ v m7, OH_paces m = some (v, m7) → ∃ m10 m11, RM_paces m7 = RM_paces_L23 (pcK pcG) FU m10 (nI 0) ∧ gI m10 133 14 = 0 ∧ gI m10 133 2 = 0 ∧ OutQ m10 m11 pcG (RM_paces_L23 (pcK pcG) FU m10 (nI 0)) (pcl b L 300 941 0 0 (fun _ => 0) (fun _ => 0)) ∧ Frm ((133, 0) :: (133, 2) :: (133, 3) :: (133, 5) :: (133, 14) :: Lnx) [] m7 m10 := by
    intro v m7 eO
    have FO := OH_paces_fr (L := W_OH_paces) (R := []) (wL_sub rfl) m _ eO
    obtain ⟨m8, t1, t2, t3, t4, t5, F8⟩ := taken_eq (m := sI m7 133 0 0) (L := L) 300 (by rw [gI_sI, if_neg (by omega), FO.I 133 2 rfl]; exact e2)
    have F9 : Frm [(133, 14)] [] m8 (sI m8 133 14 0) := Frm.sI rfl rfl
    have T9 : TB (sI m8 133 14 0) b L 300 := ⟨hL, by omega, by rw [F9.I 133 3 rfl, t2], by rw [F9.I 133 5 rfl, t5]; rfl, fun i hi => ⟨(hb i hi).1, by rw [F9.I 134 i rfl, F8.I 134 i rfl, gI_sI, if_neg (by omega), FO.I 134 i rfl]; exact hb' i hi⟩⟩
    obtain ⟨m10, x1, K10, T10, F10⟩ := nxt (p := 0) T9 (by rw [F9.I 133 4 rfl, t4]; rfl) (by omega)
    obtain ⟨m11, OB⟩ := pb_loop (b := b) (L := L) (M := 300) (G := pcG) 941 0 FU 0 (fun _ => 0) (fun _ => 0) m10 (by omega) (by omega) (by unfold FU; omega) T10 K10 W0 (fun i hi => by omega)
    refine ⟨m10, m11, ?_, by rw [F10.I 133 14 rfl, gI_sI, if_pos ⟨rfl, rfl⟩], by rw [F10.I 133 2 rfl, F9.I 133 2 rfl, t3], OB, (Frm.sI rfl rfl).tr ((F8.mo (wL_sub rfl)).tr ((F9.mo (wL_sub rfl)).tr (F10.mo (wL_sub rfl))))⟩
    rw [RM_paces, letM_p, t1, bM_s, letM_p, x1, bM_s]
    rfl
  have done : ∀ v m7 mF, OH_paces m = some (v, m7) → RM_paces m7 = some (v, mF) → gI m7 1 1 = 0 → gI mF 133 2 = 0 → gI m7 0 15 = gI mF 133 14 → ((∀ i, i < 4 → gI m7 32 i = gI m 32 i) ∧ (∀ i, gI mF 155 i = gI m 155 i) ∧ gI mF 133 52 = gI m 133 52 ∨ gI mF 133 52 = 1 ∧ ∀ i, i < 4 → gI m7 32 i = gI mF 155 i) → Inv mF := by
    intro v m7 mF eO eR t11 q2 q14 q32
    have FO := OH_paces_fr (L := W_OH_paces) (R := []) (wL_sub rfl) m _ eO
    have FF := RM_paces_fr (L := W_RM_paces) (R := []) (wL_sub rfl) m7 _ eR
    have Fm : Frm (W_OH_paces ++ W_RM_paces) [] m mF := (FO.mo (wL_sub rfl)).tr (FF.mo (wL_sub rfl))
    refine inv_told Fm (by decide) (iTape0 (by rw [FF.I 1 1 rfl, t11]) q2) ?_ h
    unfold iTold at hQ ⊢
    rw [FF.I 0 15 rfl, q14, Fm.I 0 16 rfl, Fm.I 133 27 rfl, Fm.I 133 36 rfl, Fm.I 133 49 rfl, Fm.I 40 1 rfl, Fm.I 133 45 rfl, Fm.I 40 0 rfl, Fm.I 133 46 rfl]
    simp only [fun k => Fm.I 27 k rfl, fun k => Fm.I 148 k rfl, fun k => Fm.I 66 k rfl, fun k => Fm.I 154 k rfl, fun k => Fm.I 41 k rfl, fun k => Fm.I 153 k rfl, fun k => FF.I 32 k rfl]
    obtain ⟨p1, p2, p3, p4, p5, p6⟩ := hQ
    refine ⟨trivial, p2, p3, ?_, p5, p6⟩
    rcases q32 with ⟨z1, z2, z3⟩ | ⟨z1, z2⟩
    · rw [z3]
      rcases p4 with ⟨y1, y2⟩ | ⟨y1, y2⟩
      · exact Or.inl ⟨y1, fun i hi => by rw [z1 i hi]; exact y2 i hi⟩
      · exact Or.inr ⟨y1, fun i hi => by rw [z1 i hi, z2 i]; exact y2 i hi⟩
    · exact Or.inr ⟨z1, z2⟩
  generalize pcl b L 300 941 0 0 (fun _ => 0) (fun _ => 0) = o at OA ref
  rcases OA with ⟨a1, a2, a3, a4, a5, a6, a7, a8⟩ | ⟨a1, a2, ⟨v, a3⟩, a4, a5, a6⟩
  · obtain ⟨m5, r1, r2⟩ := reckon_eq a5 a6 a7
    rw [r1] at a2
    have FR := PA_reckon_fr (L := W_PA_reckon) (R := []) (wL_sub rfl) m6 _ r1
    obtain ⟨m7, eO, c2, c3, F7⟩ := eF _ _ a2
    have g12 : gI m5 1 2 = 0 := by rw [FR.I 1 2 rfl, a3]
    rw [if_pos g12] at eO
    obtain ⟨m10, m11, x1, x2, x3, OB, FB⟩ := ref _ _ eO
    rcases OB with ⟨o1, o2, o3, o4, o5, o6⟩ | ⟨o1, o2, o3, o4⟩
    · obtain ⟨mF, f1, f2, f3, f4, f5⟩ := pcG_eq o4 o3 o5
      have eR : RM_paces m7 = some (nI o.2.2.1, mF) := by rw [x1, o2, f1]
      refine ⟨_, m7, mF, eO, eR, done _ _ _ eO eR c3 ?_ ?_ (Or.inr ⟨f3, fun i hi => ?_⟩)⟩
      · rw [f5, o6.I 133 2 rfl, x3]
      · rw [c2, g12, f4, o6.I 133 14 rfl, x2]
      · rw [F7.I 32 i rfl, r2 i hi, f2 i hi]
    · omega
  · obtain ⟨m7, eO, c2, c3, F7⟩ := eF _ _ a3
    have nz : ¬ gI m6 1 2 = 0 := by rw [a4, k0, n_eq (by omega) (by omega)]; omega
    rw [if_neg nz, a5] at eO
    have FO := OH_paces_fr (L := W_OH_paces) (R := []) (wL_sub rfl) m _ eO
    obtain ⟨m10, m11, x1, x2, x3, OB, FB⟩ := ref _ _ eO
    rcases OB with ⟨o1, o2, o3, o4, o5, o6⟩ | ⟨o1, o2, o3, o4⟩
    · omega
    · have eR : RM_paces m7 = some (-1 - nI o.2.1, m11) := by rw [x1, o2]
      have x10 : ∀ i, gI m10 155 i = gI m7 155 i ∧ gI m10 133 52 = gI m7 133 52 := fun i => ⟨FB.I 155 i rfl, FB.I 133 52 rfl⟩
      refine ⟨_, m7, m11, eO, eR, done _ _ _ eO eR c3 (by rw [o4.I 133 2 rfl, x3]) (by rw [c2, a4, o3]) (Or.inl ⟨fun i _ => ?_, fun i => ?_, ?_⟩)⟩
      · rw [F7.I 32 i rfl, a6.I 32 i rfl, F3.I 32 i rfl, F2.I 32 i rfl]
      · rw [o4.I 155 i rfl, (x10 i).1, FO.I 155 i rfl]
      · rw [o4.I 133 52 rfl, (x10 0).2, FO.I 133 52 rfl]

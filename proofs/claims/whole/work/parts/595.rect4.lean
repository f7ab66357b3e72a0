theorem iTape0 {m : Mem} (h1 : gI m 1 1 = 0) (h2 : gI m 133 2 = 0) : iTape m := ⟨by rw [h1, h2], by rw [h2]; exact isN.of (n := 0) (by omega) (by omega), fun i hi => by rw [h2, show ixn 0 = 0 from rfl] at hi; omega⟩
def LRc : List (Nat × Nat) := (1, 1) :: (36, 1) :: (36, 2) :: (37, 999999) :: (38, 999999) :: (39, 999999) :: (66, 999999) :: W_RM_rectangle
/-- the edge's law as a number -/
theorem edge_v {m : Mem} (h : Inv m) : ∃ v, v ≤ 1 ∧ 1 - gI m 135 5 = nI v ∧ ((v = 0 ∧ gI m 135 5 = 1) ∨ (v = 1 ∧ gI m 135 5 = 0)) ∧ gI m (gN m 13) 11 = gI m 135 5 := by
  obtain ⟨e, he, ee⟩ := h.2.2.2.1.2.2.2.2.2.1.ex
  rw [Nat.zero_add] at ee
  have e11 : gI m (gN m 13) 11 = gI m 135 5 := h.2.2.1.2.2.2.2.2.1
  rcases (show e = 0 ∨ e = 1 by omega) with rfl | rfl
  · exact ⟨1, by omega, by rw [ee]; decide, Or.inr ⟨rfl, ee⟩, e11⟩
  · exact ⟨0, by omega, by rw [ee]; decide, Or.inl ⟨rfl, ee⟩, e11⟩
theorem op_rectangle {m : Mem} (h : Inv m) : ∃ v m1 m2, OH_rectangle m = some (v, m1) ∧ RM_rectangle m1 = some (v, m2) ∧ Inv m2 := by
  have hp13 : gN m 13 = 101 ∨ gN m 13 = 117 := by rcases h.1 with q | q <;> omega
  rcases take_both h with ⟨N, b, hN1, hN, hb, ⟨mA, a1, a2, a3, FA⟩, hR⟩ | ⟨⟨mA, a1, FA⟩, hR⟩
  · obtain ⟨v, hv, ev, hvv, e11⟩ := edge_v h
    have wA : ∀ c j, c < 36 ∨ 39 < c → gI mA c j = gI m c j := fun c j hc => FA.I c j (by unfold wL; simp; omega)
    have NA' : gN mA 13 = gN m 13 := FA.N 13
    let m6 := sI (sI mA 1 1 0) 36 1 (gI m 135 5)
    have h6 : m6 = sI (sI mA 1 1 0) 36 1 (gI m 135 5) := rfl
    have T6 : CT m6 N v b := ⟨by rw [h6, gI_sI, if_pos ⟨rfl, rfl⟩, ev], by rw [h6, gI_sI, if_neg (by omega), gI_sI, if_neg (by omega)]; exact a2, fun i hi => by
      rw [h6, gI_sI, if_neg (by omega), gI_sI, if_neg (by omega), gI_sI, if_neg (by omega), gI_sI, if_neg (by omega), gI_sI, if_neg (by omega), gI_sI, if_neg (by omega)]; exact a3 i hi⟩
    have eO0 : OH_rectangle m = OH_rectangle_L43 (fun m7 => some ((-1), m7)) FU m6 2 := by
      have g : gI (sI mA 1 1 0) (gN (sI mA 1 1 0) 13) 11 = gI m 135 5 := by rw [gN_sI, NA', gI_sI, if_neg (by omega), wA _ _ (by omega), e11]
      rw [OH_rectangle, a1, bV_s, letM_p, if_neg (by decide), g, letM_p]
    have F6 : Frm [(36, 1), (36, 2), (37, 999999), (38, 999999), (39, 999999), (1, 1)] [] m m6 := (FA.mo (wL_sub rfl)).tr ((Frm.sI rfl rfl).tr (Frm.sI rfl rfl))
    -- the reference on what the class left
    have ref : ∀ m1, Frm [(36, 999999), (37, 999999), (38, 999999), (39, 999999), (1, 1), (66, 999999)] [] m m1 → ∃ m' best, RM_rectangle m1 = some (best, m') ∧ RS (Gq b N v) m m' best 20 0 0 0 ∧ gI m' 133 2 = 0 ∧ Frm W_RM_rectangle [] m1 m' := by
      intro m1 F1
      obtain ⟨mB, b1, b2, b3, b4, FB⟩ := hR (sI m1 133 0 0) (by rw [gI_sI, if_neg (by omega), F1.I 133 2 rfl]) (fun i => by rw [gI_sI, if_neg (by omega), F1.I 134 i rfl])
      have T : RT (sI mB 133 22 4) N v b := ⟨by rw [gI_sI, if_neg (by omega), FB.I 135 5 rfl, gI_sI, if_neg (by omega), F1.I 135 5 rfl]; exact hvv, by rw [gI_sI, if_pos ⟨rfl, rfl⟩], by rw [gI_sI, if_neg (by omega)]; exact b2, fun t ht => by rw [gI_sI, if_neg (by omega)]; exact b3 t ht⟩
      obtain ⟨m', best, e, S, F⟩ := rq_x (m0 := m) (v := v) (kx := fun m7 y6 => some (y6, m7)) hb hN 20 0 FU (sI mB 133 22 4) (-1) (by omega) (by unfold FU; omega) T (Or.inl ⟨rfl, fun a' b' c' d' vv l => by unfold lxq at l; omega, fun j => by rw [gI_sI, if_neg (by omega), FB.I 154 j rfl, gI_sI, if_neg (by omega), F1.I 154 j rfl], by rw [gI_sI, if_neg (by omega), FB.I 133 49 rfl, gI_sI, if_neg (by omega), F1.I 133 49 rfl]⟩)
      have eR : RM_rectangle m1 = some (best, m') := by
        rw [show nI 0 = 0 from k0.symm] at e
        rw [RM_rectangle, letM_p, b1, bV_s, if_neg (by decide), letM_p, e]
      exact ⟨m', best, eR, S, by rw [F.I 133 2 rfl, gI_sI, if_neg (by omega)]; exact b4, RM_rectangle_fr (wL_sub rfl) m1 _ eR⟩
    have fin : ∀ m1 m', Frm [(36, 999999), (37, 999999), (38, 999999), (39, 999999), (1, 1), (66, 999999)] [] m m1 → Frm W_RM_rectangle [] m1 m' → gI m1 1 1 = 0 → gI m' 133 2 = 0 → ((∀ i, i < 4 → gI m' 66 i = gI m 66 i ∧ gI m' 154 i = gI m 154 i) ∧ gI m' 133 49 = gI m 133 49 ∨ (gI m' 133 49 = 1 ∧ ∀ i, i < 4 → gI m' 66 i = gI m' 154 i)) → Inv m' := by
      intro m1 m' F1 F2 t1 t2 ht
      have F : Frm ((36, 999999) :: (37, 999999) :: (38, 999999) :: (39, 999999) :: (1, 1) :: (66, 999999) :: W_RM_rectangle) [] m m' := (F1.mo (wL_sub rfl)).tr (F2.mo (wL_sub rfl))
      refine inv_told F (by decide) (iTape0 (by rw [F2.I 1 1 rfl, t1]) t2) ?_ h
      have hQ := h.2.2.2.2.2.2.1
      unfold iTold at hQ ⊢
      rw [F.I 0 15 rfl, F.I 133 14 rfl, F.I 0 16 rfl, F.I 133 27 rfl, F.I 133 36 rfl, F.I 133 52 rfl, F.I 40 1 rfl, F.I 133 45 rfl, F.I 40 0 rfl, F.I 133 46 rfl]
      simp only [fun k => F.I 27 k rfl, fun k => F.I 148 k rfl, fun k => F.I 32 k rfl, fun k => F.I 155 k rfl, fun k => F.I 41 k rfl, fun k => F.I 153 k rfl]
      obtain ⟨q1, q2, q3, q4, q5, q6⟩ := hQ
      refine ⟨q1, q2, q3, q4, ?_, q6⟩
      rcases ht with ⟨z1, z2⟩ | ⟨z1, z2⟩
      · rw [z2]
        rcases q5 with ⟨y1, y2⟩ | ⟨y1, y2⟩
        · exact Or.inl ⟨y1, fun i hi => by rw [(z1 i hi).1]; exact y2 i hi⟩
        · exact Or.inr ⟨y1, fun i hi => by rw [(z1 i hi).1, (z1 i hi).2]; exact y2 i hi⟩
      · exact Or.inr ⟨z1, z2⟩
    have t11 : gI m6 1 1 = 0 := by rw [h6, gI_sI, if_neg (by omega), gI_sI, if_pos ⟨rfl, rfl⟩]
    rcases cq_s hb hN hv T6 39 2 FU (by omega) (by omega) (by unfold FU; omega) (fun a' b'' c' e' vv l => by obtain ⟨v1, v2, v3, v4⟩ := vv; omega) with ⟨a, b', c, e, m7, r1, r2, r3⟩ | ⟨r1, r2⟩
    · have eO : OH_rectangle m = some (nI ((c - a) + (e - b')), m7) := by rw [eO0]; exact r1
      obtain ⟨w0, w1, w2, w3, F7⟩ := r2
      have FF : Frm [(36, 999999), (37, 999999), (38, 999999), (39, 999999), (1, 1), (66, 999999)] [] m m7 := (F6.mo (wL_subM rfl)).tr (F7.mo (wL_sub rfl))
      obtain ⟨m8, best, eR, S, t2, F8⟩ := ref m7 FF
      rcases S with ⟨s1, s2, _⟩ | ⟨a', b'', c', e', s1, s2, s3, s4, s5, s6, s7⟩
      · exfalso
        have := s2 a b' c e r3.1 r3.2.2.1
        rw [r3.2.1] at this
        simp at this
      · obtain ⟨rfl, rfl, rfl, rfl⟩ := r3.uq s7
        rw [s1] at eR
        refine ⟨_, m7, m8, eO, eR, fin m7 m8 FF F8 (by rw [F7.I 1 1 rfl]; exact t11) t2 (Or.inr ⟨s2, fun i hi => ?_⟩)⟩
        rw [F8.I 66 i rfl]
        rcases (show i = 0 ∨ i = 1 ∨ i = 2 ∨ i = 3 by omega) with rfl | rfl | rfl | rfl
        · rw [w0, s3]
        · rw [w1, s4]
        · rw [w2, s5]
        · rw [w3, s6]
    · have eO : OH_rectangle m = some (-1, m6) := by rw [eO0]; exact r2
      have FF : Frm [(36, 999999), (37, 999999), (38, 999999), (39, 999999), (1, 1), (66, 999999)] [] m m6 := F6.mo (wL_subM rfl)
      obtain ⟨m8, best, eR, S, t2, F8⟩ := ref m6 FF
      rcases S with ⟨s1, s2, s3, s4⟩ | ⟨a', b'', c', e', s1, s2, s3, s4, s5, s6, s7⟩
      · rw [s1] at eR
        exact ⟨_, m6, m8, eO, eR, fin m6 m8 FF F8 t11 t2 (Or.inl ⟨fun i _ => ⟨by rw [F8.I 66 i rfl, F6.I 66 i rfl], s3 i⟩, s4⟩)⟩
      · exfalso
        have := r1 a' b'' c' e' s7.1 s7.2.2.1
        rw [s7.2.1] at this
        simp at this
  · obtain ⟨mB, b1, b4, FB⟩ := hR (sI (sI mA 1 1 0) 133 0 0) (by rw [gI_sI, if_neg (by omega), gI_sI, if_neg (by omega), FA.I 133 2 rfl]) (fun i => by rw [gI_sI, if_neg (by omega), gI_sI, if_neg (by omega), FA.I 134 i rfl])
    have eO : OH_rectangle m = some (-2, sI mA 1 1 0) := by rw [OH_rectangle, a1, bV_s, letM_p, if_pos rfl]
    have eR : RM_rectangle (sI mA 1 1 0) = some (-2, mB) := by rw [RM_rectangle, letM_p, b1, bV_s, if_pos rfl]
    refine ⟨_, _, mB, eO, eR, ?_⟩
    have F : Frm ((1, 1) :: (133, 0) :: (36, 2) :: (37, 999999) :: (38, 999999) :: (39, 999999) :: W_RM_isTold) [] m mB := (FA.mo (wL_sub rfl)).tr ((Frm.sI rfl rfl).tr ((Frm.sI rfl rfl).tr (FB.mo (wL_sub rfl))))
    refine inv_told F (by decide) (iTape0 (by rw [FB.I 1 1 rfl, gI_sI, if_neg (by omega), gI_sI, if_pos ⟨rfl, rfl⟩]) b4) ?_ h
    have hQ := h.2.2.2.2.2.2.1
    unfold iTold at hQ ⊢
    rw [F.I 0 15 rfl, F.I 133 14 rfl, F.I 0 16 rfl, F.I 133 27 rfl, F.I 133 36 rfl, F.I 133 52 rfl, F.I 133 49 rfl, F.I 40 1 rfl, F.I 133 45 rfl, F.I 40 0 rfl, F.I 133 46 rfl]
    simp only [fun k => F.I 27 k rfl, fun k => F.I 148 k rfl, fun k => F.I 32 k rfl, fun k => F.I 155 k rfl, fun k => F.I 66 k rfl, fun k => F.I 154 k rfl, fun k => F.I 41 k rfl, fun k => F.I 153 k rfl]
    exact hQ

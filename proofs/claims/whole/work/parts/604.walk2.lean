theorem wk_end {b : Nat → Nat} {L M : Nat} {X : Nat → Nat → Nat} {n p sq : Nat} {c st : Int32} (h : tkK b L M p = 0) : wkl b L M X n p sq c st = if L ≤ M then (0, 0, sq, c, st) else (1, tkS b L M p, sq, c, st) := by
  cases n with
  | zero => rfl
  | succ n => show (if tkK b L M p = 0 then _ else _) = _; rw [if_pos h]
abbrev Lwf : List (Nat × Nat) := [(1, 2), (1, 3), (1, 4), (1, 5), (1, 6), (1, 7), (1, 8), (1, 10), (26, 1), (26, 2), (26, 3)]
theorem wz : ∀ c, 2 ≤ c → c < 11 → ∀ k, wL Lwf c k = false := by
  intro c h1 hc k
  unfold wL
  simp
  omega
theorem GX.fr2 {m m' : Mem} {n : Nat} {U V : Nat → Int} {A : List (Nat × Nat)} (h : GX m n U V) (F : Frm A [] m m') (z : ∀ c, 2 ≤ c → c < 11 → ∀ k, wL A c k = false) : GX m' n U V := by
  obtain ⟨T, O, G⟩ := h
  refine ⟨T, O, fun r c hr hc => ?_⟩
  rw [F.I _ _ (z _ (by omega) (by omega) _), F.I _ _ (z _ (by omega) (by omega) _), F.I _ _ (z _ (by omega) (by omega) _), F.I _ _ (z _ (by omega) (by omega) _)]
  exact G r c hr hc
/-- one row of a walk, the class -/
theorem wa_row {m : Mem} {b : Nat → Nat} {L M n p sq : Nat} {c st : Int32} {U V : Nat → Int} (hn : n ≤ 12) (T : TA m b L M) (K : CKA m b L M p) (hp : p ≤ L) (hs : sq < 400) (h1 : gI m 26 1 = nI sq) (h2 : gI m 26 2 = st) (h3 : gI m 26 3 = c) (h12 : gI m 1 2 = 0) (G : GX m n U V) (hK : tkK b L M p ≠ 0) :
    (∃ m' r, WK_followRow m 5 = some (1, m') ∧ (tkK b L M p = 1 ∧ dirW (tkW b L M p) < 4) ∧ (tkK b L M (tkN b L M p) = 2 ∧ 1 ≤ tkV b L M (tkN b L M p) ∧ tkV b L M (tkN b L M p) ≤ 20) ∧ wst (stX U V n) (dirW (tkW b L M p)) (tkV b L M (tkN b L M p)) sq c st = some r ∧ tkK b L M (tkN b L M (tkN b L M p)) = 3 ∧ gI m' 1 10 = nI (tkN b L M (tkN b L M (tkN b L M p))) ∧ gI m' 26 1 = nI r.1 ∧ gI m' 26 2 = r.2.2 ∧ gI m' 26 3 = r.2.1 ∧ gI m' 1 2 = 0 ∧ Frm Lwf [] m m' ∧ r.1 < 400 ∧ TA m' b L M ∧ ∀ k, wkl b L M (stX U V n) (k + 1) p sq c st = wkl b L M (stX U V n) k (tkN b L M (tkN b L M (tkN b L M p))) r.1 r.2.1 r.2.2) ∨
    (∃ m' e s, WK_followRow m 5 = some (0, m') ∧ 0 < e ∧ e < 6 ∧ gI m' 1 2 = nI e ∧ gI m' 1 3 = nI s ∧ Frm Lwf [] m m' ∧ ∀ k, wkl b L M (stX U V n) (k + 1) p sq c st = (e, s, sq, c, st)) := by
  have kc := tkK_c b L M p
  have wk1 : ∀ k, wkl b L M (stX U V n) (k + 1) p sq c st = if tkK b L M p = 1 ∧ dirW (tkW b L M p) < 4 then
      (if tkK b L M (tkN b L M p) = 2 then
        (if 1 ≤ tkV b L M (tkN b L M p) ∧ tkV b L M (tkN b L M p) ≤ 20 then
          (match wst (stX U V n) (dirW (tkW b L M p)) (tkV b L M (tkN b L M p)) sq c st with
          | none => (5, tkS b L M p, sq, c, st)
          | some r => if tkK b L M (tkN b L M (tkN b L M p)) = 3 then wkl b L M (stX U V n) k (tkN b L M (tkN b L M (tkN b L M p))) r.1 r.2.1 r.2.2 else (1, tkS b L M (tkN b L M (tkN b L M p)), sq, c, st))
        else (2, tkS b L M (tkN b L M p), sq, c, st))
      else (1, tkS b L M (tkN b L M p), sq, c, st))
    else (1, tkS b L M p, sq, c, st) := fun k => by
    show (if tkK b L M p = 0 then _ else _) = _
    rw [if_neg hK]
    rfl
  by_cases hd : tkK b L M p = 1 ∧ dirW (tkW b L M p) < 4
  · have tn := tkN_gt (b := b) (L := L) (M := M) (p := p) (Or.inl hd.1)
    have g6 : gI m 1 6 = nI (dirW (tkW b L M p)) := by rw [(K.2.2.2.1 hd.1).1, (dirW_word _).1 hd.2]
    obtain ⟨m1, e1, T1, a1, a2⟩ := readNum T (K.2.2.1 (Or.inl hd.1)) tn.2.1 1 20 (by omega) (by omega)
    have eF : WK_followRow m 5 = bV (RD_readNumber m 1 20) fun v3 m4 => if v3 = 0 then (some (0, m4)) else (WK_followRow_L41 5 (nI (tkS b L M p)) (nI (dirW (tkW b L M p))) (fun m6 => bV (RD_readSemicolon m6) fun v7 m8 => if v7 = 0 ∨ v7 = 1 then (some (v7, m8)) else none) FU m4 0) := by
      rw [WK_followRow, isDir K, if_pos hd, if_neg (by decide), letV_p, letV_p, K.2.1, g6]
    by_cases hv : tkK b L M (tkN b L M p) = 2 ∧ 1 ≤ tkV b L M (tkN b L M p) ∧ tkV b L M (tkN b L M p) ≤ 20
    · obtain ⟨b1, b2, F1⟩ := a1 hv
      have tn2 := tkN_gt (b := b) (L := L) (M := M) (p := tkN b L M p) (Or.inr (Or.inl hv.1))
      have G1 : GX m1 n U V := G.fr2 (F1.mo (wL_sub (B := Lwf) rfl)) wz
      obtain ⟨i1, i2⟩ := wa_steps (S := tkS b L M p) (kx := fun m6 => bV (RD_readSemicolon m6) fun v7 m8 => if v7 = 0 ∨ v7 = 1 then (some (v7, m8)) else none) hn hd.2 (show tkV b L M (tkN b L M p) ≤ 99 by omega) (tkV b L M (tkN b L M p)) 0 FU sq c st m1 (by omega) (by unfold FU; omega) hs b1 (by rw [F1.I 26 1 rfl]; exact h1) (by rw [F1.I 26 2 rfl]; exact h2) (by rw [F1.I 26 3 rfl]; exact h3) G1
      rw [show nI 0 = 0 from k0.symm] at i1 i2
      have e1' : RD_readNumber m 1 20 = some (1, m1) := by rw [if_pos hv] at e1; exact e1
      cases hw : wst (stX U V n) (dirW (tkW b L M p)) (tkV b L M (tkN b L M p)) sq c st with
      | none =>
        obtain ⟨m2, e2, c1, c2, F2⟩ := i2 hw
        refine Or.inr ⟨m2, 5, tkS b L M p, by rw [eF, e1', bV_s, if_neg (by decide), e2], by omega, by omega, c1, c2, (F1.mo (wL_sub rfl)).tr (F2.mo (wL_sub rfl)), fun k => by rw [wk1, if_pos hd, if_pos hv.1, if_pos hv.2, hw]⟩
      | some r =>
        obtain ⟨m2, e2, c1, c2, c3, F2⟩ := i1 r hw
        have T2 := T1.fr F2 rfl rfl (fun _ => rfl)
        obtain ⟨m3, e3, T3, s1, s2⟩ := readSemi (p := tkN b L M (tkN b L M p)) T2 (by rw [F2.I 1 10 rfl]; exact b2) tn2.2.1
        by_cases h3' : tkK b L M (tkN b L M (tkN b L M p)) = 3
        · obtain ⟨t1, F3⟩ := s1 h3'
          rw [if_pos h3'] at e3
          refine Or.inl ⟨m3, r, by rw [eF, e1', bV_s, if_neg (by decide), e2, e3, bV_s, if_pos (Or.inr rfl)], hd, hv, rfl, h3', t1, by rw [F3.I 26 1 rfl]; exact c1, by rw [F3.I 26 2 rfl]; exact c2, by rw [F3.I 26 3 rfl]; exact c3, by rw [F3.I 1 2 rfl, F2.I 1 2 rfl, F1.I 1 2 rfl]; exact h12, (F1.mo (wL_sub rfl)).tr ((F2.mo (wL_sub rfl)).tr (F3.mo (wL_sub rfl))), wst_lt _ _ _ _ r hs hw, T3, fun k => by rw [wk1, if_pos hd, if_pos hv.1, if_pos hv.2, hw]; simp only [if_pos h3']⟩
        · obtain ⟨t1, t2, F3⟩ := s2 h3'
          rw [if_neg h3'] at e3
          refine Or.inr ⟨m3, 1, tkS b L M (tkN b L M (tkN b L M p)), by rw [eF, e1', bV_s, if_neg (by decide), e2, e3, bV_s, if_pos (Or.inl rfl)], by omega, by omega, t1, t2, (F1.mo (wL_sub rfl)).tr ((F2.mo (wL_sub rfl)).tr (F3.mo (wL_sub rfl))), fun k => ?_⟩
          rw [wk1, if_pos hd, if_pos hv.1, if_pos hv.2, hw]
          simp only [if_neg h3']
    · obtain ⟨b1, b2, F1⟩ := a2 hv
      have e1' : RD_readNumber m 1 20 = some (0, m1) := by rw [if_neg hv] at e1; exact e1
      by_cases h2' : tkK b L M (tkN b L M p) = 2
      · rw [if_pos h2'] at b1
        refine Or.inr ⟨m1, 2, tkS b L M (tkN b L M p), by rw [eF, e1', bV_s, if_pos rfl], by omega, by omega, b1, b2, F1.mo (wL_sub rfl), fun k => by rw [wk1, if_pos hd, if_pos h2', if_neg (fun y => hv ⟨h2', y⟩)]⟩
      · rw [if_neg h2'] at b1
        exact Or.inr ⟨m1, 1, tkS b L M (tkN b L M p), by rw [eF, e1', bV_s, if_pos rfl], by omega, by omega, b1, b2, F1.mo (wL_sub rfl), fun k => by rw [wk1, if_pos hd, if_neg h2']⟩
  · refine Or.inr ⟨sI (sI m 1 2 1) 1 3 (nI (tkS b L M p)), 1, tkS b L M p, ?_, by omega, by omega, by rw [gI_sI, if_neg (by omega), gI_sI, if_pos ⟨rfl, rfl⟩]; rfl, by rw [gI_sI, if_pos ⟨rfl, rfl⟩], (Frm.sI rfl rfl).tr (Frm.sI rfl rfl), fun k => by rw [wk1, if_neg hd]⟩
    rw [WK_followRow, isDir K, if_neg hd, if_pos rfl, RD_fail, RD_failAt, letM_p, letM_p, bV_s, if_pos (Or.inl rfl), bV_s, if_pos (Or.inl rfl), K.2.1]
/-- what the class makes of an outcome -/
def OutA (m m' : Mem) (v : Int32) (o : Nat × Nat × Nat × Int32 × Int32) : Prop := (o.1 = 0 ∧ v = o.2.2.2.1 ∧ gI m' 1 2 = 0 ∧ gI m' 27 0 = nI (o.2.2.1 % 20) ∧ gI m' 27 1 = nI (o.2.2.1 / 20) ∧ gI m' 27 2 = o.2.2.2.2) ∨ (0 < o.1 ∧ o.1 < 6 ∧ gI m' 1 2 = nI o.1 ∧ gI m' 1 3 = nI o.2.1 ∧ ∀ i, gI m' 27 i = gI m 27 i)
theorem wa_end {m : Mem} {b : Nat → Nat} {L M p x4 f sq k : Nat} {c st : Int32} {X : Nat → Nat → Nat} (T : TA m b L M) (h10 : gI m 1 10 = nI p) (hp : p ≤ L) (hx : x4 ≤ 300) (hs : sq < 400) (h1 : gI m 26 1 = nI sq) (h2 : gI m 26 2 = st) (h3 : gI m 26 3 = c) (h12 : gI m 1 2 = 0) (hK : tkK b L M p = 0) : ∃ v m', WK_follow_L18 5 (fun m4 => some ((-1), m4)) (f + 1) m (nI x4) = some (v, m') ∧ OutA m m' v (wkl b L M X k p sq c st) := by
  have l1 := T.1
  have l2 := T.2.1
  obtain ⟨m1, e1, K, T1, F1⟩ := adv T h10 hp
  have eE : RD_isAtEnd m = some (1, m1) := by rw [RD_isAtEnd, e1, bM_s, K.1, hK, if_pos (by decide)]
  have e0 : WK_follow_L18 5 (fun m4 => some ((-1), m4)) (f + 1) m (nI x4) = bV (RD_closes m1) fun v7 m8 => if v7 = 0 then (some ((gI m8 26 3), m8)) else (if inb 0 3 then (letM (sI m8 27 (ixn 0) (irm (gI m8 26 1) 20)) fun m11 => if inb 1 3 then (letM (sI m11 27 (ixn 1) ((gI m11 26 1) / 20)) fun m13 => if inb 2 3 then (letM (sI m13 27 (ixn 2) (gI m13 26 2)) fun m15 => some ((gI m15 26 3), m15)) else none) else none) else none) := by
    rw [WK_follow_L18, if_neg (by rw [show (300 : Int32) = nI 300 from rfl, n_lt (by omega) (by omega)]; omega), eE, bV_s, if_neg (by decide)]
  rw [wk_end hK]
  by_cases z : L ≤ M
  · rw [if_pos z]
    have eC : RD_closes m1 = some (1, m1) := by rw [RD_closes, T1.2.2.1, T1.2.2.2.1, if_pos (by rw [n_le (by omega) (by omega)]; exact z)]
    have g1 : gI m1 26 1 = nI sq := by rw [F1.I 26 1 rfl, h1]
    let m4 := sI (sI (sI m1 27 0 (nI (sq % 20))) 27 1 (nI (sq / 20))) 27 2 st
    have h4 : m4 = sI (sI (sI m1 27 0 (nI (sq % 20))) 27 1 (nI (sq / 20))) 27 2 st := rfl
    refine ⟨c, m4, ?_, Or.inl ⟨rfl, rfl, by rw [h4, gI_sI, if_neg (by omega), gI_sI, if_neg (by omega), gI_sI, if_neg (by omega), F1.I 1 2 rfl, h12], by rw [h4, gI_sI, if_neg (by omega), gI_sI, if_neg (by omega), gI_sI, if_pos ⟨rfl, rfl⟩], by rw [h4, gI_sI, if_neg (by omega), gI_sI, if_pos ⟨rfl, rfl⟩], by rw [h4, gI_sI, if_pos ⟨rfl, rfl⟩]⟩⟩
    have ga : gI (sI m1 27 0 (nI (sq % 20))) 26 1 = nI sq := by rw [gI_sI, if_neg (by omega), g1]
    have gb : gI (sI (sI m1 27 0 (nI (sq % 20))) 27 1 (nI (sq / 20))) 26 2 = st := by rw [gI_sI, if_neg (by omega), gI_sI, if_neg (by omega), F1.I 26 2 rfl, h2]
    have gc : gI m4 26 3 = c := by rw [h4, gI_sI, if_neg (by omega), gI_sI, if_neg (by omega), gI_sI, if_neg (by omega), F1.I 26 3 rfl, h3]
    rw [e0, eC, bV_s, if_neg (by decide), g1, k20, irm_n (by omega) (by omega) (by omega), if_pos (show inb 0 3 by decide), show ixn 0 = 0 from rfl, letM_p, if_pos (show inb 1 3 by decide), show ixn 1 = 1 from rfl, ga, div_n (by omega) (by omega) (by omega), letM_p, if_pos (show inb 2 3 by decide), show ixn 2 = 2 from rfl, gb, letM_p, ← h4, gc]
  · rw [if_neg z]
    have eC : RD_closes m1 = some (0, sI (sI m1 1 2 1) 1 3 (nI (tkS b L M p))) := by
      rw [RD_closes, T1.2.2.1, T1.2.2.2.1, if_neg (by rw [n_le (by omega) (by omega)]; exact z), RD_fail, RD_failAt, letM_p, letM_p, bV_s, if_pos (Or.inl rfl), bV_s, if_pos rfl, K.2.1]
    refine ⟨_, _, by rw [e0, eC, bV_s, if_pos rfl], Or.inr ⟨by show 0 < 1; omega, by show 1 < 6; omega, by rw [gI_sI, if_neg (by omega), gI_sI, if_pos ⟨rfl, rfl⟩]; rfl, by rw [gI_sI, if_pos ⟨rfl, rfl⟩], fun i => by rw [gI_sI, if_neg (by omega), gI_sI, if_neg (by omega), F1.I 27 i rfl]⟩⟩
theorem wa_loop {b : Nat → Nat} {L M n : Nat} {U V : Nat → Int} (hn : n ≤ 12) (hM : M ≤ 300) : ∀ (k p x4 fu sq : Nat) (c st : Int32) (m : Mem), min L M ≤ p + k → x4 ≤ p → x4 ≤ 300 → p ≤ L → k < fu → sq < 400 → TA m b L M → gI m 1 10 = nI p → gI m 26 1 = nI sq → gI m 26 2 = st → gI m 26 3 = c → gI m 1 2 = 0 → GX m n U V →
    ∃ v m', WK_follow_L18 5 (fun m4 => some ((-1), m4)) fu m (nI x4) = some (v, m') ∧ OutA m m' v (wkl b L M (stX U V n) k p sq c st) := by
  intro k
  induction k with
  | zero =>
    intro p x4 fu sq c st m hk hx hx3 hp hf hs T h10 h1 h2 h3 h12 G
    obtain ⟨f, rfl⟩ : ∃ f, fu = f + 1 := ⟨fu - 1, by omega⟩
    exact wa_end T h10 hp hx3 hs h1 h2 h3 h12 (tkK_end (by omega))
  | succ k ih =>
    intro p x4 fu sq c st m hk hx hx3 hp hf hs T h10 h1 h2 h3 h12 G
    obtain ⟨f, rfl⟩ : ∃ f, fu = f + 1 := ⟨fu - 1, by omega⟩
    by_cases hK : tkK b L M p = 0
    · exact wa_end T h10 hp hx3 hs h1 h2 h3 h12 hK
    · have kc := tkK_c b L M p
      obtain ⟨m1, e1, K, T1, F1⟩ := adv T h10 hp
      have eE : RD_isAtEnd m = some (0, m1) := by rw [RD_isAtEnd, e1, bM_s, K.1, if_neg (by rw [k0, n_eq (by omega) (by omega)]; exact hK)]
      have e0 : WK_follow_L18 5 (fun m4 => some ((-1), m4)) (f + 1) m (nI x4) = bV (WK_followRow m1 5) fun v4 m5 => if v4 = 0 then (some ((-1), m5)) else (WK_follow_L18 5 (fun m4 => some ((-1), m4)) f m5 (nI (x4 + 1))) := by
        rw [WK_follow_L18, if_neg (by rw [show (300 : Int32) = nI 300 from rfl, n_lt (by omega) (by omega)]; omega), eE, bV_s, if_pos rfl, show nI x4 + 1 = nI (x4 + 1) by rw [k1, n_add]]
      have G1 : GX m1 n U V := G.fr2 (F1.mo (wL_sub (B := Lwf) rfl)) wz
      rcases wa_row (c := c) (st := st) hn T1 K hp hs (by rw [F1.I 26 1 rfl]; exact h1) (by rw [F1.I 26 2 rfl]; exact h2) (by rw [F1.I 26 3 rfl]; exact h3) (by rw [F1.I 1 2 rfl]; exact h12) G1 hK with ⟨m2, r, e2, hd, hv, hw, h3', g10, g1, g2, g3, g12, F2, rl, T2, wk⟩ | ⟨m2, e, s, e2, p1, p2, p3, p4, F2, wk⟩
      · have t1 := tkN_gt (b := b) (L := L) (M := M) (p := p) (Or.inl hd.1)
        have t2 := tkN_gt (b := b) (L := L) (M := M) (p := tkN b L M p) (Or.inr (Or.inl hv.1))
        have t3 := tkN_gt (b := b) (L := L) (M := M) (p := tkN b L M (tkN b L M p)) (Or.inr (Or.inr h3'))
        obtain ⟨v, m3, e3, O⟩ := ih (tkN b L M (tkN b L M (tkN b L M p))) (x4 + 1) f r.1 r.2.1 r.2.2 m2 (by omega) (by omega) (by omega) t3.2.1 (by omega) rl T2 g10 g1 g2 g3 g12 (G1.fr2 F2 wz)
        refine ⟨v, m3, by rw [e0, e2, bV_s, if_neg (by decide), e3], ?_⟩
        rw [wk]
        rcases O with O | ⟨q1, q2, q3, q4, q5⟩
        · exact Or.inl O
        · exact Or.inr ⟨q1, q2, q3, q4, fun i => by rw [q5 i, F2.I 27 i rfl, F1.I 27 i rfl]⟩
      · refine ⟨-1, m2, by rw [e0, e2, bV_s, if_pos rfl], ?_⟩
        rw [wk]
        exact Or.inr ⟨p1, p2, p3, p4, fun i => by rw [F2.I 27 i rfl, F1.I 27 i rfl]⟩

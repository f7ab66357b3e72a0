/-! parish: both sides read side by side -/
/-- the line k told so far is the same -/
def LnR (mA mB : Mem) (q k : Nat) : Prop := gI mA (q + 2 + 3 * k) 1 = gI mB 136 (11 + k) ∧ gJ mA (q + 2 + 3 * k) 0 = gJ mB 137 (13 + k) ∧ ∀ i, i < ixn (gI mB 136 (11 + k)) → gI mA (q + 2 + 3 * k + 1) i = gI mB 136 (14 + 24 * k + 2 * i) ∧ gI mA (q + 2 + 3 * k + 2) i = gI mB 136 (14 + 24 * k + 2 * i + 1)
def HyR (mA mB : Mem) (q h : Nat) : Prop := gI mA (q + 11) h = gI mB 136 (86 + 3 * h) ∧ gI mA (q + 12) h = gI mB 136 (86 + 3 * h + 1) ∧ gI mA (q + 13) h = gI mB 136 (86 + 3 * h + 2) ∧ gJ mA (q + 14) h = gJ mB 137 (16 + h)
def PR2 (mA mB : Mem) (q : Nat) : Prop :=
  gI mA q 6 = gI mB 136 0 ∧ gI mA q 7 = gI mB 136 1 ∧ gI mA q 8 = gI mB 136 2 ∧ gI mA q 9 = gI mB 136 3 ∧ gI mA q 10 = gI mB 136 4 ∧ gI mA q 11 = gI mB 136 5 ∧ gI mA q 12 = gI mB 136 6 ∧ (∀ k, k < 4 → gI mA (q + 15) k = gI mB 136 (7 + k)) ∧ (∀ k, k < ixn (gI mB 136 0) → LnR mA mB q k) ∧ (∀ h, h < ixn (gI mB 136 1) → HyR mA mB q h) ∧ gI mA q 13 = gI mB 133 19 ∧ isN (gI mB 133 19) 15
theorem PR2.cg {mA mB mA' mB' : Mem} {q : Nat} (h : PR2 mA mB q) (c0 : gI mB' 136 0 = gI mB 136 0) (c1 : gI mB' 136 1 = gI mB 136 1) (c6 : gI mB' 136 6 = gI mB 136 6) (a6 : gI mA' q 6 = gI mA q 6) (a7 : gI mA' q 7 = gI mA q 7) (a12 : gI mA' q 12 = gI mA q 12)
    (s8 : gI mA' q 8 = gI mB' 136 2) (s9 : gI mA' q 9 = gI mB' 136 3) (s10 : gI mA' q 10 = gI mB' 136 4) (s11 : gI mA' q 11 = gI mB' 136 5) (he : ∀ k, k < 4 → gI mA' (q + 15) k = gI mB' 136 (7 + k))
    (ln : ∀ c j, q < c → c < q + 15 → gI mA' c j = gI mA c j ∧ gJ mA' c j = gJ mA c j) (lb : ∀ j, 11 ≤ j → gI mB' 136 j = gI mB 136 j) (nm : ∀ j, 13 ≤ j → gJ mB' 137 j = gJ mB 137 j) (bt : gI mA' q 13 = gI mB' 133 19 ∧ isN (gI mB' 133 19) 15) (hl : ixn (gI mB 136 0) ≤ 3) : PR2 mA' mB' q := by
  obtain ⟨p0, p1, p2, p3, p4, p5, p6, p7, p8, p9, p10, p11⟩ := h
  refine ⟨by rw [a6, c0, p0], by rw [a7, c1, p1], s8, s9, s10, s11, by rw [a12, c6, p6], he, fun k hk => ?_, fun t ht => ?_, bt⟩
  · rw [c0] at hk
    obtain ⟨l1, l2, l3⟩ := p8 k hk
    refine ⟨by rw [(ln _ 1 (by omega) (by omega)).1, lb _ (by omega), l1], by rw [(ln _ 0 (by omega) (by omega)).2, nm _ (by omega), l2], fun i hi => ?_⟩
    rw [lb _ (by omega)] at hi
    obtain ⟨x1, x2⟩ := l3 i hi
    exact ⟨by rw [(ln _ i (by omega) (by omega)).1, lb _ (by omega), x1], by rw [(ln _ i (by omega) (by omega)).1, lb _ (by omega), x2]⟩
  · rw [c1] at ht
    obtain ⟨l1, l2, l3, l4⟩ := p9 t ht
    exact ⟨by rw [(ln _ t (by omega) (by omega)).1, lb _ (by omega), l1], by rw [(ln _ t (by omega) (by omega)).1, lb _ (by omega), l2], by rw [(ln _ t (by omega) (by omega)).1, lb _ (by omega), l3], by rw [(ln _ t (by omega) (by omega)).2, nm _ (by omega), l4]⟩
theorem WFc.cg {m m' : Mem} {k : Nat} (h : WFc m 136 0 k) (lb : ∀ j, 11 ≤ j → gI m' 136 j = gI m 136 j) : WFc m' 136 0 k := by
  unfold WFc at *
  rw [lb _ (by omega)]
  refine ⟨h.1, h.2.1, fun i hi => ?_, fun i hi => ?_⟩
  · rw [lb _ (by omega), lb _ (by omega)]; exact h.2.2.1 i hi
  · rw [lb _ (by omega), lb _ (by omega), lb _ (by omega), lb _ (by omega)]; exact h.2.2.2 i hi
theorem WFs.cg {m m' : Mem} (h : WFs m 136 0) (c0 : gI m' 136 0 = gI m 136 0) (c1 : gI m' 136 1 = gI m 136 1) (s2 : isN (gI m' 136 2) 19) (s3 : isN (gI m' 136 3) 19) (s4 : isN (gI m' 136 4) 2) (s5 : isN (gI m' 136 5) 1) (he : ∀ k, k < 4 → isN (gI m' 136 (7 + k)) 9) (lb : ∀ j, 11 ≤ j → gI m' 136 j = gI m 136 j) : WFs m' 136 0 := by
  obtain ⟨p0, p1, p2, p3, p4, p5, p6, p7, p8⟩ := h
  refine ⟨by rw [c0]; exact p0, by rw [c1]; exact p1, s2, s3, s4, s5, fun k hk => ?_, fun k hk => ?_, fun t ht => ?_⟩
  · rw [show 0 + 7 + k = 7 + k by omega]; exact he k hk
  · rw [c0] at hk; exact (p7 k hk).cg lb
  · rw [c1] at ht
    rw [lb _ (by omega), lb _ (by omega), lb _ (by omega)]
    exact p8 t ht
def Tk2 (mA mB : Mem) (b : Nat → Nat) (L p : Nat) : Prop := TA mA b L 900 ∧ TB mB b L 900 ∧ gI mA 1 10 = nI p ∧ CKB mB b L 900 p ∧ p ≤ L
/-- both refuse, the same -/
def Bd2 (mA mB : Mem) (N : Nat → Int64) : Prop := (∃ e s, 0 < e ∧ e < 6 ∧ gI mA 1 2 = nI e ∧ gI mA 1 3 = nI s ∧ gI mB 133 14 = nI e ∧ gI mB 133 15 = nI s) ∧ ∀ j, j < 13 → gJ mB 137 j = N j
/-- both stand before the token p, and have told the same -/
def ST (mA mB : Mem) (q : Nat) (b : Nat → Nat) (L p : Nat) (N : Nat → Int64) : Prop := Tk2 mA mB b L p ∧ gI mA 1 2 = 0 ∧ gI mB 133 14 = 0 ∧ PR2 mA mB q ∧ WFs mB 136 0 ∧ (∀ k, k < 17 → gJ mB 138 k = resW.getD k 0) ∧ (∀ j, j < 13 → gJ mB 137 j = N j)
abbrev Lrb : List (Nat × Nat) := [(133, 4), (133, 10), (133, 11), (133, 12), (133, 13), (133, 16), (133, 17)]
theorem wcl {c k : Nat} (h : 2 ≤ c) : wL Lcl c k = false := by unfold wL; simp; omega
theorem wtk {c k : Nat} (h : 2 ≤ c) : wL Ltk c k = false := by unfold wL; simp; omega
theorem PR2.fr {mA mB mA' mB' : Mem} {q : Nat} (hq : 11 ≤ q) (h : PR2 mA mB q) (W : WFs mB 136 0) (FA : Frm Ltk [] mA mA') (FB : Frm Lrb [] mB mB') : PR2 mA' mB' q := by
  have fa : ∀ c j, 2 ≤ c → gI mA' c j = gI mA c j := fun c j hc => FA.I c j (wtk hc)
  have fj : ∀ c j, 2 ≤ c → gJ mA' c j = gJ mA c j := fun c j hc => FA.J c j (wtk hc)
  have fb : ∀ j, gI mB' 136 j = gI mB 136 j := fun j => FB.I 136 j rfl
  have hh := h
  obtain ⟨p0, p1, p2, p3, p4, p5, p6, p7, p8, p9, p10, p11⟩ := hh
  refine h.cg (fb _) (fb _) (fb _) (fa _ _ (by omega)) (fa _ _ (by omega)) (fa _ _ (by omega)) ?_ ?_ ?_ ?_ (fun k hk => ?_) (fun c j _ _ => ⟨fa _ _ (by omega), fj _ _ (by omega)⟩) (fun j _ => fb j) (fun j _ => FB.J 137 j rfl) ⟨?_, ?_⟩ W.1.le
  · rw [fa _ _ (by omega), fb, p2]
  · rw [fa _ _ (by omega), fb, p3]
  · rw [fa _ _ (by omega), fb, p4]
  · rw [fa _ _ (by omega), fb, p5]
  · rw [fa _ _ (by omega), fb, p7 k hk]
  · rw [fa _ _ (by omega), FB.I 133 19 rfl, p10]
  · rw [FB.I 133 19 rfl]; exact p11
theorem WFs.fr2 {m m' : Mem} (h : WFs m 136 0) (fb : ∀ j, gI m' 136 j = gI m 136 j) : WFs m' 136 0 := by
  have hh := h
  obtain ⟨p0, p1, p2, p3, p4, p5, p6, p7, p8⟩ := hh
  exact h.cg (fb _) (fb _) (by rw [fb]; exact p2) (by rw [fb]; exact p3) (by rw [fb]; exact p4) (by rw [fb]; exact p5) (fun k hk => by rw [fb]; have := p6 k hk; rw [show 0 + 7 + k = 7 + k by omega] at this; exact this) (fun j _ => fb j)
/-- a step of reading: only the tokens have changed -/
theorem ST.rd {mA mB mA' mB' : Mem} {q : Nat} {b : Nat → Nat} {L p p' : Nat} {N : Nat → Int64} (hq : 11 ≤ q) (h : ST mA mB q b L p N) (T : Tk2 mA' mB' b L p') (FA : Frm Ltk [] mA mA') (FB : Frm Lrb [] mB mB') : ST mA' mB' q b L p' N :=
  ⟨T, by rw [FA.I 1 2 rfl]; exact h.2.1, by rw [FB.I 133 14 rfl]; exact h.2.2.1, h.2.2.2.1.fr hq h.2.2.2.2.1 FA FB, h.2.2.2.2.1.fr2 (fun j => FB.I 136 j rfl), fun k hk => by rw [FB.J 138 k rfl]; exact h.2.2.2.2.2.1 k hk, fun j hj => by rw [FB.J 137 j rfl]; exact h.2.2.2.2.2.2 j hj⟩
theorem numS {mA mB : Mem} {q : Nat} {b : Nat → Nat} {L p : Nat} {N : Nat → Int64} (hq : 11 ≤ q) (h : ST mA mB q b L p N) (lo hi : Nat) (hlo : lo ≤ 99) (hhi : hi ≤ 99) :
    (∃ v mA' mB' p', RD_readNumber mA (nI lo) (nI hi) = some (1, mA') ∧ RM_takes mB (nI lo) (nI hi) = some (1, mB') ∧ lo ≤ v ∧ v ≤ hi ∧ gI mA' 1 7 = nI v ∧ gI mB' 133 17 = nI v ∧ ST mA' mB' q b L p' N ∧ p < p' ∧ Frm Ltk [] mA mA' ∧ Frm Lrb [] mB mB') ∨ (∃ mA' mB', RD_readNumber mA (nI lo) (nI hi) = some (0, mA') ∧ RM_takes mB (nI lo) (nI hi) = some (0, mB') ∧ Bd2 mA' mB' N) := by
  obtain ⟨T1, T2, h10, K, hp⟩ := h.1
  obtain ⟨m1, e1, S1, a1, a2⟩ := readNum T1 h10 hp lo hi hhi hlo
  obtain ⟨m2, e2, b1, b2⟩ := takesB T2 K hp lo hi hhi hlo
  by_cases z : tkK b L 900 p = 2 ∧ lo ≤ tkV b L 900 p ∧ tkV b L 900 p ≤ hi
  · rw [if_pos z] at e1 e2
    obtain ⟨c1, c2, F1⟩ := a1 z
    obtain ⟨d1, d2, d3, F2⟩ := b1 z
    have t := tkN_gt (b := b) (L := L) (M := 900) (p := p) (Or.inr (Or.inl z.1))
    have F2' : Frm Lrb [] mB m2 := F2.mo (wL_sub rfl)
    exact Or.inl ⟨tkV b L 900 p, m1, m2, tkN b L 900 p, e1, e2, z.2.1, z.2.2, c1, d1, h.rd hq ⟨S1, d3, c2, d2, t.2.1⟩ F1 F2', t.1, F1, F2'⟩
  · rw [if_neg z] at e1 e2
    obtain ⟨c1, c2, F1⟩ := a2 z
    obtain ⟨d1, d2, F2⟩ := b2 z
    refine Or.inr ⟨m1, m2, e1, e2, ⟨(if tkK b L 900 p = 2 then 2 else 1), tkS b L 900 p, by split <;> omega, by split <;> omega, ?_, c2, ?_, d2⟩, fun j hj => by rw [F2.J 137 j rfl]; exact h.2.2.2.2.2.2 j hj⟩
    · rw [c1]; split <;> rfl
    · rw [d1]; split <;> rfl
/-- the end of a row -/
def OK2 (cA cB : Option (Int32 × Mem)) (q : Nat) (b : Nat → Nat) (L p : Nat) (N : Nat → Int64) : Prop :=
  (∃ mA' mB1 mB' p', cA = some (1, mA') ∧ cB = some (1, mB1) ∧ RM_sign mB1 59 = some (1, mB') ∧ ST mA' mB' q b L p' N ∧ p < p') ∨ (∃ mA' mB', cA = some (0, mA') ∧ (cB = some (0, mB') ∨ ∃ mB1, cB = some (1, mB1) ∧ RM_sign mB1 59 = some (0, mB')) ∧ Bd2 mA' mB' N)
theorem semi2 {mA mB : Mem} {q : Nat} {b : Nat → Nat} {L p p0 : Nat} {N : Nat → Int64} (hq : 11 ≤ q) (h : ST mA mB q b L p N) (h0 : p0 ≤ p) : OK2 (bV (RD_readSemicolon mA) fun v m => if v = 0 ∨ v = 1 then some (v, m) else none) (some (1, mB)) q b L p0 N := by
  obtain ⟨T1, T2, h10, K, hp⟩ := h.1
  obtain ⟨m1, e1, S1, a1, a2⟩ := readSemi T1 h10 hp
  obtain ⟨m2, e2, b1, b2⟩ := signB T2 K hp
  by_cases z : tkK b L 900 p = 3
  · rw [if_pos z] at e1 e2
    obtain ⟨c1, F1⟩ := a1 z
    obtain ⟨d1, d2, F2⟩ := b1 z
    have t := tkN_gt (b := b) (L := L) (M := 900) (p := p) (Or.inr (Or.inr z))
    exact Or.inl ⟨m1, mB, m2, tkN b L 900 p, by rw [e1, bV_s, if_pos (Or.inr rfl)], rfl, e2, h.rd hq ⟨S1, d2, c1, d1, t.2.1⟩ F1 (F2.mo (wL_sub rfl)), by omega⟩
  · rw [if_neg z] at e1 e2
    obtain ⟨c1, c2, F1⟩ := a2 z
    obtain ⟨d1, d2, F2⟩ := b2 z
    exact Or.inr ⟨m1, m2, by rw [e1, bV_s, if_pos (Or.inl rfl)], Or.inr ⟨mB, rfl, e2⟩, ⟨1, tkS b L 900 p, by omega, by omega, c1, c2, d1, d2⟩, fun j hj => by rw [F2.J 137 j rfl]; exact h.2.2.2.2.2.2 j hj⟩
theorem OK2.bad {mA mB : Mem} {q : Nat} {b : Nat → Nat} {L p : Nat} {N : Nat → Int64} (h : Bd2 mA mB N) : OK2 (some (0, mA)) (some (0, mB)) q b L p N := Or.inr ⟨mA, mB, rfl, Or.inl rfl, h⟩
/-- a refusal at the token that stands -/
theorem fail2 {mA mB : Mem} {b : Nat → Nat} {L p : Nat} {N : Nat → Int64} (KA : CKA mA b L 900 p) (KB : CKB mB b L 900 p) (hN : ∀ j, j < 13 → gJ mB 137 j = N j) (e : Nat) (he : 0 < e ∧ e < 6) : ∃ mA' mB', RD_fail mA (nI e) = some (0, mA') ∧ RM_bad mB (nI e) = some (0, mB') ∧ Bd2 mA' mB' N := by
  refine ⟨sI (sI mA 1 2 (nI e)) 1 3 (nI (tkS b L 900 p)), sI (sI mB 133 14 (nI e)) 133 15 (nI (tkS b L 900 p)), ?_, ?_, ⟨e, tkS b L 900 p, he.1, he.2, ?_, ?_, ?_, ?_⟩, hN⟩
  · rw [RD_fail, RD_failAt, letM_p, letM_p, bV_s, if_pos (Or.inl rfl), KA.2.1]
  · have : gI (sI mB 133 14 (nI e)) 133 11 = nI (tkS b L 900 p) := by rw [gI_sI, if_neg (by omega), KB.2.1]
    rw [RM_bad, letM_p, this, letM_p]
  · rw [gI_sI, if_neg (by omega), gI_sI, if_pos ⟨rfl, rfl⟩]
  · rw [gI_sI, if_pos ⟨rfl, rfl⟩]
  · rw [gI_sI, if_neg (by omega), gI_sI, if_pos ⟨rfl, rfl⟩]
  · rw [gI_sI, if_pos ⟨rfl, rfl⟩]

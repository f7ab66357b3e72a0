/-! parish: what is told but not yet counted -/
theorem LnR.cg {mA mB mA' mB' : Mem} {q k : Nat} (h : LnR mA mB q k) (h12 : ixn (gI mB 136 (11 + k)) ≤ 12) (A : ∀ d j, d < 3 → gI mA' (q + 2 + 3 * k + d) j = gI mA (q + 2 + 3 * k + d) j ∧ gJ mA' (q + 2 + 3 * k + d) j = gJ mA (q + 2 + 3 * k + d) j) (c : gI mB' 136 (11 + k) = gI mB 136 (11 + k)) (B : ∀ j, 14 + 24 * k ≤ j → j < 14 + 24 * k + 24 → gI mB' 136 j = gI mB 136 j) (n : gJ mB' 137 (13 + k) = gJ mB 137 (13 + k)) : LnR mA' mB' q k := by
  obtain ⟨l1, l2, l3⟩ := h
  refine ⟨((A 0 1 (by omega)).1.trans l1).trans c.symm, ((A 0 0 (by omega)).2.trans l2).trans n.symm, fun i hi => ?_⟩
  rw [c] at hi
  obtain ⟨x1, x2⟩ := l3 i hi
  exact ⟨by rw [(A 1 i (by omega)).1, B _ (by omega) (by omega), x1], by rw [(A 2 i (by omega)).1, B _ (by omega) (by omega), x2]⟩
theorem HyR.cg {mA mB mA' mB' : Mem} {q h : Nat} (H : HyR mA mB q h) (A : ∀ d, d < 3 → gI mA' (q + 11 + d) h = gI mA (q + 11 + d) h) (A' : gJ mA' (q + 14) h = gJ mA (q + 14) h) (B : ∀ d, d < 3 → gI mB' 136 (86 + 3 * h + d) = gI mB 136 (86 + 3 * h + d)) (n : gJ mB' 137 (16 + h) = gJ mB 137 (16 + h)) : HyR mA' mB' q h := by
  obtain ⟨l1, l2, l3, l4⟩ := H
  exact ⟨((A 0 (by omega)).trans l1).trans (B 0 (by omega)).symm, ((A 1 (by omega)).trans l2).trans (B 1 (by omega)).symm, ((A 2 (by omega)).trans l3).trans (B 2 (by omega)).symm, (A'.trans l4).trans n.symm⟩
theorem WFc.cg2 {m m' : Mem} {k : Nat} (h : WFc m 136 0 k) (c : gI m' 136 (11 + k) = gI m 136 (11 + k)) (B : ∀ j, 14 + 24 * k ≤ j → j < 14 + 24 * k + 24 → gI m' 136 j = gI m 136 j) : WFc m' 136 0 k := by
  have h12 := h.2.1.le
  rw [show 0 + 11 + k = 11 + k by omega] at h12
  unfold WFc at *
  rw [show 0 + 11 + k = 11 + k by omega] at h ⊢
  rw [c]
  have nl : ∀ i, i < ixn (gI m 136 (11 + k)) → nx (ixn (gI m 136 (11 + k))) i < 12 := fun i hi => by unfold nx; split <;> omega
  refine ⟨h.1, h.2.1, fun i hi => ?_, fun i hi => ?_⟩
  · rw [B _ (by omega) (by omega), B _ (by omega) (by omega)]; exact h.2.2.1 i hi
  · have := nl i hi
    rw [B _ (by omega) (by omega), B _ (by omega) (by omega), B _ (by omega) (by omega), B _ (by omega) (by omega)]; exact h.2.2.2 i hi
/-- stores behind what is counted -/
theorem partP {mA mB mA' mB' : Mem} {q nl nh : Nat} (P : PR2 mA mB q) (W : WFs mB 136 0) (c0 : gI mB 136 0 = nI nl) (c1 : gI mB 136 1 = nI nh) (l3 : nl ≤ 3) (l10 : nh ≤ 10) (b19 : gI mB' 133 19 = gI mB 133 19)
    (sA : ∀ j, gI mA' q j = gI mA q j) (eA : ∀ j, gI mA' (q + 15) j = gI mA (q + 15) j) (sB : ∀ j, j < 11 → gI mB' 136 j = gI mB 136 j)
    (lA : ∀ k, k < nl → ∀ d j, d < 3 → gI mA' (q + 2 + 3 * k + d) j = gI mA (q + 2 + 3 * k + d) j ∧ gJ mA' (q + 2 + 3 * k + d) j = gJ mA (q + 2 + 3 * k + d) j)
    (hA : ∀ t, t < nh → (∀ d, d < 3 → gI mA' (q + 11 + d) t = gI mA (q + 11 + d) t) ∧ gJ mA' (q + 14) t = gJ mA (q + 14) t)
    (lB : ∀ k, k < nl → gI mB' 136 (11 + k) = gI mB 136 (11 + k) ∧ (∀ j, 14 + 24 * k ≤ j → j < 14 + 24 * k + 24 → gI mB' 136 j = gI mB 136 j) ∧ gJ mB' 137 (13 + k) = gJ mB 137 (13 + k))
    (hB : ∀ t, t < nh → (∀ d, d < 3 → gI mB' 136 (86 + 3 * t + d) = gI mB 136 (86 + 3 * t + d)) ∧ gJ mB' 137 (16 + t) = gJ mB 137 (16 + t)) : PR2 mA' mB' q ∧ WFs mB' 136 0 := by
  obtain ⟨p0, p1, p2, p3, p4, p5, p6, p7, p8, p9, p10, p11⟩ := P
  obtain ⟨q0, q1, q2, q3, q4, q5, q6, q7, q8⟩ := W
  have n0 : ixn (gI mB 136 0) = nl := by rw [c0, n_ixn (by omega)]
  have n1 : ixn (gI mB 136 1) = nh := by rw [c1, n_ixn (by omega)]
  have n1' : ixn (gI mB 136 (0 + 1)) = nh := n1
  have q0' : isN (gI mB 136 0) 3 := q0
  refine ⟨⟨by rw [sA, sB _ (by omega)]; exact p0, by rw [sA, sB _ (by omega)]; exact p1, by rw [sA, sB _ (by omega)]; exact p2, by rw [sA, sB _ (by omega)]; exact p3, by rw [sA, sB _ (by omega)]; exact p4, by rw [sA, sB _ (by omega)]; exact p5, by rw [sA, sB _ (by omega)]; exact p6, fun k hk => by rw [eA, sB _ (by omega)]; exact p7 k hk, fun k hk => ?_, fun t ht => ?_, ?_⟩, ⟨by rw [sB _ (by omega)]; exact q0, by rw [sB _ (by omega)]; exact q1, by rw [sB _ (by omega)]; exact q2, by rw [sB _ (by omega)]; exact q3, by rw [sB _ (by omega)]; exact q4, by rw [sB _ (by omega)]; exact q5, fun k hk => by rw [sB _ (by omega)]; exact q6 k hk, fun k hk => ?_, fun t ht => ?_⟩⟩
  · rw [sB _ (by omega), n0] at hk
    have w := (q7 k (by rw [n0]; exact hk)).2.1.le
    rw [show 0 + 11 + k = 11 + k by omega] at w
    exact (p8 k (by rw [n0]; exact hk)).cg w (lA k hk) (lB k hk).1 (lB k hk).2.1 (lB k hk).2.2
  · rw [sB _ (by omega), n1] at ht
    exact (p9 t (by rw [n1]; exact ht)).cg (hA t ht).1 (hA t ht).2 (hB t ht).1 (hB t ht).2
  · rw [sA, b19]; exact ⟨p10, p11⟩
  · rw [sB _ (by omega), n0] at hk
    exact (q7 k (by rw [n0]; exact hk)).cg2 (lB k hk).1 (lB k hk).2.1
  · rw [sB _ (by omega), n1'] at ht
    have := (hB t ht).1
    have x0 := this 0 (by omega)
    have x1 := this 1 (by omega)
    have x2 := this 2 (by omega)
    have y := q8 t (by rw [n1']; exact ht)
    rw [show 0 + 86 + 3 * t = 86 + 3 * t by omega] at y ⊢
    rw [show gI mB' 136 (86 + 3 * t) = _ from x0, x1, x2]
    exact y
theorem ST.part {mA mB mA' mB' : Mem} {q nl nh : Nat} {b : Nat → Nat} {L p : Nat} {N : Nat → Int64} (hq : 11 ≤ q) (h : ST mA mB q b L p N) (c0 : gI mB 136 0 = nI nl) (c1 : gI mB 136 1 = nI nh) (l3 : nl ≤ 3) (l10 : nh ≤ 10)
    (fA : ∀ c k, c < q → gI mA' c k = gI mA c k ∧ gJ mA' c k = gJ mA c k) (fB : ∀ c k, c ≠ 136 → c ≠ 137 → gI mB' c k = gI mB c k ∧ gJ mB' c k = gJ mB c k) (fN : ∀ j, j < 13 → gJ mB' 137 j = gJ mB 137 j)
    (sA : ∀ j, gI mA' q j = gI mA q j) (eA : ∀ j, gI mA' (q + 15) j = gI mA (q + 15) j) (sB : ∀ j, j < 11 → gI mB' 136 j = gI mB 136 j)
    (lA : ∀ k, k < nl → ∀ d j, d < 3 → gI mA' (q + 2 + 3 * k + d) j = gI mA (q + 2 + 3 * k + d) j ∧ gJ mA' (q + 2 + 3 * k + d) j = gJ mA (q + 2 + 3 * k + d) j)
    (hA : ∀ t, t < nh → (∀ d, d < 3 → gI mA' (q + 11 + d) t = gI mA (q + 11 + d) t) ∧ gJ mA' (q + 14) t = gJ mA (q + 14) t)
    (lB : ∀ k, k < nl → gI mB' 136 (11 + k) = gI mB 136 (11 + k) ∧ (∀ j, 14 + 24 * k ≤ j → j < 14 + 24 * k + 24 → gI mB' 136 j = gI mB 136 j) ∧ gJ mB' 137 (13 + k) = gJ mB 137 (13 + k))
    (hB : ∀ t, t < nh → (∀ d, d < 3 → gI mB' 136 (86 + 3 * t + d) = gI mB 136 (86 + 3 * t + d)) ∧ gJ mB' 137 (16 + t) = gJ mB 137 (16 + t)) : ST mA' mB' q b L p N := by
  obtain ⟨P1, W1⟩ := partP h.2.2.2.1 h.2.2.2.2.1 c0 c1 l3 l10 (fB 133 19 (by omega) (by omega)).1 sA eA sB lA hA lB hB
  exact h.up hq fA fB fN P1 W1
/-- a hay more -/
theorem ST.addH {mA mB : Mem} {q nh : Nat} {b : Nat → Nat} {L p : Nat} {N : Nat → Int64} (hq : 11 ≤ q) (h : ST mA mB q b L p N) (c1 : gI mB 136 1 = nI nh) (l10 : nh < 10) (H : HyR mA mB q nh) (W : isN (gI mB 136 (86 + 3 * nh)) 19 ∧ isN (gI mB 136 (86 + 3 * nh + 1)) 19 ∧ isN (gI mB 136 (86 + 3 * nh + 2)) 99) : ST (sI mA q 7 (nI (nh + 1))) (sI mB 136 1 (nI (nh + 1))) q b L p N := by
  obtain ⟨p0, p1, p2, p3, p4, p5, p6, p7, p8, p9, p10, p11⟩ := h.2.2.2.1
  obtain ⟨q0, q1, q2, q3, q4, q5, q6, q7, q8⟩ := h.2.2.2.2.1
  have gA : ∀ c k, ¬ (c = q ∧ k = 7) → gI (sI mA q 7 (nI (nh + 1))) c k = gI mA c k := fun c k z => by rw [gI_sI, if_neg z]
  have gB : ∀ c k, ¬ (c = 136 ∧ k = 1) → gI (sI mB 136 1 (nI (nh + 1))) c k = gI mB c k := fun c k z => by rw [gI_sI, if_neg z]
  have g1 : gI (sI mB 136 1 (nI (nh + 1))) 136 1 = nI (nh + 1) := by rw [gI_sI, if_pos ⟨rfl, rfl⟩]
  have n1 : ixn (gI mB 136 1) = nh := by rw [c1, n_ixn (by omega)]
  have n1' : ixn (gI mB 136 (0 + 1)) = nh := n1
  refine h.up hq (fun c k hc => ⟨gA c k (by omega), rfl⟩) (fun c k h1 h2 => ⟨gB c k (by omega), rfl⟩) (fun j _ => rfl) ⟨?_, ?_, ?_, ?_, ?_, ?_, ?_, fun k hk => ?_, fun k hk => ?_, fun t ht => ?_, ?_, ?_⟩ ⟨?_, ?_, ?_, ?_, ?_, ?_, fun k hk => ?_, fun k hk => ?_, fun t ht => ?_⟩
  · rw [gA _ _ (by omega), gB _ _ (by omega)]; exact p0
  · rw [g1, gI_sI, if_pos ⟨rfl, rfl⟩]
  · rw [gA _ _ (by omega), gB _ _ (by omega)]; exact p2
  · rw [gA _ _ (by omega), gB _ _ (by omega)]; exact p3
  · rw [gA _ _ (by omega), gB _ _ (by omega)]; exact p4
  · rw [gA _ _ (by omega), gB _ _ (by omega)]; exact p5
  · rw [gA _ _ (by omega), gB _ _ (by omega)]; exact p6
  · rw [gA _ _ (by omega), gB _ _ (by omega)]; exact p7 k hk
  · rw [gB _ _ (by omega)] at hk
    have w := (q7 k hk).2.1.le
    rw [show 0 + 11 + k = 11 + k by omega] at w
    exact (p8 k hk).cg w (fun d j hd => ⟨gA _ _ (by omega), rfl⟩) (gB _ _ (by omega)) (fun j _ _ => gB _ _ (by omega)) rfl
  · rw [g1, n_ixn (by omega)] at ht
    have hy : HyR mA mB q t := by
      by_cases z : t = nh
      · rw [z]; exact H
      · exact p9 t (by rw [n1]; omega)
    exact hy.cg (fun d hd => gA _ _ (by omega)) rfl (fun d hd => gB _ _ (by omega)) rfl
  · rw [gA _ _ (by omega), gB _ _ (by omega)]; exact p10
  · rw [gB _ _ (by omega)]; exact p11
  · rw [gB _ _ (by omega)]; exact q0
  · rw [show 0 + 1 = 1 from rfl, g1]; exact isN.of (by omega) (by omega)
  · rw [gB _ _ (by omega)]; exact q2
  · rw [gB _ _ (by omega)]; exact q3
  · rw [gB _ _ (by omega)]; exact q4
  · rw [gB _ _ (by omega)]; exact q5
  · rw [gB _ _ (by omega)]; exact q6 k hk
  · rw [gB _ _ (by omega)] at hk
    exact (q7 k hk).cg2 (gB _ _ (by omega)) (fun j _ _ => gB _ _ (by omega))
  · rw [show 0 + 1 = 1 from rfl, g1, n_ixn (by omega)] at ht
    rw [gB _ _ (by omega), gB _ _ (by omega), gB _ _ (by omega)]
    by_cases z : t = nh
    · rw [z, show 0 + 86 + 3 * nh = 86 + 3 * nh by omega]; exact W
    · exact q8 t (by rw [n1']; omega)
/-- a line more -/
theorem addLP {mA mB : Mem} {q nl : Nat} {x : Int32} (hq : 11 ≤ q) (P : PR2 mA mB q) (W0 : WFs mB 136 0) (c0 : gI mB 136 0 = nI nl) (l3 : nl < 3) (H : LnR mA (sI mB 136 (11 + nl) x) q nl) (W : WFc (sI mB 136 (11 + nl) x) 136 0 nl) : PR2 (sI mA q 6 (nI (nl + 1))) (sI (sI mB 136 (11 + nl) x) 136 0 (nI (nl + 1))) q ∧ WFs (sI (sI mB 136 (11 + nl) x) 136 0 (nI (nl + 1))) 136 0 := by
  obtain ⟨p0, p1, p2, p3, p4, p5, p6, p7, p8, p9, p10, p11⟩ := P
  obtain ⟨q0, q1, q2, q3, q4, q5, q6, q7, q8⟩ := W0
  have gA : ∀ c k, ¬ (c = q ∧ k = 6) → gI (sI mA q 6 (nI (nl + 1))) c k = gI mA c k := fun c k z => by rw [gI_sI, if_neg z]
  have gM : ∀ c k, ¬ (c = 136 ∧ k = 0) → gI (sI (sI mB 136 (11 + nl) x) 136 0 (nI (nl + 1))) c k = gI (sI mB 136 (11 + nl) x) c k := fun c k z => by rw [gI_sI, if_neg z]
  have gB : ∀ c k, ¬ (c = 136 ∧ (k = 0 ∨ k = 11 + nl)) → gI (sI (sI mB 136 (11 + nl) x) 136 0 (nI (nl + 1))) c k = gI mB c k := fun c k z => by rw [gI_sI, if_neg (by omega), gI_sI, if_neg (by omega)]
  have g1 : gI (sI (sI mB 136 (11 + nl) x) 136 0 (nI (nl + 1))) 136 0 = nI (nl + 1) := by rw [gI_sI, if_pos ⟨rfl, rfl⟩]
  have n1 : ixn (gI mB 136 0) = nl := by rw [c0, n_ixn (by omega)]
  have hw := W.2.1.le
  rw [show 0 + 11 + nl = 11 + nl by omega] at hw
  refine ⟨⟨?_, ?_, ?_, ?_, ?_, ?_, ?_, fun k hk => ?_, fun k hk => ?_, fun t ht => ?_, ?_, ?_⟩, ⟨?_, ?_, ?_, ?_, ?_, ?_, fun k hk => ?_, fun k hk => ?_, fun t ht => ?_⟩⟩
  · rw [g1, gI_sI, if_pos ⟨rfl, rfl⟩]
  · rw [gA _ _ (by omega), gB _ _ (by omega)]; exact p1
  · rw [gA _ _ (by omega), gB _ _ (by omega)]; exact p2
  · rw [gA _ _ (by omega), gB _ _ (by omega)]; exact p3
  · rw [gA _ _ (by omega), gB _ _ (by omega)]; exact p4
  · rw [gA _ _ (by omega), gB _ _ (by omega)]; exact p5
  · rw [gA _ _ (by omega), gB _ _ (by omega)]; exact p6
  · rw [gA _ _ (by omega), gB _ _ (by omega)]; exact p7 k hk
  · rw [g1, n_ixn (by omega)] at hk
    by_cases z : k = nl
    · rw [z]
      exact H.cg hw (fun d j hd => ⟨gA _ _ (by omega), rfl⟩) (gM _ _ (by omega)) (fun j _ _ => gM _ _ (by omega)) rfl
    · have hk' : k < ixn (gI mB 136 0) := by rw [n1]; omega
      have w := (q7 k hk').2.1.le
      rw [show 0 + 11 + k = 11 + k by omega] at w
      exact (p8 k hk').cg w (fun d j hd => ⟨gA _ _ (by omega), rfl⟩) (gB _ _ (by omega)) (fun j _ _ => gB _ _ (by omega)) rfl
  · rw [gB _ _ (by omega)] at ht
    exact (p9 t ht).cg (fun d hd => gA _ _ (by omega)) rfl (fun d hd => gB _ _ (by omega)) rfl
  · rw [gA _ _ (by omega), gB _ _ (by omega)]; exact p10
  · rw [gB _ _ (by omega)]; exact p11
  · rw [g1]; exact isN.of (by omega) (by omega)
  · rw [gB _ _ (by omega)]; exact q1
  · rw [gB _ _ (by omega)]; exact q2
  · rw [gB _ _ (by omega)]; exact q3
  · rw [gB _ _ (by omega)]; exact q4
  · rw [gB _ _ (by omega)]; exact q5
  · rw [gB _ _ (by omega)]; exact q6 k hk
  · rw [g1, n_ixn (by omega)] at hk
    by_cases z : k = nl
    · rw [z]; exact W.cg2 (gM _ _ (by omega)) (fun j _ _ => gM _ _ (by omega))
    · exact (q7 k (by rw [n1]; omega)).cg2 (gB _ _ (by omega)) (fun j _ _ => gB _ _ (by omega))
  · rw [gB _ _ (by omega)] at ht
    rw [gB _ _ (by omega), gB _ _ (by omega), gB _ _ (by omega)]
    exact q8 t ht

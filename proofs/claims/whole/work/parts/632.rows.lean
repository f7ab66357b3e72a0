/-! parish: church, law, edge, heirs -/
theorem ST.up {mA mB mA' mB' : Mem} {q : Nat} {b : Nat → Nat} {L p : Nat} {N : Nat → Int64} (hq : 11 ≤ q) (h : ST mA mB q b L p N) (fA : ∀ c k, c < q → gI mA' c k = gI mA c k ∧ gJ mA' c k = gJ mA c k) (fB : ∀ c k, c ≠ 136 → c ≠ 137 → gI mB' c k = gI mB c k ∧ gJ mB' c k = gJ mB c k) (fN : ∀ j, j < 13 → gJ mB' 137 j = gJ mB 137 j) (P : PR2 mA' mB' q) (W : WFs mB' 136 0) : ST mA' mB' q b L p N := by
  obtain ⟨⟨T1, T2, h10, K, hp⟩, h12, h14, -, -, hR, hN⟩ := h
  have a1 : ∀ k, gI mA' 1 k = gI mA 1 k := fun k => (fA 1 k (by omega)).1
  have b1 : ∀ k, gI mB' 133 k = gI mB 133 k := fun k => (fB 133 k (by omega) (by omega)).1
  refine ⟨⟨⟨T1.1, T1.2.1, by rw [a1]; exact T1.2.2.1, by rw [a1]; exact T1.2.2.2.1, fun i hi => by rw [(fA 2 i (by omega)).1]; exact T1.2.2.2.2 i hi⟩, ⟨T2.1, T2.2.1, by rw [b1]; exact T2.2.2.1, by rw [b1]; exact T2.2.2.2.1, fun i hi => by rw [(fB 134 i (by omega) (by omega)).1]; exact T2.2.2.2.2 i hi⟩, by rw [a1]; exact h10, ?_, hp⟩, by rw [a1]; exact h12, by rw [b1]; exact h14, P, W, fun k hk => by rw [(fB 138 k (by omega) (by omega)).2]; exact hR k hk, fun j hj => by rw [fN j hj]; exact hN j hj⟩
  unfold CKB at K ⊢
  rw [b1, b1, b1, (fB 133 16 (by omega) (by omega)).2, b1]
  exact K
theorem setP {mA mB : Mem} {q : Nat} (hq : 11 ≤ q) (P : PR2 mA mB q) (W : WFs mB 136 0) (a v : Nat) (ha : 8 ≤ a ∧ a ≤ 11) (hv : v ≤ if a ≤ 9 then 19 else if a = 10 then 2 else 1) : PR2 (sI mA q a (nI v)) (sI mB 136 (a - 6) (nI v)) q ∧ WFs (sI mB 136 (a - 6) (nI v)) 136 0 := by
  have P' := P
  obtain ⟨p0, p1, p2, p3, p4, p5, p6, p7, p8, p9, p10, p11⟩ := P'
  have W' := W
  obtain ⟨q0, q1, q2, q3, q4, q5, q6, q7, q8⟩ := W'
  have gA : ∀ c k, ¬ (c = q ∧ k = a) → gI (sI mA q a (nI v)) c k = gI mA c k := fun c k z => by rw [gI_sI, if_neg z]
  have gB : ∀ k, k ≠ a - 6 → gI (sI mB 136 (a - 6) (nI v)) 136 k = gI mB 136 k := fun k z => by rw [gI_sI, if_neg (fun t => z t.2)]
  have sc : ∀ j, 8 ≤ j → j ≤ 11 → gI mA q j = gI mB 136 (j - 6) → gI (sI mA q a (nI v)) q j = gI (sI mB 136 (a - 6) (nI v)) 136 (j - 6) := fun j j1 j2 e => by
    by_cases z : j = a
    · rw [z, gI_sI, if_pos ⟨rfl, rfl⟩, gI_sI, if_pos ⟨rfl, rfl⟩]
    · rw [gA _ _ (fun t => z t.2), gB _ (by omega), e]
  have wf : ∀ j B, 8 ≤ j → j ≤ 11 → isN (gI mB 136 (j - 6)) B → (j = a → v ≤ B) → B < 100 → isN (gI (sI mB 136 (a - 6) (nI v)) 136 (j - 6)) B := fun j B j1 j2 e hB b1 => by
    by_cases z : j = a
    · rw [z, gI_sI, if_pos ⟨rfl, rfl⟩]; exact isN.of (hB z) (by omega)
    · rw [gB _ (by omega)]; exact e
  refine ⟨?_, ?_⟩
  · refine P.cg (gB _ (by omega)) (gB _ (by omega)) (gB _ (by omega)) (gA _ _ (by omega)) (gA _ _ (by omega)) (gA _ _ (by omega)) (sc 8 (by omega) (by omega) p2) (sc 9 (by omega) (by omega) p3) (sc 10 (by omega) (by omega) p4) (sc 11 (by omega) (by omega) p5) (fun k hk => by rw [gA _ _ (by omega), gB _ (by omega), p7 k hk]) (fun c j h1 h2 => ⟨gA _ _ (by omega), rfl⟩) (fun j hj => gB j (by omega)) (fun j hj => rfl) ⟨?_, p11⟩ q0.le
    rw [gA _ _ (by omega)]; exact p10
  · refine W.cg (gB _ (by omega)) (gB _ (by omega)) (wf 8 19 (by omega) (by omega) q2 (fun z => ?_) (by omega)) (wf 9 19 (by omega) (by omega) q3 (fun z => ?_) (by omega)) (wf 10 2 (by omega) (by omega) q4 (fun z => ?_) (by omega)) (wf 11 1 (by omega) (by omega) q5 (fun z => ?_) (by omega)) (fun k hk => ?_) (fun j hj => gB j (by omega))
    · rw [if_pos (by omega)] at hv; exact hv
    · rw [if_pos (by omega)] at hv; exact hv
    · rw [if_neg (by omega), if_pos (by omega)] at hv; exact hv
    · rw [if_neg (by omega), if_neg (by omega)] at hv; exact hv
    · rw [gB _ (by omega)]
      have := q6 k hk
      rw [show 0 + 7 + k = 7 + k by omega] at this
      exact this
theorem ST.set {mA mB : Mem} {q : Nat} {b : Nat → Nat} {L p : Nat} {N : Nat → Int64} (hq : 11 ≤ q) (h : ST mA mB q b L p N) (a v : Nat) (ha : 8 ≤ a ∧ a ≤ 11) (hv : v ≤ if a ≤ 9 then 19 else if a = 10 then 2 else 1) : ST (sI mA q a (nI v)) (sI mB 136 (a - 6) (nI v)) q b L p N := by
  obtain ⟨P1, W1⟩ := setP hq h.2.2.2.1 h.2.2.2.2.1 a v ha hv
  exact h.up hq (fun c k hc => ⟨by rw [gI_sI, if_neg (by omega)], rfl⟩) (fun c k h1 h2 => ⟨by rw [gI_sI, if_neg (fun t => h1 t.1)], rfl⟩) (fun j _ => rfl) P1 W1
theorem ST.setH {mA mB : Mem} {q : Nat} {b : Nat → Nat} {L p : Nat} {N : Nat → Int64} (hq : 11 ≤ q) (h : ST mA mB q b L p N) (a v : Nat) (ha : a < 4) (hv : v ≤ 9) : ST (sI mA (q + 15) a (nI v)) (sI mB 136 (7 + a) (nI v)) q b L p N := by
  have P := h.2.2.2.1
  have W := h.2.2.2.2.1
  have P' := P
  obtain ⟨p0, p1, p2, p3, p4, p5, p6, p7, p8, p9, p10, p11⟩ := P'
  have W' := W
  obtain ⟨q0, q1, q2, q3, q4, q5, q6, q7, q8⟩ := W'
  have gA : ∀ c k, ¬ (c = q + 15 ∧ k = a) → gI (sI mA (q + 15) a (nI v)) c k = gI mA c k := fun c k z => by rw [gI_sI, if_neg z]
  have gB : ∀ k, k ≠ 7 + a → gI (sI mB 136 (7 + a) (nI v)) 136 k = gI mB 136 k := fun k z => by rw [gI_sI, if_neg (fun t => z t.2)]
  refine h.up hq (fun c k hc => ⟨gA c k (by omega), rfl⟩) (fun c k h1 h2 => ⟨by rw [gI_sI, if_neg (fun t => h1 t.1)], rfl⟩) (fun j _ => rfl) ?_ ?_
  · refine P.cg (gB _ (by omega)) (gB _ (by omega)) (gB _ (by omega)) (gA _ _ (by omega)) (gA _ _ (by omega)) (gA _ _ (by omega)) (by rw [gA _ _ (by omega), gB _ (by omega), p2]) (by rw [gA _ _ (by omega), gB _ (by omega), p3]) (by rw [gA _ _ (by omega), gB _ (by omega), p4]) (by rw [gA _ _ (by omega), gB _ (by omega), p5]) (fun k hk => ?_) (fun c j h1 h2 => ⟨gA _ _ (by omega), rfl⟩) (fun j hj => gB j (by omega)) (fun j hj => rfl) ⟨by rw [gA _ _ (by omega)]; exact p10, p11⟩ q0.le
    by_cases z : k = a
    · rw [z, gI_sI, if_pos ⟨rfl, rfl⟩, gI_sI, if_pos ⟨rfl, rfl⟩]
    · rw [gA _ _ (by omega), gB _ (by omega), p7 k hk]
  · refine W.cg (gB _ (by omega)) (gB _ (by omega)) (by rw [gB _ (by omega)]; exact q2) (by rw [gB _ (by omega)]; exact q3) (by rw [gB _ (by omega)]; exact q4) (by rw [gB _ (by omega)]; exact q5) (fun k hk => ?_) (fun j hj => gB j (by omega))
    by_cases z : k = a
    · rw [z, gI_sI, if_pos ⟨rfl, rfl⟩]; exact isN.of hv (by omega)
    · rw [gB _ (by omega)]
      have := q6 k hk
      rw [show 0 + 7 + k = 7 + k by omega] at this
      exact this
/-- both have the word p before them -/
def SW (mA mB : Mem) (q : Nat) (b : Nat → Nat) (L p : Nat) (N : Nat → Int64) : Prop := TA mA b L 900 ∧ TB mB b L 900 ∧ CKA mA b L 900 p ∧ CKB mB b L 900 p ∧ p ≤ L ∧ gI mA 1 2 = 0 ∧ gI mB 133 14 = 0 ∧ PR2 mA mB q ∧ WFs mB 136 0 ∧ (∀ k, k < 17 → gJ mB 138 k = resW.getD k 0) ∧ (∀ j, j < 13 → gJ mB 137 j = N j)
theorem bitsP : ∀ t, t < 16 → ∀ i, i < 4 → ((nI t &&& nI (2 ^ i)) = 0 ↔ RM_has (nI t) (nI i) = 0) ∧ (nI t ||| nI (2 ^ i)) = (nI t ||| jshl 1 (nI i)) ∧ 0 ≤ (nI t ||| nI (2 ^ i)).toInt ∧ (nI t ||| nI (2 ^ i)).toInt ≤ 15 := by decide
theorem SW.next {mA mB : Mem} {q : Nat} {b : Nat → Nat} {L p : Nat} {N : Nat → Int64} (hq : 11 ≤ q) (h : SW mA mB q b L p N) (hk : tkK b L 900 p = 1) : ∃ mB', RM_next mB = some mB' ∧ ST mA mB' q b L (tkN b L 900 p) N ∧ p < tkN b L 900 p ∧ Frm Lnx [] mB mB' := by
  obtain ⟨T1, T2, KA, KB, hp, h12, h14, P, W, hR, hN⟩ := h
  have t := tkN_gt (b := b) (L := L) (M := 900) (p := p) (Or.inl hk)
  obtain ⟨m2, e2, K2, T2', F2⟩ := nxt T2 (KB.2.2.1 (Or.inl hk)) t.2.1
  have F2' : Frm Lrb [] mB m2 := F2.mo (wL_sub rfl)
  exact ⟨m2, e2, ⟨⟨T1, T2', KA.2.2.1 (Or.inl hk), K2, t.2.1⟩, h12, by rw [F2.I 133 14 rfl]; exact h14, P.fr hq W Frm.rf F2', W.fr2 (fun j => F2.I 136 j rfl), fun k hk => by rw [F2.J 138 k rfl]; exact hR k hk, fun j hj => by rw [F2.J 137 j rfl]; exact hN j hj⟩, t.1, F2⟩
theorem once2 {mA mB : Mem} {q : Nat} {b : Nat → Nat} {L p : Nat} {N : Nat → Int64} (hq : 11 ≤ q) (h : SW mA mB q b L p N) (hk : tkK b L 900 p = 1) (i : Nat) (hi : i < 4) :
    (∃ mA' mB' p', PH_tellsFirst mA q (nI (2 ^ i)) = some (1, mA') ∧ RM_isOnce mB (nI i) = some (1, mB') ∧ ST mA' mB' q b L p' N ∧ p < p') ∨ (∃ mA' mB', PH_tellsFirst mA q (nI (2 ^ i)) = some (0, mA') ∧ RM_isOnce mB (nI i) = some (0, mB') ∧ Bd2 mA' mB' N) := by
  have hh := h
  obtain ⟨T1, T2, KA, KB, hp, h12, h14, P, W, hR, hN⟩ := hh
  have P' := P
  obtain ⟨p0, p1, p2, p3, p4, p5, p6, p7, p8, p9, p10, p11⟩ := P'
  obtain ⟨t, t1, t2⟩ := p11.ex
  have b4 := bitsP t (by omega) i hi
  by_cases z : (nI t &&& nI (2 ^ i)) = 0
  · left
    have gA : ∀ c k, ¬ (c = q ∧ k = 13) → gI (sI mA q 13 (nI t ||| nI (2 ^ i))) c k = gI mA c k := fun c k z => by rw [gI_sI, if_neg z]
    have gB : ∀ c k, ¬ (c = 133 ∧ k = 19) → gI (sI mB 133 19 (nI t ||| nI (2 ^ i))) c k = gI mB c k := fun c k z => by rw [gI_sI, if_neg z]
    have P1 : PR2 (sI mA q 13 (nI t ||| nI (2 ^ i))) (sI mB 133 19 (nI t ||| nI (2 ^ i))) q := by
      refine P.cg (gB _ _ (by omega)) (gB _ _ (by omega)) (gB _ _ (by omega)) (gA _ _ (by omega)) (gA _ _ (by omega)) (gA _ _ (by omega)) (by rw [gA _ _ (by omega), gB _ _ (by omega), p2]) (by rw [gA _ _ (by omega), gB _ _ (by omega), p3]) (by rw [gA _ _ (by omega), gB _ _ (by omega), p4]) (by rw [gA _ _ (by omega), gB _ _ (by omega), p5]) (fun k hk => by rw [gA _ _ (by omega), gB _ _ (by omega), p7 k hk]) (fun c j h1 h2 => ⟨gA _ _ (by omega), rfl⟩) (fun j hj => gB _ j (by omega)) (fun j hj => rfl) ⟨?_, ?_⟩ W.1.le
      · rw [gI_sI, if_pos ⟨rfl, rfl⟩, gI_sI, if_pos ⟨rfl, rfl⟩]
      · rw [gI_sI, if_pos ⟨rfl, rfl⟩]; exact b4.2.2
    have SW1 : SW (sI mA q 13 (nI t ||| nI (2 ^ i))) (sI mB 133 19 (nI t ||| nI (2 ^ i))) q b L p N := by
      refine ⟨⟨T1.1, T1.2.1, by rw [gA _ _ (by omega)]; exact T1.2.2.1, by rw [gA _ _ (by omega)]; exact T1.2.2.2.1, fun i hi => by rw [gA _ _ (by omega)]; exact T1.2.2.2.2 i hi⟩, ⟨T2.1, T2.2.1, by rw [gB _ _ (by omega)]; exact T2.2.2.1, by rw [gB _ _ (by omega)]; exact T2.2.2.2.1, fun i hi => by rw [gB _ _ (by omega)]; exact T2.2.2.2.2 i hi⟩, ?_, ?_, hp, by rw [gA _ _ (by omega)]; exact h12, by rw [gB _ _ (by omega)]; exact h14, P1, W.fr2 (fun j => gB _ j (by omega)), hR, hN⟩
      · unfold CKA at KA ⊢
        rw [gA _ _ (by omega), gA _ _ (by omega), gA _ _ (by omega), gA _ _ (by omega), gA _ _ (by omega), gJ_sI]
        exact KA
      · unfold CKB at KB ⊢
        rw [gB _ _ (by omega), gB _ _ (by omega), gB _ _ (by omega), gB _ _ (by omega), gJ_sI]
        exact KB
    obtain ⟨mB', e, S, lt, -⟩ := SW1.next hq hk
    refine ⟨_, mB', _, ?_, ?_, S, lt⟩
    · rw [PH_tellsFirst, p10, t2, if_pos z, letM_p]
    · rw [RM_isOnce, t2, if_pos (b4.1.mp z), ← b4.2.1, letM_p, e, bM_s]
  · right
    obtain ⟨mA', mB', e1, e2, B⟩ := fail2 KA KB hN 3 (by omega)
    refine ⟨mA', mB', ?_, ?_, B⟩
    · rw [PH_tellsFirst, p10, t2, if_neg z, show (3 : Int32) = nI 3 from rfl, e1, bV_s, if_pos (Or.inl rfl)]
    · rw [RM_isOnce, t2, if_neg (fun w => z (b4.1.mpr w)), show (3 : Int32) = nI 3 from rfl, e2, bV_s, if_pos (Or.inl rfl)]
theorem SW.set {mA mB : Mem} {q : Nat} {b : Nat → Nat} {L p : Nat} {N : Nat → Int64} (hq : 11 ≤ q) (h : SW mA mB q b L p N) (a v : Nat) (ha : 8 ≤ a ∧ a ≤ 11) (hv : v ≤ if a ≤ 9 then 19 else if a = 10 then 2 else 1) : SW (sI mA q a (nI v)) (sI mB 136 (a - 6) (nI v)) q b L p N := by
  obtain ⟨T1, T2, KA, KB, hp, h12, h14, P, W, hR, hN⟩ := h
  obtain ⟨P1, W1⟩ := setP hq P W a v ha hv
  have gA : ∀ c k, c < q → gI (sI mA q a (nI v)) c k = gI mA c k := fun c k z => by rw [gI_sI, if_neg (by omega)]
  have gB : ∀ c k, c ≠ 136 → gI (sI mB 136 (a - 6) (nI v)) c k = gI mB c k := fun c k z => by rw [gI_sI, if_neg (fun t => z t.1)]
  refine ⟨⟨T1.1, T1.2.1, by rw [gA _ _ (by omega)]; exact T1.2.2.1, by rw [gA _ _ (by omega)]; exact T1.2.2.2.1, fun i hi => by rw [gA _ _ (by omega)]; exact T1.2.2.2.2 i hi⟩, ⟨T2.1, T2.2.1, by rw [gB _ _ (by omega)]; exact T2.2.2.1, by rw [gB _ _ (by omega)]; exact T2.2.2.2.1, fun i hi => by rw [gB _ _ (by omega)]; exact T2.2.2.2.2 i hi⟩, ?_, ?_, hp, by rw [gA _ _ (by omega)]; exact h12, by rw [gB _ _ (by omega)]; exact h14, P1, W1, hR, hN⟩
  · unfold CKA at KA ⊢
    rw [gA _ _ (by omega), gA _ _ (by omega), gA _ _ (by omega), gA _ _ (by omega), gA _ _ (by omega), gJ_sI]
    exact KA
  · unfold CKB at KB ⊢
    rw [gB _ _ (by omega), gB _ _ (by omega), gB _ _ (by omega), gB _ _ (by omega), gJ_sI]
    exact KB

/-! parish: lines -/
theorem SW.up {mA mB mA' mB' : Mem} {q : Nat} {b : Nat → Nat} {L p : Nat} {N : Nat → Int64} (hq : 11 ≤ q) (h : SW mA mB q b L p N) (fA : ∀ c k, c < q → gI mA' c k = gI mA c k ∧ gJ mA' c k = gJ mA c k) (fB : ∀ c k, c ≠ 136 → c ≠ 137 → gI mB' c k = gI mB c k ∧ gJ mB' c k = gJ mB c k) (fN : ∀ j, j < 13 → gJ mB' 137 j = gJ mB 137 j) (P : PR2 mA' mB' q) (W : WFs mB' 136 0) : SW mA' mB' q b L p N := by
  obtain ⟨T1, T2, KA, KB, hp, h12, h14, -, -, hR, hN⟩ := h
  have a1 : ∀ k, gI mA' 1 k = gI mA 1 k := fun k => (fA 1 k (by omega)).1
  have b1 : ∀ k, gI mB' 133 k = gI mB 133 k := fun k => (fB 133 k (by omega) (by omega)).1
  refine ⟨⟨T1.1, T1.2.1, by rw [a1]; exact T1.2.2.1, by rw [a1]; exact T1.2.2.2.1, fun i hi => by rw [(fA 2 i (by omega)).1]; exact T1.2.2.2.2 i hi⟩, ⟨T2.1, T2.2.1, by rw [b1]; exact T2.2.2.1, by rw [b1]; exact T2.2.2.2.1, fun i hi => by rw [(fB 134 i (by omega) (by omega)).1]; exact T2.2.2.2.2 i hi⟩, ?_, ?_, hp, by rw [a1]; exact h12, by rw [b1]; exact h14, P, W, fun k hk => by rw [(fB 138 k (by omega) (by omega)).2]; exact hR k hk, fun j hj => by rw [fN j hj]; exact hN j hj⟩
  · unfold CKA at KA ⊢
    rw [a1, a1, a1, a1, (fA 1 8 (by omega)).2, a1]
    exact KA
  · unfold CKB at KB ⊢
    rw [b1, b1, b1, (fB 133 16 (by omega) (by omega)).2, b1]
    exact KB
theorem SW.nextT {mA mB : Mem} {q : Nat} {b : Nat → Nat} {L p : Nat} {N : Nat → Int64} (hq : 11 ≤ q) (h : SW mA mB q b L p N) (hk : tkK b L 900 p = 1 ∨ tkK b L 900 p = 2 ∨ tkK b L 900 p = 3) : ∃ mB', RM_next mB = some mB' ∧ ST mA mB' q b L (tkN b L 900 p) N ∧ p < tkN b L 900 p ∧ Frm Lnx [] mB mB' := by
  obtain ⟨T1, T2, KA, KB, hp, h12, h14, P, W, hR, hN⟩ := h
  have t := tkN_gt (b := b) (L := L) (M := 900) (p := p) hk
  obtain ⟨m2, e2, K2, T2', F2⟩ := nxt T2 (KB.2.2.1 hk) t.2.1
  have F2' : Frm Lrb [] mB m2 := F2.mo (wL_sub rfl)
  exact ⟨m2, e2, ⟨⟨T1, T2', KA.2.2.1 hk, K2, t.2.1⟩, h12, by rw [F2.I 133 14 rfl]; exact h14, P.fr hq W Frm.rf F2', W.fr2 (fun j => F2.I 136 j rfl), fun k hk => by rw [F2.J 138 k rfl]; exact hR k hk, fun j hj => by rw [F2.J 137 j rfl]; exact hN j hj⟩, t.1, F2⟩
theorem SW.signT {mA mB : Mem} {q : Nat} {b : Nat → Nat} {L p : Nat} {N : Nat → Int64} (hq : 11 ≤ q) (h : SW mA mB q b L p N) (hk : tkK b L 900 p = 3) : ∃ mB', RM_sign mB 59 = some (1, mB') ∧ ST mA mB' q b L (tkN b L 900 p) N ∧ p < tkN b L 900 p := by
  obtain ⟨T1, T2, KA, KB, hp, h12, h14, P, W, hR, hN⟩ := h
  have t := tkN_gt (b := b) (L := L) (M := 900) (p := p) (Or.inr (Or.inr hk))
  obtain ⟨m2, e2, b1, -⟩ := signB T2 KB hp
  rw [if_pos hk] at e2
  obtain ⟨K2, T2', F2⟩ := b1 hk
  have F2' : Frm Lrb [] mB m2 := F2.mo (wL_sub rfl)
  exact ⟨m2, e2, ⟨⟨T1, T2', KA.2.2.1 (Or.inr (Or.inr hk)), K2, t.2.1⟩, h12, by rw [F2.I 133 14 rfl]; exact h14, P.fr hq W Frm.rf F2', W.fr2 (fun j => F2.I 136 j rfl), fun k hk => by rw [F2.J 138 k rfl]; exact hR k hk, fun j hj => by rw [F2.J 137 j rfl]; exact hN j hj⟩, t.1⟩
/-- the class reads a number; the reference has it before it -/
theorem num3 {mA mB : Mem} {q : Nat} {b : Nat → Nat} {L p : Nat} {N : Nat → Int64} (hq : 11 ≤ q) (S : ST mA mB q b L p N) (hi : Nat) (hhi : hi ≤ 99) : ∃ mA1, SW mA1 mB q b L p N ∧ Frm Ltk [] mA mA1 ∧ (tkK b L 900 p = 2 ∧ tkV b L 900 p ≤ hi → RD_readNumber mA 0 (nI hi) = some (1, mA1) ∧ gI mA1 1 7 = nI (tkV b L 900 p)) ∧ (¬ (tkK b L 900 p = 2 ∧ tkV b L 900 p ≤ hi) → ∃ mA' mB', RD_readNumber mA 0 (nI hi) = some (0, mA') ∧ RM_bad mB (if tkK b L 900 p = 2 then 2 else 1) = some (0, mB') ∧ Bd2 mA' mB' N) := by
  obtain ⟨m1, e1, S1, F1⟩ := adv2 hq S
  have hS := S1
  obtain ⟨T1, T2, KA, KB, hp, h12, h14, P, W, hR, hN⟩ := hS
  have kc := tkK_c b L 900 p
  refine ⟨m1, S1, F1, fun z => ?_, fun z => ?_⟩
  · have hv := (tkV_eq z.1).2
    have g7 := KA.2.2.2.2 z.1
    exact ⟨by rw [RD_readNumber, e1, bM_s, KA.1, z.1, if_pos (by decide), g7, if_neg (by rw [k0, n_lt (by omega) (by omega)]; omega), if_pos (by rw [n_le (by omega) (by omega)]; exact z.2)], g7⟩
  · by_cases y : tkK b L 900 p = 2
    · have hv := (tkV_eq y).2
      have g7 := KA.2.2.2.2 y
      obtain ⟨mA', mB', f1, f2, B⟩ := fail2 KA KB hN 2 (by omega)
      rw [if_pos y]
      refine ⟨mA', mB', ?_, f2, B⟩
      have J : RD_readNumber_J34 m1 = some (0, mA') := by rw [RD_readNumber_J34, show RD_fail m1 2 = _ from f1, bV_s, if_pos rfl]
      rw [RD_readNumber, e1, bM_s, KA.1, y, if_pos (by decide), g7, if_neg (by rw [k0, n_lt (by omega) (by omega)]; omega), if_neg (by rw [n_le (by omega) (by omega)]; omega), J]
    · obtain ⟨mA', mB', f1, f2, B⟩ := fail2 KA KB hN 1 (by omega)
      rw [if_neg y]
      exact ⟨mA', mB', by rw [RD_readNumber, e1, bM_s, KA.1, if_neg (by rw [k2, n_eq (by omega) (by omega)]; exact y), show RD_fail m1 1 = _ from f1, bV_s, if_pos (Or.inl rfl)], f2, B⟩
/-- the line n so far: j corners -/
def LPt (mA mB : Mem) (q n j : Nat) (X Y : Nat → Nat) : Prop := gI mA (q + 2 + 3 * n) 1 = nI j ∧ gJ mA (q + 2 + 3 * n) 0 = gJ mB 137 (13 + n) ∧ (∀ i, i < j → gI mA (q + 2 + 3 * n + 1) i = nI (X i) ∧ gI mA (q + 2 + 3 * n + 2) i = nI (Y i) ∧ gI mB 136 (14 + 24 * n + 2 * i) = nI (X i) ∧ gI mB 136 (14 + 24 * n + 2 * i + 1) = nI (Y i) ∧ X i ≤ 20 ∧ Y i ≤ 20) ∧ ∀ i, i + 1 < j → ¬ (X i = X (i + 1) ∧ Y i = Y (i + 1))
theorem LPt.fr {mA mB mA' mB' : Mem} {q n j : Nat} {X Y : Nat → Nat} (h : LPt mA mB q n j X Y) (A : ∀ c k, 2 ≤ c → gI mA' c k = gI mA c k ∧ gJ mA' c k = gJ mA c k) (B : ∀ k, gI mB' 136 k = gI mB 136 k ∧ gJ mB' 137 k = gJ mB 137 k) (hq : 11 ≤ q) : LPt mA' mB' q n j X Y := by
  obtain ⟨h1, h2, h3, h4⟩ := h
  refine ⟨by rw [(A _ _ (by omega)).1, h1], by rw [(A _ _ (by omega)).2, (B _).2, h2], fun i hi => ?_, h4⟩
  obtain ⟨x1, x2, x3, x4, x5⟩ := h3 i hi
  exact ⟨by rw [(A _ _ (by omega)).1, x1], by rw [(A _ _ (by omega)).1, x2], by rw [(B _).1, x3], by rw [(B _).1, x4], x5⟩
/-- how the reference ends a line -/
def lnK (v2 v8 : Int32) : Mem → Int32 → Option (Int32 × Mem) := fun m10 y9 => if 3 ≤ y9 then (if inb v8 116 then (if inb ((v8 + (2 * y9)) - 2) 116 then (if (gI m10 136 (ixn v8)) = (gI m10 136 (ixn ((v8 + (2 * y9)) - 2))) then (if inb (v8 + 1) 116 then (if inb ((v8 + (2 * y9)) - 1) 116 then (if (gI m10 136 (ixn (v8 + 1))) = (gI m10 136 (ixn ((v8 + (2 * y9)) - 1))) then (bV (RM_bad m10 3) fun v15 m16 =>
  if v15 = 0 ∨ v15 = 1 then (some (v15, m16)) else none)
  else (RM_readLine_J287 m10 v2 y9)) else none) else none)
  else (RM_readLine_J287 m10 v2 y9)) else none) else none)
  else (if y9 = 0 then (RM_readLine_J233 m10 1)
  else (RM_readLine_J233 m10 4))
theorem lnIx {n k : Nat} (hn : n < 3) (hk : k ≤ 24) : nI (14 + 24 * n) + 2 * nI k = nI (14 + 24 * n + 2 * k) := by rw [k2, n_mul, n_add]
/-- a line is ended -/
theorem close2 {mA mB : Mem} {q n j : Nat} {b : Nat → Nat} {L p p0 : Nat} {N : Nat → Int64} {X Y : Nat → Nat} (hq : 11 ≤ q) (h : SW mA mB q b L p N) (hk : tkK b L 900 p = 3) (hp0 : p0 ≤ p) (c0 : gI mB 136 0 = nI n) (l3 : n < 3) (hj : j ≤ 12) (P : LPt mA mB q n j X Y) : OK2 (bV (PH_closeLine mA q (q + 2 + 3 * n)) fun v6 m7 => if v6 = 0 ∨ v6 = 1 then (some (v6, m7)) else none) (lnK (nI n) (nI (14 + 24 * n)) mB (nI j)) q b L p0 N := by
  have hh := h
  obtain ⟨T1, T2, KA, KB, hp, h12, h14, PP, W, hR, hN⟩ := hh
  obtain ⟨r1, r2, r3, r4⟩ := P
  rw [PH_closeLine, r1]
  by_cases z0 : j = 0
  · obtain ⟨mA', mB', f1, f2, B⟩ := fail2 KA KB hN 1 (by omega)
    rw [if_pos (by rw [z0]; rfl), lnK, if_neg (by rw [k3, n_le (by omega) (by omega)]; omega), if_pos (by rw [z0]; rfl), RM_readLine_J233, show RD_fail mA 1 = _ from f1, bV_s, if_pos (Or.inl rfl), bV_s, if_pos (Or.inl rfl), show RM_bad mB 1 = _ from f2, bV_s, if_pos (Or.inl rfl)]
    exact OK2.bad B
  · rw [if_neg (by rw [k0, n_eq (by omega) (by omega)]; exact z0), lnK]
    by_cases z3 : 3 ≤ j
    · obtain ⟨x1, x2, x3, x4, x5, x6⟩ := r3 0 (by omega)
      obtain ⟨y1, y2, y3, y4, y5, y6⟩ := r3 (j - 1) (by omega)
      have e1 : nI j - 1 = nI (j - 1) := by rw [k1, n_sub (by omega)]
      have e2 : nI (14 + 24 * n) + 2 * nI j - 2 = nI (14 + 24 * n + 2 * (j - 1)) := by rw [lnIx l3 (by omega), k2, n_sub (by omega)]; congr 1; omega
      have e3 : nI (14 + 24 * n) + 2 * nI j - 1 = nI (14 + 24 * n + 2 * (j - 1) + 1) := by rw [lnIx l3 (by omega), k1, n_sub (by omega)]; congr 1; omega
      have e4 : nI (14 + 24 * n) + 1 = nI (14 + 24 * n + 1) := by rw [k1, n_add]
      have x3' : gI mB 136 (14 + 24 * n) = nI (X 0) := x3
      have x4' : gI mB 136 (14 + 24 * n + 1) = nI (Y 0) := x4
      have cA : LN_isAt mA (q + 2 + 3 * n) (nI (j - 1)) (nI (X 0)) (nI (Y 0)) = some (if X (j - 1) = X 0 ∧ Y (j - 1) = Y 0 then 1 else 0) := by
        rw [LN_isAt, if_pos (n_in (by omega) (by omega)), n_ixn (by omega), y1, y2]
        by_cases u : X (j - 1) = X 0
        · rw [if_pos (by rw [u])]
          by_cases w : Y (j - 1) = Y 0
          · rw [if_pos (by rw [w]), if_pos ⟨u, w⟩]
          · rw [if_neg (by rw [n_eq (by omega) (by omega)]; exact w), if_neg (fun t => w t.2)]
        · rw [if_neg (by rw [n_eq (by omega) (by omega)]; exact u), if_neg (fun t => u t.1)]
      have h3 : (3 : Int32) ≤ nI j := by rw [k3, n_le (by omega) (by omega)]; exact z3
      rw [if_pos h3, if_pos (show inb 0 12 by decide), e1, show ixn 0 = 0 from rfl, x1, x2, cA, bI_s, if_pos h3, if_pos (n_in (by omega) (by omega)), e2, if_pos (n_in (by omega) (by omega)), n_ixn (by omega), n_ixn (by omega), x3', y3, e4, if_pos (n_in (by omega) (by omega)), e3, if_pos (n_in (by omega) (by omega)), n_ixn (by omega), n_ixn (by omega), x4', y4]
      by_cases u : X (j - 1) = X 0 ∧ Y (j - 1) = Y 0
      · obtain ⟨mA', mB', f1, f2, B⟩ := fail2 KA KB hN 3 (by omega)
        rw [if_pos u, if_neg (by decide), if_pos (show nI (X 0) = nI (X (j - 1)) by rw [u.1]), if_pos (show nI (Y 0) = nI (Y (j - 1)) by rw [u.2]), show RD_fail mA 3 = _ from f1, bV_s, if_pos (Or.inl rfl), bV_s, if_pos (Or.inl rfl), show RM_bad mB 3 = _ from f2, bV_s, if_pos (Or.inl rfl)]
        exact OK2.bad B
      · have a6 : gI mA q 6 = nI n := by rw [PP.1, c0]
        have eB : (if nI (X 0) = nI (X (j - 1)) then (if nI (Y 0) = nI (Y (j - 1)) then (bV (RM_bad mB 3) fun v15 m16 => if v15 = 0 ∨ v15 = 1 then (some (v15, m16)) else none) else (RM_readLine_J287 mB (nI n) (nI j))) else (RM_readLine_J287 mB (nI n) (nI j))) = RM_readLine_J287 mB (nI n) (nI j) := by
          by_cases w : nI (X 0) = nI (X (j - 1))
          · rw [if_pos w]
            rw [n_eq (by omega) (by omega)] at w
            rw [if_neg (by rw [n_eq (by omega) (by omega)]; exact fun t => u ⟨w.symm, t.symm⟩)]
          · rw [if_neg w]
        have g0 : gI (sI mB 136 (11 + n) (nI j)) 136 0 = nI n := by rw [gI_sI, if_neg (by omega), c0]
        have eJ : RM_readLine_J287 mB (nI n) (nI j) = some (1, sI (sI mB 136 (11 + n) (nI j)) 136 0 (nI (n + 1))) := by
          rw [RM_readLine_J287, k11, n_add, if_pos (n_in (by omega) (by omega)), n_ixn (by omega), letM_p, if_pos (show inb 0 116 by decide), show ixn 0 = 0 from rfl, g0, show nI n + 1 = nI (n + 1) by rw [k1, n_add], letM_p]
        rw [if_neg u, if_pos rfl, a6, show nI n + 1 = nI (n + 1) by rw [k1, n_add], letM_p, bV_s, if_pos (Or.inr rfl), eB, eJ]
        have g11 : gI (sI mB 136 (11 + n) (nI j)) 136 (11 + n) = nI j := by rw [gI_sI, if_pos ⟨rfl, rfl⟩]
        have gB : ∀ k, 14 ≤ k → gI (sI mB 136 (11 + n) (nI j)) 136 k = gI mB 136 k := fun k hk => by rw [gI_sI, if_neg (by omega)]
        have H : LnR mA (sI mB 136 (11 + n) (nI j)) q n := by
          refine ⟨by rw [g11]; exact r1, r2, fun i hi => ?_⟩
          rw [g11, n_ixn (by omega)] at hi
          obtain ⟨s1, s2, s3, s4, -⟩ := r3 i hi
          rw [gB _ (by omega), gB _ (by omega), s1, s2, s3, s4]
          exact ⟨rfl, rfl⟩
        have Wc : WFc (sI mB 136 (11 + n) (nI j)) 136 0 n := by
          unfold WFc
          rw [show 0 + 11 + n = 11 + n by omega, g11, n_ixn (by omega)]
          refine ⟨z3, isN.of hj (by omega), fun i hi => ?_, fun i hi => ?_⟩
          · obtain ⟨-, -, s3, s4, s5, s6⟩ := r3 i hi
            rw [show 0 + 14 + 24 * n + 2 * i = 14 + 24 * n + 2 * i by omega, gB _ (by omega), gB _ (by omega), s3, s4]
            exact ⟨isN.of s5 (by omega), isN.of s6 (by omega)⟩
          · have nl : nx j i < j := by unfold nx; split <;> omega
            obtain ⟨-, -, s3, s4, s5, s6⟩ := r3 i hi
            obtain ⟨-, -, t3, t4, t5, t6⟩ := r3 (nx j i) nl
            rw [show 0 + 14 + 24 * n + 2 * i = 14 + 24 * n + 2 * i by omega, show 0 + 14 + 24 * n + 2 * nx j i = 14 + 24 * n + 2 * nx j i by omega, gB _ (by omega), gB _ (by omega), gB _ (by omega), gB _ (by omega), s3, s4, t3, t4, n_eq (by omega) (by omega), n_eq (by omega) (by omega)]
            unfold nx
            split
            · exact r4 i (by omega)
            · rw [show i = j - 1 by omega]; exact u
        obtain ⟨P1, W1⟩ := addLP hq PP W c0 l3 H Wc
        have S1 := h.up (mA' := sI mA q 6 (nI (n + 1))) (mB' := sI (sI mB 136 (11 + n) (nI j)) 136 0 (nI (n + 1))) hq (fun c k hc => ⟨by rw [gI_sI, if_neg (by omega)], rfl⟩) (fun c k h1 h2 => ⟨by rw [gI_sI, if_neg (by omega), gI_sI, if_neg (by omega)], rfl⟩) (fun j _ => rfl) P1 W1
        obtain ⟨m2, e5, S2, l2⟩ := S1.signT hq hk
        exact Or.inl ⟨_, _, m2, _, rfl, rfl, e5, S2, by omega⟩
    · obtain ⟨mA', mB', f1, f2, B⟩ := fail2 KA KB hN 4 (by omega)
      rw [if_neg (by rw [k3, n_le (by omega) (by omega)]; exact z3), if_neg (by rw [k3, n_le (by omega) (by omega)]; exact z3), if_neg (by rw [k0, n_eq (by omega) (by omega)]; exact z0), RM_readLine_J233, show RD_fail mA 4 = _ from f1, bV_s, if_pos (Or.inl rfl), bV_s, if_pos (Or.inl rfl), show RM_bad mB 4 = _ from f2, bV_s, if_pos (Or.inl rfl)]
      exact OK2.bad B

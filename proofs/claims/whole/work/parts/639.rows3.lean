theorem line2 {mA mB : Mem} {q : Nat} {b : Nat → Nat} {L p : Nat} {N : Nat → Int64} (hq : 11 ≤ q) (h : SW mA mB q b L p N) (hk : tkK b L 900 p = 1) : OK2 (PH_tellLine mA q) (RM_readLine mB) q b L p N := by
  have hh := h
  obtain ⟨T1, T2, KA, KB, hp, h12, h14, P, W, hR, hN⟩ := hh
  obtain ⟨n, l3, c0⟩ := (show isN (gI mB 136 0) 3 from W.1).ex
  obtain ⟨nh, l10, c1⟩ := (show isN (gI mB 136 1) 10 from W.2.1).ex
  have a6 : gI mA q 6 = nI n := by rw [P.1, c0]
  rw [PH_tellLine, a6, RM_readLine, if_pos (show inb 0 116 by decide), show ixn 0 = 0 from rfl, c0, letV_p]
  by_cases z : n = 3
  · obtain ⟨mA', mB', f1, f2, B⟩ := fail2 KA KB hN 4 (by omega)
    rw [if_neg (by rw [k3, n_lt (by omega) (by omega)]; omega), if_pos (by rw [z]; rfl), show RD_fail mA 4 = _ from f1, bV_s, if_pos (Or.inl rfl), show RM_bad mB 4 = _ from f2, bV_s, if_pos (Or.inl rfl)]
    exact OK2.bad B
  · obtain ⟨n1, e1, S1, l1, F1⟩ := h.next hq hk
    have d0 : gI n1 136 0 = nI n := by rw [F1.I 136 0 rfl, c0]
    have d1 : gI n1 136 1 = nI nh := by rw [F1.I 136 1 rfl, c1]
    rw [if_pos (by rw [k3, n_lt (by omega) (by omega)]; omega), if_neg (by rw [k3, n_eq (by omega) (by omega)]; exact z), e1, bM_s, k13, n_add]
    rcases name2 (x := 13 + n) hq S1 d0 d1 (by omega) (by omega) (Or.inl ⟨by omega, by omega⟩) with ⟨m2, n2, p2, e2, f2, w2, S2, l2, FA2, FB2⟩ | ⟨m2, n2, e2, f2, B2⟩
    · have B136 : ∀ j, gI n2 136 j = gI n1 136 j := fun j => FB2.I 136 j (by unfold wL; simp)
      have d0 : gI n2 136 0 = nI n := by rw [B136, d0]
      have d1 : gI n2 136 1 = nI nh := by rw [B136, d1]
      have a6' : gI m2 q 6 = nI n := by rw [S2.2.2.2.1.1, d0]
      have S3 : ST (sI (sJ m2 (q + 2 + 3 * n) 0 (gJ m2 1 8)) (q + 2 + 3 * n) 1 0) n2 q b L p2 N := by
        refine S2.part hq d0 d1 (by omega) l10 (fun c k hc => ⟨by rw [gI_sI, if_neg (by omega), gI_sJ], by rw [gJ_sI, gJ_sJ, if_neg (by omega)]⟩) (fun c k _ _ => ⟨rfl, rfl⟩) (fun j _ => rfl) (fun j => by rw [gI_sI, if_neg (by omega), gI_sJ]) (fun j => by rw [gI_sI, if_neg (by omega), gI_sJ]) (fun j _ => rfl) (fun k hk e j he => ⟨by rw [gI_sI, if_neg (by omega), gI_sJ], by rw [gJ_sI, gJ_sJ, if_neg (by omega)]⟩) (fun t ht => ⟨fun e he => by rw [gI_sI, if_neg (by omega), gI_sJ], by rw [gJ_sI, gJ_sJ, if_neg (by omega)]⟩) (fun k hk => ⟨rfl, fun j _ _ => rfl, rfl⟩) (fun t ht => ⟨fun e he => rfl, rfl⟩)
      have P0 : LPt (sI (sJ m2 (q + 2 + 3 * n) 0 (gJ m2 1 8)) (q + 2 + 3 * n) 1 0) n2 q n 0 (fun _ => 0) (fun _ => 0) := by
        refine ⟨by rw [gI_sI, if_pos ⟨rfl, rfl⟩]; rfl, by rw [gJ_sI, gJ_sJ, if_pos ⟨rfl, rfl⟩, w2], fun i hi => by omega, fun i hi => by omega⟩
      have lp := line_loop (p0 := p) hq (show n < 3 by omega) l10 12 0 FU FU p2 _ n2 _ _ (by omega) (by unfold FU; omega) (by unfold FU; omega) (by omega) S3 d0 d1 P0
      have e14 : (14 : Int32) + 24 * nI n = nI (14 + 24 * n) := by rw [k14, k24, n_mul, n_add]
      rw [e2, bV_s, if_neg (show ¬ (1 : Int32) = 0 by decide), a6', if_pos (n_in (show n < 3 by omega) (by omega)), n_ixn (by omega), letM_p, letM_p, f2, bV_s, if_neg (show ¬ (1 : Int32) = 0 by decide), e14, letV_p]
      exact lp
    · rw [e2, bV_s, if_pos rfl, f2, bV_s, if_pos rfl]
      exact OK2.bad B2
theorem OK2.wrapA {cA cB : Option (Int32 × Mem)} {q : Nat} {b : Nat → Nat} {L p : Nat} {N : Nat → Int64} (h : OK2 cA cB q b L p N) : OK2 (bV cA fun v m => if v = 0 ∨ v = 1 then some (v, m) else none) cB q b L p N := by
  rcases h with ⟨m1, n1, n2, p', e1, e2, r⟩ | ⟨m1, n1, e1, r⟩
  · exact Or.inl ⟨m1, n1, n2, p', by rw [e1, bV_s, if_pos (Or.inr rfl)], e2, r⟩
  · exact Or.inr ⟨m1, n1, by rw [e1, bV_s, if_pos (Or.inl rfl)], r⟩
theorem OK2.wrapB {cA cB : Option (Int32 × Mem)} {q : Nat} {b : Nat → Nat} {L p : Nat} {N : Nat → Int64} (h : OK2 cA cB q b L p N) : OK2 cA (bV cB fun v m => if v = 0 ∨ v = 1 then some (v, m) else none) q b L p N := by
  rcases h with ⟨m1, n1, n2, p', e1, e2, r⟩ | ⟨m1, n1, e1, e2 | ⟨n2, e2, e3⟩, r⟩
  · exact Or.inl ⟨m1, n1, n2, p', e1, by rw [e2, bV_s, if_pos (Or.inr rfl)], r⟩
  · exact Or.inr ⟨m1, n1, e1, Or.inl (by rw [e2, bV_s, if_pos (Or.inl rfl)]), r⟩
  · exact Or.inr ⟨m1, n1, e1, Or.inr ⟨n2, by rw [e2, bV_s, if_pos (Or.inr rfl)], e3⟩, r⟩
/-- a row of a parish -/
theorem row2 {mA mB : Mem} {q : Nat} {b : Nat → Nat} {L p : Nat} {N : Nat → Int64} (hq : 11 ≤ q) (h : SW mA mB q b L p N) : OK2 (PH_tellRow mA q) (RM_row mB) q b L p N := by
  have hh := h
  obtain ⟨T1, T2, KA, KB, hp, h12, h14, P, W, hR, hN⟩ := hh
  have iw : RD_isWord mA 10 15 = if tkK b L 900 p = 1 ∧ 10 ≤ wno (tkW b L 900 p) ∧ wno (tkW b L 900 p) ≤ 15 then 1 else 0 := isWordA (lo := 10) (hi := 15) KA (by omega) (by omega)
  have wl := wno_le (tkW b L 900 p)
  rw [PH_tellRow, iw, RM_row, wB (k := 10) KB (by omega) w10, wB (k := 11) KB (by omega) w11, wB (k := 12) KB (by omega) w12, wB (k := 13) KB (by omega) w13, wB (k := 14) KB (by omega) w14, wB (k := 15) KB (by omega) w15]
  by_cases z : tkK b L 900 p = 1 ∧ 10 ≤ wno (tkW b L 900 p) ∧ wno (tkW b L 900 p) ≤ 15
  · have g6 : gI mA 1 6 = nI (wno (tkW b L 900 p)) := by rw [(KA.2.2.2.1 z.1).1, wno_eq]
    rw [if_pos z, if_neg (show ¬ (1 : Int32) = 0 by decide), g6]
    have i1 := (line2 hq h z.1).wrapA.wrapB
    have i2 := (hay2 hq h z.1).wrapA
    have i3 := (church2 hq h z.1).wrapA
    have i4 := (law2 hq h z.1).wrapA
    have i5 := (edge2 hq h z.1).wrapA
    have i6 := (heirs2 hq h z.1).wrapA
    have hk := z.1
    have h1 := z.2.1
    have h2 := z.2.2
    generalize wno (tkW b L 900 p) = w at h1 h2
    have one : ∀ (α : Type) (x y : α), (if (1 : Int32) = 0 then x else y) = y := fun α x y => if_neg (by decide)
    have zero : ∀ (α : Type) (x y : α), (if (0 : Int32) = 0 then x else y) = x := fun α x y => if_pos rfl
    rcases (show w = 10 ∨ w = 11 ∨ w = 12 ∨ w = 13 ∨ w = 14 ∨ w = 15 by omega) with rfl | rfl | rfl | rfl | rfl | rfl
    · simp only [hk, true_and, if_true, show (nI 10 = 10) = True from eq_true rfl, show ((1 : Int32) = 0) = False from eq_false (by decide), if_false]
      exact i1
    · simp only [hk, true_and, show (11 = 10) = False from eq_false (by decide), show (nI 11 = 10) = False from eq_false (by decide), show (nI 11 = 11) = True from eq_true rfl, if_false, if_true, show ((1 : Int32) = 0) = False from eq_false (by decide)]
      exact i2
    · simp only [hk, true_and, show (12 = 10) = False from eq_false (by decide), show (12 = 11) = False from eq_false (by decide), show (nI 12 = 10) = False from eq_false (by decide), show (nI 12 = 11) = False from eq_false (by decide), show (nI 12 = 12) = True from eq_true rfl, if_false, if_true, show ((1 : Int32) = 0) = False from eq_false (by decide)]
      exact i3
    · simp only [hk, true_and, show (13 = 10) = False from eq_false (by decide), show (13 = 11) = False from eq_false (by decide), show (13 = 12) = False from eq_false (by decide), show (nI 13 = 10) = False from eq_false (by decide), show (nI 13 = 11) = False from eq_false (by decide), show (nI 13 = 12) = False from eq_false (by decide), show (nI 13 = 13) = True from eq_true rfl, if_false, if_true, show ((1 : Int32) = 0) = False from eq_false (by decide)]
      exact i4
    · simp only [hk, true_and, show (14 = 10) = False from eq_false (by decide), show (14 = 11) = False from eq_false (by decide), show (14 = 12) = False from eq_false (by decide), show (14 = 13) = False from eq_false (by decide), show (nI 14 = 10) = False from eq_false (by decide), show (nI 14 = 11) = False from eq_false (by decide), show (nI 14 = 12) = False from eq_false (by decide), show (nI 14 = 13) = False from eq_false (by decide), show (nI 14 = 14) = True from eq_true rfl, if_false, if_true, show ((1 : Int32) = 0) = False from eq_false (by decide)]
      exact i5
    · simp only [hk, true_and, show (15 = 10) = False from eq_false (by decide), show (15 = 11) = False from eq_false (by decide), show (15 = 12) = False from eq_false (by decide), show (15 = 13) = False from eq_false (by decide), show (15 = 14) = False from eq_false (by decide), show (nI 15 = 10) = False from eq_false (by decide), show (nI 15 = 11) = False from eq_false (by decide), show (nI 15 = 12) = False from eq_false (by decide), show (nI 15 = 13) = False from eq_false (by decide), show (nI 15 = 14) = False from eq_false (by decide), if_false, if_true, show ((1 : Int32) = 0) = False from eq_false (by decide)]
      exact i6
  · obtain ⟨mA', mB', f1, f2, B⟩ := fail2 KA KB hN 1 (by omega)
    rw [if_neg z, if_pos rfl, show RD_fail mA 1 = _ from f1, bV_s, if_pos (Or.inl rfl), if_neg (show ¬ (tkK b L 900 p = 1 ∧ wno (tkW b L 900 p) = 10) by omega), if_pos rfl, if_neg (show ¬ (tkK b L 900 p = 1 ∧ wno (tkW b L 900 p) = 11) by omega), if_pos rfl, if_neg (show ¬ (tkK b L 900 p = 1 ∧ wno (tkW b L 900 p) = 12) by omega), if_pos rfl, if_neg (show ¬ (tkK b L 900 p = 1 ∧ wno (tkW b L 900 p) = 13) by omega), if_pos rfl, if_neg (show ¬ (tkK b L 900 p = 1 ∧ wno (tkW b L 900 p) = 14) by omega), if_pos rfl, if_neg (show ¬ (tkK b L 900 p = 1 ∧ wno (tkW b L 900 p) = 15) by omega), if_pos rfl, show RM_bad mB 1 = _ from f2, bV_s, if_pos (Or.inl rfl)]
    exact OK2.bad B

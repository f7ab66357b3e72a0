theorem ST.putH {mA mB : Mem} {q nl n d v : Nat} {b : Nat → Nat} {L p : Nat} {N : Nat → Int64} (hq : 11 ≤ q) (h : ST mA mB q b L p N) (c0 : gI mB 136 0 = nI nl) (c1 : gI mB 136 1 = nI n) (l3 : nl ≤ 3) (l10 : n < 10) (hd : d < 3) : ST (sI mA (q + 11 + d) n (nI v)) (sI mB 136 (86 + 3 * n + d) (nI v)) q b L p N := by
  refine h.part hq c0 c1 l3 (by omega) (fun c k hc => ⟨by rw [gI_sI, if_neg (by omega)], rfl⟩) (fun c k h1 h2 => ⟨by rw [gI_sI, if_neg (by omega)], rfl⟩) (fun j _ => rfl) (fun j => by rw [gI_sI, if_neg (by omega)]) (fun j => by rw [gI_sI, if_neg (by omega)]) (fun j hj => by rw [gI_sI, if_neg (by omega)]) (fun k hk e j he => ⟨by rw [gI_sI, if_neg (by omega)], rfl⟩) (fun t ht => ⟨fun e he => by rw [gI_sI, if_neg (by omega)], rfl⟩) (fun k hk => ⟨by rw [gI_sI, if_neg (by omega)], fun j h1 h2 => by rw [gI_sI, if_neg (by omega)], rfl⟩) (fun t ht => ⟨fun e he => by rw [gI_sI, if_neg (by omega)], rfl⟩)
theorem ST.putHn {mA mB : Mem} {q nl n : Nat} {W : Int64} {b : Nat → Nat} {L p : Nat} {N : Nat → Int64} (hq : 11 ≤ q) (h : ST mA mB q b L p N) (c0 : gI mB 136 0 = nI nl) (c1 : gI mB 136 1 = nI n) (l3 : nl ≤ 3) (l10 : n < 10) : ST (sJ mA (q + 14) n W) mB q b L p N := by
  refine h.part hq c0 c1 l3 (by omega) (fun c k hc => ⟨rfl, by rw [gJ_sJ, if_neg (by omega)]⟩) (fun c k h1 h2 => ⟨rfl, rfl⟩) (fun j _ => rfl) (fun j => rfl) (fun j => rfl) (fun j hj => rfl) (fun k hk e j he => ⟨rfl, by rw [gJ_sJ, if_neg (by omega)]⟩) (fun t ht => ⟨fun e he => rfl, by rw [gJ_sJ, if_neg (by omega)]⟩) (fun k hk => ⟨rfl, fun j h1 h2 => rfl, rfl⟩) (fun t ht => ⟨fun e he => rfl, rfl⟩)
theorem hay2 {mA mB : Mem} {q : Nat} {b : Nat → Nat} {L p : Nat} {N : Nat → Int64} (hq : 11 ≤ q) (h : SW mA mB q b L p N) (hk : tkK b L 900 p = 1) :
    OK2 (PH_tellHay mA q) (if inb 1 116 then (letV ((gI mB 136 (ixn 1))) fun v24 =>
      if v24 = 10 then (bV (RM_bad mB 4) fun v33 m34 => if v33 = 0 ∨ v33 = 1 then (some (v33, m34)) else none)
      else (bM (RM_next mB) fun m25 => bV (RM_fresh m25 (16 + v24)) fun v27 m28 => if v27 = 0 then (some (0, m28))
      else (RM_row_L63 v24 (fun m30 => if inb 1 116 then (letM (sI m30 136 (ixn 1) ((gI m30 136 (ixn 1)) + 1)) fun m32 => some (1, m32)) else none) FU m28 0))) else none) q b L p N := by
  obtain ⟨f, hf⟩ : ∃ f, FU = f + 4 := ⟨FU - 4, by unfold FU; omega⟩
  have hh := h
  obtain ⟨T1, T2, KA, KB, hp, h12, h14, P, W, hR, hN⟩ := hh
  obtain ⟨nl, l3, c0⟩ := (show isN (gI mB 136 0) 3 from W.1).ex
  obtain ⟨n, l10, c1⟩ := (show isN (gI mB 136 1) 10 from W.2.1).ex
  have a7 : gI mA q 7 = nI n := by rw [P.2.1, c1]
  rw [PH_tellHay, a7, letV_p, if_pos (show inb 1 116 by decide), show ixn 1 = 1 from rfl, c1, letV_p]
  by_cases z : n = 10
  · obtain ⟨mA', mB', f1, f2, B⟩ := fail2 KA KB hN 4 (by omega)
    rw [if_neg (by rw [k10, n_lt (by omega) (by omega)]; omega), if_pos (by rw [z]; rfl), show RD_fail mA 4 = _ from f1, bV_s, if_pos (Or.inl rfl), show RM_bad mB 4 = _ from f2, bV_s, if_pos (Or.inl rfl)]
    exact OK2.bad B
  · obtain ⟨n1, e1, S1, l1, F1⟩ := h.next hq hk
    have d0 : gI n1 136 0 = nI nl := by rw [F1.I 136 0 rfl, c0]
    have d1 : gI n1 136 1 = nI n := by rw [F1.I 136 1 rfl, c1]
    rw [if_pos (by rw [k10, n_lt (by omega) (by omega)]; omega), if_neg (by rw [k10, n_eq (by omega) (by omega)]; exact z), e1, bM_s, k16, n_add]
    rcases name2 (x := 16 + n) hq S1 d0 d1 l3 (by omega) (Or.inr ⟨by omega, by omega⟩) with ⟨m2, n2, p2, e2, f2, w2, S2, l2, FA2, FB2⟩ | ⟨m2, n2, e2, f2, B2⟩
    · have B136 : ∀ j, gI n2 136 j = gI n1 136 j := fun j => FB2.I 136 j (by unfold wL; simp)
      have d0 : gI n2 136 0 = nI nl := by rw [B136, d0]
      have d1 : gI n2 136 1 = nI n := by rw [B136, d1]
      have S3 := S2.putHn (W := gJ m2 1 8) hq d0 d1 l3 (by omega)
      have i10 : inb (nI n) 10 := n_in (by omega) (by omega)
      have i3 : ∀ d, d < 3 → (86 + 3 * nI n) + nI d = nI (86 + 3 * n + d) := fun d hd => by rw [show (86 : Int32) = nI 86 from rfl, k3, n_mul, n_add, n_add]
      rw [e2, bV_s, if_neg (show ¬ (1 : Int32) = 0 by decide), if_pos i10, n_ixn (by omega), letM_p, f2, bV_s, if_neg (show ¬ (1 : Int32) = 0 by decide), hf, RM_row_L63, if_neg (by decide), if_neg (by decide), RM_row_J82]
      rcases numS hq S3 0 19 (by omega) (by omega) with ⟨v, m4, n4, p4, e4, f4, -, v2, a17, b17, S4, l4, FA4, FB4⟩ | ⟨m4, n4, e4, f4, B4⟩
      · have e4' : RD_readNumber (sJ m2 (q + 14) n (gJ m2 1 8)) 0 19 = some (1, m4) := e4
        have f4' : RM_takes n2 0 19 = some (1, n4) := f4
        have d0 : gI n4 136 0 = nI nl := by rw [FB4.I 136 0 rfl, d0]
        have d1 : gI n4 136 1 = nI n := by rw [FB4.I 136 1 rfl, d1]
        have S5 := S4.putH (d := 0) (v := v) hq d0 d1 l3 (by omega) (by omega)
        rw [e4', bV_s, if_neg (show ¬ (1 : Int32) = 0 by decide), a17, letM_p, f4', bV_s, if_neg (show ¬ (1 : Int32) = 0 by decide), show (86 + 3 * nI n) + 0 = nI (86 + 3 * n + 0) from i3 0 (by omega), if_pos (n_in (show 86 + 3 * n + 0 < 116 by omega) (by omega)), n_ixn (by omega), b17, letM_p, show (0 : Int32) + 1 = 1 from rfl, RM_row_L63, if_neg (by decide), if_neg (by decide), RM_row_J82]
        rcases numS hq S5 0 19 (by omega) (by omega) with ⟨w, m6, n6, p6, e6, f6, -, w2', a17', b17', S6, l6, FA6, FB6⟩ | ⟨m6, n6, e6, f6, B6⟩
        · have e6' : RD_readNumber (sI m4 (q + 11) n (nI v)) 0 19 = some (1, m6) := e6
          have f6' : RM_takes (sI n4 136 (86 + 3 * n + 0) (nI v)) 0 19 = some (1, n6) := f6
          have d0 : gI n6 136 0 = nI nl := by rw [FB6.I 136 0 rfl, gI_sI, if_neg (by omega), d0]
          have d1 : gI n6 136 1 = nI n := by rw [FB6.I 136 1 rfl, gI_sI, if_neg (by omega), d1]
          have S7 := S6.putH (d := 1) (v := w) hq d0 d1 l3 (by omega) (by omega)
          rw [e6', bV_s, if_neg (show ¬ (1 : Int32) = 0 by decide), a17', letM_p, f6', bV_s, if_neg (show ¬ (1 : Int32) = 0 by decide), show (86 + 3 * nI n) + 1 = nI (86 + 3 * n + 1) from i3 1 (by omega), if_pos (n_in (show 86 + 3 * n + 1 < 116 by omega) (by omega)), n_ixn (by omega), b17', letM_p, show (1 : Int32) + 1 = 2 from rfl, RM_row_L63, if_neg (by decide), if_pos (by decide), RM_row_J82]
          rcases numS hq S7 0 99 (by omega) (by omega) with ⟨u, m8, n8, p8, e8, f8, -, u2, a17'', b17'', S8, l8, FA8, FB8⟩ | ⟨m8, n8, e8, f8, B8⟩
          · have e8' : RD_readNumber (sI m6 (q + 12) n (nI w)) 0 99 = some (1, m8) := e8
            have f8' : RM_takes (sI n6 136 (86 + 3 * n + 1) (nI w)) 0 99 = some (1, n8) := f8
            have d0 : gI n8 136 0 = nI nl := by rw [FB8.I 136 0 rfl, gI_sI, if_neg (by omega), d0]
            have d1 : gI n8 136 1 = nI n := by rw [FB8.I 136 1 rfl, gI_sI, if_neg (by omega), d1]
            have S9 := S8.putH (d := 2) (v := u) hq d0 d1 l3 (by omega) (by omega)
            have g7 : gI (sI m8 (q + 13) n (nI u)) q 7 = nI n := by rw [S9.2.2.2.1.2.1, gI_sI, if_neg (by omega), d1]
            have g1 : gI (sI n8 136 (86 + 3 * n + 2) (nI u)) 136 1 = nI n := by rw [gI_sI, if_neg (by omega), d1]
            rw [e8', bV_s, if_neg (show ¬ (1 : Int32) = 0 by decide), a17'', letM_p, g7, show nI n + 1 = nI (n + 1) by rw [k1, n_add], letM_p, f8', bV_s, if_neg (show ¬ (1 : Int32) = 0 by decide), show (86 + 3 * nI n) + 2 = nI (86 + 3 * n + 2) from i3 2 (by omega), if_pos (n_in (show 86 + 3 * n + 2 < 116 by omega) (by omega)), n_ixn (by omega), b17'', letM_p, show (2 : Int32) + 1 = 3 from rfl, RM_row_L63, if_pos (by decide), if_pos (show inb 1 116 by decide), g1, show nI n + 1 = nI (n + 1) by rw [k1, n_add], letM_p]
            have tA : ∀ {m m' : Mem} (F : Frm Ltk [] m m') (c k : Nat), 2 ≤ c → gI m' c k = gI m c k ∧ gJ m' c k = gJ m c k := fun F c k hc => ⟨F.I c k (wtk hc), F.J c k (wtk hc)⟩
            have tB : ∀ {m m' : Mem} (F : Frm Lrb [] m m') (k : Nat), gI m' 136 k = gI m 136 k ∧ gJ m' 137 k = gJ m 137 k := fun F k => ⟨F.I 136 k rfl, F.J 137 k rfl⟩
            have x0 : gI (sI m8 (q + 13) n (nI u)) (q + 11) n = nI v := by rw [gI_sI, if_neg (by omega), (tA FA8 _ _ (by omega)).1, gI_sI, if_neg (by omega), (tA FA6 _ _ (by omega)).1, gI_sI, if_pos ⟨rfl, rfl⟩]
            have x1 : gI (sI m8 (q + 13) n (nI u)) (q + 12) n = nI w := by rw [gI_sI, if_neg (by omega), (tA FA8 _ _ (by omega)).1, gI_sI, if_pos ⟨rfl, rfl⟩]
            have x2 : gI (sI m8 (q + 13) n (nI u)) (q + 13) n = nI u := by rw [gI_sI, if_pos ⟨rfl, rfl⟩]
            have x3 : gJ (sI m8 (q + 13) n (nI u)) (q + 14) n = gJ m2 1 8 := by rw [gJ_sI, (tA FA8 _ _ (by omega)).2, gJ_sI, (tA FA6 _ _ (by omega)).2, gJ_sI, (tA FA4 _ _ (by omega)).2, gJ_sJ, if_pos ⟨rfl, rfl⟩]
            have y0 : gI (sI n8 136 (86 + 3 * n + 2) (nI u)) 136 (86 + 3 * n) = nI v := by rw [gI_sI, if_neg (by omega), (tB FB8 _).1, gI_sI, if_neg (by omega), (tB FB6 _).1, gI_sI, if_pos ⟨rfl, by omega⟩]
            have y1 : gI (sI n8 136 (86 + 3 * n + 2) (nI u)) 136 (86 + 3 * n + 1) = nI w := by rw [gI_sI, if_neg (by omega), (tB FB8 _).1, gI_sI, if_pos ⟨rfl, by omega⟩]
            have y2 : gI (sI n8 136 (86 + 3 * n + 2) (nI u)) 136 (86 + 3 * n + 2) = nI u := by rw [gI_sI, if_pos ⟨rfl, rfl⟩]
            have y3 : gJ (sI n8 136 (86 + 3 * n + 2) (nI u)) 137 (16 + n) = gJ n2 137 (16 + n) := by rw [gJ_sI, (tB FB8 _).2, gJ_sI, (tB FB6 _).2, gJ_sI, (tB FB4 _).2]
            have S10 := S9.addH hq g1 (by omega) ⟨by rw [y0]; exact x0, by rw [y1]; exact x1, by rw [y2]; exact x2, by rw [y3, ← w2]; exact x3⟩ ⟨by rw [y0]; exact isN.of v2 (by omega), by rw [y1]; exact isN.of w2' (by omega), by rw [y2]; exact isN.of u2 (by omega)⟩
            exact semi2 hq S10 (by omega)
          · have e8' : RD_readNumber (sI m6 (q + 12) n (nI w)) 0 99 = some (0, m8) := e8
            have f8' : RM_takes (sI n6 136 (86 + 3 * n + 1) (nI w)) 0 99 = some (0, n8) := f8
            rw [e8', bV_s, if_pos rfl, f8', bV_s, if_pos rfl]
            exact OK2.bad B8
        · have e6' : RD_readNumber (sI m4 (q + 11) n (nI v)) 0 19 = some (0, m6) := e6
          have f6' : RM_takes (sI n4 136 (86 + 3 * n + 0) (nI v)) 0 19 = some (0, n6) := f6
          rw [e6', bV_s, if_pos rfl, f6', bV_s, if_pos rfl]
          exact OK2.bad B6
      · have e4' : RD_readNumber (sJ m2 (q + 14) n (gJ m2 1 8)) 0 19 = some (0, m4) := e4
        have f4' : RM_takes n2 0 19 = some (0, n4) := f4
        rw [e4', bV_s, if_pos rfl, f4', bV_s, if_pos rfl]
        exact OK2.bad B4
    · rw [e2, bV_s, if_pos rfl, f2, bV_s, if_pos rfl]
      exact OK2.bad B2

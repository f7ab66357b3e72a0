theorem adv2 {mA mB : Mem} {q : Nat} {b : Nat → Nat} {L p : Nat} {N : Nat → Int64} (hq : 11 ≤ q) (h : ST mA mB q b L p N) : ∃ mA', RD_advance mA = some mA' ∧ SW mA' mB q b L p N ∧ Frm Ltk [] mA mA' := by
  obtain ⟨⟨T1, T2, h10, K, hp⟩, h12, h14, P, W, hR, hN⟩ := h
  obtain ⟨m1, e1, K1, S1, F1⟩ := adv T1 h10 hp
  exact ⟨m1, e1, ⟨S1, T2, K1, K, hp, by rw [F1.I 1 2 rfl]; exact h12, h14, P.fr hq W F1 Frm.rf, W, hR, hN⟩, F1⟩
theorem church2 {mA mB : Mem} {q : Nat} {b : Nat → Nat} {L p : Nat} {N : Nat → Int64} (hq : 11 ≤ q) (h : SW mA mB q b L p N) (hk : tkK b L 900 p = 1) :
    OK2 (PH_tellChurch mA q) (bV (RM_isOnce mB 0) fun v19 m20 => if v19 = 0 then (some (0, m20)) else (RM_row_L147 (fun m22 => some (1, m22)) FU m20 0)) q b L p N := by
  obtain ⟨f, hf⟩ : ∃ f, FU = f + 3 := ⟨FU - 3, by unfold FU; omega⟩
  rw [hf]
  rcases once2 hq h hk 0 (by omega) with ⟨m1, n1, p1, e1, f1, S1, l1⟩ | ⟨m1, n1, e1, f1, B1⟩
  · have e1' : PH_tellsFirst mA q 1 = some (1, m1) := e1
    have f1' : RM_isOnce mB 0 = some (1, n1) := f1
    rw [PH_tellChurch, e1', bV_s, if_neg (by decide), f1', bV_s, if_neg (by decide), RM_row_L147, if_neg (by decide)]
    rcases numS hq S1 0 19 (by omega) (by omega) with ⟨v, m2, n2, p2, e2, f2, v1, v2, a7, b17, S2, l2, -, -⟩ | ⟨m2, n2, e2, f2, B2⟩
    · have e2' : RD_readNumber m1 0 19 = some (1, m2) := e2
      have f2' : RM_takes n1 0 19 = some (1, n2) := f2
      have S3 := S2.set hq 8 v (by omega) (by rw [if_pos (by omega)]; exact v2)
      rw [e2', bV_s, if_neg (by decide), a7, letM_p, f2', bV_s, if_neg (by decide), if_pos (show inb (2 + 0) 116 by decide), show ixn (2 + 0) = 2 from rfl, b17, letM_p, RM_row_L147, if_neg (by decide)]
      rcases numS hq S3 0 19 (by omega) (by omega) with ⟨w, m3, n3, p3, e3, f3, w1, w2, a7', b17', S4, l3, -, -⟩ | ⟨m3, n3, e3, f3, B3⟩
      · have e3' : RD_readNumber (sI m2 q 8 (nI v)) 0 19 = some (1, m3) := e3
        have f3' : RM_takes (sI n2 136 2 (nI v)) 0 19 = some (1, n3) := f3
        have S5 := S4.set hq 9 w (by omega) (by rw [if_pos (by omega)]; exact w2)
        rw [e3', bV_s, if_neg (by decide), a7', letM_p, f3', bV_s, if_neg (by decide), if_pos (show inb (2 + (0 + 1)) 116 by decide), show ixn (2 + (0 + 1)) = 3 from rfl, b17', letM_p, RM_row_L147, if_pos (by decide)]
        exact semi2 hq S5 (by omega)
      · have e3' : RD_readNumber (sI m2 q 8 (nI v)) 0 19 = some (0, m3) := e3
        have f3' : RM_takes (sI n2 136 2 (nI v)) 0 19 = some (0, n3) := f3
        rw [e3', bV_s, if_pos rfl, f3', bV_s, if_pos rfl]
        exact OK2.bad B3
    · have e2' : RD_readNumber m1 0 19 = some (0, m2) := e2
      have f2' : RM_takes n1 0 19 = some (0, n2) := f2
      rw [e2', bV_s, if_pos rfl, f2', bV_s, if_pos rfl]
      exact OK2.bad B2
  · have e1' : PH_tellsFirst mA q 1 = some (0, m1) := e1
    have f1' : RM_isOnce mB 0 = some (0, n1) := f1
    rw [PH_tellChurch, e1', bV_s, if_pos rfl, f1', bV_s, if_pos rfl]
    exact OK2.bad B1
theorem heirs_loop {q : Nat} {b : Nat → Nat} {L p0 : Nat} {N : Nat → Int64} (hq : 11 ≤ q) : ∀ (k j fu gu p : Nat) (mA mB : Mem), j + k = 4 → k < fu → k < gu → p0 ≤ p → ST mA mB q b L p N →
    OK2 (PH_tellHeirs_L14 q (fun m4 => bV (RD_readSemicolon m4) fun v5 m6 => if v5 = 0 ∨ v5 = 1 then (some (v5, m6)) else none) fu mA (nI j)) (RM_row_L372 (fun m4 => some (1, m4)) gu mB (nI j)) q b L p0 N
  | 0, j, fu, gu, p, mA, mB, hj, hf, hg, hp, S => by
    obtain ⟨f, rfl⟩ : ∃ f, fu = f + 1 := ⟨fu - 1, by omega⟩
    obtain ⟨g, rfl⟩ : ∃ g, gu = g + 1 := ⟨gu - 1, by omega⟩
    rw [PH_tellHeirs_L14, RM_row_L372, k4, if_pos (by rw [n_le (by omega) (by omega)]; omega), if_pos (by rw [n_le (by omega) (by omega)]; omega)]
    exact semi2 hq S hp
  | k + 1, j, fu, gu, p, mA, mB, hj, hf, hg, hp, S => by
    obtain ⟨f, rfl⟩ : ∃ f, fu = f + 1 := ⟨fu - 1, by omega⟩
    obtain ⟨g, rfl⟩ : ∃ g, gu = g + 1 := ⟨gu - 1, by omega⟩
    have e7 : (7 : Int32) + nI j = nI (7 + j) := by rw [k7, n_add]
    have ej : nI j + 1 = nI (j + 1) := by rw [k1, n_add]
    have c4 : ¬ (4 : Int32) ≤ nI j := by rw [k4, n_le (by omega) (by omega)]; omega
    rw [PH_tellHeirs_L14, RM_row_L372, if_neg c4, if_neg c4, e7, ej]
    rcases numS hq S 0 9 (by omega) (by omega) with ⟨v, m2, n2, p2, e2, f2, v1, v2, a7, b17, S2, l2, -, -⟩ | ⟨m2, n2, e2, f2, B2⟩
    · have e2' : RD_readNumber mA 0 9 = some (1, m2) := e2
      have f2' : RM_takes mB 0 9 = some (1, n2) := f2
      rw [e2', bV_s, if_neg (show ¬ (1 : Int32) = 0 by decide), if_pos (n_in (show j < 4 by omega) (by omega)), n_ixn (by omega), a7, letM_p, f2', bV_s, if_neg (show ¬ (1 : Int32) = 0 by decide), if_pos (n_in (show 7 + j < 116 by omega) (by omega)), n_ixn (by omega), b17, letM_p]
      exact heirs_loop hq k (j + 1) f g p2 _ _ (by omega) (by omega) (by omega) (by omega) (S2.setH hq j v (by omega) v2)
    · have e2' : RD_readNumber mA 0 9 = some (0, m2) := e2
      have f2' : RM_takes mB 0 9 = some (0, n2) := f2
      rw [e2', bV_s, if_pos rfl, f2', bV_s, if_pos rfl]
      exact OK2.bad B2
theorem heirs2 {mA mB : Mem} {q : Nat} {b : Nat → Nat} {L p : Nat} {N : Nat → Int64} (hq : 11 ≤ q) (h : SW mA mB q b L p N) (hk : tkK b L 900 p = 1) :
    OK2 (PH_tellHeirs mA q) (bV (RM_isOnce mB 3) fun v1 m2 => if v1 = 0 then (some (0, m2)) else (RM_row_L372 (fun m4 => some (1, m4)) FU m2 0)) q b L p N := by
  rcases once2 hq h hk 3 (by omega) with ⟨m1, n1, p1, e1, f1, S1, l1⟩ | ⟨m1, n1, e1, f1, B1⟩
  · have e1' : PH_tellsFirst mA q 8 = some (1, m1) := e1
    have f1' : RM_isOnce mB 3 = some (1, n1) := f1
    rw [PH_tellHeirs, e1', bV_s, if_neg (by decide), f1', bV_s, if_neg (by decide)]
    exact heirs_loop hq 4 0 FU FU p1 m1 n1 (by omega) (by unfold FU; omega) (by unfold FU; omega) (by omega) S1
  · have e1' : PH_tellsFirst mA q 8 = some (0, m1) := e1
    have f1' : RM_isOnce mB 3 = some (0, n1) := f1
    rw [PH_tellHeirs, e1', bV_s, if_pos rfl, f1', bV_s, if_pos rfl]
    exact OK2.bad B1
/-- a word from lo to hi -/
theorem word2 {mA mB : Mem} {q : Nat} {b : Nat → Nat} {L p : Nat} {N : Nat → Int64} (hq : 11 ≤ q) (S : ST mA mB q b L p N) (lo hi : Nat) (h1 : lo ≤ 17) (h2 : hi ≤ 17) :
    (∃ mA', RD_readWord mA (nI lo) (nI hi) = some (1, mA') ∧ (tkK b L 900 p = 1 ∧ lo ≤ wno (tkW b L 900 p) ∧ wno (tkW b L 900 p) ≤ hi) ∧ gI mA' 1 6 = nI (wno (tkW b L 900 p)) ∧ SW mA' mB q b L p N) ∨
    (∃ mA' mB', RD_readWord mA (nI lo) (nI hi) = some (0, mA') ∧ ¬ (tkK b L 900 p = 1 ∧ lo ≤ wno (tkW b L 900 p) ∧ wno (tkW b L 900 p) ≤ hi) ∧ RM_bad mB 1 = some (0, mB') ∧ Bd2 mA' mB' N) := by
  obtain ⟨m1, e1, S1, F1⟩ := adv2 hq S
  have hS := S1
  obtain ⟨T1, T2, KA, KB, hp, h12, h14, P, W, hR, hN⟩ := hS
  have iw := isWordA (lo := lo) (hi := hi) KA h1 h2
  by_cases z : tkK b L 900 p = 1 ∧ lo ≤ wno (tkW b L 900 p) ∧ wno (tkW b L 900 p) ≤ hi
  · rw [if_pos z] at iw
    exact Or.inl ⟨m1, by rw [RD_readWord, e1, bM_s, iw, if_neg (by decide)], z, by rw [(KA.2.2.2.1 z.1).1, wno_eq], S1⟩
  · rw [if_neg z] at iw
    obtain ⟨mA', mB', f1, f2, B⟩ := fail2 KA KB hN 1 (by omega)
    exact Or.inr ⟨mA', mB', by rw [RD_readWord, e1, bM_s, iw, if_pos rfl, show RD_fail m1 1 = _ from f1, bV_s, if_pos rfl], z, f2, B⟩
theorem wB {m : Mem} {b : Nat → Nat} {L p k : Nat} {c : Int64} (K : CKB m b L 900 p) (hk : k ≤ 17) (hc : ∀ W, RD_wordOf W = nI k ↔ W = c) : RM_isWord m c = if tkK b L 900 p = 1 ∧ wno (tkW b L 900 p) = k then 1 else 0 := by
  rw [isWordB K]
  have : (tkW b L 900 p = c) ↔ wno (tkW b L 900 p) = k := by rw [← hc, wn hk]
  by_cases z : tkK b L 900 p = 1 ∧ tkW b L 900 p = c
  · rw [if_pos z, if_pos ⟨z.1, this.mp z.2⟩]
  · rw [if_neg z, if_neg (fun t => z ⟨t.1, this.mpr t.2⟩)]
theorem law2 {mA mB : Mem} {q : Nat} {b : Nat → Nat} {L p : Nat} {N : Nat → Int64} (hq : 11 ≤ q) (h : SW mA mB q b L p N) (hk : tkK b L 900 p = 1) :
    OK2 (PH_tellLaw mA q) (bV (RM_isOnce mB 1) fun v16 m17 => if v16 = 0 then (some (0, m17))
      else (if (RM_isWord m17 7300196) = 0 then (if (RM_isWord m17 491496238692) = 0 then (if (RM_isWord m17 1818584692) = 0 then (RM_row_J247 m17 (-1)) else (RM_row_J247 m17 2)) else (RM_row_J247 m17 1)) else (RM_row_J247 m17 0))) q b L p N := by
  rcases once2 hq h hk 1 (by omega) with ⟨m1, n1, p1, e1, f1, S1, l1⟩ | ⟨m1, n1, e1, f1, B1⟩
  · have e1' : PH_tellsFirst mA q 2 = some (1, m1) := e1
    have f1' : RM_isOnce mB 1 = some (1, n1) := f1
    rw [PH_tellLaw, e1', bV_s, if_neg (by decide), f1', bV_s, if_neg (by decide)]
    have KB := S1.1.2.2.2.1
    rw [wB (k := 4) KB (by omega) w4, wB (k := 5) KB (by omega) w5, wB (k := 6) KB (by omega) w6]
    rcases word2 hq S1 4 6 (by omega) (by omega) with ⟨m2, e2, z, g6, S2⟩ | ⟨m2, n2, e2, z, f2, B2⟩
    · have e2' : RD_readWord m1 4 6 = some (1, m2) := e2
      have go : ∀ s, s ≤ 2 → wno (tkW b L 900 p1) = 4 + s → OK2 (bV (some ((1 : Int32), m2)) fun v4 m5 => if v4 = 0 then (some (0, m5)) else (letM (sI m5 q 10 ((gI m5 1 6) - 4)) fun m7 => bV (RD_readSemicolon m7) fun v8 m9 => if v8 = 0 ∨ v8 = 1 then (some (v8, m9)) else none)) (RM_row_J247 n1 (nI s)) q b L p N := fun s hs hw => by
        have S3 := S2.set hq 10 s (by omega) (by rw [if_neg (by omega), if_pos rfl]; exact hs)
        obtain ⟨n3, e3, S4, l4, -⟩ := S3.next hq z.1
        have g : gI m2 1 6 - 4 = nI s := by rw [g6, hw, k4, n_sub (by omega), show 4 + s - 4 = s by omega]
        rw [bV_s, if_neg (by decide), g, letM_p, RM_row_J247, if_pos (by rw [k0, n_le (by omega) (by omega)]; omega), if_pos (show inb 4 116 by decide), show ixn 4 = 4 from rfl, letM_p, show RM_next (sI n1 136 4 (nI s)) = _ from e3, bM_s]
        exact semi2 hq S4 (by omega)
      rw [e2']
      rcases (show wno (tkW b L 900 p1) = 4 ∨ wno (tkW b L 900 p1) = 5 ∨ wno (tkW b L 900 p1) = 6 by omega) with w | w | w
      · rw [if_pos (show tkK b L 900 p1 = 1 ∧ wno (tkW b L 900 p1) = 4 from ⟨z.1, w⟩), if_neg (show ¬ (1 : Int32) = 0 by decide)]; exact go 0 (by omega) w
      · rw [if_neg (show ¬ (tkK b L 900 p1 = 1 ∧ wno (tkW b L 900 p1) = 4) by omega), if_pos rfl, if_pos (show tkK b L 900 p1 = 1 ∧ wno (tkW b L 900 p1) = 5 from ⟨z.1, w⟩), if_neg (show ¬ (1 : Int32) = 0 by decide)]; exact go 1 (by omega) w
      · rw [if_neg (show ¬ (tkK b L 900 p1 = 1 ∧ wno (tkW b L 900 p1) = 4) by omega), if_pos rfl, if_neg (show ¬ (tkK b L 900 p1 = 1 ∧ wno (tkW b L 900 p1) = 5) by omega), if_pos rfl, if_pos (show tkK b L 900 p1 = 1 ∧ wno (tkW b L 900 p1) = 6 from ⟨z.1, w⟩), if_neg (show ¬ (1 : Int32) = 0 by decide)]; exact go 2 (by omega) w
    · have e2' : RD_readWord m1 4 6 = some (0, m2) := e2
      rw [e2', bV_s, if_pos rfl, if_neg (show ¬ (tkK b L 900 p1 = 1 ∧ wno (tkW b L 900 p1) = 4) by omega), if_pos rfl, if_neg (show ¬ (tkK b L 900 p1 = 1 ∧ wno (tkW b L 900 p1) = 5) by omega), if_pos rfl, if_neg (show ¬ (tkK b L 900 p1 = 1 ∧ wno (tkW b L 900 p1) = 6) by omega), if_pos rfl, RM_row_J247, if_neg (by decide), f2, bV_s, if_pos (Or.inl rfl)]
      exact OK2.bad B2
  · have e1' : PH_tellsFirst mA q 2 = some (0, m1) := e1
    have f1' : RM_isOnce mB 1 = some (0, n1) := f1
    rw [PH_tellLaw, e1', bV_s, if_pos rfl, f1', bV_s, if_pos rfl]
    exact OK2.bad B1
theorem edge2 {mA mB : Mem} {q : Nat} {b : Nat → Nat} {L p : Nat} {N : Nat → Int64} (hq : 11 ≤ q) (h : SW mA mB q b L p N) (hk : tkK b L 900 p = 1) :
    OK2 (PH_tellEdge mA q) (bV (RM_isOnce mB 2) fun v9 m10 => if v9 = 0 then (some (0, m10))
      else (if (RM_isWord m10 6842739) = 0 then (if (RM_isWord m10 123563833652072) = 0 then (bV (RM_bad m10 1) fun v12 m13 => if v12 = 0 ∨ v12 = 1 then (some (v12, m13)) else none) else (RM_row_J317 m10)) else (RM_row_J317 m10))) q b L p N := by
  rcases once2 hq h hk 2 (by omega) with ⟨m1, n1, p1, e1, f1, S1, l1⟩ | ⟨m1, n1, e1, f1, B1⟩
  · have e1' : PH_tellsFirst mA q 4 = some (1, m1) := e1
    have f1' : RM_isOnce mB 2 = some (1, n1) := f1
    rw [PH_tellEdge, e1', bV_s, if_neg (by decide), f1', bV_s, if_neg (by decide)]
    have KB := S1.1.2.2.2.1
    rw [RM_row_J317, wB (k := 8) KB (by omega) w8, wB (k := 7) KB (by omega) w7]
    rcases word2 hq S1 7 8 (by omega) (by omega) with ⟨m2, e2, z, g6, S2⟩ | ⟨m2, n2, e2, z, f2, B2⟩
    · have e2' : RD_readWord m1 7 8 = some (1, m2) := e2
      have go : ∀ s, s ≤ 1 → wno (tkW b L 900 p1) = 7 + s → OK2 (bV (some ((1 : Int32), m2)) fun v4 m5 => if v4 = 0 then (some (0, m5)) else (letM (sI m5 q 11 ((gI m5 1 6) - 7)) fun m7 => bV (RD_readSemicolon m7) fun v8 m9 => if v8 = 0 ∨ v8 = 1 then (some (v8, m9)) else none)) (RM_row_J337 n1 5 (nI s)) q b L p N := fun s hs hw => by
        have S3 := S2.set hq 11 s (by omega) (by rw [if_neg (by omega), if_neg (by omega)]; exact hs)
        obtain ⟨n3, e3, S4, l4, -⟩ := S3.next hq z.1
        have g : gI m2 1 6 - 7 = nI s := by rw [g6, hw, k7, n_sub (by omega), show 7 + s - 7 = s by omega]
        rw [bV_s, if_neg (by decide), g, letM_p, RM_row_J337, if_pos (show inb 5 116 by decide), show ixn 5 = 5 from rfl, letM_p, show RM_next (sI n1 136 5 (nI s)) = _ from e3, bM_s]
        exact semi2 hq S4 (by omega)
      rw [e2']
      rcases (show wno (tkW b L 900 p1) = 7 ∨ wno (tkW b L 900 p1) = 8 by omega) with w | w
      · rw [if_neg (show ¬ (tkK b L 900 p1 = 1 ∧ wno (tkW b L 900 p1) = 8) by omega), if_pos rfl, if_pos (show tkK b L 900 p1 = 1 ∧ wno (tkW b L 900 p1) = 7 from ⟨z.1, w⟩), if_neg (show ¬ (1 : Int32) = 0 by decide), if_pos rfl]; exact go 0 (by omega) w
      · rw [if_pos (show tkK b L 900 p1 = 1 ∧ wno (tkW b L 900 p1) = 8 from ⟨z.1, w⟩), if_neg (show ¬ (1 : Int32) = 0 by decide), if_neg (show ¬ (1 : Int32) = 0 by decide)]; exact go 1 (by omega) w
    · have e2' : RD_readWord m1 7 8 = some (0, m2) := e2
      rw [e2', bV_s, if_pos rfl, if_neg (show ¬ (tkK b L 900 p1 = 1 ∧ wno (tkW b L 900 p1) = 8) by omega), if_pos rfl, if_neg (show ¬ (tkK b L 900 p1 = 1 ∧ wno (tkW b L 900 p1) = 7) by omega), if_pos rfl, f2, bV_s, if_pos (Or.inl rfl)]
      exact OK2.bad B2
  · have e1' : PH_tellsFirst mA q 4 = some (0, m1) := e1
    have f1' : RM_isOnce mB 2 = some (0, n1) := f1
    rw [PH_tellEdge, e1', bV_s, if_pos rfl, f1', bV_s, if_pos rfl]
    exact OK2.bad B1

theorem hay_cases {m : Mem} (h : Inv m) (x : Int32) : (PH_hasHay m (gN m 13) x = 0 ∧ ∀ m1, (∀ j, gI m1 135 j = gI m 135 j) → RM_isHay m1 x = some 0) ∨ ∃ t a b l, t < 10 ∧ t < ixn (gI m 135 1) ∧ x = nI t ∧ a < 20 ∧ b < 20 ∧ l < 100 ∧ gI m 135 (86 + 3 * t) = nI a ∧ gI m 135 (86 + 3 * t + 1) = nI b ∧ gI m 135 (86 + 3 * t + 2) = nI l ∧ gI m (gN m 13 + 11) t = nI a ∧ gI m (gN m 13 + 12) t = nI b ∧ gI m (gN m 13 + 13) t = nI l ∧ PH_hasHay m (gN m 13) x = 1 ∧ ∀ m1, (∀ j, gI m1 135 j = gI m 135 j) → RM_isHay m1 x = some 1 := by
  obtain ⟨H, hH, eH⟩ := h.2.2.2.1.2.1.ex
  rw [Nat.zero_add] at eH
  have e7 : gI m (gN m 13) 7 = nI H := by rw [h.2.2.1.2.1, Nat.zero_add, eH]
  have eI : ∀ m1, (∀ j, gI m1 135 j = gI m 135 j) → RM_isHay m1 x = some (RM_isIn x 0 (nI H - 1)) := fun m1 q => by
    rw [RM_isHay, if_pos (by decide), show ixn 1 = 1 from rfl, q, eH, if_pos]
    rw [isIn_eq]
    split
    · right; rfl
    · left; rfl
  rcases spl x H (by omega) with hx | ⟨hx, hx2⟩ | ⟨t, ht, rfl⟩
  · exact Or.inl ⟨by rw [PH_hasHay, if_pos hx], fun m1 q => by rw [eI m1 q, isIn_lo hx]⟩
  · refine Or.inl ⟨by rw [PH_hasHay, if_neg hx, e7, if_pos hx2], fun m1 q => ?_⟩
    have : RM_isIn x 0 (nI H - 1) = 0 := by
      by_cases z : H = 0
      · subst z
        have z1 : nI 0 - 1 = -1 := by decide
        rw [isIn_eq, z1, if_neg]
        rintro ⟨a, b⟩
        rw [Int32.le_iff_toInt_le] at a b
        have t0 : (0 : Int32).toInt = 0 := rfl
        have t1 : (-1 : Int32).toInt = -1 := rfl
        omega
      · rw [k1, n_sub (by omega)]
        exact isIn_hi (n := H - 1) (by omega) (by rw [show H - 1 + 1 = H by omega]; exact hx2)
    rw [eI m1 q, this]
  · have hI1 : RM_isIn (nI t) 0 (nI H - 1) = 1 := by
      rw [k1, n_sub (by omega)]
      exact isIn_in (a := 0) (b := H - 1) (by omega) (by omega) (by omega)
    have hi : t < ixn (gI m 135 (0 + 1)) := by rw [Nat.zero_add, eH, n_ixn (by omega)]; exact ht
    obtain ⟨b1, b2, b3, -⟩ := h.2.2.1.2.2.2.2.2.2.2.2.2 t hi
    obtain ⟨w1, w2, w3⟩ := h.2.2.2.1.2.2.2.2.2.2.2.2 t hi
    rw [Nat.zero_add] at b1 b2 b3 w1 w2 w3
    obtain ⟨a, ha, ea⟩ := w1.ex
    obtain ⟨b, hb, eb⟩ := w2.ex
    obtain ⟨l, hl, el⟩ := w3.ex
    refine Or.inr ⟨t, a, b, l, by omega, by rw [eH, n_ixn (by omega)]; exact ht, rfl, by omega, by omega, by omega, ea, eb, el, by rw [b1, ea], by rw [b2, eb], by rw [b3, el], ?_, fun m1 q => by rw [eI m1 q, hI1]⟩
    rw [PH_hasHay, if_neg (by rw [k0, n_lt (by omega) (by omega)]; omega), e7, if_neg (by rw [n_le (by omega) (by omega)]; omega)]
theorem church {m : Mem} (h : Inv m) : ∃ a b, a < 20 ∧ b < 20 ∧ gI m 135 2 = nI a ∧ gI m 135 3 = nI b ∧ gI m (gN m 13) 8 = nI a ∧ gI m (gN m 13) 9 = nI b := by
  obtain ⟨a, ha, ea⟩ := h.2.2.2.1.2.2.1.ex
  obtain ⟨b, hb, eb⟩ := h.2.2.2.1.2.2.2.1.ex
  rw [Nat.zero_add] at ea eb
  exact ⟨a, b, by omega, by omega, ea, eb, by rw [h.2.2.1.2.2.1, Nat.zero_add, ea], by rw [h.2.2.1.2.2.2.1, Nat.zero_add, eb]⟩
theorem lf_loop {x2 x3 : Int32} {kx : Mem → Option (Int32 × Mem)} : ∀ (d i fu : Nat) (m : Mem), i + d = 400 → d < fu → ∃ m', RM_least_L40 x2 x3 kx fu m (nI i) = kx m' ∧ (∀ s, i ≤ s → s < 400 → gI m' 149 s = nI INF) ∧ (∀ s, s < i → gI m' 149 s = gI m 149 s) ∧ Frm [(149, 999999)] [] m m'
  | 0, i, fu, m, hd, hf => by
    obtain ⟨f, rfl⟩ : ∃ f, fu = f + 1 := ⟨fu - 1, by omega⟩
    obtain rfl : i = 400 := by omega
    exact ⟨m, by rw [RM_least_L40, if_pos (by decide)], fun s a b => by omega, fun _ _ => rfl, Frm.rf⟩
  | d + 1, i, fu, m, hd, hf => by
    obtain ⟨f, rfl⟩ : ∃ f, fu = f + 1 := ⟨fu - 1, by omega⟩
    obtain ⟨m', e, a, b, F⟩ := lf_loop (x2 := x2) (x3 := x3) (kx := kx) d (i + 1) f (sI m 149 i (nI INF)) (by omega) (by omega)
    refine ⟨m', ?_, fun s h1 h2 => ?_, fun s h => ?_, (Frm.sI rfl rfl).tr F⟩
    · rw [RM_least_L40, if_neg (by rw [show (400 : Int32) = nI 400 from rfl, n_le (by omega) (by omega)]; omega), if_pos (n_in (by omega) (by omega)), n_ixn (by omega), letM_p, show nI i + 1 = nI (i + 1) by rw [k1, n_add]]
      exact e
    · by_cases q : s = i
      · rw [b s (by omega), gI_sI, if_pos ⟨rfl, q⟩]
      · exact a s (by omega) h2
    · rw [b s (by omega), gI_sI, if_neg (by omega)]
theorem Opt.bd {X : Nat → Nat → Nat} {C s v D : Nat} (hC : C ≤ 1000) (hX : ∀ u d, X u d ≤ 12) (h : Opt X C s v D) : D < 100000000 := by
  obtain ⟨n, c, w, hn, e, -⟩ := h
  have b := Wq_c hX n v c w
  have b' : C * c ≤ 1000 * (12 * 399) := Nat.mul_le_mul hC (by omega)
  omega
theorem op_least {m : Mem} (h : Inv m) (x y z : Int32) : ∃ v m1 m2, OH_least m x y z = some (v, m1) ∧ RM_least m1 x y z = some (v, m2) ∧ Inv m2 := by
  have hI : Inv (sI m 133 0 0) := inv_frame fr0 h
  have g0 : ∀ j, gI (sI m 133 0 0) 135 j = gI m 135 j := fun j => by rw [gI_sI, if_neg (by omega)]
  rcases line_cases h x with ⟨h1, h2⟩ | ⟨k, hk, hk2, rfl, h1, h2⟩
  · refine ⟨-1, m, sI m 133 0 0, by rw [OH_least, h1, if_pos rfl], ?_, hI⟩
    rw [RM_least, letM_p, h2 _ (g0 0), bI_s, if_pos rfl]
  rcases hay_cases h y with ⟨h3, h4⟩ | ⟨t, a, b, l, ht, ht2, rfl, ha, hb, hl, u1, u2, -, v1, v2, -, h3, h4⟩
  · refine ⟨-1, m, sI m 133 0 0, by rw [OH_least, h1, if_neg (by decide), h3, if_pos rfl], ?_, hI⟩
    rw [RM_least, letM_p, h2 _ (g0 0), bI_s, if_neg (by decide), h4 _ g0, bI_s, if_pos rfl]
  rcases isIn_n (x := z) (n := 1) (by omega) with ⟨e, hx⟩ | ⟨e, w, hw, rfl⟩
  · refine ⟨-1, m, sI m 133 0 0, ?_, ?_, hI⟩
    · rw [OH_least, h1, if_neg (by decide), h3, if_neg (by decide)]
      rcases hx with q | q
      · rw [if_pos q]
      · by_cases q0 : z < 0
        · rw [if_pos q0]
        · rw [if_neg q0, if_neg (Int32.not_le.mpr (show 1 < z from q))]
    · rw [RM_least, letM_p, h2 _ (g0 0), bI_s, if_neg (by decide), h4 _ g0, bI_s, if_neg (by decide), show RM_isIn z 0 1 = 0 from e, if_pos rfl]
  obtain ⟨n, X, Y, D⟩ := lineD h hk2
  have hn := D.2.1
  have hn3 := D.1
  obtain ⟨p, q, hp, hq, c1, c2, c3, c4⟩ := church h
  obtain ⟨m1, e1, s1, G1, F1⟩ := OH_survey_eq h hk D
  have N1 : gN m1 13 = gN m 13 := F1.N 13
  have hp13 : gN m 13 = 101 ∨ gN m 13 = 117 := by rcases h.1 with q | q <;> omega
  have wf : ∀ c j, 11 ≤ c → gI m1 c j = gI m c j := fun c j hc => F1.I c j (by
    unfold wL
    rw [List.any_eq_false]
    have : ∀ q ∈ W_OH_survey, q.1 < 11 := by decide
    intro q hq
    have := this q hq
    simp only [Bool.and_eq_true, beq_iff_eq, not_and]
    intro h; omega)
  obtain ⟨m2, V, e2, O2, F2⟩ := cheapest_eq (s := 20 * b + a) (t := 20 * q + p) hn ⟨_, _, G1⟩ (by omega) (by omega)
  have V1 := O2.bd (by omega) (fun u d => stX_le hn)
  have eO : OH_least m (nI k) (nI t) (nI w) = some (if nI w = 0 then nI (V / 400) else nI (V % 400), m2) := by
    have hs : PH_haySquare m1 (gN m1 13) (nI t) = some (nI (20 * b + a)) := by
      rw [PH_haySquare, N1, if_pos (n_in ht (by omega)), n_ixn (by omega), wf _ _ (by omega), wf _ _ (by omega), v1, v2, squareAt_n]
    have cs : PH_churchSquare m1 (gN m1 13) = nI (20 * q + p) := by
      rw [PH_churchSquare, N1, wf _ _ (by omega), wf _ _ (by omega), c3, c4, squareAt_n]
    rw [OH_least, h1, if_neg (by decide), h3, if_neg (by decide), if_neg (by rw [k0, n_lt (by omega) (by omega)]; omega), if_pos (by rw [k1, n_le (by omega) (by omega)]; omega), e1, bM_s, hs, bI_s, cs, e2, bV_s, show (400 : Int32) = nI 400 from rfl, div_n (by omega) (by omega) (by omega), irm_n (by omega) (by omega) (by omega)]
    split <;> rfl
  have f1 : ∀ j, gI (sI m2 133 0 0) 135 j = gI m 135 j := fun j => by rw [gI_sI, if_neg (by omega), F2.I 135 j rfl, wf _ _ (by omega)]
  obtain ⟨m3, l1, l2, F3⟩ := D.look hk f1
  have e86 : 86 + 3 * nI t = nI (86 + 3 * t) := by rw [show (86 : Int32) = nI 86 from rfl, k3, n_mul, n_add]
  have U20 : ∀ i, i ≤ n → 0 ≤ clz n X i ∧ clz n X i ≤ 20 := fun i _ => clz_bx (by omega) (fun i hi => (D.2.2.2.1 i hi).2.2.1) i
  have V20 : ∀ i, i ≤ n → 0 ≤ clz n Y i ∧ clz n Y i ≤ 20 := fun i _ => clz_bx (by omega) (fun i hi => (D.2.2.2.1 i hi).2.2.2) i
  obtain ⟨m4, e4, a4, -, F4⟩ := lf_loop (x2 := nI t) (x3 := nI w) (kx := fun m8 => if inb ((86 + (3 * nI t)) + 1) 116 then (if inb (86 + (3 * nI t)) 116 then (if inb ((20 * (gI m8 135 (ixn ((86 + (3 * nI t)) + 1)))) + (gI m8 135 (ixn (86 + (3 * nI t))))) 400 then (letM (sI m8 149 (ixn ((20 * (gI m8 135 (ixn ((86 + (3 * nI t)) + 1)))) + (gI m8 135 (ixn (86 + (3 * nI t)))))) 0) fun m12 =>
    RM_least_L101 (nI w) (fun m13 => if inb 3 116 then (if inb 2 116 then (if inb ((20 * (gI m13 135 (ixn 3))) + (gI m13 135 (ixn 2))) 400 then (letV ((gI m13 149 (ixn ((20 * (gI m13 135 (ixn 3))) + (gI m13 135 (ixn 2)))))) fun v17 =>
    if nI w = 0 then (some ((v17 / 1000), m13))
    else (some ((irm v17 1000), m13))) else none) else none) else none) FU m12 1) else none) else none) else none) 400 0 FU m3 (by omega) (by unfold FU; omega)
  have F34 := (F3.mo (wL_sub (B := W_RM_least) rfl)).tr (F4.mo (wL_sub rfl))
  have g4 : ∀ j, gI m4 135 j = gI m 135 j := fun j => by rw [F34.I 135 j rfl, f1]
  let m5 := sI m4 149 (20 * b + a) 0
  have h5 : m5 = sI m4 149 (20 * b + a) 0 := rfl
  have F5 : Frm [(149, 999999)] [] m4 m5 := Frm.sI rfl rfl
  have R5 : MD m5 (upn (fun _ => INF) (20 * b + a) 0) := fun v hv => by
    rw [h5, gI_sI]
    by_cases z : v = 20 * b + a
    · rw [if_pos ⟨rfl, z⟩, z, upn_eq]; rfl
    · rw [if_neg (fun y => z y.2), upn_ne z]; exact a4 v (by omega) hv
  have J5 : JD 1000 (stX (clz n X) (clz n Y) n) (20 * b + a) (upn (fun _ => INF) (20 * b + a) 0) := by
    refine ⟨upn_eq _ _ _, fun v => ?_, fun v hv => ?_⟩
    · by_cases z : v = 20 * b + a
      · rw [z, upn_eq]; exact Nat.zero_le _
      · rw [upn_ne z]; exact Nat.le_refl _
    · by_cases z : v = 20 * b + a
      · right; rw [z, upn_eq]; exact ⟨0, 0, ⟨rfl, rfl⟩, rfl⟩
      · left; exact upn_ne z
  have W5 : LW 1000 (stX (clz n X) (clz n Y) n) (20 * b + a) 0 (upn (fun _ => INF) (20 * b + a) 0) := fun n' c v a' b' w' => by
    obtain rfl : n' = 0 := by omega
    rw [w'.1, upn_eq]; exact Nat.zero_le _
  obtain ⟨m6, E, e6, a6, j6, o6, F6⟩ := lb_loop (x3 := nI w) (kx := fun m13 => if inb 3 116 then (if inb 2 116 then (if inb ((20 * (gI m13 135 (ixn 3))) + (gI m13 135 (ixn 2))) 400 then (letV ((gI m13 149 (ixn ((20 * (gI m13 135 (ixn 3))) + (gI m13 135 (ixn 2)))))) fun v17 =>
    if nI w = 0 then (some ((v17 / 1000), m13))
    else (some ((irm v17 1000), m13))) else none) else none) else none) U20 V20 400 0 FU m5 _ (by omega) (by unfold FU; omega) R5 J5 W5 ((l2.fr F4 rfl (fun _ => rfl) (fun _ => rfl)).fr F5 rfl (fun _ => rfl) (fun _ => rfl))
  have O6 : Opt (stX (clz n X) (clz n Y) n) 1000 (20 * b + a) (20 * q + p) (E (20 * q + p)) := j6.opt (by omega) (fun u d => stX_le hn) (by omega) (by omega) o6
  have V6 := O6.bd (by omega) (fun u d => stX_le hn)
  obtain ⟨t1, t2⟩ := O2.two O6
  have g6 : ∀ j, gI m6 135 j = gI m 135 j := fun j => by rw [F6.I 135 j rfl, F5.I 135 j rfl, g4]
  have e20 : (20 * nI b) + nI a = nI (20 * b + a) := by rw [k20, n_mul, n_add]
  have e20' : (20 * nI q) + nI p = nI (20 * q + p) := by rw [k20, n_mul, n_add]
  have eR : RM_least m2 (nI k) (nI t) (nI w) = some (if nI w = 0 then nI (V / 400) else nI (V % 400), m6) := by
    rw [show nI 0 = 0 from k0.symm] at e4
    rw [RM_least, letM_p, h2 _ (f1 0), bI_s, if_neg (by decide), h4 _ f1, bI_s, if_neg (by decide), show RM_isIn (nI w) 0 1 = 1 from e, if_neg (by decide), l1, bM_s, e4, e86, show nI (86 + 3 * t) + 1 = nI (86 + 3 * t + 1) by rw [k1, n_add], if_pos (n_in (by omega) (by omega)), if_pos (n_in (by omega) (by omega)), n_ixn (by omega), n_ixn (by omega), g4, g4, u1, u2, e20, if_pos (n_in (by omega) (by omega)), n_ixn (by omega), letM_p, ← h5, e6, if_pos (by decide), if_pos (by decide), show ixn 3 = 3 from rfl, show ixn 2 = 2 from rfl, g6, g6, c1, c2, e20', if_pos (n_in (by omega) (by omega)), n_ixn (by omega), letV_p, a6 _ (by omega), show (1000 : Int32) = nI 1000 from rfl, div_n (by omega) (by omega) (by omega), irm_n (by omega) (by omega) (by omega), t1, t2]
    split <;> rfl
  exact ⟨_, m2, m6, eO, eR, inv_frame ((F1.mo (wL_subM rfl)).tr ((F2.mo (wL_subM rfl)).tr ((RM_least_fr (wL_sub rfl) m2 _ _ _ _ eR).mo (wL_subM (A := W_RM_least) rfl)))) h⟩

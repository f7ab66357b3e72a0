/-! corner, hay, round: what they answer, or that they throw (none) -/
def OX_corner (m : Mem) (x1 x2 x3 : Int32) : Option (Option Int32) :=
  bI (PH_hasCorner m (gN m 13) x1 x2) fun v =>
  if v = 0 then some none else if x3 < 0 then some none else if 2 < x3 then some none else
  if inb x1 3 then
    (if x3 = 0 then (if inb x2 12 then some (some (gI m (gN m 13 + 2 + 3 * ixn x1 + 1) (ixn x2))) else none)
    else if x3 = 1 then (if inb x2 12 then some (some (gI m (gN m 13 + 2 + 3 * ixn x1 + 2) (ixn x2))) else none)
    else bI (LN_bend m (gN m 13 + 2 + 3 * ixn x1) (LN_before m (gN m 13 + 2 + 3 * ixn x1) x2) x2 (LN_after m (gN m 13 + 2 + 3 * ixn x1) x2)) fun v => some (some v))
  else none
def OX_hay (m : Mem) (x1 x2 : Int32) : Option (Option Int32) :=
  if PH_hasHay m (gN m 13) x1 = 0 then some none else if x2 < 0 then some none else if 2 < x2 then some none else
  if x2 = 0 then (if inb x1 10 then some (some (gI m (gN m 13 + 11) (ixn x1))) else none)
  else if x2 = 1 then (if inb x1 10 then some (some (gI m (gN m 13 + 12) (ixn x1))) else none)
  else (if inb x1 10 then some (some (gI m (gN m 13 + 13) (ixn x1))) else none)
def OX_round (m : Mem) (x1 x2 x3 : Int32) : Option (Option Int32) :=
  if PH_hasLine m (gN m 13) x1 = 0 then some none else if OH_isPoint x2 x3 = 0 then some none else
  if inb x1 3 then bI (LN_timesRound m (gN m 13 + 2 + 3 * ixn x1) x2 x3) fun v => if v = 1000 then some none else some (some v)
  else none
def Xop (o : Option (Option Int32)) (r : Option (Int32 × Mem)) : Prop := (∃ m2, o = some none ∧ r = some (0, m2) ∧ gI m2 133 0 = 1 ∧ Inv m2) ∨ ∃ v m2, o = some (some v) ∧ r = some (v, m2) ∧ gI m2 133 0 = 0 ∧ Inv m2
theorem inv_f01 {m : Mem} (h : Inv m) (x : Int32) : Inv (sI m 133 0 x) := inv_frame (Frm.sI rfl rfl) h
theorem thr1 (m : Mem) : RM_throwsIf m 1 = some (1, sI m 133 0 1) := rfl
theorem thr0 (m : Mem) : RM_throwsIf m 0 = some (0, sI m 133 0 0) := rfl
theorem op_corner {m : Mem} (h : Inv m) (x i w : Int32) : Xop (OX_corner m x i w) (RM_corner m x i w) := by
  have t1 : RM_corner_J24 m x i w 1 = some (0, sI m 133 0 1) := by rw [RM_corner_J24, thr1]; rfl
  rcases corner_cases h x i with ⟨h1, h2⟩ | ⟨k, n, X, Y, c, hk, hk2, rfl, D, hc, rfl, h1, h2⟩
  · refine Or.inl ⟨sI m 133 0 1, by rw [OX_corner, h1]; rfl, ?_, by rw [gI_sI, if_pos ⟨rfl, rfl⟩], inv_f01 h 1⟩
    rw [RM_corner, h2 _ (fun _ => rfl)]
    exact t1
  · have hn := D.2.1
    have hn3 := D.1
    rcases isIn_n (x := w) (n := 2) (by omega) with ⟨e, hx⟩ | ⟨e, d, hd, rfl⟩
    · refine Or.inl ⟨sI m 133 0 1, ?_, ?_, by rw [gI_sI, if_pos ⟨rfl, rfl⟩], inv_f01 h 1⟩
      · rw [OX_corner, h1]
        rw [bI_s, if_neg (by decide)]
        by_cases q0 : w < 0
        · rw [if_pos q0]
        · rw [if_neg q0, if_pos (show 2 < w from hx.resolve_left q0)]
      · rw [RM_corner, h2 _ (fun _ => rfl)]
        rw [bI_s, if_neg (by decide), show RM_isIn w 0 2 = 0 from e, if_pos rfl]
        exact t1
    · refine Or.inr ?_
      have eR : RM_corner m (nI k) (nI c) (nI d) = RM_corner_J24 m (nI k) (nI c) (nI d) 0 := by
        rw [RM_corner, h2 _ (fun _ => rfl)]
        rw [bI_s, if_neg (by decide), show RM_isIn (nI d) 0 2 = 1 from e, if_neg (by decide)]
      have eO : OX_corner m (nI k) (nI c) (nI d) = (if nI d = 0 then (if inb (nI c) 12 then some (some (gI m (gN m 13 + 2 + 3 * k + 1) c)) else none)
          else if nI d = 1 then (if inb (nI c) 12 then some (some (gI m (gN m 13 + 2 + 3 * k + 2) c)) else none)
          else bI (LN_bend m (gN m 13 + 2 + 3 * k) (LN_before m (gN m 13 + 2 + 3 * k) (nI c)) (nI c) (LN_after m (gN m 13 + 2 + 3 * k) (nI c))) fun v => some (some v)) := by
        rw [OX_corner, h1]
        rw [bI_s, if_neg (by decide), if_neg (by rw [k0, n_lt (by omega) (by omega)]; omega), if_neg (by rw [k2, n_lt (by omega) (by omega)]; omega), if_pos (n_in hk (by omega)), n_ixn (by omega), n_ixn (by omega)]
      obtain ⟨d1, d2, -, -⟩ := D.2.2.2.1 c hc
      obtain ⟨p1, p2, -, -⟩ := D.2.2.2.2.1.2.2 c hc
      have e1 : (14 + (24 * nI k)) + (2 * nI c) = nI (14 + 24 * k + 2 * c) := by rw [k14, k24, k2, n_mul, n_mul, n_add, n_add]
      rcases (show d = 0 ∨ d = 1 ∨ d = 2 by omega) with rfl | rfl | rfl
      · refine ⟨iz (X c), sI m 133 0 0, by rw [eO, if_pos (by decide), if_pos (n_in (by omega) (by omega)), p1], ?_, by rw [gI_sI, if_pos ⟨rfl, rfl⟩], inv_f01 h 0⟩
        rw [eR, RM_corner_J24, thr0]
        rw [bV_s, if_pos rfl, if_neg (by decide), e1, n_add, if_pos (n_in (by omega) (by omega)), n_ixn (by omega), gI_sI, if_neg (by omega), Nat.add_zero, d1]
      · refine ⟨iz (Y c), sI m 133 0 0, by rw [eO, if_neg (by decide), if_pos (by decide), if_pos (n_in (by omega) (by omega)), p2], ?_, by rw [gI_sI, if_pos ⟨rfl, rfl⟩], inv_f01 h 0⟩
        rw [eR, RM_corner_J24, thr0]
        rw [bV_s, if_pos rfl, if_neg (by decide), e1, n_add, if_pos (n_in (by omega) (by omega)), n_ixn (by omega), gI_sI, if_neg (by omega), d2]
      · have g0 : ∀ j, gI (sI m 133 0 0) 135 j = gI m 135 j := fun j => by rw [gI_sI, if_neg (by omega)]
        obtain ⟨m4, l1, ⟨q1, q2, q3⟩, F2⟩ := D.look hk g0
        have hpv := pv_lt hc
        have hnx := nx_lt hc
        obtain ⟨u1, u2, -, -⟩ := q3 (pv n c) (by omega)
        obtain ⟨v1, v2, -, -⟩ := q3 c (by omega)
        obtain ⟨w1, w2, -, -⟩ := q3 (c + 1) (by omega)
        simp only [clz_lt hpv] at u1
        simp only [clz_lt hpv] at u2
        simp only [clz_lt hc] at v1
        simp only [clz_lt hc] at v2
        simp only [clz_nx hc] at w1
        simp only [clz_nx hc] at w2
        obtain ⟨-, -, b1, b2⟩ := D.2.2.2.1 _ hpv
        obtain ⟨-, -, b3, b4⟩ := D.2.2.2.1 _ hc
        obtain ⟨-, -, b5, b6⟩ := D.2.2.2.1 _ hnx
        have tb : bd 1000 (tz (X (pv n c)) (Y (pv n c)) (X c) (Y c) (X (nx n c)) (Y (nx n c))) := by
          have z1 := mbd (a := X c - X (pv n c)) (b := Y (nx n c) - Y (pv n c)) (A := 20) (B := 20) (by omega) (by omega)
          have z2 := mbd (a := Y c - Y (pv n c)) (b := X (nx n c) - X (pv n c)) (A := 20) (B := 20) (by omega) (by omega)
          unfold tz
          omega
        refine ⟨iz (sg (tz (X (pv n c)) (Y (pv n c)) (X c) (Y c) (X (nx n c)) (Y (nx n c)))), m4, ?_, ?_, by rw [F2.I 133 0 rfl, gI_sI, if_pos ⟨rfl, rfl⟩], inv_frame (F2.mo (wL_sub rfl)) (inv_f01 h 0)⟩
        · rw [eO, if_neg (by decide), if_neg (by decide), before_eq D.2.2.2.2.1 hc, LN_after_eq D.2.2.2.2.1 hc, bend_eq D.2.2.2.2.1 hpv hc hnx]
          rfl
        · have et : RM_turn (iz (2 * X (pv n c))) (iz (2 * Y (pv n c))) (iz (2 * X c)) (iz (2 * Y c)) (iz (2 * X (nx n c))) (iz (2 * Y (nx n c))) = iz (4 * tz (X (pv n c)) (Y (pv n c)) (X c) (Y c) (X (nx n c)) (Y (nx n c))) := by
            rw [← tz_two]
            unfold RM_turn tz
            simp only [iz_sub, iz_mul]
          generalize tz (X (pv n c)) (Y (pv n c)) (X c) (Y c) (X (nx n c)) (Y (nx n c)) = T at tb et ⊢
          rw [eR, RM_corner_J24, thr0]
          rw [bV_s, if_pos rfl, if_pos (by decide), l1]
          rw [bM_s, q1, if_pos (by rw [k0, n_eq (by omega) (by omega)]; omega), show nI c + nI n - 1 = nI (c + n - 1) by rw [n_add, k1, n_sub (by omega)], irm_n (by omega) (by omega) (by omega), pv_mod hc, letV_p, if_pos (n_in (by omega) (by omega)), if_pos (n_in (by omega) (by omega)), show nI c + 1 = nI (c + 1) by rw [k1, n_add], if_pos (n_in (by omega) (by omega)), n_ixn (by omega), n_ixn (by omega), n_ixn (by omega), letV_p, u1, u2, v1, v2, w1, w2, et]
          have c1 : (iz (4 * T) ≤ 0) ↔ 4 * T ≤ 0 := by rw [show (0 : Int32) = iz 0 from rfl, iz_le (by omega) (by omega)]
          have c2 : (0 ≤ iz (4 * T)) ↔ 0 ≤ 4 * T := by rw [show (0 : Int32) = iz 0 from rfl, iz_le (by omega) (by omega)]
          simp only [c1, c2]
          unfold sg
          by_cases z1 : T < 0
          · rw [if_pos z1, if_pos (by omega), if_neg (by omega)]; rfl
          · by_cases z2 : 0 < T
            · rw [if_neg z1, if_pos z2, if_neg (by omega)]; rfl
            · rw [if_neg z1, if_neg z2, if_pos (by omega), if_pos (by omega)]; rfl
theorem op_hay {m : Mem} (h : Inv m) (x w : Int32) : Xop (OX_hay m x w) (RM_hay m x w) := by
  have t1 : RM_hay_J23 m x w 1 = some (0, sI m 133 0 1) := by rw [RM_hay_J23, thr1]; rfl
  obtain ⟨H, hH, eH⟩ := h.2.2.2.1.2.1.ex
  rw [Nat.zero_add] at eH
  have e7 : gI m (gN m 13) 7 = nI H := by rw [h.2.2.1.2.1, Nat.zero_add, eH]
  have thrown : OX_hay m x w = some none → RM_hay m x w = RM_hay_J23 m x w 1 → Xop (OX_hay m x w) (RM_hay m x w) := fun q1 q2 =>
    Or.inl ⟨sI m 133 0 1, q1, by rw [q2, t1], by rw [gI_sI, if_pos ⟨rfl, rfl⟩], inv_f01 h 1⟩
  have eI : RM_isHay m x = some (RM_isIn x 0 (nI H - 1)) := by
    rw [RM_isHay, if_pos (by decide), show ixn 1 = 1 from rfl, eH, if_pos]
    rw [isIn_eq]
    split
    · right; rfl
    · left; rfl
  rcases spl x H (by omega) with hx | ⟨hx, hx2⟩ | ⟨t, ht, rfl⟩
  · apply thrown
    · rw [OX_hay, PH_hasHay, if_pos hx, if_pos rfl]
    · rw [RM_hay, eI, isIn_lo hx]; rfl
  · apply thrown
    · rw [OX_hay, PH_hasHay, if_neg hx, e7, if_pos hx2, if_pos rfl]
    · rw [RM_hay, eI]
      have : RM_isIn x 0 (nI H - 1) = 0 := by
        by_cases z : H = 0
        · subst z
          have z1 : nI 0 - 1 = -1 := by decide
          rw [isIn_eq, z1, if_neg]
          rintro ⟨a, b⟩
          rw [Int32.le_iff_toInt_le] at a b
          have t0 : (0 : Int32).toInt = 0 := rfl
          have t1 : (-1 : Int32).toInt = -1 := rfl
          omega
        · rw [k1, n_sub (by omega)]
          exact isIn_hi (n := H - 1) (by omega) (by rw [show H - 1 + 1 = H by omega]; exact hx2)
      rw [this]; rfl
  · have hI1 : RM_isIn (nI t) 0 (nI H - 1) = 1 := by
      rw [k1, n_sub (by omega)]
      exact isIn_in (a := 0) (b := H - 1) (by omega) (by omega) (by omega)
    have hC : PH_hasHay m (gN m 13) (nI t) = 1 := by rw [PH_hasHay, if_neg (by rw [k0, n_lt (by omega) (by omega)]; omega), e7, if_neg (by rw [n_le (by omega) (by omega)]; omega)]
    rcases isIn_n (x := w) (n := 2) (by omega) with ⟨e, hx⟩ | ⟨e, d, hd, rfl⟩
    · apply thrown
      · rw [OX_hay, hC, if_neg (by decide)]
        by_cases q0 : w < 0
        · rw [if_pos q0]
        · rw [if_neg q0, if_pos (show 2 < w from hx.resolve_left q0)]
      · rw [RM_hay, eI, hI1]
        rw [bI_s, if_neg (by decide), show RM_isIn w 0 2 = 0 from e, if_pos rfl]
    · obtain ⟨b1, b2, b3, -⟩ := h.2.2.1.2.2.2.2.2.2.2.2.2 t (by rw [Nat.zero_add, eH, n_ixn (by omega)]; exact ht)
      rw [Nat.zero_add] at b1 b2 b3
      have eR : RM_hay m (nI t) (nI d) = some (gI m 135 (86 + 3 * t + d), sI m 133 0 0) := by
        rw [RM_hay, eI, hI1]
        rw [bI_s, if_neg (by decide), show RM_isIn (nI d) 0 2 = 1 from e, if_neg (by decide), RM_hay_J23, thr0]
        rw [bV_s, if_pos rfl, show (86 + (3 * nI t)) + nI d = nI (86 + 3 * t + d) by rw [show (86 : Int32) = nI 86 from rfl, k3, n_mul, n_add, n_add], if_pos (n_in (by omega) (by omega)), n_ixn (by omega), gI_sI, if_neg (by omega)]
      refine Or.inr ⟨_, _, ?_, eR, by rw [gI_sI, if_pos ⟨rfl, rfl⟩], inv_f01 h 0⟩
      rw [OX_hay, hC, if_neg (by decide), if_neg (by rw [k0, n_lt (by omega) (by omega)]; omega), if_neg (by rw [k2, n_lt (by omega) (by omega)]; omega), if_pos (n_in (by omega) (by omega)), if_pos (n_in (by omega) (by omega)), if_pos (n_in (by omega) (by omega)), n_ixn (by omega)]
      rcases (show d = 0 ∨ d = 1 ∨ d = 2 by omega) with rfl | rfl | rfl
      · rw [if_pos (by decide), b1]; rfl
      · rw [if_neg (by decide), if_pos (by decide), b2]
      · rw [if_neg (by decide), if_neg (by decide), b3]
theorem op_round {m : Mem} (h : Inv m) (x y z : Int32) : Xop (OX_round m x y z) (RM_round m x y z) := by
  have t1 : RM_round_J22 m x y z 1 = some (0, sI m 133 0 1) := by rw [RM_round_J22, thr1]; rfl
  have thrown : OX_round m x y z = some none → RM_round m x y z = RM_round_J22 m x y z 1 → Xop (OX_round m x y z) (RM_round m x y z) := fun q1 q2 =>
    Or.inl ⟨sI m 133 0 1, q1, by rw [q2, t1], by rw [gI_sI, if_pos ⟨rfl, rfl⟩], inv_f01 h 1⟩
  rcases line_cases h x with ⟨h1, h2⟩ | ⟨k, hk, hk2, rfl, h1, h2⟩
  · apply thrown
    · rw [OX_round, h1, if_pos rfl]
    · simp only [RM_round, h2 m rfl, bI, if_pos]
  · rcases isPoint_eq y z with ⟨h3, h4⟩ | ⟨a, b, ha, hb, rfl, rfl, h3, h4⟩
    · apply thrown
      · rw [OX_round, h1, h3, if_pos rfl, ite_self]
      · simp only [RM_round, h2 m rfl, bI, h4, if_pos, ite_self]
    · obtain ⟨n, X, Y, D⟩ := lineD h hk2
      have g0 : ∀ j, gI (sI m 133 0 0) 135 j = gI m 135 j := fun j => by rw [gI_sI, if_neg (by omega)]
      obtain ⟨m2, l1, l2, F2⟩ := D.look hk g0
      have hn := D.2.1
      have ol := isOnLine_eq (x := 2 * (a : Int)) (y := 2 * (b : Int)) l2 (by omega) (by omega)
      rw [onP_two] at ol
      have eO : OX_round m (nI k) (nI a) (nI b) = if onP (clz n X) (clz n Y) a b n then some none else some (some (iz (rndP (clz n X) (clz n Y) a b n))) := by
        rw [OX_round, h1, h3, if_neg (by decide), if_neg (by decide), if_pos (n_in hk (by omega)), n_ixn (by omega), nI_iz a, nI_iz b, LN_timesRound_eq D.2.2.2.2.1 (by omega) (by omega)]
        simp only [bI]
        by_cases q : onP (clz n X) (clz n Y) a b n
        · rw [if_pos q, if_pos rfl, if_pos q]
        · rw [if_neg q, if_neg q, if_neg]
          have := rndP_bd (clz n X) (clz n Y) a b n
          rw [show (1000 : Int32) = iz 1000 from rfl, iz_eq (by omega) (by omega)]
          omega
      have eR : RM_round m (nI k) (nI a) (nI b) = bV (RM_throwsIf m2 (b2i (onP (clz n X) (clz n Y) a b n))) fun v8 m9 => if v8 = 0 then (bM (RM_rounds m9 (iz (2 * a)) (iz (2 * b))) fun m11 => some ((gI m11 133 24), m11)) else (some (0, m9)) := by
        simp only [RM_round, h2 m rfl, bI, h4, RM_round_J22, thr0, bV, if_pos, l1, bM, two_n, ol]
        rfl
      by_cases q : onP (clz n X) (clz n Y) a b n
      · rw [q] at eO eR
        exact Or.inl ⟨sI m2 133 0 1, eO, by rw [eR]; rfl, by rw [gI_sI, if_pos ⟨rfl, rfl⟩], inv_f01 (inv_frame (F2.mo (wL_sub rfl)) (inv_f01 h 0)) 1⟩
      · rw [Bool.not_eq_true] at q
        rw [q] at eO eR
        obtain ⟨m3, s1, -, s3, F3⟩ := rounds_eq (m := sI m2 133 0 0) (x := 2 * (a : Int)) (y := 2 * (b : Int)) (l2.fr (Frm.sI rfl rfl : Frm [(133, 0)] [] m2 (sI m2 133 0 0)) rfl (fun _ => rfl) (fun _ => rfl)) (by omega) (by omega)
        rw [rndP_two] at s3
        refine Or.inr ⟨iz (rndP (clz n X) (clz n Y) a b n), m3, eO, ?_, by rw [F3.I 133 0 rfl, gI_sI, if_pos ⟨rfl, rfl⟩], inv_frame (F3.mo (wL_sub rfl)) (inv_f01 (inv_frame (F2.mo (wL_sub rfl)) (inv_f01 h 0)) 0)⟩
        rw [eR, show b2i false = 0 from rfl, thr0]
        simp only [bV, s1, bM, if_pos, s3]

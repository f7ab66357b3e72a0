/-! border, loads -/
def fen (H : Nat → Bool) (s d : Nat) : Int := if H s then (match nb s d with
  | none => 1
  | some t => if H t then 0 else 1) else 0
theorem sumN_zero {f : Nat → Int} (h : ∀ i, f i = 0) : ∀ d i, sumN f i d = 0
  | 0, _ => rfl
  | d + 1, i => by simp only [sumN]; rw [h, sumN_zero h d]; rfl
theorem fenC_in {m : Mem} {g s : Nat} {H : Nat → Bool} (hs : s < 400) (hH : ∀ s, s < 400 → gI m (g + 1) s = b2i (H s)) {kx : Int32 → Option Int32} :
    ∀ (e d fu : Nat) (c : Int), d + e = 4 → e < fu → GR_fences_L13 m g (nI s) kx fu (iz c) (nI d) = kx (iz (c + sumN (fen H s) d e))
  | 0, d, fu, c, hd, hf => by
    obtain ⟨f, rfl⟩ : ∃ f, fu = f + 1 := ⟨fu - 1, by omega⟩
    obtain rfl : d = 4 := by omega
    rw [GR_fences_L13, if_pos (by decide)]; simp [sumN]
  | e + 1, d, fu, c, hd, hf => by
    obtain ⟨f, rfl⟩ : ∃ f, fu = f + 1 := ⟨fu - 1, by omega⟩
    rw [GR_fences_L13, if_neg (by rw [k3, n_lt (by omega) (by omega)]; omega), if_pos (n_in hs (by omega)), n_ixn (by omega), hH s hs]
    simp only [letV]
    cases hh : H s with
    | false =>
      rw [if_pos (by decide), sumN_zero (fun i => by unfold fen; rw [hh]; rfl)]; congr 2; omega
    | true =>
      rw [if_neg (by decide), step_nb hs (by omega), show nI d + 1 = nI (d + 1) by rw [k1, n_add]]
      simp only [sumN]
      have e1 : iz c + 1 = iz (c + 1) := by rw [i1, iz_add]
      cases hb : nb s d with
      | none =>
        rw [show enc none = -1 from rfl, if_pos (by decide), e1, fenC_in hs hH e (d + 1) f _ (by omega) (by omega)]
        have : fen H s d = 1 := by unfold fen; rw [hh, hb]; rfl
        rw [this]; congr 2; omega
      | some t =>
        have ht := nb_lt hs hb
        rw [show enc (some t) = nI t from rfl, if_neg (by rw [k0, n_lt (by omega) (by omega)]; omega), if_pos (n_in ht (by omega)), n_ixn (by omega), hH t ht]
        cases h2 : H t with
        | false =>
          rw [if_pos (by decide), e1, fenC_in hs hH e (d + 1) f _ (by omega) (by omega)]
          have : fen H s d = 1 := by unfold fen; rw [hh, hb]; simp [h2]
          rw [this]; congr 2; omega
        | true =>
          rw [if_neg (by decide), fenC_in hs hH e (d + 1) f _ (by omega) (by omega)]
          have : fen H s d = 0 := by unfold fen; rw [hh, hb]; simp [h2]
          rw [this]; congr 2; omega
theorem fenC_out {m : Mem} {g : Nat} {H : Nat → Bool} (hH : ∀ s, s < 400 → gI m (g + 1) s = b2i (H s)) {kx : Int32 → Option Int32} :
    ∀ (d i fu : Nat) (c : Int), i + d = 400 → d < fu → GR_fences_L4 m g kx fu (iz c) (nI i) = kx (iz (c + sumN (fun s => sumN (fen H s) 0 4) i d))
  | 0, i, fu, c, hd, hf => by
    obtain ⟨f, rfl⟩ : ∃ f, fu = f + 1 := ⟨fu - 1, by omega⟩
    obtain rfl : i = 400 := by omega
    rw [GR_fences_L4, if_pos (by decide)]; simp [sumN]
  | d + 1, i, fu, c, hd, hf => by
    obtain ⟨f, rfl⟩ : ∃ f, fu = f + 1 := ⟨fu - 1, by omega⟩
    rw [GR_fences_L4, if_neg (by rw [k400, n_le (by omega) (by omega)]; omega), show (0 : Int32) = nI 0 from k0, fenC_in (by omega) hH 4 0 FU c (by omega) (by unfold FU; omega), show nI i + 1 = nI (i + 1) by rw [k1, n_add], fenC_out hH d (i + 1) f _ (by omega) (by omega)]
    rw [show sumN (fun s => sumN (fen H s) 0 4) i (d + 1) = sumN (fen H i) 0 4 + sumN (fun s => sumN (fen H s) 0 4) (i + 1) d from rfl, Int.add_assoc]
theorem fenR_in {m : Mem} {s : Nat} {H : Nat → Bool} (hs : s < 400) (hH : ∀ s, s < 400 → gI m 141 s = b2i (H s)) {kx : Mem → Int32 → Option (Int32 × Mem)} :
    ∀ (e d fu : Nat) (c : Int), d + e = 4 → e < fu → RM_border_L35 (nI s) kx fu m (iz c) (nI d) = kx m (iz (c + sumN (fen H s) d e))
  | 0, d, fu, c, hd, hf => by
    obtain ⟨f, rfl⟩ : ∃ f, fu = f + 1 := ⟨fu - 1, by omega⟩
    obtain rfl : d = 4 := by omega
    rw [RM_border_L35, if_pos (by decide)]; simp [sumN]
  | e + 1, d, fu, c, hd, hf => by
    obtain ⟨f, rfl⟩ : ∃ f, fu = f + 1 := ⟨fu - 1, by omega⟩
    have e1 : iz c + 1 = iz (c + 1) := by rw [i1, iz_add]
    have e0 : iz c + 0 = iz (c + 0) := by rw [i0, iz_add]
    rw [RM_border_L35, if_neg (by rw [k4, n_le (by omega) (by omega)]; omega), if_pos (n_in hs (by omega)), n_ixn (by omega), hH s hs, beside_nb hs (by omega), show nI d + 1 = nI (d + 1) by rw [k1, n_add]]
    simp only [letV, e1, e0, sumN]
    cases hh : H s with
    | false =>
      rw [if_pos (by decide), fenR_in hs hH e (d + 1) f _ (by omega) (by omega)]
      have : fen H s d = 0 := by unfold fen; rw [hh]; rfl
      rw [this, Int.add_assoc]
    | true =>
      rw [if_neg (by decide)]
      cases hb : nb s d with
      | none =>
        rw [show enc none = -1 from rfl, if_pos (by decide), fenR_in hs hH e (d + 1) f _ (by omega) (by omega)]
        have : fen H s d = 1 := by unfold fen; rw [hh, hb]; rfl
        rw [this, Int.add_assoc]
      | some t =>
        have ht := nb_lt hs hb
        rw [show enc (some t) = nI t from rfl, if_neg (by rw [k0, n_lt (by omega) (by omega)]; omega), if_pos (n_in ht (by omega)), n_ixn (by omega), hH t ht]
        cases h2 : H t with
        | false =>
          rw [if_pos (by decide), fenR_in hs hH e (d + 1) f _ (by omega) (by omega)]
          have : fen H s d = 1 := by unfold fen; rw [hh, hb]; simp [h2]
          rw [this, Int.add_assoc]
        | true =>
          rw [if_neg (by decide), fenR_in hs hH e (d + 1) f _ (by omega) (by omega)]
          have : fen H s d = 0 := by unfold fen; rw [hh, hb]; simp [h2]
          rw [this, Int.add_assoc]
theorem fenR_out {m : Mem} {H : Nat → Bool} (hH : ∀ s, s < 400 → gI m 141 s = b2i (H s)) {kx : Mem → Int32 → Option (Int32 × Mem)} :
    ∀ (d i fu : Nat) (c : Int), i + d = 400 → d < fu → RM_border_L25 kx fu m (iz c) (nI i) = kx m (iz (c + sumN (fun s => sumN (fen H s) 0 4) i d))
  | 0, i, fu, c, hd, hf => by
    obtain ⟨f, rfl⟩ : ∃ f, fu = f + 1 := ⟨fu - 1, by omega⟩
    obtain rfl : i = 400 := by omega
    rw [RM_border_L25, if_pos (by decide)]; simp [sumN]
  | d + 1, i, fu, c, hd, hf => by
    obtain ⟨f, rfl⟩ : ∃ f, fu = f + 1 := ⟨fu - 1, by omega⟩
    rw [RM_border_L25, if_neg (by rw [k400, n_le (by omega) (by omega)]; omega), show (0 : Int32) = nI 0 from k0, fenR_in (by omega) hH 4 0 FU c (by omega) (by unfold FU; omega), show nI i + 1 = nI (i + 1) by rw [k1, n_add], fenR_out hH d (i + 1) f _ (by omega) (by omega)]
    rw [show sumN (fun s => sumN (fen H s) 0 4) i (d + 1) = sumN (fen H i) 0 4 + sumN (fun s => sumN (fen H s) 0 4) (i + 1) d from rfl, Int.add_assoc]
theorem op_border {m : Mem} (h : Inv m) (x : Int32) : ∃ v m1 m2, OH_border m x = some (v, m1) ∧ RM_border m1 x = some (v, m2) ∧ Inv m2 := by
  have g0 : ∀ j, gI (sI m 133 0 0) 135 j = gI m 135 j := fun j => by rw [gI_sI, if_neg (by omega)]
  rcases line_cases h x with ⟨h1, h2⟩ | ⟨k, hk, hk2, rfl, h1, h2⟩
  · refine ⟨-1, m, sI m 133 0 0, by rw [OH_border, h1, if_pos rfl], ?_, inv_frame fr0 h⟩
    simp only [RM_border, letM, h2 _ (g0 0), bI, if_pos]
  · obtain ⟨n, X, Y, D⟩ := lineD h hk2
    obtain ⟨m1, e1, s1, G1, F1⟩ := OH_survey_eq h hk D
    have f1 : ∀ j, gI (sI m1 133 0 0) 135 j = gI m 135 j := fun j => by rw [gI_sI, if_neg (by omega), F1.I 135 j rfl]
    obtain ⟨m2, e2, s2, F2⟩ := maps_eq D hk f1
    generalize hH : hisS (gI m 135 4) (gI m 135 5) (clz n X) (clz n Y) n = H at *
    have eO : OH_border m (nI k) = some (iz (sumN (fun s => sumN (fen H s) 0 4) 0 400), m1) := by
      rw [OH_border, h1, if_neg (by decide), e1]
      simp only [bM, GR_fences]
      have := fenC_out (g := 5) s1 (kx := fun y1 => some y1) 400 0 FU 0 (by omega) (by unfold FU; omega)
      rw [Int.zero_add, show iz 0 = 0 from i0.symm, show nI 0 = 0 from k0.symm] at this
      rw [this]
      simp only [bI]
    have eR : RM_border m1 (nI k) = some (iz (sumN (fun s => sumN (fen H s) 0 4) 0 400), m2) := by
      simp only [RM_border, letM, h2 _ (f1 0), bI, e2, bV]
      rw [if_neg (by decide)]
      have := fenR_out s2 (kx := fun m8 y7 => some (y7, m8)) 400 0 FU 0 (by omega) (by unfold FU; omega)
      rw [Int.zero_add, show iz 0 = 0 from i0.symm, show nI 0 = 0 from k0.symm] at this
      rw [this]
    exact ⟨_, m1, m2, eO, eR, inv_frame ((F1.mo (wL_sub rfl)).tr ((RM_border_fr (wL_sub rfl) m1 _ _ eR).mo (wL_sub (A := W_RM_border) rfl))) h⟩
/-! hays -/
theorem hayD {m : Mem} (h : Inv m) : ∃ nh, nh ≤ 10 ∧ gI m (gN m 13) 7 = nI nh ∧ gI m 135 1 = nI nh ∧ ∀ i, i < nh → ∃ a b c : Nat, a < 20 ∧ b < 20 ∧ c ≤ 99 ∧ gI m (gN m 13 + 11) i = nI a ∧ gI m (gN m 13 + 12) i = nI b ∧ gI m (gN m 13 + 13) i = nI c ∧ gI m 135 (86 + 3 * i) = nI a ∧ gI m 135 (86 + 3 * i + 1) = nI b ∧ gI m 135 (86 + 3 * i + 2) = nI c := by
  obtain ⟨nh, hn, e⟩ := h.2.2.2.1.2.1.ex
  rw [Nat.zero_add] at e
  refine ⟨nh, hn, ?_, e, fun i hi => ?_⟩
  · rw [← e]; exact h.2.2.1.2.1
  · have hp := h.2.2.1.2.2.2.2.2.2.2.2.2 i (by rw [Nat.zero_add, e, n_ixn (by omega)]; exact hi)
    have hw := h.2.2.2.1.2.2.2.2.2.2.2.2 i (by rw [Nat.zero_add, e, n_ixn (by omega)]; exact hi)
    simp only [Nat.zero_add] at hp hw
    obtain ⟨a, ha, ea⟩ := hw.1.ex
    obtain ⟨b, hb, eb⟩ := hw.2.1.ex
    obtain ⟨c, hc, ec⟩ := hw.2.2.ex
    exact ⟨a, b, c, by omega, by omega, hc, by rw [hp.1, ea], by rw [hp.2.1, eb], by rw [hp.2.2.1, ec], ea, eb, ec⟩
def lds (H : Nat → Bool) (m : Mem) (w : Bool) (i : Nat) : Int := if H (20 * ixn (gI m 135 (86 + 3 * i + 1)) + ixn (gI m 135 (86 + 3 * i))) = w then (gI m 135 (86 + 3 * i + 2)).toInt else 0
theorem ldC {m m0 : Mem} {nh : Nat} {H : Nat → Bool} {w : Bool} (hn : nh ≤ 10) (hH : ∀ s, s < 400 → gI m 6 s = b2i (H s)) (h7 : gI m (gN m 13) 7 = nI nh) (hh : ∀ i, i < nh → ∃ a b c : Nat, a < 20 ∧ b < 20 ∧ c ≤ 99 ∧ gI m (gN m 13 + 11) i = nI a ∧ gI m (gN m 13 + 12) i = nI b ∧ gI m (gN m 13 + 13) i = nI c ∧ gI m0 135 (86 + 3 * i) = nI a ∧ gI m0 135 (86 + 3 * i + 1) = nI b ∧ gI m0 135 (86 + 3 * i + 2) = nI c) {kx : Mem → Int32 → Option (Int32 × Mem)} :
    ∀ (d i fu : Nat) (c : Int), i + d = nh → d < fu → OH_loads_L32 (b2i w) kx fu m (iz c) (nI i) = kx m (iz (c + sumN (lds H m0 w) i d))
  | 0, i, fu, c, hd, hf => by
    obtain ⟨f, rfl⟩ : ∃ f, fu = f + 1 := ⟨fu - 1, by omega⟩
    obtain rfl : i = nh := by omega
    rw [OH_loads_L32, h7, if_pos (by rw [n_le (by omega) (by omega)]; omega)]; simp [sumN]
  | d + 1, i, fu, c, hd, hf => by
    obtain ⟨f, rfl⟩ : ∃ f, fu = f + 1 := ⟨fu - 1, by omega⟩
    obtain ⟨x, y, z, hx, hy, hz, e1, e2, e3, e4, e5, e6⟩ := hh i (by omega)
    rw [OH_loads_L32, h7, if_neg (by rw [n_le (by omega) (by omega)]; omega), PH_haySquare, if_pos (n_in (show i < 10 by omega) (by omega)), n_ixn (by omega), e1, e2, squareAt_n]
    simp only [bI, letV]
    rw [if_pos (n_in (show 20 * y + x < 400 by omega) (by omega)), n_ixn (by omega), hH _ (by omega), if_pos (n_in (show i < 10 by omega) (by omega)), e3, show nI i + 1 = nI (i + 1) by rw [k1, n_add]]
    simp only [sumN]
    have el : lds H m0 w i = if H (20 * y + x) = w then (z : Int) else 0 := by
      unfold lds; rw [e4, e5, e6, n_ixn (by omega), n_ixn (by omega), n_toInt (by omega)]
    have eb : (b2i (H (20 * y + x)) = b2i w) ↔ H (20 * y + x) = w := by cases H (20 * y + x) <;> cases w <;> decide
    simp only [eb]
    by_cases q : H (20 * y + x) = w
    · rw [if_pos q, nI_iz z, iz_add, ldC hn hH h7 hh d (i + 1) f _ (by omega) (by omega), el, if_pos q, Int.add_assoc]
    · rw [if_neg q, ldC hn hH h7 hh d (i + 1) f _ (by omega) (by omega), el, if_neg q, Int.zero_add]
theorem ldR {m0 : Mem} {nh n : Nat} {U V : Nat → Int} {lw ed : Int32} {w : Bool} (hn : nh ≤ 10) (hh : ∀ i, i < nh → ∃ a b c : Nat, a < 20 ∧ b < 20 ∧ c ≤ 99 ∧ gI m0 135 (86 + 3 * i) = nI a ∧ gI m0 135 (86 + 3 * i + 1) = nI b ∧ gI m0 135 (86 + 3 * i + 2) = nI c) :
    ∀ (d i fu : Nat) (c : Int) (m : Mem), i + d = nh → d < fu → PolyR m n (fun i => 2 * U i) (fun i => 2 * V i) → (∀ j, gI m 135 j = gI m0 135 j) → gI m0 135 4 = lw → gI m0 135 5 = ed → gI m0 135 1 = nI nh →
      ∃ m', RM_loads_L34 (b2i w) (fun m7 y6 => some (y6, m7)) fu m (iz c) (nI i) = some (iz (c + sumN (lds (hisS lw ed U V n) m0 w) i d), m')
  | 0, i, fu, c, m, hd, hf, hP, h0, h4, h5, h1 => by
    obtain ⟨f, rfl⟩ : ∃ f, fu = f + 1 := ⟨fu - 1, by omega⟩
    obtain rfl : i = nh := by omega
    refine ⟨m, ?_⟩
    rw [RM_loads_L34, if_pos (by decide), show ixn 1 = 1 from rfl, h0, h1, if_pos (by rw [n_le (by omega) (by omega)]; omega)]; simp [sumN]
  | d + 1, i, fu, c, m, hd, hf, hP, h0, h4, h5, h1 => by
    obtain ⟨f, rfl⟩ : ∃ f, fu = f + 1 := ⟨fu - 1, by omega⟩
    obtain ⟨x, y, z, hx, hy, hz, e4, e5, e6⟩ := hh i (by omega)
    obtain ⟨m1, q1, F1⟩ := sqHis_eq (r := y) (c := x) hP hy hx
    rw [h0, h0, h4, h5] at q1
    have el : lds (hisS lw ed U V n) m0 w i = if hisS lw ed U V n (20 * y + x) = w then (z : Int) else 0 := by
      unfold lds; rw [e4, e5, e6, n_ixn (by omega), n_ixn (by omega), n_toInt (by omega)]
    have eH : hisM lw ed U V (y : Int) (x : Int) n = hisS lw ed U V n (20 * y + x) := by
      unfold hisS; rw [show (20 * y + x) / 20 = y by omega, show (20 * y + x) % 20 = x by omega]
    rw [eH] at q1
    generalize hisS lw ed U V n (20 * y + x) = b at *
    have a0 : ∀ j, gI m1 135 j = gI m0 135 j := fun j => by rw [F1.I 135 j rfl, h0]
    obtain ⟨m2, s2⟩ := ldR (w := w) (lw := lw) (ed := ed) (U := U) (V := V) (n := n) hn hh d (i + 1) f (c + if b = w then (z : Int) else 0) m1 (by omega) (by omega) (hP.fr F1 rfl (fun _ => rfl) (fun _ => rfl)) a0 h4 h5 h1
    refine ⟨m2, ?_⟩
    have i1' : (86 + (3 * nI i)) = nI (86 + 3 * i) := by rw [show (86 : Int32) = nI 86 by decide, k3, n_mul, n_add]
    have i2' : nI (86 + 3 * i) + 1 = nI (86 + 3 * i + 1) := by rw [k1, n_add]
    have i3' : nI (86 + 3 * i) + 2 = nI (86 + 3 * i + 2) := by rw [k2, n_add]
    rw [RM_loads_L34, if_pos (by decide), show ixn 1 = 1 from rfl, h0, h1, if_neg (by rw [n_le (by omega) (by omega)]; omega), i1', i2', if_pos (n_in (by omega) (by omega)), if_pos (n_in (by omega) (by omega)), n_ixn (by omega), n_ixn (by omega), h0, h0, e4, e5, q1]
    simp only [bV, RM_loads_J85, i1', i3', letV]
    rw [if_pos (n_in (show 86 + 3 * i + 2 < 116 by omega) (by omega)), n_ixn (by omega), a0, e6, show nI i + 1 = nI (i + 1) by rw [k1, n_add], nI_iz z, iz_add]
    simp only [sumN]
    rw [el, ← Int.add_assoc, ← s2]
    cases w <;> cases b <;> simp [b2i]
theorem op_loads {m : Mem} (h : Inv m) (x y : Int32) : ∃ v m1 m2, OH_loads m x y = some (v, m1) ∧ RM_loads m1 x y = some (v, m2) ∧ Inv m2 := by
  have g0 : ∀ j, gI (sI m 133 0 0) 135 j = gI m 135 j := fun j => by rw [gI_sI, if_neg (by omega)]
  have hI : Inv (sI m 133 0 0) := inv_frame fr0 h
  rcases line_cases h x with ⟨h1, h2⟩ | ⟨k, hk, hk2, rfl, h1, h2⟩
  · refine ⟨-1, m, sI m 133 0 0, by rw [OH_loads, h1, if_pos rfl], ?_, hI⟩
    simp only [RM_loads, letM, h2 _ (g0 0), bI, if_pos]
  · rcases spl y 2 (by omega) with hy | ⟨hy, hy2⟩ | ⟨w, hw, rfl⟩
    · refine ⟨-1, m, sI m 133 0 0, by rw [OH_loads, if_pos hy, ite_self], ?_, hI⟩
      simp only [RM_loads, letM, h2 _ (g0 0), bI, isIn_lo hy, if_pos, ite_self]
    · have : ¬ y ≤ 1 := by
        rw [Int32.le_iff_toInt_le] at *; rw [n_toInt (by omega)] at hy2; rw [show (1 : Int32).toInt = 1 from rfl]; omega
      refine ⟨-1, m, sI m 133 0 0, by rw [OH_loads, if_neg this, ite_self, ite_self], ?_, hI⟩
      have e : RM_isIn y 0 1 = 0 := by rw [k1]; exact isIn_hi (n := 1) (by omega) hy2
      simp only [RM_loads, letM, h2 _ (g0 0), bI, e, if_pos, ite_self]
    · obtain ⟨b, hb⟩ : ∃ b : Bool, nI w = b2i b := by
        rcases (show w = 0 ∨ w = 1 by omega) with rfl | rfl
        · exact ⟨false, rfl⟩
        · exact ⟨true, rfl⟩
      rw [hb]
      obtain ⟨n, X, Y, D⟩ := lineD h hk2
      obtain ⟨nh, hnh, a7, a1, hh⟩ := hayD h
      obtain ⟨m1, e1, s1, G1, F1⟩ := OH_survey_eq h hk D
      have hnow : gN m 13 = 101 ∨ gN m 13 = 117 := by rcases h.1 with q | q; exact Or.inl q.1; exact Or.inr q.1
      have f1 : ∀ j, gI (sI m1 133 0 0) 135 j = gI m 135 j := fun j => by rw [gI_sI, if_neg (by omega), F1.I 135 j rfl]
      have fp : ∀ c j, 101 ≤ c → c < 133 → gI m1 c j = gI m c j := fun c j c1 c2 => F1.I c j (by
        unfold wL
        rw [List.any_eq_false]
        have : ∀ q ∈ W_OH_survey, q.1 < 101 := by decide
        intro q hq
        have := this q hq
        simp only [Bool.and_eq_true, beq_iff_eq, not_and]
        intro z; omega)
      obtain ⟨m2, l1, l2, F2⟩ := D.look hk f1
      have f2 : ∀ j, gI m2 135 j = gI m 135 j := fun j => by rw [F2.I 135 j rfl, f1]
      obtain ⟨m3, s3⟩ := ldR (w := b) (lw := gI m 135 4) (ed := gI m 135 5) hnh (fun i hi => by obtain ⟨a, bb, c, q1, q2, q3, -, -, -, q4⟩ := hh i hi; exact ⟨a, bb, c, q1, q2, q3, q4⟩) nh 0 FU 0 m2 (by omega) (by unfold FU; omega) l2 f2 rfl rfl a1
      rw [Int.zero_add, show iz 0 = 0 from i0.symm, show nI 0 = 0 from k0.symm] at s3
      have sC := ldC (m0 := m) (w := b) (kx := fun m5 y4 => some (y4, m5)) hnh s1 (by rw [F1.N, fp _ _ (by omega) (by omega)]; exact a7) (fun i hi => by
        obtain ⟨a, bb, c, q1, q2, q3, q4, q5, q6, q7⟩ := hh i hi
        rw [F1.N, fp _ _ (by omega) (by omega), fp _ _ (by omega) (by omega), fp _ _ (by omega) (by omega)]
        exact ⟨a, bb, c, q1, q2, q3, q4, q5, q6, q7⟩) nh 0 FU 0 (by omega) (by unfold FU; omega)
      rw [Int.zero_add, show iz 0 = 0 from i0.symm, show nI 0 = 0 from k0.symm] at sC
      have eO : OH_loads m (nI k) (b2i b) = some (iz (sumN (lds (hisS (gI m 135 4) (gI m 135 5) (clz n X) (clz n Y) n) m b) 0 nh), m1) := by
        rw [OH_loads, h1, if_neg (by decide), if_neg (by cases b <;> decide), if_pos (by cases b <;> decide), e1]
        simp only [bM]
        exact sC
      have eR : RM_loads m1 (nI k) (b2i b) = some (iz (sumN (lds (hisS (gI m 135 4) (gI m 135 5) (clz n X) (clz n Y) n) m b) 0 nh), m3) := by
        have eb : RM_isIn (b2i b) 0 1 = 1 := by cases b <;> decide
        simp only [RM_loads, letM, h2 _ (f1 0), bI, eb, l1, bM]
        rw [if_neg (by decide), if_neg (by decide)]
        exact s3
      exact ⟨_, m1, m3, eO, eR, inv_frame ((F1.mo (wL_sub rfl)).tr ((RM_loads_fr (wL_sub rfl) m1 _ _ _ eR).mo (wL_sub (A := W_RM_loads) rfl))) h⟩

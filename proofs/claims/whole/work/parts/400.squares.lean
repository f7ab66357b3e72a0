/-! squares: square, acres, border -/
theorem div_n {a b : Nat} (ha : a < 2147483648) (hb : 0 < b) (hb2 : b < 2147483648) : nI a / nI b = nI (a / b) := by
  rw [nI_iz, nI_iz, nI_iz, iz_div (by omega) (by omega) (by omega)]
  congr 1
theorem irm_n {a b : Nat} (ha : a < 2147483648) (hb : 0 < b) (hb2 : b < 2147483648) : irm (nI a) (nI b) = nI (a % b) := by
  unfold irm
  have h := Nat.div_add_mod a b
  have h2 : b * (a / b) = a / b * b := Nat.mul_comm _ _
  rw [div_n ha hb hb2, n_mul, n_sub (by omega)]
  congr 1
  omega
/-- the square beside, if there is one -/
def nb (s d : Nat) : Option Nat := if d = 0 then (if 20 ≤ s then some (s - 20) else none) else if d = 1 then (if s % 20 < 19 then some (s + 1) else none) else if d = 2 then (if s < 380 then some (s + 20) else none) else (if 0 < s % 20 then some (s - 1) else none)
def enc (o : Option Nat) : Int32 := match o with
  | none => -1
  | some t => nI t
theorem step_nb {s d : Nat} (hs : s < 400) (hd : d < 4) : OH_stepFrom (nI s) (nI d) = enc (nb s d) := by
  have key : ∀ s, s < 400 → ∀ d, d < 4 → OH_stepFrom (nI s) (nI d) = enc (nb s d) := by decide +kernel
  exact key s hs d hd
theorem beside_nb {s d : Nat} (hs : s < 400) (hd : d < 4) : RM_beside (nI s) (nI d) = enc (nb s d) := by
  have key : ∀ s, s < 400 → ∀ d, d < 4 → RM_beside (nI s) (nI d) = enc (nb s d) := by decide +kernel
  exact key s hs d hd
theorem nb_lt {s d t : Nat} (hs : s < 400) (h : nb s d = some t) : t < 400 := by
  unfold nb at h
  split at h
  · split at h <;> simp at h; omega
  · split at h
    · split at h <;> simp at h; omega
    · split at h
      · split at h <;> simp at h; omega
      · split at h <;> simp at h; omega
/-- by line k the squares are his so -/
def hisS (lw ed : Int32) (U V : Nat → Int) (n : Nat) (s : Nat) : Bool := hisM lw ed U V ((s / 20 : Nat) : Int) ((s % 20 : Nat) : Int) n
theorem sq_at {s : Nat} : 20 * (s / 20) + s % 20 = s := Nat.div_add_mod s 20
theorem OH_survey_eq {m : Mem} (h : Inv m) {k n : Nat} {X Y : Nat → Int} (hk : k < 3) (D : LineD m k n X Y) :
    ∃ m1, OH_survey m (nI k) = some m1 ∧ (∀ s, s < 400 → gI m1 6 s = b2i (hisS (gI m 135 4) (gI m 135 5) (clz n X) (clz n Y) n s)) ∧ GRel m1 5 (fun r c => sE (clz n X) (clz n Y) r c n) (fun r c => sE (clz n Y) (clz n X) c r n) (fun r c => sT (clz n X) (clz n Y) r c n) (fun r c => if onM (clz n X) (clz n Y) r c n then 1 else 0) ∧ Frm W_OH_survey [] m m1 := by
  have hnow : 101 ≤ gN m 13 := by rcases h.1 with q | q <;> omega
  have e10 : gI m (gN m 13) 10 = gI m 135 4 := h.2.2.1.2.2.2.2.1
  have e11 : gI m (gN m 13) 11 = gI m 135 5 := h.2.2.1.2.2.2.2.2.1
  have hE : isN (gI m 135 5) 1 := h.2.2.2.1.2.2.2.2.2.1
  have hed : gI m 135 5 = 0 ∨ gI m 135 5 = 1 := by
    obtain ⟨v, hv, ev⟩ := hE.ex
    rw [ev]
    rcases (show v = 0 ∨ v = 1 by omega) with rfl | rfl
    · exact Or.inl rfl
    · exact Or.inr rfl
  obtain ⟨d1, d2, d3, d4, d5, d6⟩ := D
  obtain ⟨m1, e, h1, G, F⟩ := survey_eq (g := 5) (lw := gI m 135 4) (ed := gI m 135 5) sh_5 (by omega) (fun i hi => (d4 i hi).2.2.1) (fun i hi => (d4 i hi).2.2.2) (fun q => by omega) d5 hed
  have eS : OH_survey m (nI k) = some m1 := by
    unfold OH_survey
    rw [if_pos (n_in hk (by omega)), n_ixn (by omega), e10, e11, e]
    rfl
  refine ⟨m1, eS, fun s hs => ?_, G, OH_survey_fr (wL_sub rfl) m _ _ eS⟩
  have := h1 (s / 20) (s % 20) (by omega) (by omega)
  rw [sq_at] at this
  exact this
theorem sqHis_eq {m : Mem} {n r c : Nat} {U V : Nat → Int} (h : PolyR m n (fun i => 2 * U i) (fun i => 2 * V i)) (hr : r < 20) (hc : c < 20) :
    ∃ m', RM_isSquareHis m (nI c) (nI r) = some (b2i (hisM (gI m 135 4) (gI m 135 5) U V r c n), m') ∧ Frm Lrd [] m m' := by
  obtain ⟨m', e, F⟩ := isHis_eq (x := 2 * (c : Int) + 1) (y := 2 * (r : Int) + 1) h (by omega) (by omega)
  refine ⟨m', ?_, F⟩
  unfold RM_isSquareHis
  rw [two_n, two_n, i1, iz_add, iz_add, e]
  simp only [bV]
  rw [← i1, if_pos b2i_z]
  rfl
theorem isSquare_eq (x y : Int32) : (OH_isSquare x y = 0 ∧ RM_isSquare x y = 0) ∨ ∃ a b : Nat, a < 20 ∧ b < 20 ∧ x = nI a ∧ y = nI b ∧ OH_isSquare x y = 1 ∧ RM_isSquare x y = 1 := by
  unfold OH_isSquare RM_isSquare
  rcases spl x 20 (by omega) with hx | ⟨hx, hx2⟩ | ⟨a, ha, rfl⟩
  · exact Or.inl ⟨by rw [if_pos hx], by rw [isIn_lo hx, if_pos rfl]⟩
  · exact Or.inl ⟨by rw [if_neg hx, if_pos (show (20 : Int32) ≤ x from hx2)], by rw [k19, isIn_hi (by omega) hx2, if_pos rfl]⟩
  · have a1 : ¬ nI a < 0 := by rw [k0, n_lt (by omega) (by omega)]; omega
    have a2 : ¬ (20 : Int32) ≤ nI a := by rw [k20, n_le (by omega) (by omega)]; omega
    have a3 : RM_isIn (nI a) 0 19 = 1 := isIn_in (a := 0) (b := 19) (Nat.zero_le _) (by omega) (by omega)
    rw [if_neg a1, if_neg a2, a3, if_neg (show ¬ (1 : Int32) = 0 by decide)]
    rcases spl y 20 (by omega) with hx | ⟨hx, hx2⟩ | ⟨b, hb, rfl⟩
    · exact Or.inl ⟨by rw [if_pos hx], by rw [isIn_lo hx, if_pos rfl]⟩
    · exact Or.inl ⟨by rw [if_neg hx, if_pos (show (20 : Int32) ≤ y from hx2)], by rw [k19, isIn_hi (by omega) hx2, if_pos rfl]⟩
    · have b1 : ¬ nI b < 0 := by rw [k0, n_lt (by omega) (by omega)]; omega
      have b2 : ¬ (20 : Int32) ≤ nI b := by rw [k20, n_le (by omega) (by omega)]; omega
      have b3 : RM_isIn (nI b) 0 19 = 1 := isIn_in (a := 0) (b := 19) (Nat.zero_le _) (by omega) (by omega)
      exact Or.inr ⟨a, b, ha, hb, rfl, rfl, by rw [if_neg b1, if_neg b2], by rw [b3, if_neg (show ¬ (1 : Int32) = 0 by decide)]⟩
theorem squareAt_n (a b : Nat) : OH_squareAt (nI a) (nI b) = nI (20 * b + a) := by
  unfold OH_squareAt
  rw [k20, n_mul, n_add, Nat.mul_comm]
theorem op_square {m : Mem} (h : Inv m) (x y z : Int32) : ∃ v m1 m2, OH_square m x y z = some (v, m1) ∧ RM_square m1 x y z = some (v, m2) ∧ Inv m2 := by
  have hI : Inv (sI m 133 0 0) := inv_frame fr0 h
  have g0 : ∀ j, gI (sI m 133 0 0) 135 j = gI m 135 j := fun j => by rw [gI_sI, if_neg (by omega)]
  rcases line_cases h x with ⟨h1, h2⟩ | ⟨k, hk, hk2, rfl, h1, h2⟩
  · refine ⟨-1, m, sI m 133 0 0, by rw [OH_square, h1, if_pos rfl], ?_, hI⟩
    simp only [RM_square, letM, h2 _ (g0 0), bI, if_pos]
  · rcases isSquare_eq y z with ⟨h3, h4⟩ | ⟨a, b, ha, hb, rfl, rfl, h3, h4⟩
    · refine ⟨-1, m, sI m 133 0 0, by rw [OH_square, h1, h3, if_pos rfl, ite_self], ?_, hI⟩
      simp only [RM_square, letM, h2 _ (g0 0), bI, h4, if_pos, ite_self]
    · obtain ⟨n, X, Y, D⟩ := lineD h hk2
      obtain ⟨m1, e1, s1, G1, F1⟩ := OH_survey_eq h hk D
      have f1 : ∀ j, gI (sI m1 133 0 0) 135 j = gI m 135 j := fun j => by rw [gI_sI, if_neg (by omega), F1.I 135 j rfl]
      obtain ⟨m2, l1, l2, F2⟩ := D.look hk f1
      obtain ⟨m3, q1, F3⟩ := sqHis_eq (r := b) (c := a) l2 hb ha
      rw [F2.I 135 4 rfl, F2.I 135 5 rfl, f1, f1] at q1
      have eO : OH_square m (nI k) (nI a) (nI b) = some (b2i (hisM (gI m 135 4) (gI m 135 5) (clz n X) (clz n Y) b a n), m1) := by
        rw [OH_square, h1, h3, if_neg (by decide), if_neg (by decide), e1]
        simp only [bM]
        rw [squareAt_n, if_pos (n_in (by omega) (by omega)), n_ixn (by omega), s1 _ (by omega)]
        unfold hisS
        rw [show (20 * b + a) / 20 = b by omega, show (20 * b + a) % 20 = a by omega]
      have eR : RM_square m1 (nI k) (nI a) (nI b) = some (b2i (hisM (gI m 135 4) (gI m 135 5) (clz n X) (clz n Y) b a n), m3) := by
        simp only [RM_square, letM, h2 _ (f1 0), bI, h4, l1, bM, bV, q1]
        cases hisM (gI m 135 4) (gI m 135 5) (clz n X) (clz n Y) b a n <;> rfl
      exact ⟨_, m1, m3, eO, eR, inv_frame ((F1.mo (wL_sub rfl)).tr ((RM_square_fr (wL_sub rfl) m1 _ _ _ _ eR).mo (wL_sub (A := W_RM_square) rfl))) h⟩
def bz (b : Bool) : Int := if b then 1 else 0
theorem b2i_iz (b : Bool) : b2i b = iz (bz b) := by cases b <;> decide
theorem area_loop {m : Mem} {g : Nat} {H : Nat → Bool} (hH : ∀ s, s < 400 → gI m (g + 1) s = b2i (H s)) {kx : Int32 → Option Int32} :
    ∀ (d i fu : Nat) (c : Int), i + d = 400 → d < fu → GR_area_L4 m g kx fu (iz c) (nI i) = kx (iz (c + sumN (fun s => bz (H s)) i d))
  | 0, i, fu, c, hd, hf => by
    obtain ⟨f, rfl⟩ : ∃ f, fu = f + 1 := ⟨fu - 1, by omega⟩
    obtain rfl : i = 400 := by omega
    rw [GR_area_L4, if_pos (by decide)]; simp [sumN]
  | d + 1, i, fu, c, hd, hf => by
    obtain ⟨f, rfl⟩ : ∃ f, fu = f + 1 := ⟨fu - 1, by omega⟩
    rw [GR_area_L4, if_neg (by rw [k400, n_le (by omega) (by omega)]; omega), if_pos (n_in (by omega) (by omega)), n_ixn (by omega), hH i (by omega), b2i_iz]
    simp only [letV]
    rw [iz_add, show nI i + 1 = nI (i + 1) by rw [k1, n_add], area_loop hH d (i + 1) f _ (by omega) (by omega)]
    simp only [sumN, Int.add_assoc]
abbrev Lmp : List (Nat × Nat) := [(133, 23), (133, 24), (141, 999999)]
theorem maps_loop {n : Nat} {U V : Nat → Int} {lw ed : Int32} {kx : Mem → Int32 → Option (Int32 × Mem)} :
    ∀ (d i fu : Nat) (c : Int) (m : Mem), i + d = 400 → d < fu → PolyR m n (fun i => 2 * U i) (fun i => 2 * V i) → gI m 135 4 = lw → gI m 135 5 = ed → (∀ s, s < i → gI m 141 s = b2i (hisS lw ed U V n s)) →
      ∃ m', RM_maps_L9 kx fu m (iz c) (nI i) = kx m' (iz (c + sumN (fun s => bz (hisS lw ed U V n s)) i d)) ∧ (∀ s, s < 400 → gI m' 141 s = b2i (hisS lw ed U V n s)) ∧ Frm Lmp [] m m'
  | 0, i, fu, c, m, hd, hf, hP, h4, h5, hs => by
    obtain ⟨f, rfl⟩ : ∃ f, fu = f + 1 := ⟨fu - 1, by omega⟩
    obtain rfl : i = 400 := by omega
    exact ⟨m, by rw [RM_maps_L9, if_pos (by decide)]; simp [sumN], hs, Frm.rf⟩
  | d + 1, i, fu, c, m, hd, hf, hP, h4, h5, hs => by
    obtain ⟨f, rfl⟩ : ∃ f, fu = f + 1 := ⟨fu - 1, by omega⟩
    obtain ⟨m1, e1, F1⟩ := sqHis_eq (r := i / 20) (c := i % 20) hP (by omega) (by omega)
    rw [h4, h5] at e1
    have F2 : Frm Lmp [] m (sI m1 141 i (b2i (hisS lw ed U V n i))) := (F1.mo (wL_sub rfl)).tr (Frm.sI rfl rfl)
    obtain ⟨m', e, hh, F⟩ := maps_loop (lw := lw) (ed := ed) (kx := kx) d (i + 1) f (c + bz (hisS lw ed U V n i)) (sI m1 141 i (b2i (hisS lw ed U V n i))) (by omega) (by omega) (hP.fr F2 rfl (fun _ => rfl) (fun _ => rfl)) (by rw [F2.I 135 4 rfl, h4]) (by rw [F2.I 135 5 rfl, h5]) (fun s hs2 => by
      rw [gI_sI]
      by_cases q : s = i
      · rw [if_pos ⟨rfl, q⟩, q]
      · rw [if_neg (fun z => q z.2), F1.I 141 s rfl]; exact hs s (by omega))
    refine ⟨m', ?_, hh, F2.tr F⟩
    rw [RM_maps_L9, if_neg (by rw [k400, n_le (by omega) (by omega)]; omega), k20, irm_n (by omega) (by omega) (by omega), div_n (by omega) (by omega) (by omega), e1]
    simp only [bV]
    rw [if_pos (n_in (show i < 400 by omega) (by omega)), n_ixn (by omega)]
    have hb : b2i (hisM lw ed U V ((i / 20 : Nat) : Int) ((i % 20 : Nat) : Int) n) &&& 1 = b2i (hisS lw ed U V n i) := by
      unfold hisS; cases hisM lw ed U V ((i / 20 : Nat) : Int) ((i % 20 : Nat) : Int) n <;> decide
    have hg : gI (sI m1 141 i (b2i (hisS lw ed U V n i))) 141 i = b2i (hisS lw ed U V n i) := by rw [gI_sI, if_pos ⟨rfl, rfl⟩]
    simp only [letM, letV, hb, hg]
    rw [show nI i + 1 = nI (i + 1) by rw [k1, n_add]]
    simp only [sumN]
    rw [← Int.add_assoc, ← e]
    cases hisS lw ed U V n i with
    | true => rw [if_neg (by decide), i1, iz_add]; rfl
    | false => rw [if_pos (by decide), i0, iz_add]; rfl
theorem maps_eq {m m1 : Mem} {k n : Nat} {X Y : Nat → Int} (D : LineD m k n X Y) (hk : k < 3) (h1 : ∀ j, gI m1 135 j = gI m 135 j) :
    ∃ m', RM_maps m1 (nI k) = some (iz (sumN (fun s => bz (hisS (gI m 135 4) (gI m 135 5) (clz n X) (clz n Y) n s)) 0 400), m') ∧ (∀ s, s < 400 → gI m' 141 s = b2i (hisS (gI m 135 4) (gI m 135 5) (clz n X) (clz n Y) n s)) ∧ Frm W_RM_maps [] m1 m' := by
  obtain ⟨m2, l1, l2, F2⟩ := D.look hk h1
  obtain ⟨m', e, hh, F⟩ := maps_loop (lw := gI m 135 4) (ed := gI m 135 5) (kx := fun m4 y3 => some (y3, m4)) 400 0 FU 0 m2 (by omega) (by unfold FU; omega) l2 (by rw [F2.I 135 4 rfl, h1]) (by rw [F2.I 135 5 rfl, h1]) (fun s hs => by omega)
  rw [Int.zero_add, show iz 0 = 0 from i0.symm, show nI 0 = 0 from k0.symm] at e
  have eM : RM_maps m1 (nI k) = some (iz (sumN (fun s => bz (hisS (gI m 135 4) (gI m 135 5) (clz n X) (clz n Y) n s)) 0 400), m') := by
    unfold RM_maps
    rw [l1]
    simp only [bM]
    exact e
  exact ⟨m', eM, hh, RM_maps_fr (wL_sub rfl) m1 _ _ eM⟩
theorem op_acres {m : Mem} (h : Inv m) (x : Int32) : ∃ v m1 m2, OH_acres m x = some (v, m1) ∧ RM_acres m1 x = some (v, m2) ∧ Inv m2 := by
  have g0 : ∀ j, gI (sI m 133 0 0) 135 j = gI m 135 j := fun j => by rw [gI_sI, if_neg (by omega)]
  rcases line_cases h x with ⟨h1, h2⟩ | ⟨k, hk, hk2, rfl, h1, h2⟩
  · refine ⟨-1, m, sI m 133 0 0, by rw [OH_acres, h1, if_pos rfl], ?_, inv_frame fr0 h⟩
    simp only [RM_acres, letM, h2 _ (g0 0), bI, if_pos]
  · obtain ⟨n, X, Y, D⟩ := lineD h hk2
    obtain ⟨m1, e1, s1, G1, F1⟩ := OH_survey_eq h hk D
    have f1 : ∀ j, gI (sI m1 133 0 0) 135 j = gI m 135 j := fun j => by rw [gI_sI, if_neg (by omega), F1.I 135 j rfl]
    obtain ⟨m2, e2, s2, F2⟩ := maps_eq D hk f1
    have eO : OH_acres m (nI k) = some (iz (sumN (fun s => bz (hisS (gI m 135 4) (gI m 135 5) (clz n X) (clz n Y) n s)) 0 400), m1) := by
      rw [OH_acres, h1, if_neg (by decide), e1]
      simp only [bM, GR_area]
      have := area_loop (g := 5) s1 (kx := fun y1 => some y1) 400 0 FU 0 (by omega) (by unfold FU; omega)
      rw [Int.zero_add, show iz 0 = 0 from i0.symm, show nI 0 = 0 from k0.symm] at this
      rw [this]
      simp only [bI]
    have eR : RM_acres m1 (nI k) = some (iz (sumN (fun s => bz (hisS (gI m 135 4) (gI m 135 5) (clz n X) (clz n Y) n s)) 0 400), m2) := by
      simp only [RM_acres, letM, h2 _ (f1 0), bI, e2, bV]
      rw [if_neg (by decide)]
    exact ⟨_, m1, m2, eO, eR, inv_frame ((F1.mo (wL_sub rfl)).tr ((RM_acres_fr (wL_sub rfl) m1 _ _ eR).mo (wL_sub (A := W_RM_acres) rfl))) h⟩

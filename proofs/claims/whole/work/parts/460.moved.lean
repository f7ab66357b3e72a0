/-! moved -/
theorem maps_eqR {m1 : Mem} {k n : Nat} {X Y : Nat → Int} (hn3 : 3 ≤ n) (hn : n ≤ 12) (hk : k < 3) (h11 : gI m1 135 (11 + k) = nI n) (hX : ∀ i, i < n → gI m1 135 (14 + 24 * k + 2 * i) = iz (X i) ∧ gI m1 135 (14 + 24 * k + 2 * i + 1) = iz (Y i) ∧ (0 ≤ X i ∧ X i ≤ 20) ∧ (0 ≤ Y i ∧ Y i ≤ 20)) :
    ∃ v m', RM_maps m1 (nI k) = some (v, m') ∧ (∀ s, s < 400 → gI m' 141 s = b2i (hisS (gI m1 135 4) (gI m1 135 5) (clz n X) (clz n Y) n s)) ∧ Frm W_RM_maps [] m1 m' := by
  obtain ⟨m2, l1, l2, F2⟩ := looks_eq (m := m1) (X := X) (Y := Y) hn (by omega) hk h11 (fun j hj => by
    obtain ⟨d1, d2, d3, d4⟩ := hX j hj
    exact ⟨d1, d2, by omega, by omega⟩)
  obtain ⟨m', e, hh, F⟩ := maps_loop (lw := gI m1 135 4) (ed := gI m1 135 5) (kx := fun m4 y3 => some (y3, m4)) 400 0 FU 0 m2 (by omega) (by unfold FU; omega) l2 (by rw [F2.I 135 4 rfl]) (by rw [F2.I 135 5 rfl]) (fun s hs => by omega)
  rw [Int.zero_add, show iz 0 = 0 from i0.symm, show nI 0 = 0 from k0.symm] at e
  have eM : RM_maps m1 (nI k) = some (iz (sumN (fun s => bz (hisS (gI m1 135 4) (gI m1 135 5) (clz n X) (clz n Y) n s)) 0 400), m') := by
    unfold RM_maps
    rw [l1]
    simp only [bM]
    exact e
  exact ⟨_, m', eM, hh, RM_maps_fr (wL_sub rfl) m1 _ _ eM⟩
theorem puts_eq {m : Mem} {k c : Nat} (hk : k < 3) (hc : c < 12) (x y : Int32) : RM_puts m (nI k) (nI c) x y = some (sI (sI m 135 (14 + 24 * k + 2 * c) x) 135 (14 + 24 * k + 2 * c + 1) y) := by
  have e1 : (14 + (24 * nI k)) + (2 * nI c) = nI (14 + 24 * k + 2 * c) := by rw [k14, k24, k2, n_mul, n_mul, n_add, n_add]
  have e2 : nI (14 + 24 * k + 2 * c) + 1 = nI (14 + 24 * k + 2 * c + 1) := by rw [k1, n_add]
  simp only [RM_puts, letM, e1, e2, if_pos (n_in (show 14 + 24 * k + 2 * c < 116 by omega) (by omega)), if_pos (n_in (show 14 + 24 * k + 2 * c + 1 < 116 by omega) (by omega)), n_ixn (show 14 + 24 * k + 2 * c < 2147483648 by omega), n_ixn (show 14 + 24 * k + 2 * c + 1 < 2147483648 by omega)]
abbrev L3 : List (Nat × Nat) := [(63, 999999), (64, 999999), (65, 999999)]
theorem copyFrom_eq {m : Mem} {o : Nat} (ho : 66 ≤ o) : ∃ m', LN_copyFrom m 63 o = some m' ∧ gI m' 63 1 = gI m o 1 ∧ (∀ j, j < 12 → gI m' 64 j = gI m (o + 1) j ∧ gI m' 65 j = gI m (o + 2) j) ∧ Frm L3 [] m m' := by
  refine ⟨_, rfl, ?_, fun j hj => ⟨?_, ?_⟩, ?_⟩
  · rw [gI_cpI, if_neg (by omega), gI_cpI, if_neg (by omega), gI_sI, if_pos ⟨rfl, rfl⟩, gI_sJ]
  · have : ixn 0 = 0 := rfl
    have t : ixn 12 = 12 := rfl
    rw [gI_cpI, if_neg (by omega), gI_cpI, if_pos (by omega), gI_sI, if_neg (by omega), gI_sJ]
    congr 1; omega
  · have : ixn 0 = 0 := rfl
    have t : ixn 12 = 12 := rfl
    rw [gI_cpI, if_pos (by omega), gI_cpI, if_neg (by omega), gI_sI, if_neg (by omega), gI_sJ]
    congr 1; omega
  · exact (Frm.sJ rfl rfl).tr ((Frm.sI rfl rfl).tr ((Frm.cI rfl (fun _ => rfl)).tr (Frm.cI rfl (fun _ => rfl))))
theorem L94_loop {x1 x2 x5 x6 x7 : Int32} {H : Nat → Bool} {kx : Mem → Option (Int32 × Mem)} :
    ∀ (d i fu : Nat) (m : Mem), i + d = 400 → d < fu → (∀ s, s < 400 → gI m 141 s = b2i (H s)) → (∀ s, s < i → gI m 142 s = b2i (H s)) → ∃ m', RM_moved_L94 x1 x2 x5 x6 x7 kx fu m (nI i) = kx m' ∧ (∀ s, s < 400 → gI m' 142 s = b2i (H s)) ∧ Frm [(142, 999999)] [] m m'
  | 0, i, fu, m, hd, hf, h1, h2 => by
    obtain ⟨f, rfl⟩ : ∃ f, fu = f + 1 := ⟨fu - 1, by omega⟩
    obtain rfl : i = 400 := by omega
    exact ⟨m, by rw [RM_moved_L94, if_pos (by decide)], h2, Frm.rf⟩
  | d + 1, i, fu, m, hd, hf, h1, h2 => by
    obtain ⟨f, rfl⟩ : ∃ f, fu = f + 1 := ⟨fu - 1, by omega⟩
    have F0 : Frm [(142, 999999)] [] m (sI m 142 i (b2i (H i))) := Frm.sI rfl rfl
    obtain ⟨m', e, a, F⟩ := L94_loop (x1 := x1) (x2 := x2) (x5 := x5) (x6 := x6) (x7 := x7) (kx := kx) (H := H) d (i + 1) f (sI m 142 i (b2i (H i))) (by omega) (by omega) (fun s hs => by rw [gI_sI, if_neg (by omega)]; exact h1 s hs) (fun s hs => by
      rw [gI_sI]
      by_cases q : s = i
      · rw [if_pos ⟨rfl, q⟩, q]
      · rw [if_neg (fun z => q z.2)]; exact h2 s (by omega))
    refine ⟨m', ?_, a, F0.tr F⟩
    have hb : gI m 141 i &&& 1 = b2i (H i) := by rw [h1 i (by omega)]; cases H i <;> decide
    rw [RM_moved_L94, if_neg (by rw [k400, n_le (by omega) (by omega)]; omega), if_pos (n_in (show i < 400 by omega) (by omega)), n_ixn (by omega), hb, show nI i + 1 = nI (i + 1) by rw [k1, n_add]]
    exact e
def mvI (e h h' : Bool) : Int := bz ((h == e) && (h' != e))
theorem L144_loop {m : Mem} {e : Bool} {H H' : Nat → Bool} (h1 : ∀ s, s < 400 → gI m 141 s = b2i (H s)) (h2 : ∀ s, s < 400 → gI m 142 s = b2i (H' s)) {kx : Mem → Int32 → Option (Int32 × Mem)} :
    ∀ (d i fu : Nat) (c : Int), i + d = 400 → d < fu → RM_moved_L144 (b2i e) kx fu m (iz c) (nI i) = kx m (iz (c + sumN (fun s => mvI e (H s) (H' s)) i d))
  | 0, i, fu, c, hd, hf => by
    obtain ⟨f, rfl⟩ : ∃ f, fu = f + 1 := ⟨fu - 1, by omega⟩
    obtain rfl : i = 400 := by omega
    rw [RM_moved_L144, if_pos (by decide)]
    simp [sumN]
  | d + 1, i, fu, c, hd, hf => by
    obtain ⟨f, rfl⟩ : ∃ f, fu = f + 1 := ⟨fu - 1, by omega⟩
    have ih := L144_loop (e := e) h1 h2 (kx := kx) d (i + 1) f (c + mvI e (H i) (H' i)) (by omega) (by omega)
    rw [RM_moved_L144, if_neg (by rw [k400, n_le (by omega) (by omega)]; omega), if_pos (n_in (show i < 400 by omega) (by omega)), n_ixn (by omega), h1 i (by omega), h2 i (by omega)]
    simp only [RM_moved_J188, letV]
    rw [show nI i + 1 = nI (i + 1) by rw [k1, n_add], sumN, ← Int.add_assoc, ← ih, i0, i1, iz_add, iz_add]
    unfold mvI
    cases e <;> cases H i <;> cases H' i <;> rfl
theorem L98_loop {m : Mem} {e : Bool} {H H' : Nat → Bool} (h1 : ∀ s, s < 400 → gI m 6 s = b2i (H s)) (h2 : ∀ s, s < 400 → gI m 12 s = b2i (H' s)) {kx : Mem → Int32 → Option (Int32 × Mem)} :
    ∀ (d i fu : Nat) (c : Int), i + d = 400 → d < fu → OH_moved_L98 (b2i e) kx fu m (iz c) (nI i) = kx m (iz (c + sumN (fun s => mvI e (H s) (H' s)) i d))
  | 0, i, fu, c, hd, hf => by
    obtain ⟨f, rfl⟩ : ∃ f, fu = f + 1 := ⟨fu - 1, by omega⟩
    obtain rfl : i = 400 := by omega
    rw [OH_moved_L98, if_pos (by decide)]
    simp [sumN]
  | d + 1, i, fu, c, hd, hf => by
    obtain ⟨f, rfl⟩ : ∃ f, fu = f + 1 := ⟨fu - 1, by omega⟩
    have ih := L98_loop (e := e) h1 h2 (kx := kx) d (i + 1) f (c + mvI e (H i) (H' i)) (by omega) (by omega)
    rw [OH_moved_L98, if_neg (by rw [k400, n_le (by omega) (by omega)]; omega), if_pos (n_in (show i < 400 by omega) (by omega)), n_ixn (by omega), h1 i (by omega), h2 i (by omega)]
    rw [show nI i + 1 = nI (i + 1) by rw [k1, n_add], sumN, ← Int.add_assoc, ← ih, i1, iz_add]
    have z : ∀ c : Int, iz (c + 0) = iz c := fun c => by rw [Int.add_zero]
    unfold mvI
    cases e <;> cases H i <;> cases H' i <;> simp [b2i, bz]
theorem Frm.drop {m m' : Mem} (F : Frm ((135, 999999) :: Lsc) [] m m') (h : ∀ j, gI m' 135 j = gI m 135 j ∧ gJ m' 135 j = gJ m 135 j) : Frm Lsc [] m m' := by
  refine ⟨fun c k a b => ?_, F.2⟩
  by_cases q : c = 135
  · subst q; exact h k
  · apply F.1 c k _ b
    unfold wL at a ⊢
    rw [List.any_cons, a]
    simp
    intro z
    exact absurd z.symm q
def upz (X : Nat → Int) (c : Nat) (v : Int) : Nat → Int := fun i => if i = c then v else X i
theorem bit_cases (w : Int32) : (RM_isIn w 0 1 = 0 ∧ (w < 0 ∨ ¬ w < 0 ∧ (1 : Int32) < w)) ∨ ∃ e : Bool, w = b2i e ∧ RM_isIn w 0 1 = 1 ∧ ¬ w < 0 ∧ ¬ (1 : Int32) < w := by
  rcases spl w 2 (by omega) with hx | ⟨hx, hx2⟩ | ⟨d, hd, rfl⟩
  · exact Or.inl ⟨isIn_lo hx, Or.inl hx⟩
  · refine Or.inl ⟨by rw [k1]; exact isIn_hi (n := 1) (by omega) hx2, Or.inr ⟨hx, ?_⟩⟩
    rw [k1, Int32.lt_iff_toInt_lt, n_toInt (by omega)]
    rw [Int32.le_iff_toInt_le, n_toInt (by omega)] at hx2
    omega
  · rcases (show d = 0 ∨ d = 1 by omega) with rfl | rfl
    · exact Or.inr ⟨false, by decide, by decide, by decide, by decide⟩
    · exact Or.inr ⟨true, by decide, by decide, by decide, by decide⟩
theorem ed01 {m : Mem} (h : Inv m) : gI m 135 5 = 0 ∨ gI m 135 5 = 1 := by
  have hE : isN (gI m 135 5) 1 := h.2.2.2.1.2.2.2.2.2.1
  obtain ⟨v, hv, ev⟩ := hE.ex
  rw [ev]
  rcases (show v = 0 ∨ v = 1 by omega) with rfl | rfl
  · exact Or.inl rfl
  · exact Or.inr rfl
theorem moved_no {m : Mem} {x i y z w : Int32} (h : OH_canMove m x i y z = some 0) : OH_moved m x i y z w = some (-1, m) := by
  simp only [OH_moved, h, bI, if_pos, ite_self]
theorem op_moved {m : Mem} (h : Inv m) (x i y z w : Int32) : ∃ v m1 m2, OH_moved m x i y z w = some (v, m1) ∧ RM_moved m1 x i y z w = some (v, m2) ∧ Inv m2 := by
  have hI : Inv (sI m 133 0 0) := inv_frame fr0 h
  have g0 : ∀ j, gI (sI m 133 0 0) 135 j = gI m 135 j := fun j => by rw [gI_sI, if_neg (by omega)]
  rcases corner_cases h x i with ⟨h1, h2⟩ | ⟨k, n, X, Y, c, hk, hk2, rfl, D, hc, rfl, h1, h2⟩
  · refine ⟨-1, m, sI m 133 0 0, moved_no (by simp only [OH_canMove, h1, bI, if_pos]), ?_, hI⟩
    simp only [RM_moved, letM, h2 _ g0, bI, if_pos]
  · rcases canMove_cases hk D hc h1 y z with ⟨h3, h4⟩ | ⟨a, b, ha, hb, rfl, rfl, p1, p2, p3, h3, h4⟩
    · refine ⟨-1, m, sI m 133 0 0, moved_no h3, ?_, hI⟩
      simp only [RM_moved, letM, h2 _ g0, h4 _ g0, bI, if_pos, ite_self]
    · rcases bit_cases w with ⟨h5, h6⟩ | ⟨e, rfl, h5, h6, h7⟩
      · refine ⟨-1, m, sI m 133 0 0, ?_, ?_, hI⟩
        · rw [OH_moved]
          rcases h6 with q | ⟨q, q2⟩
          · rw [if_pos q]
          · rw [if_neg q, if_pos q2]
        · simp only [RM_moved, letM, h2 _ g0, h4 _ g0, bI, h5, if_pos, ite_self]
      · have hn := D.2.1
        have hn3 := D.1
        have hnow : 101 ≤ gN m 13 := by rcases h.1 with q | q <;> omega
        have e10 : gI m (gN m 13) 10 = gI m 135 4 := h.2.2.1.2.2.2.2.1
        have e11 : gI m (gN m 13) 11 = gI m 135 5 := h.2.2.1.2.2.2.2.2.1
        have bX : box (upz X c a) n := fun i hi => by
          unfold upz; split
          · omega
          · exact (D.2.2.2.1 i hi).2.2.1
        have bY : box (upz Y c b) n := fun i hi => by
          unfold upz; split
          · omega
          · exact (D.2.2.2.1 i hi).2.2.2
        obtain ⟨m3, e3, s3, G3, F3⟩ := OH_survey_eq h hk D
        obtain ⟨m7, e7, q7, r7, F7⟩ := copyFrom_eq (m := m3) (o := gN m 13 + 2 + 3 * k) (by omega)
        have F8 : Frm L3 [] m3 (sI (sI m7 64 c (nI a)) 65 c (nI b)) := F7.tr ((Frm.sI rfl rfl).tr (Frm.sI rfl rfl))
        have cell : ∀ d j, 101 ≤ d → gI m3 d j = gI m d j := fun d j hd => by
          apply F3.I
          unfold wL
          rw [List.any_eq_false]
          intro q hq
          have : q.1 < 101 := by revert q; decide
          simp; omega
        have cell8 : ∀ d j, 101 ≤ d → gI (sI (sI m7 64 c (nI a)) 65 c (nI b)) d j = gI m d j := fun d j hd => by
          rw [F8.I d j, cell d j hd]
          unfold wL
          rw [List.any_eq_false]
          intro q hq
          have : q.1 < 101 := by revert q; decide
          simp; omega
        have N8 : gN (sI (sI m7 64 c (nI a)) 65 c (nI b)) 13 = gN m 13 := by rw [F8.N, F3.N]
        have P8 : PolyC (sI (sI m7 64 c (nI a)) 65 c (nI b)) 63 n (upz X c a) (upz Y c b) := by
          refine ⟨by rw [gI_sI, if_neg (by omega), gI_sI, if_neg (by omega), q7, cell _ _ (by omega)]; exact D.2.2.2.2.1.1, hn, fun i hi => ?_⟩
          obtain ⟨d1, d2, d3, d4⟩ := D.2.2.2.2.1.2.2 i hi
          have u1 := bX i hi
          have u2 := bY i hi
          refine ⟨?_, ?_, by omega, by omega⟩
          · rw [gI_sI, if_neg (by omega), gI_sI]
            unfold upz
            by_cases q : i = c
            · rw [if_pos ⟨rfl, q⟩, if_pos q, nI_iz]
            · rw [if_neg (fun z => q z.2), if_neg q, (r7 i (by omega)).1, cell _ _ (by omega), d1]
          · rw [gI_sI]
            unfold upz
            by_cases q : i = c
            · rw [if_pos ⟨rfl, q⟩, if_pos q, nI_iz]
            · rw [if_neg (fun z => q z.2), if_neg q, gI_sI, if_neg (by omega), (r7 i (by omega)).2, cell _ _ (by omega), d2]
        obtain ⟨m14, e14, s14, G14, F14⟩ := survey_eq (g := 11) (o := 63) (lw := gI m 135 4) (ed := gI m 135 5) sh_11 (by omega) bX bY (fun q => by omega) P8 (ed01 h)
        have kk14 : ∀ s, s < 400 → gI m14 6 s = b2i (hisS (gI m 135 4) (gI m 135 5) (clz n X) (clz n Y) n s) := fun s hs => by
          rw [(F14.1 6 s rfl (fun q hq => by rw [List.mem_singleton] at hq; subst hq; exact Or.inl (by decide))).1, F8.I 6 s rfl]
          exact s3 s hs
        have j14 : ∀ s, s < 400 → gI m14 12 s = b2i (hisS (gI m 135 4) (gI m 135 5) (clz n (upz X c a)) (clz n (upz Y c b)) n s) := fun s hs => by
          have := s14 (s / 20) (s % 20) (by omega) (by omega)
          rw [sq_at] at this
          exact this
        have L := L98_loop (e := e) kk14 j14 (kx := fun m17 y16 => some (y16, m17)) 400 0 FU 0 (by omega) (by unfold FU; omega)
        rw [Int.zero_add, show iz 0 = 0 from i0.symm, show nI 0 = 0 from k0.symm] at L
        have eO : OH_moved m (nI k) (nI c) (nI a) (nI b) (b2i e) = some (iz (sumN (fun s => mvI e (hisS (gI m 135 4) (gI m 135 5) (clz n X) (clz n Y) n s) (hisS (gI m 135 4) (gI m 135 5) (clz n (upz X c a)) (clz n (upz Y c b)) n s)) 0 400), m14) := by
          simp only [OH_moved, h3, bI, e3, bM, F3.N, n_ixn (show k < 2147483648 by omega), e7, n_ixn (show c < 2147483648 by omega), letM, N8, cell8 _ _ hnow, e10, e11, e14]
          rw [if_neg h6, if_neg h7, if_neg (by decide), if_pos (n_in hk (by omega)), if_pos (n_in (by omega) (by omega))]
          exact L
        have F15 := OH_moved_fr (L := W_OH_moved) (R := []) (wL_sub rfl) m _ _ _ _ _ _ eO
        have f1 : ∀ j, gI (sI m14 133 0 0) 135 j = gI m 135 j := fun j => by rw [gI_sI, if_neg (by omega)]; exact F15.I 135 j rfl
        have j1 : ∀ j, gJ (sI m14 133 0 0) 135 j = gJ m 135 j := fun j => by rw [gJ_sI]; exact F15.J 135 j rfl
        generalize hM : sI m14 133 0 0 = M at f1 j1
        have Xe : ∀ i, i < n → gI (sI (sI M 135 (14 + 24 * k + 2 * c) (nI a)) 135 (14 + 24 * k + 2 * c + 1) (nI b)) 135 (14 + 24 * k + 2 * i) = iz (upz X c a i) ∧ gI (sI (sI M 135 (14 + 24 * k + 2 * c) (nI a)) 135 (14 + 24 * k + 2 * c + 1) (nI b)) 135 (14 + 24 * k + 2 * i + 1) = iz (upz Y c b i) ∧ (0 ≤ upz X c a i ∧ upz X c a i ≤ 20) ∧ (0 ≤ upz Y c b i ∧ upz Y c b i ≤ 20) := by
          intro i hi
          obtain ⟨d1, d2, d3, d4⟩ := D.2.2.2.1 i hi
          refine ⟨?_, ?_, bX i hi, bY i hi⟩
          · rw [gI_sI, if_neg (by omega), gI_sI]
            unfold upz
            by_cases q : i = c
            · rw [if_pos (by omega), if_pos q, nI_iz]
            · rw [if_neg (by omega), if_neg q, f1, d1]
          · rw [gI_sI]
            unfold upz
            by_cases q : i = c
            · rw [if_pos (by omega), if_pos q, nI_iz]
            · rw [if_neg (by omega), if_neg q, gI_sI, if_neg (by omega), f1, d2]
        have low : ∀ u v (N : Mem) j, j < 14 → gI (sI (sI N 135 (14 + 24 * k + 2 * c) u) 135 (14 + 24 * k + 2 * c + 1) v) 135 j = gI N 135 j := fun u v N j hj => by rw [gI_sI, if_neg (by omega), gI_sI, if_neg (by omega)]
        obtain ⟨v13, m13, e13, s13, F13⟩ := maps_eqR hn3 hn hk (by rw [low _ _ _ _ (by omega), f1]; exact D.2.2.1) Xe
        rw [low _ _ _ _ (by omega), low _ _ _ _ (by omega), f1, f1] at s13
        obtain ⟨m15, e15, s15, F15'⟩ := L94_loop (x1 := nI k) (x2 := nI c) (x5 := b2i e) (x6 := gI M 135 (14 + 24 * k + 2 * c)) (x7 := gI M 135 (14 + 24 * k + 2 * c + 1)) (kx := fun m15 => bM (RM_puts m15 (nI k) (nI c) (gI M 135 (14 + 24 * k + 2 * c)) (gI M 135 (14 + 24 * k + 2 * c + 1))) fun m16 => bV (RM_maps m16 (nI k)) fun v18 m19 => RM_moved_L144 (b2i e) (fun m22 y21 => some (y21, m22)) FU m19 0 0) 400 0 FU m13 (by omega) (by unfold FU; omega) s13 (fun s hs => by omega)
        rw [show nI 0 = 0 from k0.symm] at e15
        have back : ∀ j, gI (sI (sI m15 135 (14 + 24 * k + 2 * c) (gI M 135 (14 + 24 * k + 2 * c))) 135 (14 + 24 * k + 2 * c + 1) (gI M 135 (14 + 24 * k + 2 * c + 1))) 135 j = gI m 135 j := by
          intro j
          rw [gI_sI]
          by_cases q : j = 14 + 24 * k + 2 * c + 1
          · rw [if_pos ⟨rfl, q⟩, f1, q]
          · rw [if_neg (fun z => q z.2), gI_sI]
            by_cases q2 : j = 14 + 24 * k + 2 * c
            · rw [if_pos ⟨rfl, q2⟩, f1, q2]
            · rw [if_neg (fun z => q2 z.2), F15'.I 135 j rfl, F13.I 135 j rfl, gI_sI, if_neg (fun z => q z.2), gI_sI, if_neg (fun z => q2 z.2), f1]
        have backJ : ∀ j, gJ (sI (sI m15 135 (14 + 24 * k + 2 * c) (gI M 135 (14 + 24 * k + 2 * c))) 135 (14 + 24 * k + 2 * c + 1) (gI M 135 (14 + 24 * k + 2 * c + 1))) 135 j = gJ m 135 j := by
          intro j
          rw [gJ_sI, gJ_sI, F15'.J 135 j rfl, F13.J 135 j rfl, gJ_sI, gJ_sI, j1]
        obtain ⟨v19, m19, e19, s19, F19⟩ := maps_eqR (m1 := sI (sI m15 135 (14 + 24 * k + 2 * c) (gI M 135 (14 + 24 * k + 2 * c))) 135 (14 + 24 * k + 2 * c + 1) (gI M 135 (14 + 24 * k + 2 * c + 1))) (X := X) (Y := Y) hn3 hn hk (by rw [back]; exact D.2.2.1) (fun i hi => by rw [back, back]; exact D.2.2.2.1 i hi)
        rw [back, back] at s19
        have t19 : ∀ s, s < 400 → gI m19 142 s = b2i (hisS (gI m 135 4) (gI m 135 5) (clz n (upz X c a)) (clz n (upz Y c b)) n s) := fun s hs => by
          rw [F19.I 142 s rfl, gI_sI, if_neg (by omega), gI_sI, if_neg (by omega)]
          exact s15 s hs
        have LR := L144_loop (e := e) s19 t19 (kx := fun m22 y21 => some (y21, m22)) 400 0 FU 0 (by omega) (by unfold FU; omega)
        rw [Int.zero_add, show iz 0 = 0 from i0.symm, show nI 0 = 0 from k0.symm] at LR
        have ix1 : (14 + (24 * nI k)) + (2 * nI c) = nI (14 + 24 * k + 2 * c) := by rw [k14, k24, k2, n_mul, n_mul, n_add, n_add]
        have ix2 : nI (14 + 24 * k + 2 * c) + 1 = nI (14 + 24 * k + 2 * c + 1) := by rw [k1, n_add]
        have eR : RM_moved m14 (nI k) (nI c) (nI a) (nI b) (b2i e) = some (iz (sumN (fun s => mvI e (hisS (gI m 135 4) (gI m 135 5) (clz n X) (clz n Y) n s) (hisS (gI m 135 4) (gI m 135 5) (clz n (upz X c a)) (clz n (upz Y c b)) n s)) 0 400), m19) := by
          simp only [RM_moved, letM, hM, h2 _ f1, h4 _ f1, bI, h5, ix1, ix2, letV, n_ixn (show 14 + 24 * k + 2 * c < 2147483648 by omega), n_ixn (show 14 + 24 * k + 2 * c + 1 < 2147483648 by omega), puts_eq hk (show c < 12 by omega), bM, e13, bV]
          rw [if_neg (by decide), if_neg (by decide), if_neg (by decide), if_pos (n_in (by omega) (by omega)), if_pos (n_in (by omega) (by omega))]
          simp only [puts_eq hk (show c < 12 by omega), bM, bV] at e15
          rw [e15, e19]
          exact LR
        have FR := RM_moved_fr (L := W_RM_moved) (R := []) (wL_sub rfl) m14 _ _ _ _ _ _ eR
        exact ⟨_, m14, m19, eO, eR, inv_frame (((F15.mo (wL_sub (B := (135, 999999) :: Lsc) rfl)).tr (FR.mo (wL_sub (B := (135, 999999) :: Lsc) rfl))).drop (fun j => ⟨by rw [F19.I 135 j rfl]; exact back j, by rw [F19.J 135 j rfl]; exact backJ j⟩)) h⟩

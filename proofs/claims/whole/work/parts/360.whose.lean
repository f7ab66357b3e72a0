/-! lines of the parish; whose, within -/
/-- f i + f (i + 1) + .., d of them -/
def sumN (f : Nat → Int) : Nat → Nat → Int
  | _, 0 => 0
  | i, d + 1 => f i + sumN f (i + 1) d
theorem isLine_eq {m : Mem} {n : Nat} (h : gI m 135 0 = nI n) (hn : n ≤ 3) (x : Int32) : (RM_isLine m x = some 0 ∧ (x < 0 ∨ ¬ x < 0 ∧ nI n ≤ x)) ∨ ∃ k, k < n ∧ x = nI k ∧ RM_isLine m x = some 1 := by
  have e : RM_isLine m x = if RM_isIn x 0 (nI n - 1) = 0 ∨ RM_isIn x 0 (nI n - 1) = 1 then some (RM_isIn x 0 (nI n - 1)) else none := by
    unfold RM_isLine
    rw [if_pos (by decide), show ixn 0 = 0 from rfl, h]
  rcases spl x n (by omega) with hx | ⟨hx, hx2⟩ | ⟨k, hk, rfl⟩
  · exact Or.inl ⟨by rw [e, isIn_lo hx, if_pos (Or.inl rfl)], Or.inl hx⟩
  · refine Or.inl ⟨?_, Or.inr ⟨hx, hx2⟩⟩
    have : RM_isIn x 0 (nI n - 1) = 0 := by
      rcases Nat.eq_zero_or_pos n with rfl | hp
      · unfold RM_isIn
        rw [if_neg hx, if_pos]
        rw [show (nI 0 - 1 : Int32) = -1 from rfl, Int32.lt_iff_toInt_lt]
        rw [Int32.lt_iff_toInt_lt, show (0 : Int32).toInt = 0 from rfl] at hx
        rw [show (-1 : Int32).toInt = -1 from rfl]
        omega
      · rw [k1, n_sub hp]
        exact isIn_hi (by omega) (by rw [show n - 1 + 1 = n by omega]; exact hx2)
    rw [e, this, if_pos (Or.inl rfl)]
  · refine Or.inr ⟨k, hk, rfl, ?_⟩
    have : RM_isIn (nI k) 0 (nI n - 1) = 1 := by
      rw [k1, n_sub (by omega)]
      exact isIn_in (a := 0) (Nat.zero_le _) (by omega) (by omega)
    rw [e, this, if_pos (Or.inr rfl)]
theorem hasLine_eq {m : Mem} {p n : Nat} (h : gI m p 6 = nI n) (hn : n ≤ 3) (x : Int32) : ((x < 0 ∨ ¬ x < 0 ∧ nI n ≤ x) → PH_hasLine m p x = 0) ∧ ∀ k, k < n → PH_hasLine m p (nI k) = 1 := by
  unfold PH_hasLine
  rw [h]
  refine ⟨?_, fun k hk => ?_⟩
  · rintro (hx | ⟨hx, hx2⟩)
    · rw [if_pos hx]
    · rw [if_neg hx, if_pos hx2]
  · rw [if_neg (by rw [k0, n_lt (by omega) (by omega)]; omega), if_neg (by rw [n_le (by omega) (by omega)]; omega)]
/-- what the parish tells of line k -/
def LineD (m : Mem) (k n : Nat) (X Y : Nat → Int) : Prop := 3 ≤ n ∧ n ≤ 12 ∧ gI m 135 (11 + k) = nI n ∧ (∀ i, i < n → gI m 135 (14 + 24 * k + 2 * i) = iz (X i) ∧ gI m 135 (14 + 24 * k + 2 * i + 1) = iz (Y i) ∧ (0 ≤ X i ∧ X i ≤ 20) ∧ (0 ≤ Y i ∧ Y i ≤ 20)) ∧ PolyC m (gN m 13 + 2 + 3 * k) n X Y ∧ ∀ i, i < n → ¬ (X i = X (nx n i) ∧ Y i = Y (nx n i))
theorem lineD {m : Mem} (h : Inv m) {k : Nat} (hk : k < ixn (gI m 135 0)) : ∃ n X Y, LineD m k n X Y := by
  obtain ⟨-, -, hP, hW, -⟩ := h
  obtain ⟨-, -, -, -, -, -, -, -, hL, -⟩ := hP
  obtain ⟨-, -, -, -, -, -, -, hC, -⟩ := hW
  obtain ⟨c1, c2, c3, c4⟩ := hC k hk
  obtain ⟨l1, -, l3⟩ := hL k hk
  obtain ⟨n, hn, e⟩ := c2.ex
  rw [Nat.zero_add] at e c1 c2 l1
  rw [e, n_ixn (by omega)] at c1
  refine ⟨n, rX m k, rY m k, c1, hn, e, fun i hi => ?_, ⟨by rw [l1, e], hn, fun i hi => ?_⟩, fun i hi => ?_⟩
  · have := c3 i (by rw [Nat.zero_add, e, n_ixn (by omega)]; exact hi)
    simp only [Nat.zero_add] at this
    exact ⟨(iz_of _).symm, (iz_of _).symm, ⟨this.1.1, this.1.2⟩, ⟨this.2.1, this.2.2⟩⟩
  · have := c3 i (by rw [Nat.zero_add, e, n_ixn (by omega)]; exact hi)
    have q := l3 i (by rw [Nat.zero_add, e, n_ixn (by omega)]; exact hi)
    simp only [Nat.zero_add] at this q
    refine ⟨by rw [q.1]; exact (iz_of _).symm, by rw [q.2]; exact (iz_of _).symm, ?_, ?_⟩
    · have a := this.1.1; have b := this.1.2; unfold rX; omega
    · have a := this.2.1; have b := this.2.2; unfold rY; omega
  · have := c4 i (by rw [Nat.zero_add, e, n_ixn (by omega)]; exact hi)
    simp only [Nat.zero_add, e, n_ixn (show n < 2147483648 by omega)] at this
    intro q
    exact this ⟨Int32.toInt_inj.mp q.1, Int32.toInt_inj.mp q.2⟩
theorem LineD.look {m m1 : Mem} {k n : Nat} {X Y : Nat → Int} (h : LineD m k n X Y) (hk : k < 3) (h1 : ∀ j, gI m1 135 j = gI m 135 j) :
    ∃ m2, RM_looks m1 (nI k) = some m2 ∧ PolyR m2 n (fun i => 2 * clz n X i) (fun i => 2 * clz n Y i) ∧ Frm Llk [] m1 m2 := by
  obtain ⟨a, b, c, d, -⟩ := h
  exact looks_eq b (by omega) hk (by rw [h1]; exact c) (fun j hj => by
    obtain ⟨d1, d2, d3, d4⟩ := d j hj
    rw [h1, h1]
    exact ⟨d1, d2, by omega, by omega⟩)
/-- the class's answer for a point -/
theorem ownerOf_eq {m : Mem} {k n : Nat} {X Y : Nat → Int} {x y : Int} (hW : WFs m 135 0) (hP : PRel m (gN m 13) 135 0 137 0) (h : LineD m k n X Y) (hk : k < 3) (hx : bd 100 x) (hy : bd 100 y) :
    PH_ownerOf m (gN m 13) (nI k) (iz x) (iz y) = some (b2i (hisP (gI m 135 4) (gI m 135 5) (clz n X) (clz n Y) x y n) + if onP (clz n X) (clz n Y) x y n then 2 else 0) := by
  obtain ⟨a, b, c, d, p, -⟩ := h
  have hr := rndP_bd (clz n X) (clz n Y) x y n
  unfold PH_ownerOf
  rw [if_pos (n_in hk (by omega)), n_ixn (by omega), LN_timesRound_eq p hx hy]
  simp only [bI]
  have e10 : gI m (gN m 13) 10 = gI m 135 4 := hP.2.2.2.2.1
  have e11 : gI m (gN m 13) 11 = gI m 135 5 := hP.2.2.2.2.2.1
  rw [e10, e11]
  unfold hisP
  cases ho : onP (clz n X) (clz n Y) x y n with
  | true =>
    simp only [if_true]
    have hE : isN (gI m 135 5) 1 := hW.2.2.2.2.2.1
    obtain ⟨v, hv, ev⟩ := hE.ex
    rw [ev]
    rcases (show v = 0 ∨ v = 1 by omega) with rfl | rfl <;> rfl
  | false =>
    rw [if_neg (show ¬ false = true by decide), if_neg (show ¬ false = true by decide), if_neg (by rw [i1000, iz_eq (by omega) (by omega)]; omega), OH_isHis_eq (by omega), if_neg (show ¬ false = true by decide)]
    generalize (if gI m 135 4 = 0 then decide (rndP (clz n X) (clz n Y) x y n % 2 = 1) else if gI m 135 4 = 1 then decide (rndP (clz n X) (clz n Y) x y n ≠ 0) else decide (0 < rndP (clz n X) (clz n Y) x y n)) = q
    cases q <;> rfl
theorem isPoint_eq (x y : Int32) : (OH_isPoint x y = 0 ∧ RM_isPoint x y = 0) ∨ ∃ a b : Nat, a ≤ 20 ∧ b ≤ 20 ∧ x = nI a ∧ y = nI b ∧ OH_isPoint x y = 1 ∧ RM_isPoint x y = 1 := by
  have up : ∀ z : Int32, ¬ z < 0 → nI 21 ≤ z → (20 : Int32) < z := by
    intro z h0 h1
    rw [k20, Int32.lt_iff_toInt_lt, n_toInt (by omega)]
    rw [Int32.le_iff_toInt_le, n_toInt (by omega)] at h1
    omega
  unfold OH_isPoint RM_isPoint
  rcases spl x 21 (by omega) with hx | ⟨hx, hx2⟩ | ⟨a, ha, rfl⟩
  · exact Or.inl ⟨by rw [if_pos hx], by rw [isIn_lo hx, if_pos rfl]⟩
  · exact Or.inl ⟨by rw [if_neg hx, if_pos (up x hx hx2)], by rw [k20, isIn_hi (by omega) hx2, if_pos rfl]⟩
  · have a1 : ¬ nI a < 0 := by rw [k0, n_lt (by omega) (by omega)]; omega
    have a2 : ¬ (20 : Int32) < nI a := by rw [k20, n_lt (by omega) (by omega)]; omega
    have a3 : RM_isIn (nI a) 0 20 = 1 := isIn_in (a := 0) (b := 20) (Nat.zero_le _) (by omega) (by omega)
    rw [if_neg a1, if_neg a2, a3, if_neg (show ¬ (1 : Int32) = 0 by decide)]
    rcases spl y 21 (by omega) with hx | ⟨hx, hx2⟩ | ⟨b, hb, rfl⟩
    · exact Or.inl ⟨by rw [if_pos hx], by rw [isIn_lo hx, if_pos rfl]⟩
    · exact Or.inl ⟨by rw [if_neg hx, if_pos (up y hx hx2)], by rw [k20, isIn_hi (by omega) hx2, if_pos rfl]⟩
    · have b1 : ¬ nI b < 0 := by rw [k0, n_lt (by omega) (by omega)]; omega
      have b2 : ¬ (20 : Int32) < nI b := by rw [k20, n_lt (by omega) (by omega)]; omega
      have b3 : RM_isIn (nI b) 0 20 = 1 := isIn_in (a := 0) (b := 20) (Nat.zero_le _) (by omega) (by omega)
      exact Or.inr ⟨a, b, by omega, by omega, rfl, rfl, by rw [if_neg b1, if_neg b2], by rw [b3, if_neg (show ¬ (1 : Int32) = 0 by decide)]⟩
theorem two_n (a : Nat) : 2 * nI a = iz (2 * (a : Int)) := by rw [i2, nI_iz, iz_mul]
theorem line_cases {m : Mem} (h : Inv m) (x : Int32) : (PH_hasLine m (gN m 13) x = 0 ∧ ∀ m1, gI m1 135 0 = gI m 135 0 → RM_isLine m1 x = some 0) ∨ ∃ k, k < 3 ∧ k < ixn (gI m 135 0) ∧ x = nI k ∧ PH_hasLine m (gN m 13) x = 1 ∧ ∀ m1, gI m1 135 0 = gI m 135 0 → RM_isLine m1 x = some 1 := by
  obtain ⟨n, hn, e⟩ := h.2.2.2.1.1.ex
  have e6 : gI m (gN m 13) 6 = nI n := by rw [← e]; exact h.2.2.1.1
  have hl := hasLine_eq e6 hn x
  have cg : ∀ m1, gI m1 135 0 = gI m 135 0 → RM_isLine m1 x = RM_isLine m x := by
    intro m1 q
    unfold RM_isLine
    rw [show ixn 0 = 0 from rfl, q]
  rcases isLine_eq e hn x with ⟨h1, h2⟩ | ⟨k, hk, rfl, h1⟩
  · exact Or.inl ⟨hl.1 h2, fun m1 q => (cg m1 q).trans h1⟩
  · exact Or.inr ⟨k, by omega, by rw [e, n_ixn (by omega)]; exact hk, rfl, hl.2 k hk, fun m1 q => (cg m1 q).trans h1⟩
theorem op_whose {m : Mem} (h : Inv m) (x y z : Int32) : ∃ v m2, OH_whose m x y z = some v ∧ RM_whose m x y z = some (v, m2) ∧ Inv m2 := by
  have hI : Inv (sI m 133 0 0) := inv_frame fr0 h
  have g0 : ∀ j, gI (sI m 133 0 0) 135 j = gI m 135 j := fun j => by rw [gI_sI, if_neg (by omega)]
  rcases line_cases h x with ⟨h1, h2⟩ | ⟨k, hk, hk2, rfl, h1, h2⟩
  · refine ⟨-1, sI m 133 0 0, by rw [OH_whose, h1, if_pos rfl], ?_, hI⟩
    simp only [RM_whose, letM, h2 _ (g0 0), bI, if_pos]
  · rcases isPoint_eq y z with ⟨h3, h4⟩ | ⟨a, b, ha, hb, rfl, rfl, h3, h4⟩
    · refine ⟨-1, sI m 133 0 0, by rw [OH_whose, h1, h3, if_pos rfl, ite_self], ?_, hI⟩
      simp only [RM_whose, letM, h2 _ (g0 0), bI, h4, if_pos, ite_self]
    · obtain ⟨n, X, Y, D⟩ := lineD h hk2
      obtain ⟨m2, l1, l2, F2⟩ := D.look hk g0
      obtain ⟨m3, s1, F3⟩ := isHis_eq (x := 2 * (a : Int)) (y := 2 * (b : Int)) l2 (by omega) (by omega)
      have P3 := l2.fr F3 rfl (fun _ => rfl) (fun _ => rfl)
      have ol := isOnLine_eq (x := 2 * (a : Int)) (y := 2 * (b : Int)) P3 (by omega) (by omega)
      rw [hisP_two, F2.I 135 4 rfl, F2.I 135 5 rfl, g0, g0] at s1
      rw [onP_two] at ol
      have F : Frm W_RM_whose [] m m3 := (Frm.sI (show sI m 133 0 0 = _ from rfl) rfl).tr ((F2.mo (wL_sub rfl)).tr (F3.mo (wL_sub rfl)))
      refine ⟨b2i (hisP (gI m 135 4) (gI m 135 5) (clz n X) (clz n Y) a b n) + if onP (clz n X) (clz n Y) a b n then 2 else 0, m3, ?_, ?_, inv_frame (F.mo (wL_sub rfl)) h⟩
      · rw [OH_whose, h1, h3, if_neg (by decide), if_neg (by decide), nI_iz a, nI_iz b, ownerOf_eq h.2.2.2.1 h.2.2.1 D hk (by omega) (by omega)]
        rfl
      · simp only [RM_whose, letM, h2 _ (g0 0), bI, h4, l1, bM, bV, two_n, s1, RM_whose_J46, ol]
        cases hisP (gI m 135 4) (gI m 135 5) (clz n X) (clz n Y) a b n <;> cases onP (clz n X) (clz n Y) a b n <;> rfl

theorem wi_loopC {m : Mem} {a k n k2 n2 : Nat} {X Y X2 Y2 : Nat → Int} (h : Inv m) (D : LineD m k n X Y) (D2 : LineD m k2 n2 X2 Y2) (hk : k < 3) (hk2 : k2 < 3) :
    ∀ (d i fu : Nat) (c : Int), i + d = n → d < fu → OH_within_L40 m (nI k2) (gN m 13 + 2 + 3 * k) (fun y5 => some y5) fu (iz c) (nI i) = some (iz (c + sumN (fun j => if hisP (gI m 135 4) (gI m 135 5) (clz n2 X2) (clz n2 Y2) (X j) (Y j) n2 then 1 else 0) i d))
  | 0, i, fu, c, hd, hf => by
    obtain ⟨f, rfl⟩ : ∃ f, fu = f + 1 := ⟨fu - 1, by omega⟩
    obtain rfl : i = n := by omega
    have hn := D.2.1
    rw [OH_within_L40, D.2.2.2.2.1.1, if_pos (by rw [n_le (by omega) (by omega)]; omega)]
    simp [sumN]
  | d + 1, i, fu, c, hd, hf => by
    obtain ⟨f, rfl⟩ : ∃ f, fu = f + 1 := ⟨fu - 1, by omega⟩
    have hn := D.2.1
    obtain ⟨q1, q2, q3, q4⟩ := D.2.2.2.2.1.2.2 i (by omega)
    rw [OH_within_L40, D.2.2.2.2.1.1, if_neg (by rw [n_le (by omega) (by omega)]; omega), if_pos (n_in (by omega) (by omega)), n_ixn (by omega), q1, q2, ownerOf_eq h.2.2.2.1 h.2.2.1 D2 hk2 q3 q4]
    simp only [bI, letV]
    have e : (iz c + ((b2i (hisP (gI m 135 4) (gI m 135 5) (clz n2 X2) (clz n2 Y2) (X i) (Y i) n2) + if onP (clz n2 X2) (clz n2 Y2) (X i) (Y i) n2 then 2 else 0) &&& 1)) = iz (c + if hisP (gI m 135 4) (gI m 135 5) (clz n2 X2) (clz n2 Y2) (X i) (Y i) n2 then 1 else 0) := by
      rw [← iz_add]
      congr 1
      cases hisP (gI m 135 4) (gI m 135 5) (clz n2 X2) (clz n2 Y2) (X i) (Y i) n2 <;> cases onP (clz n2 X2) (clz n2 Y2) (X i) (Y i) n2 <;> decide
    rw [e, show nI i + 1 = nI (i + 1) by rw [k1, n_add], wi_loopC (a := a) h D D2 hk hk2 d (i + 1) f _ (by omega) (by omega)]
    simp only [sumN, Int.add_assoc]
theorem wi_loopR {k n n2 : Nat} {X Y U V : Nat → Int} {lw ed : Int32} (hn : n ≤ 12) (hk : k < 3) :
    ∀ (d i fu : Nat) (c : Int) (m : Mem), i + d = n → d < fu → PolyR m n2 (fun i => 2 * U i) (fun i => 2 * V i) → gI m 135 (11 + k) = nI n → gI m 135 4 = lw → gI m 135 5 = ed → (∀ i, i < n → gI m 135 (14 + 24 * k + 2 * i) = iz (X i) ∧ gI m 135 (14 + 24 * k + 2 * i + 1) = iz (Y i) ∧ (0 ≤ X i ∧ X i ≤ 20) ∧ (0 ≤ Y i ∧ Y i ≤ 20)) →
      ∃ m', RM_within_L33 (nI k) (fun m9 y8 => some (y8, m9)) fu m (iz c) (nI i) = some (iz (c + sumN (fun j => if hisP lw ed U V (X j) (Y j) n2 then 1 else 0) i d), m')
  | 0, i, fu, c, m, hd, hf, hP, h11, hlw, hed, hX => by
    obtain ⟨f, rfl⟩ : ∃ f, fu = f + 1 := ⟨fu - 1, by omega⟩
    obtain rfl : i = n := by omega
    refine ⟨m, ?_⟩
    rw [RM_within_L33, show 11 + nI k = nI (11 + k) by rw [k11, n_add], if_pos (n_in (show 11 + k < 116 by omega) (by omega)), n_ixn (by omega), h11, if_pos (by rw [n_le (by omega) (by omega)]; omega)]
    simp [sumN]
  | d + 1, i, fu, c, m, hd, hf, hP, h11, hlw, hed, hX => by
    obtain ⟨f, rfl⟩ : ∃ f, fu = f + 1 := ⟨fu - 1, by omega⟩
    obtain ⟨q1, q2, q3, q4⟩ := hX i (by omega)
    obtain ⟨m1, s1, F⟩ := isHis_eq (x := 2 * X i) (y := 2 * Y i) hP (by omega) (by omega)
    rw [hisP_two, hlw, hed] at s1
    obtain ⟨m2, s2⟩ := wi_loopR (k := k) (X := X) (Y := Y) (U := U) (V := V) (lw := lw) (ed := ed) (n2 := n2) hn hk d (i + 1) f (c + if hisP lw ed U V (X i) (Y i) n2 then 1 else 0) m1 (by omega) (by omega) (hP.fr F rfl (fun _ => rfl) (fun _ => rfl)) (by rw [F.I 135 _ rfl]; exact h11) (by rw [F.I 135 _ rfl]; exact hlw) (by rw [F.I 135 _ rfl]; exact hed) (fun j hj => by rw [F.I 135 _ rfl, F.I 135 _ rfl]; exact hX j hj)
    refine ⟨m2, ?_⟩
    have e1 : (14 + (24 * nI k)) + (2 * nI i) = nI (14 + 24 * k + 2 * i) := by rw [k14, k24, k2, n_mul, n_mul, n_add, n_add]
    have e2 : nI (14 + 24 * k + 2 * i) + 1 = nI (14 + 24 * k + 2 * i + 1) := by rw [k1, n_add]
    rw [RM_within_L33, show 11 + nI k = nI (11 + k) by rw [k11, n_add], if_pos (n_in (show 11 + k < 116 by omega) (by omega)), n_ixn (by omega), h11, if_neg (by rw [n_le (by omega) (by omega)]; omega), e1, e2, if_pos (n_in (by omega) (by omega)), if_pos (n_in (by omega) (by omega)), n_ixn (by omega), n_ixn (by omega), q1, q2, i2, iz_mul, iz_mul, s1]
    simp only [bV, letV]
    rw [show nI i + 1 = nI (i + 1) by rw [k1, n_add]]
    have es : sumN (fun j => if hisP lw ed U V (X j) (Y j) n2 = true then 1 else 0) i (d + 1) = (if hisP lw ed U V (X i) (Y i) n2 = true then 1 else 0) + sumN (fun j => if hisP lw ed U V (X j) (Y j) n2 = true then 1 else 0) (i + 1) d := rfl
    rw [es, ← Int.add_assoc]
    cases hh : hisP lw ed U V (X i) (Y i) n2 with
    | true =>
      rw [hh] at s2
      rw [show b2i true = 1 from rfl, if_neg (by decide), i1, iz_add]
      exact s2
    | false =>
      rw [hh] at s2
      rw [show b2i false = 0 from rfl, if_pos rfl, i0, iz_add]
      exact s2
theorem op_within {m : Mem} (h : Inv m) (x y : Int32) : ∃ v m2, OH_within m x y = some v ∧ RM_within m x y = some (v, m2) ∧ Inv m2 := by
  have hI : Inv (sI m 133 0 0) := inv_frame fr0 h
  have g0 : ∀ j, gI (sI m 133 0 0) 135 j = gI m 135 j := fun j => by rw [gI_sI, if_neg (by omega)]
  rcases line_cases h x with ⟨h1, h2⟩ | ⟨k, hk, hk2, rfl, h1, h2⟩
  · refine ⟨-1, sI m 133 0 0, by rw [OH_within, h1, if_pos rfl], ?_, hI⟩
    simp only [RM_within, letM, h2 _ (g0 0), bI, if_pos]
  · rcases line_cases h y with ⟨h3, h4⟩ | ⟨k2, hq, hq2, rfl, h3, h4⟩
    · refine ⟨-1, sI m 133 0 0, by rw [OH_within, h1, h3, if_pos rfl, ite_self], ?_, hI⟩
      simp only [RM_within, letM, h2 _ (g0 0), h4 _ (g0 0), bI, if_pos, ite_self]
    · obtain ⟨n, X, Y, D⟩ := lineD h hk2
      obtain ⟨n2, X2, Y2, D2⟩ := lineD h hq2
      obtain ⟨m2, l1, l2, F2⟩ := D2.look hq g0
      have hn := D.2.1
      obtain ⟨m3, s3⟩ := wi_loopR (k := k) (X := X) (Y := Y) (U := clz n2 X2) (V := clz n2 Y2) (n2 := n2) D.2.1 hk n 0 FU 0 m2 (by omega) (by unfold FU; omega) l2 (by rw [F2.I 135 _ rfl, g0]; exact D.2.2.1) rfl rfl (fun j hj => by rw [F2.I 135 _ rfl, F2.I 135 _ rfl, g0, g0]; exact D.2.2.2.1 j hj)
      rw [F2.I 135 4 rfl, F2.I 135 5 rfl, g0, g0] at s3
      have eR : RM_within m (nI k) (nI k2) = some (iz (0 + sumN (fun j => if hisP (gI m 135 4) (gI m 135 5) (clz n2 X2) (clz n2 Y2) (X j) (Y j) n2 then 1 else 0) 0 n), m3) := by
        simp only [RM_within, letM, h2 _ (g0 0), h4 _ (g0 0), bI, l1, bM]
        rw [if_neg (by decide), if_neg (by decide)]
        exact s3
      refine ⟨_, m3, ?_, eR, inv_frame ((RM_within_fr (wL_sub rfl) m _ _ _ eR).mo (wL_sub (A := W_RM_within) rfl)) h⟩
      rw [OH_within, h1, h3, if_neg (by decide), if_neg (by decide), if_pos (n_in hk (by omega)), n_ixn (by omega)]
      exact wi_loopC (a := 0) h D D2 hk hq n 0 FU 0 (by omega) (by unfold FU; omega)

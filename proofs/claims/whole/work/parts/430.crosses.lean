/-! crosses -/
theorem ite01 {p q : Prop} [Decidable p] [Decidable q] (h : p ↔ q) : (if p then (1 : Int) else 0) = if q then 1 else 0 := by
  by_cases hp : p
  · rw [if_pos hp, if_pos (h.mp hp)]
  · rw [if_neg hp, if_neg (fun z => hp (h.mpr z))]
theorem J198_eq {kr : Int32 → Int32 → Option Int32} {kx : Int32 → Option Int32} {m : Mem} {x1 x2 x3 : Int32} {s : Int} {i : Nat} {fr v w : Int} (h1 : R31 v) (h2 : R31 (fr * w)) (h3 : R31 ((fr + 2) * w)) :
    RM_crossings_J198 kr kx m x1 x2 x3 (iz s) (nI i) (iz fr) (iz w) (iz v) = kr (iz (s + if fr * w < v ∧ v ≤ (fr + 2) * w then 1 else 0)) (nI (i + 1)) := by
  unfold RM_crossings_J198
  simp only [letV]
  rw [i2, iz_add fr, iz_mul, iz_mul, show nI i + 1 = nI (i + 1) by rw [k1, n_add], i0, i1, iz_add, iz_add]
  by_cases a : v ≤ fr * w
  · rw [if_pos (by rw [iz_le h1 h2]; exact a), if_neg (c := _ ∧ _) (by omega)]
  · rw [if_neg (by rw [iz_le h1 h2]; exact a)]
    by_cases b : (fr + 2) * w < v
    · rw [if_pos (by rw [iz_lt h3 h1]; exact b), if_neg (c := _ ∧ _) (by omega)]
    · rw [if_neg (by rw [iz_lt h3 h1]; exact b), if_pos (c := _ ∧ _) (by omega)]
theorem cE_down {ax ay bx by' r c : Int} (h : ay < by') (hr : ay ≤ r ∧ r < by') : cE ax ay bx by' r c = if 0 < tz (2 * ax) (2 * ay) (2 * bx) (2 * by') (2 * c + 1) (2 * r + 1) ∧ ¬ 0 < tz (2 * ax) (2 * ay) (2 * bx) (2 * by') (2 * (c + 1) + 1) (2 * r + 1) then 1 else 0 := by
  unfold cE
  have a1 := colz_le (ux := ax) (lx := bx) (r := r) (c := c) h
  have a2 := colz_le (ux := ax) (lx := bx) (r := r) (c := c + 1) h
  rw [if_pos h]
  by_cases q : colz ax ay bx by' r = c
  · rw [if_pos ⟨hr.1, hr.2, q⟩, if_pos ⟨a1.mp (by omega), fun z => by have := a2.mpr z; omega⟩]
  · rw [if_neg (fun z => q z.2.2), if_neg (fun z => q (by
      have b1 := a1.mpr z.1
      have b2 : ¬ c + 1 ≤ colz ax ay bx by' r := fun y => z.2 (a2.mp y)
      omega))]
theorem J135_eq {kr : Int32 → Int32 → Option Int32} {kx : Int32 → Option Int32} {m : Mem} {x1 x2 x3 : Int32} {s ax ay bx by' r c : Int} {i : Nat} (h1 : 0 ≤ ax ∧ ax ≤ 20) (h2 : 0 ≤ ay ∧ ay ≤ 20) (h3 : 0 ≤ bx ∧ bx ≤ 20) (h4 : 0 ≤ by' ∧ by' ≤ 20) (h5 : 0 ≤ r ∧ r ≤ 19) (h6 : 0 ≤ c ∧ c ≤ 19) :
    RM_crossings_J135 kr kx m x1 x2 x3 (iz s) (nI i) (iz (2 * ax)) (iz (2 * ay)) (iz (2 * bx)) (iz (2 * by')) (iz (2 * c + 1)) (iz (2 * r + 1)) = kr (iz (s + cE ax ay bx by' r c)) (nI (i + 1)) := by
  have p1 := mbd (a := 2 * ax) (b := 2 * by' - 2 * ay) (A := 40) (B := 40) (by omega) (by omega)
  have p2 := mbd (a := 2 * r + 1 - 2 * ay) (b := 2 * bx - 2 * ax) (A := 40) (B := 40) (by omega) (by omega)
  have p3 := mbd (a := 2 * c + 1) (b := 2 * by' - 2 * ay) (A := 40) (B := 40) (by omega) (by omega)
  have p4 := mbd (a := 2 * c + 1 + 2) (b := 2 * by' - 2 * ay) (A := 42) (B := 40) (by omega) (by omega)
  simp only [RM_crossings_J135, letV]
  rw [iz_sub, isBetween_eq (by omega) (by omega) (by omega), iz_mul, iz_sub, iz_sub, iz_mul, iz_add, iz_neg, iz_neg]
  simp only [bI]
  have e0 : (iz (2 * by' - 2 * ay) = 0) ↔ by' = ay := by rw [i0, iz_eq (by omega) (by omega)]; omega
  have e1 : ((0 : Int32) ≤ iz (2 * by' - 2 * ay)) ↔ ay ≤ by' := by rw [i0, iz_le (by omega) (by omega)]; omega
  simp only [e0, e1, show nI i + 1 = nI (i + 1) by rw [k1, n_add]]
  by_cases a : by' = ay
  · rw [if_pos a]
    have : cE ax ay bx by' r c = 0 := by unfold cE; rw [if_neg (by omega), if_neg (by omega)]
    rw [this, Int.add_zero]
  · rw [if_neg a]
    by_cases b : (ay ≤ r ∧ r < by') ∨ (by' ≤ r ∧ r < ay)
    · have hb : btw (2 * r + 1) (2 * ay) (2 * by') = true := by unfold btw; rw [decide_eq_true_eq]; omega
      rw [hb, if_neg (by decide)]
      rcases b with b | b
      · rw [if_pos (by omega), J198_eq (by omega) (by omega) (by omega), cE_down (by omega) b]
        congr 3
        have t1 : tz (2 * ax) (2 * ay) (2 * bx) (2 * by') (2 * c + 1) (2 * r + 1) = 2 * ax * (2 * by' - 2 * ay) + (2 * r + 1 - 2 * ay) * (2 * bx - 2 * ax) - (2 * c + 1) * (2 * by' - 2 * ay) := by unfold tz; grind
        have t2 : tz (2 * ax) (2 * ay) (2 * bx) (2 * by') (2 * (c + 1) + 1) (2 * r + 1) = 2 * ax * (2 * by' - 2 * ay) + (2 * r + 1 - 2 * ay) * (2 * bx - 2 * ax) - (2 * c + 1 + 2) * (2 * by' - 2 * ay) := by unfold tz; grind
        rw [t1, t2]
        exact ite01 (by omega)
      · have n1 : (2 * c + 1) * -(2 * by' - 2 * ay) = -((2 * c + 1) * (2 * by' - 2 * ay)) := Int.mul_neg _ _
        have n2 : (2 * c + 1 + 2) * -(2 * by' - 2 * ay) = -((2 * c + 1 + 2) * (2 * by' - 2 * ay)) := Int.mul_neg _ _
        rw [if_neg (by omega), J198_eq (by omega) (by rw [n1]; omega) (by rw [n2]; omega)]
        have ec : cE ax ay bx by' r c = cE bx by' ax ay r c := by
          unfold cE; rw [if_neg (show ¬ ay < by' by omega), if_pos (show by' < ay by omega)]
        rw [ec, cE_down (by omega) b]
        congr 3
        have t1 : tz (2 * bx) (2 * by') (2 * ax) (2 * ay) (2 * c + 1) (2 * r + 1) = -(2 * ax * (2 * by' - 2 * ay) + (2 * r + 1 - 2 * ay) * (2 * bx - 2 * ax) - (2 * c + 1) * (2 * by' - 2 * ay)) := by unfold tz; grind
        have t2 : tz (2 * bx) (2 * by') (2 * ax) (2 * ay) (2 * (c + 1) + 1) (2 * r + 1) = -(2 * ax * (2 * by' - 2 * ay) + (2 * r + 1 - 2 * ay) * (2 * bx - 2 * ax) - (2 * c + 1 + 2) * (2 * by' - 2 * ay)) := by unfold tz; grind
        rw [t1, t2, n1, n2]
        exact ite01 (by omega)
    · have hb : btw (2 * r + 1) (2 * ay) (2 * by') = false := by unfold btw; exact decide_eq_false (by omega)
      have : cE ax ay bx by' r c = 0 := by
        unfold cE
        split
        · rw [if_neg (by omega)]
        · rw [if_neg (by omega)]
      rw [hb, if_pos (by decide), this, Int.add_zero]
/-- how often the way east (e) or south from the middle of square r, c is crossed -/
def crv (U V : Nat → Int) (n : Nat) (e : Bool) (r c : Int) : Int := if e then sE U V r c n else sE V U c r n
theorem xg_loop {m : Mem} {n : Nat} {U V : Nat → Int} {r c : Int} {e : Bool} {kx : Int32 → Option Int32} (h : PolyR m n (fun i => 2 * U i) (fun i => 2 * V i)) (hU : ∀ i, i ≤ n → 0 ≤ U i ∧ U i ≤ 20) (hV : ∀ i, i ≤ n → 0 ≤ V i ∧ V i ≤ 20) (h5 : 0 ≤ r ∧ r ≤ 19) (h6 : 0 ≤ c ∧ c ≤ 19) :
    ∀ (d i fu : Nat), i + d = n → d < fu → RM_crossings_L6 m (iz (2 * c + 1)) (iz (2 * r + 1)) (b2i e) kx fu (iz (crv U V i e r c)) (nI i) = kx (iz (crv U V n e r c))
  | 0, i, fu, hd, hf => by
    obtain ⟨f, rfl⟩ : ∃ f, fu = f + 1 := ⟨fu - 1, by omega⟩
    have hn := h.2.1
    obtain rfl : i = n := by omega
    rw [RM_crossings_L6, h.1, if_pos (by rw [n_le (by omega) (by omega)]; omega)]
  | d + 1, i, fu, hd, hf => by
    obtain ⟨f, rfl⟩ : ∃ f, fu = f + 1 := ⟨fu - 1, by omega⟩
    have hn := h.2.1
    obtain ⟨a1, a2, -, -⟩ := h.2.2 i (by omega)
    obtain ⟨b1, b2, -, -⟩ := h.2.2 (i + 1) (by omega)
    have u1 := hU i (by omega); have u2 := hU (i + 1) (by omega); have v1 := hV i (by omega); have v2 := hV (i + 1) (by omega)
    rw [RM_crossings_L6, h.1, if_neg (by rw [n_le (by omega) (by omega)]; omega)]
    have ei : nI i + 1 = nI (i + 1) := by rw [k1, n_add]
    simp only [RM_crossings_J36, RM_crossings_J59, RM_crossings_J86, RM_crossings_J113, RM_crossings_J124, ei, n_ixn (show i < 2147483648 by omega), n_ixn (show i + 1 < 2147483648 by omega), if_pos (n_in (show i < 13 by omega) (by omega)), if_pos (n_in (show i + 1 < 13 by omega) (by omega)), a1, a2, b1, b2]
    cases e with
    | true =>
      simp only [if_neg (show ¬ b2i true = 0 by decide)]
      rw [J135_eq u1 v1 u2 v2 h5 h6]
      exact xg_loop (e := true) h hU hV h5 h6 d (i + 1) f (by omega) (by omega)
    | false =>
      simp only [if_pos (show b2i false = 0 by decide)]
      rw [J135_eq v1 u1 v2 u2 h6 h5]
      exact xg_loop (e := false) h hU hV h5 h6 d (i + 1) f (by omega) (by omega)
theorem crossings_eq {m : Mem} {n : Nat} {U V : Nat → Int} {r c : Nat} {e : Bool} (h : PolyR m n (fun i => 2 * U i) (fun i => 2 * V i)) (hU : ∀ i, i ≤ n → 0 ≤ U i ∧ U i ≤ 20) (hV : ∀ i, i ≤ n → 0 ≤ V i ∧ V i ≤ 20) (hr : r < 20) (hc : c < 20) :
    RM_crossings m (2 * nI c + 1) (2 * nI r + 1) (b2i e) = some (iz (crv U V n e r c)) := by
  have hn := h.2.1
  have := xg_loop (e := e) (kx := fun y1 => some y1) (r := r) (c := c) h hU hV (by omega) (by omega) n 0 FU (by omega) (by unfold FU; omega)
  have e0 : crv U V 0 e r c = 0 := by cases e <;> rfl
  rw [e0, show iz 0 = 0 from i0.symm, show nI 0 = 0 from k0.symm] at this
  unfold RM_crossings
  rw [two_n, two_n, i1, iz_add, iz_add]
  exact this
/-- a step from square s: which square's way it is -/
def stq (s d : Nat) : Nat := if d = 0 ∨ d = 3 then (nb s d).getD 0 else s
def stv (U V : Nat → Int) (n s d : Nat) : Int := crv U V n (decide (d % 2 = 1)) ((stq s d / 20 : Nat) : Int) ((stq s d % 20 : Nat) : Int)
theorem stq_lt {s d : Nat} (hs : s < 400) : stq s d < 400 := by
  unfold stq
  split
  · cases h : nb s d with
    | none => simp
    | some t => simpa using nb_lt hs h
  · exact hs
theorem stq_min {s d t : Nat} (hs : s < 400) (hd : d < 4) (h : nb s d = some t) : stq s d = if t < s then t else s := by
  have key : ∀ s, s < 400 → ∀ d, d < 4 → ∀ t, nb s d = some t → stq s d = if t < s then t else s := by
    intro s hs d hd t h
    unfold stq
    rw [h]
    unfold nb at h
    rcases (show d = 0 ∨ d = 1 ∨ d = 2 ∨ d = 3 by omega) with rfl | rfl | rfl | rfl <;> simp at h ⊢ <;> omega
  exact key s hs d hd t h
theorem crossed_eq {m : Mem} {g n s d : Nat} {U V : Nat → Int} {T O : Int → Int → Int} (hG : GRel m g (fun r c => sE U V r c n) (fun r c => sE V U c r n) T O) (hs : s < 400) (hd : d < 4) :
    GR_crossed m g (nI s) (nI d) = some (match nb s d with
      | none => -1
      | some _ => iz (stv U V n s d)) := by
  simp only [GR_crossed, letV]
  rw [step_nb hs hd]
  cases hb : nb s d with
  | none => rfl
  | some t =>
    have ht := nb_lt hs hb
    have hq := stq_min hs hd hb
    have hql := stq_lt (s := s) (d := d) hs
    have em : JM_min (nI s) (nI t) = nI (stq s d) := by
      unfold JM_min
      rw [hq]
      by_cases z : t < s
      · rw [if_pos (by rw [n_lt (by omega) (by omega)]; exact z), if_pos z]
      · rw [if_neg (by rw [n_lt (by omega) (by omega)]; exact z), if_neg z]
    have q := hG (stq s d / 20) (stq s d % 20) (by omega) (by omega)
    rw [sq_at] at q
    rw [show enc (some t) = nI t from rfl, if_pos (by rw [k0, n_le (by omega) (by omega)]; omega), em]
    have hin : inb (nI (stq s d)) 400 := n_in hql (by omega)
    simp only [GR_crossed_J29, if_pos hin]
    rw [n_ixn (by omega), q.1, q.2.1]
    have d1 : (nI d = 1) ↔ d = 1 := by rw [k1, n_eq (by omega) (by omega)]
    have d3 : (nI d = 3) ↔ d = 3 := by rw [k3, n_eq (by omega) (by omega)]
    simp only [d1, d3]
    unfold stv crv
    rcases (show d = 0 ∨ d = 1 ∨ d = 2 ∨ d = 3 by omega) with rfl | rfl | rfl | rfl <;> simp
theorem crossesOf_eq {m : Mem} {n s d : Nat} {U V : Nat → Int} (h : PolyR m n (fun i => 2 * U i) (fun i => 2 * V i)) (hU : ∀ i, i ≤ n → 0 ≤ U i ∧ U i ≤ 20) (hV : ∀ i, i ≤ n → 0 ≤ V i ∧ V i ≤ 20) (hs : s < 400) (hd : d < 4) {t : Nat} (hb : nb s d = some t) :
    RM_crossesOf m (nI s) (nI d) = some (iz (stv U V n s d)) := by
  have hql := stq_lt (s := s) (d := d) hs
  have J : ∀ q, q = stq s d → RM_crossesOf_J18 m (nI d) (nI q) = some (iz (stv U V n s d)) := by
    intro q hq
    subst hq
    unfold RM_crossesOf_J18 RM_crossesOf_J48
    rw [k20, irm_n (by omega) (by omega) (by omega), div_n (by omega) (by omega) (by omega), k2, irm_n (by omega) (by omega) (by omega)]
    have e1 := crossings_eq (e := true) (r := stq s d / 20) (c := stq s d % 20) h hU hV (by omega) (by omega)
    have e2 := crossings_eq (e := false) (r := stq s d / 20) (c := stq s d % 20) h hU hV (by omega) (by omega)
    rw [show b2i true = 1 from rfl, k2] at e1
    rw [show b2i false = 0 from rfl, k2] at e2
    rw [e1, e2]
    have d1 : (nI (d % 2) = 1) ↔ d % 2 = 1 := by rw [k1, n_eq (by omega) (by omega)]
    simp only [d1, bI]
    unfold stv
    by_cases z : d % 2 = 1
    · rw [if_pos z, decide_eq_true z]
    · rw [if_neg z, decide_eq_false z]
  have d0 : (nI d = 0) ↔ d = 0 := by rw [k0, n_eq (by omega) (by omega)]
  have d3 : (nI d = 3) ↔ d = 3 := by rw [k3, n_eq (by omega) (by omega)]
  unfold RM_crossesOf RM_crossesOf_J9
  rw [beside_nb hs hd, hb]
  simp only [d0, d3]
  by_cases z : d = 0
  · rw [if_pos z]; exact J t (by unfold stq; rw [if_pos (Or.inl z), hb]; rfl)
  · rw [if_neg z]
    by_cases z3 : d = 3
    · rw [if_pos z3]; exact J t (by unfold stq; rw [if_pos (Or.inr z3), hb]; rfl)
    · rw [if_neg z3]; exact J s (by unfold stq; rw [if_neg (by omega)])
theorem clz_bx {n : Nat} {X : Nat → Int} (h0 : 0 < n) (h : ∀ i, i < n → 0 ≤ X i ∧ X i ≤ 20) (i : Nat) : 0 ≤ clz n X i ∧ clz n X i ≤ 20 := clz_box h (fun q => by omega) i
theorem op_crosses {m : Mem} (h : Inv m) (x y z w : Int32) : ∃ v m1 m2, OH_crosses m x y z w = some (v, m1) ∧ RM_crosses m1 x y z w = some (v, m2) ∧ Inv m2 := by
  have hI : Inv (sI m 133 0 0) := inv_frame fr0 h
  have g0 : ∀ j, gI (sI m 133 0 0) 135 j = gI m 135 j := fun j => by rw [gI_sI, if_neg (by omega)]
  rcases line_cases h x with ⟨h1, h2⟩ | ⟨k, hk, hk2, rfl, h1, h2⟩
  · refine ⟨-1, m, sI m 133 0 0, by rw [OH_crosses, h1, if_pos rfl], ?_, hI⟩
    simp only [RM_crosses, letM, h2 _ (g0 0), bI, if_pos]
  · rcases isSquare_eq y z with ⟨h3, h4⟩ | ⟨a, b, ha, hb, rfl, rfl, h3, h4⟩
    · refine ⟨-1, m, sI m 133 0 0, by rw [OH_crosses, h1, h3, if_pos rfl, ite_self], ?_, hI⟩
      simp only [RM_crosses, letM, h2 _ (g0 0), bI, h4, if_pos, ite_self]
    · obtain ⟨n, X, Y, D⟩ := lineD h hk2
      obtain ⟨m1, e1, s1, G1, F1⟩ := OH_survey_eq h hk D
      have f1 : ∀ j, gI (sI m1 133 0 0) 135 j = gI m 135 j := fun j => by rw [gI_sI, if_neg (by omega), F1.I 135 j rfl]
      have sq : (20 * nI b) + nI a = nI (20 * b + a) := by rw [k20, n_mul, n_add]
      have hI1 : Inv (sI m1 133 0 0) := inv_frame ((F1.mo (wL_sub rfl)).tr fr0) h
      have bad : (¬ ∃ d, d < 4 ∧ w = nI d) → OH_crosses m (nI k) (nI a) (nI b) w = some (-1, m1) := by
        intro hw
        have hst : OH_stepFrom (nI (20 * b + a)) w = -1 := by
          unfold OH_stepFrom
          rw [if_neg (show ¬ w = 0 from fun q => hw ⟨0, by omega, q⟩), if_neg (show ¬ w = 1 from fun q => hw ⟨1, by omega, q⟩), if_neg (show ¬ w = 2 from fun q => hw ⟨2, by omega, q⟩), if_neg (show ¬ w = 3 from fun q => hw ⟨3, by omega, q⟩)]
        rw [OH_crosses, h1, h3, if_neg (by decide), if_neg (by decide), e1]
        simp only [bM, squareAt_n, GR_crossed, letV, hst]
        rfl
      rcases spl w 4 (by omega) with hx | ⟨hx, hx2⟩ | ⟨d, hd, rfl⟩
      · refine ⟨-1, m1, sI m1 133 0 0, bad ?_, ?_, hI1⟩
        · rintro ⟨d, hd, rfl⟩; rw [k0, n_lt (by omega) (by omega)] at hx; omega
        · simp only [RM_crosses, letM, h2 _ (f1 0), bI, h4, isIn_lo hx, if_pos, ite_self]
      · refine ⟨-1, m1, sI m1 133 0 0, bad ?_, ?_, hI1⟩
        · rintro ⟨d, hd, rfl⟩; rw [n_le (by omega) (by omega)] at hx2; omega
        · have e : RM_isIn w 0 3 = 0 := by rw [k3]; exact isIn_hi (n := 3) (by omega) hx2
          simp only [RM_crosses, letM, h2 _ (f1 0), bI, h4, e, if_pos, ite_self]
      · have eb : RM_isIn (nI d) 0 3 = 1 := isIn_in (a := 0) (b := 3) (Nat.zero_le _) (by omega) (by omega)
        have ec := crossed_eq G1 (show 20 * b + a < 400 by omega) hd
        have eO : OH_crosses m (nI k) (nI a) (nI b) (nI d) = some ((match nb (20 * b + a) d with
          | none => -1
          | some _ => iz (stv (clz n X) (clz n Y) n (20 * b + a) d)), m1) := by
          rw [OH_crosses, h1, h3, if_neg (by decide), if_neg (by decide), e1]
          simp only [bM, squareAt_n, ec, bI]
        cases hn : nb (20 * b + a) d with
        | none =>
          rw [hn] at eO
          refine ⟨_, m1, sI m1 133 0 0, eO, ?_, hI1⟩
          simp only [RM_crosses, letM, h2 _ (f1 0), bI, h4, eb, sq]
          rw [beside_nb (by omega) hd, hn]
          rfl
        | some t =>
          rw [hn] at eO
          obtain ⟨m2, l1, l2, F2⟩ := D.look hk f1
          have h0 : 0 < n := by have := D.1; omega
          have ex := crossesOf_eq (s := 20 * b + a) (d := d) l2 (fun i _ => clz_bx h0 (fun i hi => (D.2.2.2.1 i hi).2.2.1) i) (fun i _ => clz_bx h0 (fun i hi => (D.2.2.2.1 i hi).2.2.2) i) (by omega) hd hn
          have eR : RM_crosses m1 (nI k) (nI a) (nI b) (nI d) = some (iz (stv (clz n X) (clz n Y) n (20 * b + a) d), m2) := by
            simp only [RM_crosses, letM, h2 _ (f1 0), bI, h4, eb, sq]
            rw [beside_nb (by omega) hd, hn, show enc (some t) = nI t from rfl, if_neg (by decide), if_neg (by decide), if_neg (by decide), if_pos (by rw [k0, n_le (by omega) (by have := nb_lt (show 20 * b + a < 400 by omega) hn; omega)]; omega), l1]
            simp only [bM, ex]
          exact ⟨_, m1, m2, eO, eR, inv_frame ((F1.mo (wL_sub rfl)).tr ((RM_crosses_fr (wL_sub rfl) m1 _ _ _ _ _ eR).mo (wL_sub (A := W_RM_crosses) rfl))) h⟩

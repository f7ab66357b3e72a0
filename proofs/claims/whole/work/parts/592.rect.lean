/-! rectangle: its corners, and whose a point is by it -/
def rU (x1 x2 : Int) (i : Nat) : Int := if i = 1 ∨ i = 2 then x2 else x1
def rV (y1 y2 : Int) (i : Nat) : Int := if i = 2 ∨ i = 3 then y2 else y1
theorem mul0 {a b : Int} (ha : 0 < a) : a * b = 0 ↔ b = 0 := by
  constructor
  · intro h
    rcases Int.mul_eq_zero.mp h with z | z
    · omega
    · exact z
  · intro h; rw [h, Int.mul_zero]
theorem mulp {a b : Int} (ha : 0 < a) : 0 < a * b ↔ 0 < b := by
  constructor
  · intro h
    by_cases z : 0 < b
    · exact z
    · have := Int.mul_le_mul_of_nonneg_left (show b ≤ 0 by omega) (show 0 ≤ a by omega)
      rw [Int.mul_zero] at this
      omega
  · intro h; exact Int.mul_pos ha h
theorem muln {a b : Int} (ha : 0 < a) : a * b < 0 ↔ b < 0 := by
  have := mulp (b := -b) ha
  rw [Int.mul_neg] at this
  omega
theorem rect_on {x1 y1 x2 y2 x y : Int} (hx : x1 < x2) (hy : y1 < y2) : onP (rU x1 x2) (rV y1 y2) x y 4 = decide ((x1 ≤ x ∧ x ≤ x2 ∧ y1 ≤ y ∧ y ≤ y2) ∧ (x = x1 ∨ x = x2 ∨ y = y1 ∨ y = y2)) := by
  have t0 : tz x1 y1 x2 y1 x y = (x2 - x1) * (y - y1) := by unfold tz; grind
  have t1 : tz x2 y1 x2 y2 x y = (y2 - y1) * (x2 - x) := by unfold tz; grind
  have t2 : tz x2 y2 x1 y2 x y = (x2 - x1) * (y2 - y) := by unfold tz; grind
  have t3 : tz x1 y2 x1 y1 x y = (y2 - y1) * (x - x1) := by unfold tz; grind
  have u : rU x1 x2 0 = x1 ∧ rU x1 x2 1 = x2 ∧ rU x1 x2 2 = x2 ∧ rU x1 x2 3 = x1 ∧ rU x1 x2 4 = x1 := ⟨rfl, rfl, rfl, rfl, rfl⟩
  have v : rV y1 y2 0 = y1 ∧ rV y1 y2 1 = y1 ∧ rV y1 y2 2 = y2 ∧ rV y1 y2 3 = y2 ∧ rV y1 y2 4 = y1 := ⟨rfl, rfl, rfl, rfl, rfl⟩
  obtain ⟨u0, u1, u2, u3, u4⟩ := u
  obtain ⟨v0, v1, v2, v3, v4⟩ := v
  rw [Bool.eq_iff_iff, decide_eq_true_iff]
  simp only [onP, onZ, btw, u0, u1, u2, u3, u4, v0, v1, v2, v3, v4, t0, t1, t2, t3, Bool.or_eq_true, Bool.and_eq_true, decide_eq_true_eq, mul0 (show 0 < x2 - x1 by omega), mul0 (show 0 < y2 - y1 by omega)]
  simp only [Bool.false_eq_true, false_or]
  omega
theorem rect_rnd {x1 y1 x2 y2 x y : Int} (hx : x1 < x2) (hy : y1 < y2) : rndP (rU x1 x2) (rV y1 y2) x y 4 = if y1 ≤ y ∧ y < y2 ∧ x1 ≤ x ∧ x < x2 then 1 else 0 := by
  have t1 : tz x2 y1 x2 y2 x y = (y2 - y1) * (x2 - x) := by unfold tz; grind
  have t3 : tz x1 y2 x1 y1 x y = (y2 - y1) * (x - x1) := by unfold tz; grind
  have u : rU x1 x2 0 = x1 ∧ rU x1 x2 1 = x2 ∧ rU x1 x2 2 = x2 ∧ rU x1 x2 3 = x1 ∧ rU x1 x2 4 = x1 := ⟨rfl, rfl, rfl, rfl, rfl⟩
  have v : rV y1 y2 0 = y1 ∧ rV y1 y2 1 = y1 ∧ rV y1 y2 2 = y2 ∧ rV y1 y2 3 = y2 ∧ rV y1 y2 4 = y1 := ⟨rfl, rfl, rfl, rfl, rfl⟩
  obtain ⟨u0, u1, u2, u3, u4⟩ := u
  obtain ⟨v0, v1, v2, v3, v4⟩ := v
  have a0 : r1 x1 y1 x2 y1 x y = 0 := by unfold r1; rw [if_neg (by omega), if_neg (by omega)]
  have a2 : r1 x2 y2 x1 y2 x y = 0 := by unfold r1; rw [if_neg (by omega), if_neg (by omega)]
  have a1 : r1 x2 y1 x2 y2 x y = if y1 ≤ y ∧ y < y2 ∧ x < x2 then 1 else 0 := by
    unfold r1
    simp only [t1, mulp (show 0 < y2 - y1 by omega)]
    by_cases q : y1 ≤ y ∧ y < y2
    · rw [if_pos q]
      by_cases w : x < x2
      · rw [if_pos (by omega), if_pos (by omega)]
      · rw [if_neg (by omega), if_neg (by omega)]
    · rw [if_neg q, if_neg (by omega), if_neg (by omega)]
  have a3 : r1 x1 y2 x1 y1 x y = if y1 ≤ y ∧ y < y2 ∧ x < x1 then -1 else 0 := by
    unfold r1
    simp only [t3, muln (show 0 < y2 - y1 by omega)]
    rw [if_neg (show ¬ (y2 ≤ y ∧ y < y1) by omega)]
    by_cases q : y1 ≤ y ∧ y < y2
    · rw [if_pos q]
      by_cases w : x < x1
      · rw [if_pos (by omega), if_pos (by omega)]
      · rw [if_neg (by omega), if_neg (by omega)]
    · rw [if_neg q, if_neg (by omega)]
  simp only [rndP, u0, u1, u2, u3, u4, v0, v1, v2, v3, v4, a0, a1, a2, a3]
  split <;> split <;> split <;> omega
/-- by the rectangle, with v = 1 - edge -/
def inR (v x1 y1 x2 y2 x y : Nat) : Bool := decide (x1 + v ≤ x ∧ x + v ≤ x2 ∧ y1 + v ≤ y ∧ y + v ≤ y2)
theorem rect_his {x1 y1 x2 y2 x y v : Nat} {lw ed : Int32} (hx : x1 < x2) (hy : y1 < y2) (hv : (v = 0 ∧ ed = 1) ∨ (v = 1 ∧ ed = 0)) : hisP lw ed (rU x1 x2) (rV y1 y2) x y 4 = inR v x1 y1 x2 y2 x y := by
  unfold hisP inR
  rw [rect_on (by omega) (by omega), rect_rnd (by omega) (by omega)]
  by_cases q : ((x1 : Int) ≤ x ∧ (x : Int) ≤ x2 ∧ (y1 : Int) ≤ y ∧ (y : Int) ≤ y2) ∧ ((x : Int) = x1 ∨ (x : Int) = x2 ∨ (y : Int) = y1 ∨ (y : Int) = y2)
  · rw [decide_eq_true q, if_pos rfl]
    rcases hv with ⟨rfl, rfl⟩ | ⟨rfl, rfl⟩
    · rw [decide_eq_true rfl, eq_comm, decide_eq_true_iff]; omega
    · rw [decide_eq_false (by decide), eq_comm, decide_eq_false_iff_not]; omega
  · rw [decide_eq_false q, if_neg (by simp)]
    have key : (x1 + v ≤ x ∧ x + v ≤ x2 ∧ y1 + v ≤ y ∧ y + v ≤ y2) ↔ ((y1 : Int) ≤ y ∧ (y : Int) < y2 ∧ (x1 : Int) ≤ x ∧ (x : Int) < x2) := by
      rcases hv with ⟨rfl, rfl⟩ | ⟨rfl, rfl⟩ <;> omega
    by_cases w : ((y1 : Int) ≤ y ∧ (y : Int) < y2 ∧ (x1 : Int) ≤ x ∧ (x : Int) < x2)
    · rw [if_pos w, decide_eq_true (key.mpr w)]
      split
      · decide
      · split <;> decide
    · rw [if_neg w, decide_eq_false (fun z => w (key.mp z))]
      split
      · decide
      · split <;> decide
theorem fr_loop {m : Mem} {N v x1 y1 x2 y2 : Nat} {b : Nat → Nat} (hb : ∀ i, i < 3 * N → okP b i) (hN : N ≤ 8) (hv : v ≤ 1) (h1 : x1 < x2) (h2 : x2 ≤ 20) (h3 : y1 < y2) (h4 : y2 ≤ 20) (h36 : gI m 36 2 = nI N) (hp : ∀ i, i < N → gI m 37 i = nI (b (3 * i)) ∧ gI m 38 i = nI (b (3 * i + 1)) ∧ gI m 39 i = nI (b (3 * i + 2))) : ∀ (d j fu : Nat), j + d = N → d < fu →
    PT_fitRectangle_L11 m (nI x1) (nI y1) (nI x2) (nI y2) (nI v) (some 1) fu (nI j) = some (b2i (soB b (inR v x1 y1 x2 y2) d j))
  | 0, j, fu, hd, hf => by
    obtain ⟨f, rfl⟩ : ∃ f, fu = f + 1 := ⟨fu - 1, by omega⟩
    rw [PT_fitRectangle_L11, h36, if_pos (by rw [n_le (by omega) (by omega)]; omega)]; rfl
  | d + 1, j, fu, hd, hf => by
    obtain ⟨f, rfl⟩ : ∃ f, fu = f + 1 := ⟨fu - 1, by omega⟩
    obtain ⟨o1, o2, o3⟩ := okP3 hb (show j < N by omega)
    obtain ⟨p1, p2, p3⟩ := hp j (by omega)
    have ej : nI j + 1 = nI (j + 1) := by rw [k1, n_add]
    have J : ∀ s : Bool, PT_fitRectangle_J82 (PT_fitRectangle_L11 m (nI x1) (nI y1) (nI x2) (nI y2) (nI v) (some 1) f) (some 1) m (nI x1) (nI y1) (nI x2) (nI y2) (nI v) (nI j) (b2i s) = if s = decide (b (3 * j + 2) = 1) then PT_fitRectangle_L11 m (nI x1) (nI y1) (nI x2) (nI y2) (nI v) (some 1) f (nI (j + 1)) else some 0 := by
      intro s
      rw [PT_fitRectangle_J82, if_pos (n_in (by omega) (by omega)), n_ixn (by omega), p3, PT_fitRectangle_J102, PT_fitRectangle_J102, ej]
      rcases (show b (3 * j + 2) = 0 ∨ b (3 * j + 2) = 1 by omega) with z | z
      · rw [z, if_neg (by decide)]; cases s <;> rfl
      · rw [z, if_pos (by decide)]; cases s <;> rfl
    have c1 : (nI (b (3 * j)) < nI x1 + nI v) ↔ b (3 * j) < x1 + v := by rw [n_add, n_lt (by omega) (by omega)]
    have c2 : (nI x2 - nI v < nI (b (3 * j))) ↔ x2 < b (3 * j) + v := by rw [n_sub (by omega), n_lt (by omega) (by omega)]; omega
    have c3 : (nI (b (3 * j + 1)) < nI y1 + nI v) ↔ b (3 * j + 1) < y1 + v := by rw [n_add, n_lt (by omega) (by omega)]
    have c4 : (nI y2 - nI v < nI (b (3 * j + 1))) ↔ y2 < b (3 * j + 1) + v := by rw [n_sub (by omega), n_lt (by omega) (by omega)]; omega
    have e0 : PT_fitRectangle_L11 m (nI x1) (nI y1) (nI x2) (nI y2) (nI v) (some 1) (f + 1) (nI j) = PT_fitRectangle_J82 (PT_fitRectangle_L11 m (nI x1) (nI y1) (nI x2) (nI y2) (nI v) (some 1) f) (some 1) m (nI x1) (nI y1) (nI x2) (nI y2) (nI v) (nI j) (b2i (inR v x1 y1 x2 y2 (b (3 * j)) (b (3 * j + 1)))) := by
      rw [PT_fitRectangle_L11, h36, if_neg (by rw [n_le (by omega) (by omega)]; omega), if_pos (n_in (by omega) (by omega)), n_ixn (by omega), p1, p2]
      simp only [c1, c2, c3, c4]
      unfold inR
      by_cases q1 : b (3 * j) < x1 + v
      · rw [if_pos q1, decide_eq_false (by omega)]; rfl
      · rw [if_neg q1]
        by_cases q2 : x2 < b (3 * j) + v
        · rw [if_pos q2, decide_eq_false (by omega)]; rfl
        · rw [if_neg q2]
          by_cases q3 : b (3 * j + 1) < y1 + v
          · rw [if_pos q3, decide_eq_false (by omega)]; rfl
          · rw [if_neg q3]
            by_cases q4 : y2 < b (3 * j + 1) + v
            · rw [if_pos q4, decide_eq_false (by omega)]; rfl
            · rw [if_neg q4, decide_eq_true (by omega)]; rfl
    rw [e0, J, fr_loop hb hN hv h1 h2 h3 h4 h36 hp d (j + 1) f (by omega) (by omega)]
    simp only [soB]
    by_cases q : inR v x1 y1 x2 y2 (b (3 * j)) (b (3 * j + 1)) = decide (b (3 * j + 2) = 1)
    · rw [if_pos q, q]; simp
    · rw [if_neg q]
      have : (inR v x1 y1 x2 y2 (b (3 * j)) (b (3 * j + 1)) == decide (b (3 * j + 2) = 1)) = false := by
        rw [beq_eq_false_iff_ne]; exact q
      rw [this]; rfl
theorem fitRect_eq {m : Mem} {N v x1 y1 x2 y2 : Nat} {b : Nat → Nat} (hb : ∀ i, i < 3 * N → okP b i) (hN : N ≤ 8) (hv : v ≤ 1) (h1 : x1 < x2) (h2 : x2 ≤ 20) (h3 : y1 < y2) (h4 : y2 ≤ 20) (h361 : 1 - gI m 36 1 = nI v) (h36 : gI m 36 2 = nI N) (hp : ∀ i, i < N → gI m 37 i = nI (b (3 * i)) ∧ gI m 38 i = nI (b (3 * i + 1)) ∧ gI m 39 i = nI (b (3 * i + 2))) : PT_fitRectangle m (nI x1) (nI y1) (nI x2) (nI y2) = some (b2i (soB b (inR v x1 y1 x2 y2) N 0)) := by
  have e : PT_fitRectangle m (nI x1) (nI y1) (nI x2) (nI y2) = PT_fitRectangle_L11 m (nI x1) (nI y1) (nI x2) (nI y2) (1 - gI m 36 1) (some 1) FU 0 := rfl
  rw [e, h361]
  exact fr_loop hb hN hv h1 h2 h3 h4 h36 hp N 0 FU (by omega) (by unfold FU; omega)
theorem ib_step {m : Mem} {x1 y1 x2 y2 i f : Nat} {kx : Mem → Option (Int32 × Mem)} (hi : i < 4) : ∃ m', RM_isBy_L3 (nI x1) (nI y1) (nI x2) (nI y2) kx (f + 1) m (nI i) = RM_isBy_L3 (nI x1) (nI y1) (nI x2) (nI y2) kx f m' (nI (i + 1)) ∧ gI m' 139 i = iz (2 * rU x1 x2 i) ∧ gI m' 140 i = iz (2 * rV y1 y2 i) ∧ (∀ j, j ≠ i → gI m' 139 j = gI m 139 j ∧ gI m' 140 j = gI m 140 j) ∧ Frm [(139, 999999), (140, 999999)] [] m m' := by
  have ei : nI i + 1 = nI (i + 1) := by rw [k1, n_add]
  refine ⟨sI (sI m 139 i (iz (2 * rU x1 x2 i))) 140 i (iz (2 * rV y1 y2 i)), ?_, by rw [gI_sI, if_neg (by omega), gI_sI, if_pos ⟨rfl, rfl⟩], by rw [gI_sI, if_pos ⟨rfl, rfl⟩], fun j hj => ⟨by rw [gI_sI, if_neg (by omega), gI_sI, if_neg (by omega)], by rw [gI_sI, if_neg (by omega), gI_sI, if_neg (by omega)]⟩, (Frm.sI rfl rfl).tr (Frm.sI rfl rfl)⟩
  rw [RM_isBy_L3, if_neg (by rw [k4, n_le (by omega) (by omega)]; omega)]
  have J : ∀ x : Nat, (x : Int) = rU x1 x2 i → RM_isBy_J33 (RM_isBy_L3 (nI x1) (nI y1) (nI x2) (nI y2) kx f) kx m (nI x1) (nI y1) (nI x2) (nI y2) (nI i) (nI i) 2 (nI x) = RM_isBy_L3 (nI x1) (nI y1) (nI x2) (nI y2) kx f (sI (sI m 139 i (iz (2 * rU x1 x2 i))) 140 i (iz (2 * rV y1 y2 i))) (nI (i + 1)) := fun x hx => by
    rw [RM_isBy_J33, if_pos (n_in (by omega) (by omega)), n_ixn (by omega), letM_p, if_pos (n_in (by omega) (by omega)), if_pos (n_in (by omega) (by omega)), letM_p, letM_p, two_n, two_n, two_n, hx, ei]
    by_cases q : 2 ≤ i
    · rw [if_pos (by rw [k2, n_le (by omega) (by omega)]; exact q)]
      have : rV y1 y2 i = (y2 : Int) := by unfold rV; rw [if_pos (by omega)]
      rw [this]
    · rw [if_neg (by rw [k2, n_le (by omega) (by omega)]; exact q)]
      have : rV y1 y2 i = (y1 : Int) := by unfold rV; rw [if_neg (by omega)]
      rw [this]
  by_cases q1 : i = 1
  · rw [if_pos (by rw [q1]; rfl), J x2 (by unfold rU; rw [if_pos (by omega)])]
  · rw [if_neg (by rw [k1, n_eq (by omega) (by omega)]; exact q1)]
    by_cases q2 : i = 2
    · rw [if_pos (by rw [q2]; rfl), J x2 (by unfold rU; rw [if_pos (by omega)])]
    · rw [if_neg (by rw [k2, n_eq (by omega) (by omega)]; exact q2), J x1 (by unfold rU; rw [if_neg (by omega)])]
theorem isBy_eq {m : Mem} {N v x1 y1 x2 y2 : Nat} {b : Nat → Nat} (hb : ∀ i, i < 3 * N → okP b i) (hN : N ≤ 8) (hv : (v = 0 ∧ gI m 135 5 = 1) ∨ (v = 1 ∧ gI m 135 5 = 0)) (h1 : x1 < x2) (h2 : x2 ≤ 20) (h3 : y1 < y2) (h4 : y2 ≤ 20) (h22 : gI m 133 22 = 4) (h43 : gI m 133 43 = nI N) (h152 : ∀ t, t < 3 * N → gI m 152 t = nI (b t)) : ∃ m', RM_isBy m (nI x1) (nI y1) (nI x2) (nI y2) = some (b2i (soB b (inR v x1 y1 x2 y2) N 0), m') ∧ Frm W_RM_isBy [] m m' := by
  obtain ⟨f, hf⟩ : ∃ f, FU = f + 1 + 1 + 1 + 1 + 1 := ⟨FU - 5, by unfold FU; omega⟩
  let kx : Mem → Option (Int32 × Mem) := fun m1 => bM (RM_closes m1) fun m2 => bV (RM_areSo m2) fun v4 m5 => if v4 = 0 ∨ v4 = 1 then (some (v4, m5)) else none
  obtain ⟨m1, e1, a1, b1, o1, F1⟩ := ib_step (m := m) (x1 := x1) (y1 := y1) (x2 := x2) (y2 := y2) (i := 0) (f := f + 1 + 1 + 1 + 1) (kx := kx) (by omega)
  obtain ⟨m2, e2, a2, b2, o2, F2⟩ := ib_step (m := m1) (x1 := x1) (y1 := y1) (x2 := x2) (y2 := y2) (i := 1) (f := f + 1 + 1 + 1) (kx := kx) (by omega)
  obtain ⟨m3, e3, a3, b3, o3, F3⟩ := ib_step (m := m2) (x1 := x1) (y1 := y1) (x2 := x2) (y2 := y2) (i := 2) (f := f + 1 + 1) (kx := kx) (by omega)
  obtain ⟨m4, e4, a4, b4, o4, F4⟩ := ib_step (m := m3) (x1 := x1) (y1 := y1) (x2 := x2) (y2 := y2) (i := 3) (f := f + 1) (kx := kx) (by omega)
  have F14 := F1.tr (F2.tr (F3.tr F4))
  have g22 : gI m4 133 22 = nI 4 := by rw [F14.I 133 22 rfl, h22]; rfl
  have c0 : gI m4 139 0 = iz (2 * rU x1 x2 0) ∧ gI m4 140 0 = iz (2 * rV y1 y2 0) := ⟨by rw [(o4 0 (by omega)).1, (o3 0 (by omega)).1, (o2 0 (by omega)).1, a1], by rw [(o4 0 (by omega)).2, (o3 0 (by omega)).2, (o2 0 (by omega)).2, b1]⟩
  let m5 := sI (sI m4 139 4 (iz (2 * rU x1 x2 0))) 140 4 (iz (2 * rV y1 y2 0))
  have h5 : m5 = sI (sI m4 139 4 (iz (2 * rU x1 x2 0))) 140 4 (iz (2 * rV y1 y2 0)) := rfl
  have eC : RM_closes m4 = some m5 := by
    have g : gI (sI m4 139 4 (iz (2 * rU x1 x2 0))) 133 22 = nI 4 := by rw [gI_sI, if_neg (by omega), g22]
    have g' : gI (sI m4 139 4 (iz (2 * rU x1 x2 0))) 140 0 = iz (2 * rV y1 y2 0) := by rw [gI_sI, if_neg (by omega), c0.2]
    rw [RM_closes, if_pos (by decide), g22, if_pos (by decide), show ixn (nI 4) = 4 from rfl, show ixn 0 = 0 from rfl, c0.1, letM_o, g, if_pos (by decide), show ixn (nI 4) = 4 from rfl, g', letM_o]
  have F5 : Frm [(139, 999999), (140, 999999)] [] m4 m5 := (Frm.sI rfl rfl).tr (Frm.sI rfl rfl)
  have F15 := F14.tr F5
  have P5 : PolyR m5 4 (fun i => 2 * rU x1 x2 i) (fun i => 2 * rV y1 y2 i) := by
    refine ⟨by rw [F5.I 133 22 rfl, g22], by omega, fun i hi => ?_⟩
    have bdU : bd 100 (2 * rU x1 x2 i) := by unfold rU; split <;> omega
    have bdV : bd 100 (2 * rV y1 y2 i) := by unfold rV; split <;> omega
    refine ⟨?_, ?_, bdU, bdV⟩
    · rw [h5, gI_sI, if_neg (by omega), gI_sI]
      rcases (show i = 0 ∨ i = 1 ∨ i = 2 ∨ i = 3 ∨ i = 4 by omega) with rfl | rfl | rfl | rfl | rfl
      · rw [if_neg (by omega)]; exact c0.1
      · rw [if_neg (by omega), (o4 1 (by omega)).1, (o3 1 (by omega)).1, a2]
      · rw [if_neg (by omega), (o4 2 (by omega)).1, a3]
      · rw [if_neg (by omega), a4]
      · rw [if_pos ⟨rfl, rfl⟩]; rfl
    · rw [h5, gI_sI]
      rcases (show i = 0 ∨ i = 1 ∨ i = 2 ∨ i = 3 ∨ i = 4 by omega) with rfl | rfl | rfl | rfl | rfl
      · rw [if_neg (by omega), gI_sI, if_neg (by omega)]; exact c0.2
      · rw [if_neg (by omega), gI_sI, if_neg (by omega), (o4 1 (by omega)).2, (o3 1 (by omega)).2, b2]
      · rw [if_neg (by omega), gI_sI, if_neg (by omega), (o4 2 (by omega)).2, b3]
      · rw [if_neg (by omega), gI_sI, if_neg (by omega), b4]
      · rw [if_pos ⟨rfl, rfl⟩]; rfl
  obtain ⟨m6, e6, F6⟩ := areSo_eq hb hN P5 (by rw [F15.I 133 43 rfl]; exact h43) (fun t ht => by rw [F15.I 152 t rfl]; exact h152 t ht)
  rw [F15.I 135 4 rfl, F15.I 135 5 rfl, soB_cong (g := inR v x1 y1 x2 y2) N 0 (fun i _ _ => by rw [hisP_two]; exact rect_his h1 h3 hv)] at e6
  have eR : RM_isBy m (nI x1) (nI y1) (nI x2) (nI y2) = some (b2i (soB b (inR v x1 y1 x2 y2) N 0), m6) := by
    have : RM_isBy m (nI x1) (nI y1) (nI x2) (nI y2) = RM_isBy_L3 (nI x1) (nI y1) (nI x2) (nI y2) kx FU m (nI 0) := rfl
    rw [this, hf, e1, e2, e3, e4, RM_isBy_L3, if_pos (by decide)]
    show (bM (RM_closes m4) fun m2 => bV (RM_areSo m2) fun v4 m5 => if v4 = 0 ∨ v4 = 1 then (some (v4, m5)) else none) = _
    rw [eC, bM_s, e6, bV_s, if_pos (by cases soB b (inR v x1 y1 x2 y2) N 0 <;> decide)]
  exact ⟨m6, eR, (F15.mo (wL_sub rfl)).tr (F6.mo (wL_sub rfl))⟩

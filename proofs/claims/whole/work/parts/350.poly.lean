/-! POLYGONS in memory: the class's line, the reference's looked-at line -/
def clz (n : Nat) (X : Nat → Int) (i : Nat) : Int := if i < n then X i else X 0
theorem clz_lt {n i : Nat} {X : Nat → Int} (h : i < n) : clz n X i = X i := if_pos h
theorem clz_nx {n i : Nat} {X : Nat → Int} (h : i < n) : clz n X (i + 1) = X (nx n i) := by
  unfold clz nx
  by_cases h2 : i + 1 < n
  · rw [if_pos h2, if_pos h2]
  · rw [if_neg h2, if_neg h2]
def PolyC (m : Mem) (o n : Nat) (X Y : Nat → Int) : Prop := gI m o 1 = nI n ∧ n ≤ 12 ∧ ∀ i, i < n → gI m (o + 1) i = iz (X i) ∧ gI m (o + 2) i = iz (Y i) ∧ bd 100 (X i) ∧ bd 100 (Y i)
def PolyR (m : Mem) (n : Nat) (U V : Nat → Int) : Prop := gI m 133 22 = nI n ∧ n ≤ 12 ∧ ∀ i, i ≤ n → gI m 139 i = iz (U i) ∧ gI m 140 i = iz (V i) ∧ bd 100 (U i) ∧ bd 100 (V i)
theorem LN_after_eq {m : Mem} {o n i : Nat} {X Y : Nat → Int} (h : PolyC m o n X Y) (hi : i < n) : LN_after m o (nI i) = nI (nx n i) := by
  have hn := h.2.1
  have e : nI i + 1 = nI (i + 1) := by rw [k1, n_add]
  unfold LN_after nx
  rw [h.1, e]
  by_cases h2 : i + 1 < n
  · rw [if_pos h2, if_neg (by rw [n_le (by omega) (by omega)]; omega)]
  · rw [if_neg h2, if_pos (by rw [n_le (by omega) (by omega)]; omega)]; rfl
theorem nx_lt {n i : Nat} (h : i < n) : nx n i < n := by unfold nx; split <;> omega
theorem LN_passesBy_eq {m : Mem} {o n i : Nat} {X Y : Nat → Int} {x y : Int} (h : PolyC m o n X Y) (hi : i < n) (hx : bd 100 x) (hy : bd 100 y) :
    LN_passesBy m o (nI i) (iz x) (iz y) = some (if onZ (clz n X i) (clz n Y i) (clz n X (i + 1)) (clz n Y (i + 1)) x y then 1000 else iz (r1 (clz n X i) (clz n Y i) (clz n X (i + 1)) (clz n Y (i + 1)) x y)) := by
  have hn := h.2.1
  have h1 := nx_lt hi
  obtain ⟨a1, a2, a3, a4⟩ := h.2.2 i hi
  obtain ⟨b1, b2, b3, b4⟩ := h.2.2 (nx n i) h1
  simp only [LN_passesBy, letV]
  rw [LN_after_eq h hi, if_pos (n_in (by omega) (by omega)), if_pos (n_in (by omega) (by omega)), n_ixn (by omega), n_ixn (by omega), a1, a2, b1, b2, passes_iz a3 a4 b3 b4 hx hy, clz_lt hi, clz_lt hi, clz_nx hi, clz_nx hi]
theorem onP_mono {U V : Nat → Int} {x y : Int} {i : Nat} (h : onP U V x y i = true) : ∀ d, onP U V x y (i + d) = true
  | 0 => h
  | d + 1 => by
    have := onP_mono h d
    rw [← Nat.add_assoc]
    simp only [onP, this, Bool.true_or]
theorem tr_loop {m : Mem} {o n : Nat} {X Y : Nat → Int} {x y : Int} {kx : Int32 → Option Int32} (h : PolyC m o n X Y) (hx : bd 100 x) (hy : bd 100 y) :
    ∀ (d i fu : Nat), i + d = n → d < fu → onP (clz n X) (clz n Y) x y i = false → LN_timesRound_L5 m o (iz x) (iz y) kx fu (iz (rndP (clz n X) (clz n Y) x y i)) (nI i) = if onP (clz n X) (clz n Y) x y n then some 1000 else kx (iz (rndP (clz n X) (clz n Y) x y n))
  | 0, i, fu, hd, hf, ho => by
    obtain ⟨f, rfl⟩ : ∃ f, fu = f + 1 := ⟨fu - 1, by omega⟩
    have hn := h.2.1
    obtain rfl : i = n := by omega
    rw [LN_timesRound_L5, h.1, if_pos (by rw [n_le (by omega) (by omega)]; omega), ho, if_neg (by decide)]
  | d + 1, i, fu, hd, hf, ho => by
    obtain ⟨f, rfl⟩ : ∃ f, fu = f + 1 := ⟨fu - 1, by omega⟩
    have hn := h.2.1
    rw [LN_timesRound_L5, h.1, if_neg (by rw [n_le (by omega) (by omega)]; omega), LN_passesBy_eq h (by omega) hx hy]
    simp only [bI, letV]
    have hb := r1_bd (clz n X i) (clz n Y i) (clz n X (i + 1)) (clz n Y (i + 1)) x y
    by_cases hz : onZ (clz n X i) (clz n Y i) (clz n X (i + 1)) (clz n Y (i + 1)) x y = true
    · have hm : onP (clz n X) (clz n Y) x y n = true := by
        rw [show n = (i + 1) + d by omega]
        apply onP_mono
        simp only [onP]
        rw [show i + 1 + d = n by omega, hz, Bool.or_true]
      rw [if_pos hz, if_pos rfl, if_pos hm]
    · rw [if_neg hz, if_neg (by rw [i1000, iz_eq (by omega) (by omega)]; omega), iz_add, show nI i + 1 = nI (i + 1) by rw [k1, n_add]]
      exact tr_loop h hx hy d (i + 1) f (by omega) (by omega) (by simp only [onP]; rw [ho]; simpa using hz)
theorem LN_timesRound_eq {m : Mem} {o n : Nat} {X Y : Nat → Int} {x y : Int} (h : PolyC m o n X Y) (hx : bd 100 x) (hy : bd 100 y) :
    LN_timesRound m o (iz x) (iz y) = some (if onP (clz n X) (clz n Y) x y n then 1000 else iz (rndP (clz n X) (clz n Y) x y n)) := by
  have hn := h.2.1
  have := tr_loop (kx := fun y1 => some y1) h hx hy n 0 FU (by omega) (by unfold FU; omega) rfl
  unfold LN_timesRound
  rw [show (0 : Int32) = iz (rndP (clz n X) (clz n Y) x y 0) from by simp only [rndP]; exact i0] 
  conv => lhs; rw [show (iz (rndP (clz n X) (clz n Y) x y 0) : Int32) = nI 0 from by simp only [rndP]; rfl]
  have e : iz (rndP (clz n X) (clz n Y) x y 0) = nI 0 := by simp only [rndP]; rfl
  rw [e] at this
  rw [this]
  split <;> rfl
/-! the reference -/
theorem isBetween_eq {v a b : Int} (hv : bd 1000 v) (ha : bd 1000 a) (hb : bd 1000 b) : RM_isBetween (iz v) (iz a) (iz b) = some (b2i (btw v a b)) := by
  have e : ∀ p q : Int, bd 1000 p → bd 1000 q → RM_isIn (iz v) (iz p) (iz q) = if p ≤ v ∧ v ≤ q then 1 else 0 := by
    intro p q hp hq
    rw [isIn_eq]
    simp only [iz_le (show R31 p by omega) (show R31 v by omega), iz_le (show R31 v by omega) (show R31 q by omega)]
  have hz : ∀ p q : Int, bd 1000 p → bd 1000 q → (RM_isIn (iz v) (iz p) (iz q) = 0 ∨ RM_isIn (iz v) (iz p) (iz q) = 1) := by
    intro p q hp hq
    rw [e p q hp hq]
    split
    · exact Or.inr rfl
    · exact Or.inl rfl
  unfold RM_isBetween
  rw [if_pos (hz b a hb ha), if_pos (hz a b ha hb), e a b ha hb, e b a hb ha]
  simp only [iz_le (show R31 b by omega) (show R31 a by omega)]
  unfold btw b2i
  by_cases h1 : b ≤ a
  · rw [if_pos h1]
    by_cases h2 : b ≤ v ∧ v ≤ a
    · rw [if_pos h2, if_pos (by rw [decide_eq_true_eq]; exact Or.inr h2)]
    · rw [if_neg h2, if_neg (by rw [decide_eq_true_eq]; omega)]
  · rw [if_neg h1]
    by_cases h2 : a ≤ v ∧ v ≤ b
    · rw [if_pos h2, if_pos (by rw [decide_eq_true_eq]; exact Or.inl h2)]
    · rw [if_neg h2, if_neg (by rw [decide_eq_true_eq]; omega)]
theorem isOnEdge_eq {m : Mem} {n i : Nat} {U V : Nat → Int} {x y : Int} (h : PolyR m n U V) (hi : i < n) (hx : bd 100 x) (hy : bd 100 y) :
    RM_isOnEdge m (nI i) (iz x) (iz y) = some (b2i (onZ (U i) (V i) (U (i + 1)) (V (i + 1)) x y)) := by
  have hn := h.2.1
  obtain ⟨a1, a2, a3, a4⟩ := h.2.2 i (by omega)
  obtain ⟨b1, b2, b3, b4⟩ := h.2.2 (i + 1) (by omega)
  have ht := tz_bd a3 a4 b3 b4 hx hy
  unfold RM_isOnEdge
  rw [show nI i + 1 = nI (i + 1) by rw [k1, n_add], if_pos (n_in (by omega) (by omega)), if_pos (n_in (by omega) (by omega)), n_ixn (by omega), n_ixn (by omega), a1, a2, b1, b2, turn_iz, isBetween_eq (by omega) (by omega) (by omega), isBetween_eq (by omega) (by omega) (by omega)]
  have e : (iz (tz (U i) (V i) (U (i + 1)) (V (i + 1)) x y) = 0) ↔ tz (U i) (V i) (U (i + 1)) (V (i + 1)) x y = 0 := by rw [i0, iz_eq (by omega) (by omega)]
  simp only [e, bI]
  unfold onZ
  by_cases h1 : tz (U i) (V i) (U (i + 1)) (V (i + 1)) x y = 0
  · rw [if_pos h1]
    cases btw x (U i) (U (i + 1)) <;> cases btw y (V i) (V (i + 1)) <;> simp [b2i, h1]
  · rw [if_neg h1, decide_eq_false h1]; rfl
theorem ol_loop {m : Mem} {n : Nat} {U V : Nat → Int} {x y : Int} (h : PolyR m n U V) (hx : bd 100 x) (hy : bd 100 y) :
    ∀ (d i fu : Nat), i + d = n → d < fu → onP U V x y i = false → RM_isOnLine_L2 m (iz x) (iz y) (some 0) fu (nI i) = some (b2i (onP U V x y n))
  | 0, i, fu, hd, hf, ho => by
    obtain ⟨f, rfl⟩ : ∃ f, fu = f + 1 := ⟨fu - 1, by omega⟩
    have hn := h.2.1
    obtain rfl : i = n := by omega
    rw [RM_isOnLine_L2, h.1, if_pos (by rw [n_le (by omega) (by omega)]; omega), ho]; rfl
  | d + 1, i, fu, hd, hf, ho => by
    obtain ⟨f, rfl⟩ : ∃ f, fu = f + 1 := ⟨fu - 1, by omega⟩
    have hn := h.2.1
    rw [RM_isOnLine_L2, h.1, if_neg (by rw [n_le (by omega) (by omega)]; omega), isOnEdge_eq h (by omega) hx hy]
    simp only [bI]
    cases hz : onZ (U i) (V i) (U (i + 1)) (V (i + 1)) x y with
    | true =>
      have hm : onP U V x y n = true := by
        rw [show n = (i + 1) + d by omega]
        apply onP_mono
        simp only [onP, hz, Bool.or_true]
      rw [hm]; rfl
    | false =>
      rw [show b2i false = 0 from rfl, if_pos rfl, show nI i + 1 = nI (i + 1) by rw [k1, n_add]]
      exact ol_loop h hx hy d (i + 1) f (by omega) (by omega) (by simp only [onP]; rw [ho, hz]; rfl)
theorem isOnLine_eq {m : Mem} {n : Nat} {U V : Nat → Int} {x y : Int} (h : PolyR m n U V) (hx : bd 100 x) (hy : bd 100 y) : RM_isOnLine m (iz x) (iz y) = some (b2i (onP U V x y n)) := by
  have hn := h.2.1
  unfold RM_isOnLine
  exact ol_loop h hx hy n 0 FU (by omega) (by unfold FU; omega) rfl
abbrev Lrd : List (Nat × Nat) := [(133, 23), (133, 24)]
theorem PolyR.fr {m m' : Mem} {n : Nat} {U V : Nat → Int} {L : List (Nat × Nat)} (hF : Frm L [] m m') (h0 : wL L 133 22 = false) (h1 : ∀ i, wL L 139 i = false) (h2 : ∀ i, wL L 140 i = false) (h : PolyR m n U V) : PolyR m' n U V := by
  refine ⟨by rw [hF.I _ _ h0]; exact h.1, h.2.1, fun i hi => ?_⟩
  rw [hF.I _ _ (h1 i), hF.I _ _ (h2 i)]
  exact h.2.2 i hi
theorem rd_step {m : Mem} {n i : Nat} {U V : Nat → Int} {x y c r : Int} {kx : Mem → Option Mem} {f : Nat} (h : PolyR m n U V) (hi : i < n) (hx : bd 100 x) (hy : bd 100 y) (hc : gI m 133 23 = iz c) (hr : gI m 133 24 = iz r) :
    ∃ m', RM_rounds_L12 (iz x) (iz y) kx (f + 1) m (nI i) = RM_rounds_L12 (iz x) (iz y) kx f m' (nI (i + 1)) ∧ gI m' 133 23 = iz (c + ((r1 (U i) (V i) (U (i + 1)) (V (i + 1)) x y).natAbs : Int)) ∧ gI m' 133 24 = iz (r + r1 (U i) (V i) (U (i + 1)) (V (i + 1)) x y) ∧ Frm Lrd [] m m' := by
  have hn := h.2.1
  obtain ⟨a1, a2, a3, a4⟩ := h.2.2 i (by omega)
  obtain ⟨b1, b2, b3, b4⟩ := h.2.2 (i + 1) (by omega)
  have ht := tz_bd a3 a4 b3 b4 hx hy
  have e1 : (iz y < iz (V i)) ↔ y < V i := iz_lt (by omega) (by omega)
  have e2 : (iz (V (i + 1)) ≤ iz y) ↔ V (i + 1) ≤ y := iz_le (by omega) (by omega)
  have e3 : (iz y < iz (V (i + 1))) ↔ y < V (i + 1) := iz_lt (by omega) (by omega)
  have e4 : (iz (V i) ≤ iz y) ↔ V i ≤ y := iz_le (by omega) (by omega)
  have e5 : (iz (tz (U i) (V i) (U (i + 1)) (V (i + 1)) x y) ≤ 0) ↔ tz (U i) (V i) (U (i + 1)) (V (i + 1)) x y ≤ 0 := by rw [i0, iz_le (by omega) (by omega)]
  have e6 : ((0 : Int32) ≤ iz (tz (U i) (V i) (U (i + 1)) (V (i + 1)) x y)) ↔ 0 ≤ tz (U i) (V i) (U (i + 1)) (V (i + 1)) x y := by rw [i0, iz_le (by omega) (by omega)]
  have ei : nI i + 1 = nI (i + 1) := by rw [k1, n_add]
  rw [RM_rounds_L12, h.1, if_neg (by rw [n_le (by omega) (by omega)]; omega)]
  simp only [RM_rounds_J47, RM_rounds_J76, RM_rounds_J143, letM, letV, ei, n_ixn (show i < 2147483648 by omega), n_ixn (show i + 1 < 2147483648 by omega), if_pos (n_in (show i < 13 by omega) (by omega)), if_pos (n_in (show i + 1 < 13 by omega) (by omega)), a1, a2, b1, b2, turn_iz, e1, e2, e3, e4, e5, e6, hc, hr]
  by_cases c1 : y < V i
  · by_cases c2 : y < V (i + 1)
    · have er : r1 (U i) (V i) (U (i + 1)) (V (i + 1)) x y = 0 := by unfold r1; rw [if_neg (by omega), if_neg (by omega)]
      refine ⟨m, ?_, ?_, ?_, Frm.rf⟩
      · simp [c1, c2]
      · rw [er, hc]; congr 1; simp
      · rw [er, hr]; congr 1; omega
    · by_cases c3 : 0 ≤ tz (U i) (V i) (U (i + 1)) (V (i + 1)) x y
      · have er : r1 (U i) (V i) (U (i + 1)) (V (i + 1)) x y = 0 := by unfold r1; rw [if_neg (by omega), if_pos (by omega), if_neg (by omega)]
        refine ⟨m, ?_, ?_, ?_, Frm.rf⟩
        · simp [c1, c2, c3, show ¬ V i ≤ y by omega]
        · rw [er, hc]; congr 1; simp
        · rw [er, hr]; congr 1; omega
      · have er : r1 (U i) (V i) (U (i + 1)) (V (i + 1)) x y = -1 := by unfold r1; rw [if_neg (by omega), if_pos (by omega), if_pos (by omega)]
        refine ⟨sI (sI m 133 23 (iz c + 1)) 133 24 (iz r - 1), ?_, ?_, ?_, (Frm.sI rfl rfl).tr (Frm.sI rfl rfl)⟩
        · simp [c1, c2, c3, show ¬ V i ≤ y by omega, gI_sI, hr]
        · rw [er]; simp [gI_sI]; rw [i1, iz_add]
        · rw [er]; simp [gI_sI]; rw [i1, iz_sub]; rfl
  · by_cases c2 : y < V (i + 1)
    · by_cases c3 : tz (U i) (V i) (U (i + 1)) (V (i + 1)) x y ≤ 0
      · have er : r1 (U i) (V i) (U (i + 1)) (V (i + 1)) x y = 0 := by unfold r1; rw [if_pos (by omega), if_neg (by omega)]
        refine ⟨m, ?_, ?_, ?_, Frm.rf⟩
        · simp [c1, c2, c3, show ¬ V (i + 1) ≤ y by omega]
        · rw [er, hc]; congr 1; simp
        · rw [er, hr]; congr 1; omega
      · have er : r1 (U i) (V i) (U (i + 1)) (V (i + 1)) x y = 1 := by unfold r1; rw [if_pos (by omega), if_pos (by omega)]
        refine ⟨sI (sI m 133 23 (iz c + 1)) 133 24 (iz r + 1), ?_, ?_, ?_, (Frm.sI rfl rfl).tr (Frm.sI rfl rfl)⟩
        · simp [c1, c2, c3, show ¬ V (i + 1) ≤ y by omega, gI_sI, hr]
        · rw [er]; simp [gI_sI]; rw [i1, iz_add]
        · rw [er]; simp [gI_sI]; rw [i1, iz_add]
    · have er : r1 (U i) (V i) (U (i + 1)) (V (i + 1)) x y = 0 := by unfold r1; rw [if_neg (by omega), if_neg (by omega)]
      refine ⟨m, ?_, ?_, ?_, Frm.rf⟩
      · simp [c1, c2, show V (i + 1) ≤ y by omega, show V i ≤ y by omega]
      · rw [er, hc]; congr 1; simp
      · rw [er, hr]; congr 1; omega
theorem rd_loop {n : Nat} {U V : Nat → Int} {x y : Int} {kx : Mem → Option Mem} (hx : bd 100 x) (hy : bd 100 y) :
    ∀ (d i fu : Nat) (m : Mem), PolyR m n U V → i + d = n → d < fu → gI m 133 23 = iz (crsP U V x y i) → gI m 133 24 = iz (rndP U V x y i) → ∃ m', RM_rounds_L12 (iz x) (iz y) kx fu m (nI i) = kx m' ∧ gI m' 133 23 = iz (crsP U V x y n) ∧ gI m' 133 24 = iz (rndP U V x y n) ∧ Frm Lrd [] m m'
  | 0, i, fu, m, h, hd, hf, hc, hr => by
    obtain ⟨f, rfl⟩ : ∃ f, fu = f + 1 := ⟨fu - 1, by omega⟩
    have hn := h.2.1
    obtain rfl : i = n := by omega
    exact ⟨m, by rw [RM_rounds_L12, h.1, if_pos (by rw [n_le (by omega) (by omega)]; omega)], hc, hr, Frm.rf⟩
  | d + 1, i, fu, m, h, hd, hf, hc, hr => by
    obtain ⟨f, rfl⟩ : ∃ f, fu = f + 1 := ⟨fu - 1, by omega⟩
    obtain ⟨m1, e, hc1, hr1, F1⟩ := rd_step (i := i) (kx := kx) (f := f) h (by omega) hx hy hc hr
    obtain ⟨m2, e2, hc2, hr2, F2⟩ := rd_loop (kx := kx) hx hy d (i + 1) f m1 (h.fr F1 rfl (fun _ => rfl) (fun _ => rfl)) (by omega) (by omega) hc1 hr1
    exact ⟨m2, e.trans e2, hc2, hr2, F1.tr F2⟩
theorem rounds_eq {m : Mem} {n : Nat} {U V : Nat → Int} {x y : Int} (h : PolyR m n U V) (hx : bd 100 x) (hy : bd 100 y) :
    ∃ m', RM_rounds m (iz x) (iz y) = some m' ∧ gI m' 133 23 = iz (crsP U V x y n) ∧ gI m' 133 24 = iz (rndP U V x y n) ∧ Frm Lrd [] m m' := by
  have hn := h.2.1
  have F0 : Frm Lrd [] m (sI (sI m 133 23 0) 133 24 0) := (Frm.sI rfl rfl).tr (Frm.sI rfl rfl)
  obtain ⟨m', e, a, b, F⟩ := rd_loop (n := n) (kx := fun m3 => some m3) hx hy n 0 FU (sI (sI m 133 23 0) 133 24 0) (h.fr F0 rfl (fun _ => rfl) (fun _ => rfl)) (by omega) (by unfold FU; omega) (by simp [gI_sI, crsP, i0]) (by simp [gI_sI, rndP, i0])
  exact ⟨m', e, a, b, F0.tr F⟩

theorem irm_two {c : Int} (h0 : 0 ≤ c) (h1 : c ≤ 20) : (irm (iz c) 2 = 1) ↔ c % 2 = 1 := by
  have key : ∀ k : Nat, k < 21 → (irm (iz (k : Int)) 2 = 1 ↔ (k : Int) % 2 = 1) := by decide +kernel
  have := key c.toNat (by omega)
  rwa [show (c.toNat : Int) = c by omega] at this
theorem isHis_eq {m : Mem} {n : Nat} {U V : Nat → Int} {x y : Int} (h : PolyR m n U V) (hx : bd 100 x) (hy : bd 100 y) :
    ∃ m', RM_isHis m (iz x) (iz y) = some (b2i (hisP (gI m 135 4) (gI m 135 5) U V x y n), m') ∧ Frm Lrd [] m m' := by
  have hn := h.2.1
  unfold RM_isHis
  rw [isOnLine_eq h hx hy]
  simp only [bI]
  unfold hisP
  cases ho : onP U V x y n with
  | true =>
    rw [if_neg (by decide), if_pos (by decide), if_pos rfl, show ixn 5 = 5 from rfl]
    by_cases h5 : gI m 135 5 = 1
    · exact ⟨m, by rw [if_pos h5, decide_eq_true h5]; rfl, Frm.rf⟩
    · exact ⟨m, by rw [if_neg h5, decide_eq_false h5]; rfl, Frm.rf⟩
  | false =>
    obtain ⟨m', e, hc, hr, F⟩ := rounds_eq h hx hy
    refine ⟨m', ?_, F⟩
    have hrb := rndP_bd U V x y n
    have hcb := crsP_bd U V x y n
    have hp := crs_par U V x y n
    rw [if_pos (by rfl), e, show ixn 4 = 4 from rfl]
    simp only [bM]
    rw [if_pos (by decide), F.I 135 4 rfl, hc, hr, if_neg (show ¬ (false = true) by decide)]
    simp only [irm_two (c := crsP U V x y n) (by omega) (by omega), i0 ▸ (iz_eq (a := rndP U V x y n) (b := 0) (by omega) (by omega)), i0 ▸ (iz_le (a := rndP U V x y n) (b := 0) (by omega) (by omega))]
    by_cases l0 : gI m 135 4 = 0
    · rw [if_pos l0, if_pos l0]
      by_cases c : crsP U V x y n % 2 = 1
      · rw [if_pos c, decide_eq_true (by omega)]; rfl
      · rw [if_neg c, decide_eq_false (by omega)]; rfl
    · rw [if_neg l0, if_neg l0]
      by_cases l1 : gI m 135 4 = 1
      · rw [if_pos l1, if_pos l1]
        by_cases c : rndP U V x y n = 0
        · rw [if_pos c, decide_eq_false (by omega)]; rfl
        · rw [if_neg c, decide_eq_true (by omega)]; rfl
      · rw [if_neg l1, if_neg l1]
        by_cases c : rndP U V x y n ≤ 0
        · rw [if_pos c, decide_eq_false (by omega)]; rfl
        · rw [if_neg c, decide_eq_true (by omega)]; rfl
/-- corners of line k of the reference's parish -/
def rX (m : Mem) (k i : Nat) : Int := (gI m 135 (14 + 24 * k + 2 * i)).toInt
def rY (m : Mem) (k i : Nat) : Int := (gI m 135 (14 + 24 * k + 2 * i + 1)).toInt
abbrev Llk : List (Nat × Nat) := [(133, 22), (139, 999999), (140, 999999)]
theorem lk_loop {n k : Nat} {X Y : Nat → Int} {kx : Mem → Option Mem} (hn : n ≤ 12) (hk : k < 3) :
    ∀ (d i fu : Nat) (m : Mem), i + d = n → d < fu → gI m 133 22 = nI n → (∀ j, j < n → gI m 135 (14 + 24 * k + 2 * j) = iz (X j) ∧ gI m 135 (14 + 24 * k + 2 * j + 1) = iz (Y j)) → (∀ j, j < i → gI m 139 j = iz (2 * X j) ∧ gI m 140 j = iz (2 * Y j)) →
      ∃ m', RM_looks_L15 (nI k) kx fu m (nI i) = kx m' ∧ (∀ j, j < n → gI m' 139 j = iz (2 * X j) ∧ gI m' 140 j = iz (2 * Y j)) ∧ Frm [(139, 999999), (140, 999999)] [] m m'
  | 0, i, fu, m, hd, hf, h22, hX, hj => by
    obtain ⟨f, rfl⟩ : ∃ f, fu = f + 1 := ⟨fu - 1, by omega⟩
    obtain rfl : i = n := by omega
    exact ⟨m, by rw [RM_looks_L15, h22, if_pos (by rw [n_le (by omega) (by omega)]; omega)], hj, Frm.rf⟩
  | d + 1, i, fu, m, hd, hf, h22, hX, hj => by
    obtain ⟨f, rfl⟩ : ∃ f, fu = f + 1 := ⟨fu - 1, by omega⟩
    have e1 : (14 + (24 * nI k)) + (2 * nI i) = nI (14 + 24 * k + 2 * i) := by rw [k14, k24, k2, n_mul, n_mul, n_add, n_add]
    have e2 : nI (14 + 24 * k + 2 * i) + 1 = nI (14 + 24 * k + 2 * i + 1) := by rw [k1, n_add]
    have e3 : nI i + 1 = nI (i + 1) := by rw [k1, n_add]
    obtain ⟨x1, y1⟩ := hX i (by omega)
    rw [RM_looks_L15, h22, if_neg (by rw [n_le (by omega) (by omega)]; omega)]
    simp only [e1, e2, e3, letM, n_ixn (show 14 + 24 * k + 2 * i < 2147483648 by omega), n_ixn (show 14 + 24 * k + 2 * i + 1 < 2147483648 by omega), n_ixn (show i < 2147483648 by omega), if_pos (n_in (show 14 + 24 * k + 2 * i < 116 by omega) (by omega)), if_pos (n_in (show 14 + 24 * k + 2 * i + 1 < 116 by omega) (by omega)), if_pos (n_in (show i < 13 by omega) (by omega))]
    have g1 : gI (sI m 139 i (2 * gI m 135 (14 + 24 * k + 2 * i))) 135 (14 + 24 * k + 2 * i + 1) = gI m 135 (14 + 24 * k + 2 * i + 1) := by rw [gI_sI, if_neg (by omega)]
    rw [g1, x1, y1, i2, iz_mul, iz_mul]
    have F0 : Frm [(139, 999999), (140, 999999)] [] m (sI (sI m 139 i (iz (2 * X i))) 140 i (iz (2 * Y i))) := (Frm.sI rfl rfl).tr (Frm.sI rfl rfl)
    obtain ⟨m', e, hq, F⟩ := lk_loop (kx := kx) hn hk d (i + 1) f (sI (sI m 139 i (iz (2 * X i))) 140 i (iz (2 * Y i))) (by omega) (by omega) (by rw [F0.I 133 22 rfl]; exact h22) (fun j hj => by rw [F0.I 135 _ rfl, F0.I 135 _ rfl]; exact hX j hj) (fun j hj2 => by
      by_cases hji : j = i
      · subst hji; constructor <;> simp [gI_sI]
      · have := hj j (by omega)
        constructor
        · simp [gI_sI, hji, this.1]
        · simp [gI_sI, hji, this.2])
    exact ⟨m', e, hq, F0.tr F⟩
theorem looks_eq {m : Mem} {n k : Nat} {X Y : Nat → Int} (hn : n ≤ 12) (h0 : 0 < n) (hk : k < 3) (h11 : gI m 135 (11 + k) = nI n) (hX : ∀ j, j < n → gI m 135 (14 + 24 * k + 2 * j) = iz (X j) ∧ gI m 135 (14 + 24 * k + 2 * j + 1) = iz (Y j) ∧ bd 50 (X j) ∧ bd 50 (Y j)) :
    ∃ m', RM_looks m (nI k) = some m' ∧ PolyR m' n (fun i => 2 * clz n X i) (fun i => 2 * clz n Y i) ∧ Frm Llk [] m m' := by
  have e1 : 11 + nI k = nI (11 + k) := by rw [k11, n_add]
  have F0 : Frm Llk [] m (sI m 133 22 (nI n)) := Frm.sI rfl rfl
  obtain ⟨m1, e, hq, F⟩ := lk_loop (X := X) (Y := Y) (kx := fun m3 => bM (RM_closes m3) fun m4 => some m4) hn hk n 0 FU (sI m 133 22 (nI n)) (by omega) (by unfold FU; omega) (by simp [gI_sI]) (fun j hj => ⟨by rw [F0.I 135 _ rfl]; exact (hX j hj).1, by rw [F0.I 135 _ rfl]; exact (hX j hj).2.1⟩) (fun j hj => by omega)
  have h22 : gI m1 133 22 = nI n := by rw [F.I 133 22 rfl]; simp [gI_sI]
  refine ⟨sI (sI m1 139 n (iz (2 * X 0))) 140 n (iz (2 * Y 0)), ?_, ⟨?_, hn, fun i hi => ?_⟩, F0.tr ((F.mo (wL_sub rfl)).tr ((Frm.sI rfl rfl).tr (Frm.sI rfl rfl)))⟩
  · unfold RM_looks
    rw [e1, if_pos (n_in (show 11 + k < 116 by omega) (by omega)), n_ixn (by omega), h11]
    simp only [letM]
    rw [show (0 : Int32) = nI 0 from rfl] 
    rw [e]
    have c1 : inb (nI n) 13 := n_in (by omega) (by omega)
    have g : gI (sI m1 139 n (iz (2 * X 0))) 140 0 = gI m1 140 0 := by rw [gI_sI, if_neg (by omega)]
    have g2 : gI (sI m1 139 n (iz (2 * X 0))) 133 22 = nI n := by rw [gI_sI, if_neg (by omega), h22]
    simp only [RM_closes, letM, h22, if_pos (show inb 0 13 by decide), if_pos c1, n_ixn (show n < 2147483648 by omega), show ixn 0 = 0 from rfl, (hq 0 h0).1, g2, g, (hq 0 h0).2, bM]
  · simp [gI_sI, h22]
  · have hb0 := hX 0 h0
    by_cases hin : i = n
    · subst hin
      have : clz i X i = X 0 := if_neg (by omega)
      have h2 : clz i Y i = Y 0 := if_neg (by omega)
      refine ⟨?_, ?_, ?_, ?_⟩
      · simp [gI_sI, this]
      · simp [gI_sI, h2]
      · show bd 100 (2 * clz i X i); rw [this]; omega
      · show bd 100 (2 * clz i Y i); rw [h2]; omega
    · have hb := hX i (by omega)
      have ex := clz_lt (X := X) (show i < n by omega)
      have ey := clz_lt (X := Y) (show i < n by omega)
      simp only [ex, ey]
      refine ⟨?_, ?_, by omega, by omega⟩
      · simp [gI_sI, hin, (hq i (by omega)).1]
      · simp [gI_sI, hin, (hq i (by omega)).2]

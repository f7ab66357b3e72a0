/-! line -/
theorem sumN_end (f : Nat → Int) : ∀ d i, sumN f i (d + 1) = sumN f i d + f (i + d)
  | 0, i => by simp [sumN]
  | d + 1, i => by
    have := sumN_end f d (i + 1)
    rw [sumN, this, sumN, show i + 1 + d = i + (d + 1) by omega]
    omega
theorem sumN_add (f g : Nat → Int) : ∀ d i, sumN (fun j => f j + g j) i d = sumN f i d + sumN g i d
  | 0, i => by simp [sumN]
  | d + 1, i => by
    have := sumN_add f g d (i + 1)
    simp only [sumN, this]
    omega
theorem sumN_cong {f g : Nat → Int} : ∀ d i, (∀ j, i ≤ j → j < i + d → f j = g j) → sumN f i d = sumN g i d
  | 0, i, _ => rfl
  | d + 1, i, h => by
    simp only [sumN]
    rw [h i (by omega) (by omega), sumN_cong d (i + 1) (fun j a b => h j (by omega) (by omega))]
theorem sumN_tri (f : Nat → Nat → Int) : ∀ n, sumN (fun i => sumN (fun j => f j i) 0 i) 0 n = sumN (fun i => sumN (f i) (i + 1) (n - (i + 1))) 0 n
  | 0 => rfl
  | n + 1 => by
    rw [sumN_end, sumN_tri f n, sumN_end]
    have e1 : sumN (fun i => sumN (f i) (i + 1) (n + 1 - (i + 1))) 0 n = sumN (fun i => sumN (f i) (i + 1) (n - (i + 1)) + f i n) 0 n := by
      apply sumN_cong
      intro j _ hj
      rw [show n + 1 - (j + 1) = (n - (j + 1)) + 1 by omega, sumN_end]
      congr 2
      omega
    rw [e1, sumN_add]
    simp [sumN]
theorem sumN_bd {f : Nat → Int} {B : Int} (h0 : 0 ≤ B) : ∀ (d : Nat) (i : Nat), (∀ j, i ≤ j → j < i + d → bd B (f j)) → bd (B * d) (sumN f i d)
  | 0, i, _ => by simp only [sumN]; constructor <;> simp
  | d + 1, i, h => by
    have a := h i (by omega) (by omega)
    have b := sumN_bd h0 d (i + 1) (fun j p q => h j (by omega) (by omega))
    simp only [sumN]
    have : B * ((d + 1 : Nat) : Int) = B * d + B := by rw [Int.natCast_add, Int.mul_add]; simp
    constructor <;> omega
def opp (a b : Int) : Bool := decide ((a < 0 ∧ 0 < b) ∨ (0 < a ∧ b < 0))
def edT (U V : Nat → Int) (i j : Nat) : Int := tz (U i) (V i) (U (i + 1)) (V (i + 1)) (U j) (V j)
def crP (U V : Nat → Int) (i j : Nat) : Bool := opp (edT U V i j) (edT U V i (j + 1)) && opp (edT U V j i) (edT U V j (i + 1))
def edO (U V : Nat → Int) (i j : Nat) : Bool := onZ (U i) (V i) (U (i + 1)) (V (i + 1)) (U j) (V j)
def meP (U V : Nat → Int) (i j : Nat) : Bool := edO U V i j || (edO U V i (j + 1) || (edO U V j i || edO U V j (i + 1)))
theorem crP_sym (U V : Nat → Int) (i j : Nat) : crP U V i j = crP U V j i := Bool.and_comm _ _
theorem meP_sym (U V : Nat → Int) (i j : Nat) : meP U V i j = meP U V j i := by
  unfold meP
  cases edO U V i j <;> cases edO U V i (j + 1) <;> cases edO U V j i <;> cases edO U V j (i + 1) <;> rfl
theorem meP_cr {U V : Nat → Int} {i j : Nat} (h : crP U V i j = true) : meP U V i j = false := by
  have e : ∀ a b, edO U V a b = true → edT U V a b = 0 := by
    intro a b q
    unfold edO onZ at q
    simp only [Bool.and_eq_true, decide_eq_true_eq] at q
    exact q.1
  unfold crP opp at h
  simp only [Bool.and_eq_true, decide_eq_true_eq] at h
  unfold meP
  cases a1 : edO U V i j
  · cases a2 : edO U V i (j + 1)
    · cases a3 : edO U V j i
      · cases a4 : edO U V j (i + 1)
        · rfl
        · have := e _ _ a4; omega
      · have := e _ _ a3; omega
    · have := e _ _ a2; omega
  · have := e _ _ a1; omega
def sg (z : Int) : Int := if z < 0 then -1 else if 0 < z then 1 else 0
theorem edT_two (U V : Nat → Int) (i j : Nat) : edT (fun i => 2 * U i) (fun i => 2 * V i) i j = 4 * edT U V i j := tz_two _ _ _ _ _ _
theorem crP_two (U V : Nat → Int) (i j : Nat) : crP (fun i => 2 * U i) (fun i => 2 * V i) i j = crP U V i j := by
  unfold crP opp
  simp only [edT_two]
  congr 1 <;> exact decide_eq_decide.mpr (by omega)
theorem meP_two (U V : Nat → Int) (i j : Nat) : meP (fun i => 2 * U i) (fun i => 2 * V i) i j = meP U V i j := by
  unfold meP edO
  simp only [onZ_two]
theorem compare_iz {a b : Int} (ha : R31 a) (hb : R31 b) : JI_compare (iz a) (iz b) = iz (sg (a - b)) := by
  unfold JI_compare sg
  simp only [iz_le hb ha, iz_eq ha hb]
  by_cases h : a < b
  · rw [if_neg (show ¬ b ≤ a by omega), if_pos (show a - b < 0 by omega)]; decide
  · rw [if_pos (show b ≤ a by omega), if_neg (show ¬ a - b < 0 by omega)]
    by_cases h2 : a = b
    · simp only [if_pos h2, if_neg (show ¬ 0 < a - b by omega)]; decide
    · simp only [if_neg h2, if_pos (show 0 < a - b by omega)]; decide
/-- corners within the parish -/
def Bx (n : Nat) (X Y : Nat → Int) : Prop := ∀ i, i < n → (0 ≤ X i ∧ X i ≤ 20) ∧ (0 ≤ Y i ∧ Y i ≤ 20)
theorem bend_eq {m : Mem} {o n i j k : Nat} {X Y : Nat → Int} (h : PolyC m o n X Y) (hi : i < n) (hj : j < n) (hk : k < n) :
    LN_bend m o (nI i) (nI j) (nI k) = some (iz (sg (tz (X i) (Y i) (X j) (Y j) (X k) (Y k)))) := by
  have hn := h.2.1
  obtain ⟨a1, a2, a3, a4⟩ := h.2.2 i hi
  obtain ⟨b1, b2, b3, b4⟩ := h.2.2 j hj
  obtain ⟨c1, c2, c3, c4⟩ := h.2.2 k hk
  have p1 := mbd (a := X j - X i) (b := Y k - Y j) (A := 200) (B := 200) (by omega) (by omega)
  have p2 := mbd (a := Y j - Y i) (b := X k - X j) (A := 200) (B := 200) (by omega) (by omega)
  unfold LN_bend
  rw [if_pos (n_in (by omega) (by omega)), if_pos (n_in (by omega) (by omega)), if_pos (n_in (by omega) (by omega)), n_ixn (by omega), n_ixn (by omega), n_ixn (by omega), a1, a2, b1, b2, c1, c2]
  simp only [iz_sub, iz_mul]
  rw [compare_iz (by omega) (by omega), show (X j - X i) * (Y k - Y j) - (Y j - Y i) * (X k - X j) = tz (X i) (Y i) (X j) (Y j) (X k) (Y k) by unfold tz; grind]
theorem sg_opp (a b : Int) : (0 ≤ sg a * sg b) ↔ opp a b = false := by
  have e : opp a b = false ↔ ¬ ((a < 0 ∧ 0 < b) ∨ (0 < a ∧ b < 0)) := by unfold opp; exact decide_eq_false_iff_not
  rw [e]
  unfold sg
  by_cases a1 : a < 0
  · by_cases b1 : b < 0
    · simp [a1, b1]; omega
    · by_cases b2 : 0 < b
      · simp [a1, b1, b2]
      · simp [a1, b1, b2]
  · by_cases a2 : 0 < a
    · by_cases b1 : b < 0
      · simp [a1, a2, b1]
      · by_cases b2 : 0 < b
        · simp [a1, a2, b1, b2]
        · simp [a1, a2, b1, b2]
    · simp [a1, a2]
theorem sg_bd (a : Int) : bd 1 (sg a) := by
  unfold sg
  split
  · omega
  · split <;> omega
theorem sg_iz (a b : Int) : ((0 : Int32) ≤ iz (sg a * sg b)) ↔ opp a b = false := by
  have q := mbd (sg_bd a) (sg_bd b)
  rw [i0, iz_le (by omega) (by omega), sg_opp]
theorem crossWithin_eq {m : Mem} {o n i j : Nat} {X Y : Nat → Int} (h : PolyC m o n X Y) (hi : i < n) (hj : j < n) :
    LN_crossWithin m o (nI i) (nI j) = some (b2i (crP (clz n X) (clz n Y) i j)) := by
  have h1 := nx_lt hi
  have h2 := nx_lt hj
  simp only [LN_crossWithin, letV]
  rw [LN_after_eq h hi, LN_after_eq h hj, bend_eq h hi h1 hj, bend_eq h hi h1 h2, bend_eq h hj h2 hi, bend_eq h hj h2 h1]
  simp only [bI, iz_mul]
  simp only [sg_iz]
  unfold crP edT
  rw [clz_lt hi, clz_lt hi, clz_lt hj, clz_lt hj, clz_nx hi, clz_nx hi, clz_nx hj, clz_nx hj]
  cases opp (tz (X i) (Y i) (X (nx n i)) (Y (nx n i)) (X j) (Y j)) (tz (X i) (Y i) (X (nx n i)) (Y (nx n i)) (X (nx n j)) (Y (nx n j))) <;> cases opp (tz (X j) (Y j) (X (nx n j)) (Y (nx n j)) (X i) (Y i)) (tz (X j) (Y j) (X (nx n j)) (Y (nx n j)) (X (nx n i)) (Y (nx n i))) <;> simp [b2i]
theorem endsMeet_eq {m : Mem} {o n i j : Nat} {X Y : Nat → Int} (h : PolyC m o n X Y) (hi : i < n) (hj : j < n) :
    LN_endsMeet m o (nI i) (nI j) = some (b2i (meP (clz n X) (clz n Y) i j)) := by
  have hn := h.2.1
  have h1 := nx_lt hi
  have h2 := nx_lt hj
  have key : ∀ a b, a < n → b < n → LN_passesBy m o (nI a) (gI m (o + 1) b) (gI m (o + 2) b) = some (if onZ (clz n X a) (clz n Y a) (clz n X (a + 1)) (clz n Y (a + 1)) (X b) (Y b) then 1000 else iz (r1 (clz n X a) (clz n Y a) (clz n X (a + 1)) (clz n Y (a + 1)) (X b) (Y b))) := by
    intro a b ha hb
    obtain ⟨q1, q2, q3, q4⟩ := h.2.2 b hb
    rw [q1, q2]
    exact LN_passesBy_eq h ha q3 q4
  have k1000 : ∀ (q : Bool) (a b c d e f : Int), ((if q then (1000 : Int32) else iz (r1 a b c d e f)) = 1000) ↔ q = true := by
    intro q a b c d e f
    have := r1_bd a b c d e f
    cases q
    · rw [if_neg (by decide), i1000, iz_eq (by omega) (by omega)]; simp; omega
    · simp
  simp only [LN_endsMeet, letV]
  rw [LN_after_eq h hi, LN_after_eq h hj, if_pos (n_in (by omega) (by omega)), if_pos (n_in (by omega) (by omega)), if_pos (n_in (by omega) (by omega)), if_pos (n_in (by omega) (by omega)), n_ixn (by omega), n_ixn (by omega), n_ixn (by omega), n_ixn (by omega), key i j hi hj, key i _ hi h2, key j i hj hi, key j _ hj h1]
  simp only [bI, k1000]
  unfold meP edO
  rw [clz_nx hi, clz_nx hi, clz_nx hj, clz_nx hj, clz_lt hi, clz_lt hi, clz_lt hj, clz_lt hj]
  cases onZ (X i) (Y i) (X (nx n i)) (Y (nx n i)) (X j) (Y j) <;> cases onZ (X i) (Y i) (X (nx n i)) (Y (nx n i)) (X (nx n j)) (Y (nx n j)) <;> cases onZ (X j) (Y j) (X (nx n j)) (Y (nx n j)) (X i) (Y i) <;> cases onZ (X j) (Y j) (X (nx n j)) (Y (nx n j)) (X (nx n i)) (Y (nx n i)) <;> simp [b2i]
theorem areMet_eq {m : Mem} {n i j : Nat} {U V : Nat → Int} (h : PolyR m n U V) (hi : i < n) (hj : j < n) :
    RM_areMet m (nI i) (nI j) = some (b2i (meP U V i j)) := by
  have hn := h.2.1
  have key : ∀ a b, a < n → b ≤ n → RM_isOnEdge m (nI a) (gI m 139 b) (gI m 140 b) = some (b2i (edO U V a b)) := by
    intro a b ha hb
    obtain ⟨q1, q2, q3, q4⟩ := h.2.2 b hb
    rw [q1, q2]
    exact isOnEdge_eq h ha q3 q4
  simp only [RM_areMet]
  rw [show nI i + 1 = nI (i + 1) by rw [k1, n_add], show nI j + 1 = nI (j + 1) by rw [k1, n_add], if_pos (n_in (by omega) (by omega)), if_pos (n_in (by omega) (by omega)), if_pos (n_in (by omega) (by omega)), if_pos (n_in (by omega) (by omega)), n_ixn (by omega), n_ixn (by omega), n_ixn (by omega), n_ixn (by omega), key i j hi (by omega), key i _ hi (show j + 1 ≤ n by omega), key j i hj (by omega), key j _ hj (show i + 1 ≤ n by omega)]
  simp only [bI, b2i_0]
  unfold meP
  cases edO U V i j <;> cases edO U V i (j + 1) <;> cases edO U V j i <;> cases edO U V j (i + 1) <;> simp [b2i]
theorem unlike_iz {a b : Int} (ha : R31 a) (hb : R31 b) : RM_areUnlike (iz a) (iz b) = b2i (opp a b) := by
  unfold RM_areUnlike RM_areUnlike_J8 opp b2i
  simp only [i0, iz_le ha (show R31 0 by omega), iz_le (show R31 0 by omega) ha, iz_lt hb (show R31 0 by omega), iz_le hb (show R31 0 by omega), decide_eq_true_eq]
  by_cases a1 : a ≤ 0
  · rw [if_pos a1]
    by_cases a2 : 0 ≤ a
    · rw [if_pos a2, if_neg (by omega)]
    · rw [if_neg a2]
      by_cases b1 : b ≤ 0
      · rw [if_pos b1, if_neg (by omega)]
      · rw [if_neg b1, if_pos (by omega)]
  · rw [if_neg a1]
    by_cases b1 : b < 0
    · rw [if_pos b1, if_pos (by omega)]
    · rw [if_neg b1, if_pos (by omega), if_neg (by omega)]
theorem areCrossed_eq {m : Mem} {n i j : Nat} {U V : Nat → Int} (h : PolyR m n U V) (hi : i < n) (hj : j < n) :
    RM_areCrossed m (nI i) (nI j) = some (b2i (crP U V i j)) := by
  have hn := h.2.1
  obtain ⟨a1, a2, a3, a4⟩ := h.2.2 i (by omega)
  obtain ⟨b1, b2, b3, b4⟩ := h.2.2 (i + 1) (by omega)
  obtain ⟨c1, c2, c3, c4⟩ := h.2.2 j (by omega)
  obtain ⟨d1, d2, d3, d4⟩ := h.2.2 (j + 1) (by omega)
  have t1 := tz_bd a3 a4 b3 b4 c3 c4
  have t2 := tz_bd a3 a4 b3 b4 d3 d4
  have t3 := tz_bd c3 c4 d3 d4 a3 a4
  have t4 := tz_bd c3 c4 d3 d4 b3 b4
  simp only [RM_areCrossed]
  rw [show nI i + 1 = nI (i + 1) by rw [k1, n_add], show nI j + 1 = nI (j + 1) by rw [k1, n_add], if_pos (n_in (by omega) (by omega)), if_pos (n_in (by omega) (by omega)), if_pos (n_in (by omega) (by omega)), if_pos (n_in (by omega) (by omega)), n_ixn (by omega), n_ixn (by omega), n_ixn (by omega), n_ixn (by omega), a1, a2, b1, b2, c1, c2, d1, d2, turn_iz, turn_iz, turn_iz, turn_iz, unlike_iz (by omega) (by omega), unlike_iz (by omega) (by omega)]
  simp only [b2i_0]
  unfold crP edT
  cases opp (tz (U i) (V i) (U (i + 1)) (V (i + 1)) (U j) (V j)) (tz (U i) (V i) (U (i + 1)) (V (i + 1)) (U (j + 1)) (V (j + 1))) <;> cases opp (tz (U j) (V j) (U (j + 1)) (V (j + 1)) (U i) (V i)) (tz (U j) (V j) (U (j + 1)) (V (j + 1)) (U (i + 1)) (V (i + 1))) <;> simp [b2i]
def adj (n i j : Nat) : Bool := decide (j = nx n i ∨ i = nx n j)
def crI (U V : Nat → Int) (i j : Nat) : Int := if crP U V i j then 1 else 0
def toI (n : Nat) (U V : Nat → Int) (i j : Nat) : Int := if adj n i j then 0 else if meP U V i j then 1 else 0
theorem xc_in {m : Mem} {o n i : Nat} {X Y : Nat → Int} {kx : Int32 → Option Int32} (h : PolyC m o n X Y) (hi : i < n) :
    ∀ (d j fu : Nat) (c : Int), j + d = n → d < fu → LN_crossings_L16 m o (nI i) kx fu (iz c) (nI j) = kx (iz (c + sumN (crI (clz n X) (clz n Y) i) j d))
  | 0, j, fu, c, hd, hf => by
    obtain ⟨f, rfl⟩ : ∃ f, fu = f + 1 := ⟨fu - 1, by omega⟩
    have hn := h.2.1
    rw [LN_crossings_L16, h.1, if_pos (by rw [n_le (by omega) (by omega)]; omega)]
    simp [sumN]
  | d + 1, j, fu, c, hd, hf => by
    obtain ⟨f, rfl⟩ : ∃ f, fu = f + 1 := ⟨fu - 1, by omega⟩
    have hn := h.2.1
    rw [LN_crossings_L16, h.1, if_neg (by rw [n_le (by omega) (by omega)]; omega), crossWithin_eq h hi (by omega)]
    simp only [bI, b2i_0]
    have ih := xc_in (kx := kx) h hi d (j + 1) f (c + crI (clz n X) (clz n Y) i j) (by omega) (by omega)
    rw [show nI j + 1 = nI (j + 1) by rw [k1, n_add], sumN, ← Int.add_assoc, ← ih]
    unfold crI
    cases crP (clz n X) (clz n Y) i j
    · simp
    · simp only [i1, iz_add]; rfl
theorem xc_out {m : Mem} {o n : Nat} {X Y : Nat → Int} {kx : Int32 → Option Int32} (h : PolyC m o n X Y) :
    ∀ (d i fu : Nat) (c : Int), i + d = n → d < fu → LN_crossings_L4 m o kx fu (iz c) (nI i) = kx (iz (c + sumN (fun i => sumN (crI (clz n X) (clz n Y) i) (i + 1) (n - (i + 1))) i d))
  | 0, j, fu, c, hd, hf => by
    obtain ⟨f, rfl⟩ : ∃ f, fu = f + 1 := ⟨fu - 1, by omega⟩
    have hn := h.2.1
    rw [LN_crossings_L4, h.1, if_pos (by rw [n_le (by omega) (by omega)]; omega)]
    simp [sumN]
  | d + 1, i, fu, c, hd, hf => by
    obtain ⟨f, rfl⟩ : ∃ f, fu = f + 1 := ⟨fu - 1, by omega⟩
    have hn := h.2.1
    rw [LN_crossings_L4, h.1, if_neg (by rw [n_le (by omega) (by omega)]; omega)]
    simp only [letV]
    rw [show nI i + 1 = nI (i + 1) by rw [k1, n_add], xc_in h (by omega) (n - (i + 1)) (i + 1) FU c (by omega) (by unfold FU; omega), xc_out h d (i + 1) f _ (by omega) (by omega), sumN, ← Int.add_assoc]
theorem tc_in {m : Mem} {o n i : Nat} {X Y : Nat → Int} {kx : Int32 → Option Int32} (h : PolyC m o n X Y) (hi : i < n) :
    ∀ (d j fu : Nat) (c : Int), j + d = n → d < fu → LN_touches_L16 m o (nI i) kx fu (iz c) (nI j) = kx (iz (c + sumN (toI n (clz n X) (clz n Y) i) j d))
  | 0, j, fu, c, hd, hf => by
    obtain ⟨f, rfl⟩ : ∃ f, fu = f + 1 := ⟨fu - 1, by omega⟩
    have hn := h.2.1
    rw [LN_touches_L16, h.1, if_pos (by rw [n_le (by omega) (by omega)]; omega)]
    simp [sumN]
  | d + 1, j, fu, c, hd, hf => by
    obtain ⟨f, rfl⟩ : ∃ f, fu = f + 1 := ⟨fu - 1, by omega⟩
    have hn := h.2.1
    have n1 := nx_lt hi
    have n2 := nx_lt (show j < n by omega)
    rw [LN_touches_L16, h.1, if_neg (by rw [n_le (by omega) (by omega)]; omega), endsMeet_eq h hi (by omega), LN_after_eq h hi, LN_after_eq h (show j < n by omega)]
    have a1 : (nI (nx n i) = nI j) ↔ nx n i = j := n_eq (by omega) (by omega)
    have a2 : (nI (nx n j) = nI i) ↔ nx n j = i := n_eq (by omega) (by omega)
    simp only [bI, b2i_0, a1, a2]
    have ih := tc_in (kx := kx) h hi d (j + 1) f (c + toI n (clz n X) (clz n Y) i j) (by omega) (by omega)
    rw [show nI j + 1 = nI (j + 1) by rw [k1, n_add], sumN, ← Int.add_assoc, ← ih]
    unfold toI adj
    by_cases z1 : nx n i = j
    · rw [if_pos z1, if_pos (by rw [decide_eq_true_eq]; omega)]; simp
    · rw [if_neg z1]
      by_cases z2 : nx n j = i
      · rw [if_pos z2, if_pos (by rw [decide_eq_true_eq]; omega)]; simp
      · rw [if_neg z2, if_neg (show ¬ (decide (j = nx n i ∨ i = nx n j) = true) by rw [decide_eq_true_eq]; omega)]
        cases meP (clz n X) (clz n Y) i j
        · simp
        · simp only [i1, iz_add]; rfl
theorem tc_out {m : Mem} {o n : Nat} {X Y : Nat → Int} {kx : Int32 → Option Int32} (h : PolyC m o n X Y) :
    ∀ (d i fu : Nat) (c : Int), i + d = n → d < fu → LN_touches_L4 m o kx fu (iz c) (nI i) = kx (iz (c + sumN (fun i => sumN (toI n (clz n X) (clz n Y) i) (i + 1) (n - (i + 1))) i d))
  | 0, j, fu, c, hd, hf => by
    obtain ⟨f, rfl⟩ : ∃ f, fu = f + 1 := ⟨fu - 1, by omega⟩
    have hn := h.2.1
    rw [LN_touches_L4, h.1, if_pos (by rw [n_le (by omega) (by omega)]; omega)]
    simp [sumN]
  | d + 1, i, fu, c, hd, hf => by
    obtain ⟨f, rfl⟩ : ∃ f, fu = f + 1 := ⟨fu - 1, by omega⟩
    have hn := h.2.1
    rw [LN_touches_L4, h.1, if_neg (by rw [n_le (by omega) (by omega)]; omega)]
    simp only [letV]
    rw [show nI i + 1 = nI (i + 1) by rw [k1, n_add], tc_in h (by omega) (n - (i + 1)) (i + 1) FU c (by omega) (by unfold FU; omega), tc_out h d (i + 1) f _ (by omega) (by omega), sumN, ← Int.add_assoc]
/-- twice the ground by a side -/
def arI (U V : Nat → Int) (i : Nat) : Int := U i * V (i + 1) - U (i + 1) * V i
theorem ar_loop {m : Mem} {o n : Nat} {X Y : Nat → Int} {kx : Int32 → Option Int32} (h : PolyC m o n X Y) :
    ∀ (d i fu : Nat) (c : Int), i + d = n → d < fu → LN_twiceArea_L4 m o kx fu (iz c) (nI i) = kx (iz (c + sumN (arI (clz n X) (clz n Y)) i d))
  | 0, j, fu, c, hd, hf => by
    obtain ⟨f, rfl⟩ : ∃ f, fu = f + 1 := ⟨fu - 1, by omega⟩
    have hn := h.2.1
    rw [LN_twiceArea_L4, h.1, if_pos (by rw [n_le (by omega) (by omega)]; omega)]
    simp [sumN]
  | d + 1, i, fu, c, hd, hf => by
    obtain ⟨f, rfl⟩ : ∃ f, fu = f + 1 := ⟨fu - 1, by omega⟩
    have hn := h.2.1
    have hi : i < n := by omega
    have n1 := nx_lt hi
    obtain ⟨a1, a2, a3, a4⟩ := h.2.2 i hi
    obtain ⟨b1, b2, b3, b4⟩ := h.2.2 (nx n i) n1
    rw [LN_twiceArea_L4, h.1, if_neg (by rw [n_le (by omega) (by omega)]; omega)]
    simp only [letV]
    rw [LN_after_eq h hi, if_pos (n_in (by omega) (by omega)), if_pos (n_in (by omega) (by omega)), n_ixn (by omega), n_ixn (by omega), a1, a2, b1, b2, iz_mul, iz_mul, iz_sub, iz_add, show nI i + 1 = nI (i + 1) by rw [k1, n_add], ar_loop h d (i + 1) f _ (by omega) (by omega), sumN, ← Int.add_assoc]
    unfold arI
    rw [clz_lt hi, clz_lt hi, clz_nx hi, clz_nx hi]
theorem lr_in {m : Mem} {n i : Nat} {U V : Nat → Int} {x2 x3 : Int32} {kx : Mem → Int32 → Int32 → Option (Int32 × Mem)} (h : PolyR m n (fun i => 2 * U i) (fun i => 2 * V i)) (hi : i < n) :
    ∀ (d j fu : Nat) (c t : Int), j + d = i → d < fu → RM_line_L99 x2 x3 (nI i) kx fu m (iz c) (iz t) (nI j) = kx m (iz (c + sumN (crI U V i) j d)) (iz (t + sumN (toI n U V i) j d))
  | 0, j, fu, c, t, hd, hf => by
    obtain ⟨f, rfl⟩ : ∃ f, fu = f + 1 := ⟨fu - 1, by omega⟩
    have hn := h.2.1
    rw [RM_line_L99, if_pos (by rw [n_le (by omega) (by omega)]; omega)]
    simp [sumN]
  | d + 1, j, fu, c, t, hd, hf => by
    obtain ⟨f, rfl⟩ : ∃ f, fu = f + 1 := ⟨fu - 1, by omega⟩
    have hn := h.2.1
    rw [RM_line_L99, h.1, if_neg (by rw [n_le (by omega) (by omega)]; omega), areCrossed_eq h hi (by omega), areMet_eq h hi (by omega), crP_two, meP_two, n_sub (by omega), k1, n_sub (by omega), n_add]
    have a1 : (nI (i - j) = nI 1) ↔ i - j = 1 := n_eq (by omega) (by omega)
    have a2 : (nI (i - j) = nI (n - 1)) ↔ i - j = n - 1 := n_eq (by omega) (by omega)
    simp only [bI, b2i_0, a1, a2]
    have ih := lr_in (kx := kx) (x2 := x2) (x3 := x3) h hi d (j + 1) f (c + crI U V i j) (t + toI n U V i j) (by omega) (by omega)
    rw [sumN, sumN, ← Int.add_assoc, ← Int.add_assoc, ← ih]
    have ea : adj n i j = decide (i - j = 1 ∨ i - j = n - 1) := by
      unfold adj nx
      apply decide_eq_decide.mpr
      split <;> split <;> omega
    unfold toI crI
    rw [ea]
    have e1 : nI 1 = iz 1 := by decide
    cases hc : crP U V i j
    · simp only [if_true, Bool.false_eq_true, if_false, Int.add_zero]
      by_cases z1 : i - j = 1
      · rw [if_pos z1, if_pos (by rw [decide_eq_true_eq]; omega)]; simp
      · rw [if_neg z1]
        by_cases z2 : i - j = n - 1
        · rw [if_pos z2, if_pos (by rw [decide_eq_true_eq]; omega)]; simp
        · rw [if_neg z2, if_neg (show ¬ (decide (i - j = 1 ∨ i - j = n - 1) = true) by rw [decide_eq_true_eq]; omega)]
          cases meP U V i j
          · simp
          · simp only [e1, iz_add]; rfl
    · rw [meP_cr hc]
      simp [e1, iz_add]
theorem lr_out {m : Mem} {n : Nat} {U V : Nat → Int} {x2 : Int32} {kx : Mem → Int32 → Int32 → Int32 → Option (Int32 × Mem)} (h : PolyR m n (fun i => 2 * U i) (fun i => 2 * V i)) :
    ∀ (d i fu : Nat) (a c t : Int), i + d = n → d < fu → RM_line_L49 x2 kx fu m (iz a) (iz c) (iz t) (nI i) = kx m (iz (a + 4 * sumN (arI U V) i d)) (iz (c + sumN (fun i => sumN (crI U V i) 0 i) i d)) (iz (t + sumN (fun i => sumN (toI n U V i) 0 i) i d))
  | 0, j, fu, a, c, t, hd, hf => by
    obtain ⟨f, rfl⟩ : ∃ f, fu = f + 1 := ⟨fu - 1, by omega⟩
    have hn := h.2.1
    rw [RM_line_L49, h.1, if_pos (by rw [n_le (by omega) (by omega)]; omega)]
    simp [sumN]
  | d + 1, i, fu, a, c, t, hd, hf => by
    obtain ⟨f, rfl⟩ : ∃ f, fu = f + 1 := ⟨fu - 1, by omega⟩
    have hn := h.2.1
    obtain ⟨a1, a2, -, -⟩ := h.2.2 i (by omega)
    obtain ⟨b1, b2, -, -⟩ := h.2.2 (i + 1) (by omega)
    have li := fun v kx => lr_in (x2 := x2) (x3 := v) (kx := kx) h (show i < n by omega) i 0 FU c t (by omega) (by unfold FU; omega)
    rw [show nI 0 = 0 from k0.symm] at li
    rw [RM_line_L49, h.1, if_neg (by rw [n_le (by omega) (by omega)]; omega), show nI i + 1 = nI (i + 1) by rw [k1, n_add], if_pos (n_in (by omega) (by omega)), if_pos (n_in (by omega) (by omega)), n_ixn (by omega), n_ixn (by omega), a1, a2, b1, b2]
    simp only [letV, iz_mul, iz_sub, iz_add]
    rw [li, lr_out h d (i + 1) f _ _ _ (by omega) (by omega)]
    simp only [sumN]
    have e : a + (2 * U i * (2 * V (i + 1)) - 2 * U (i + 1) * (2 * V i)) + 4 * sumN (arI U V) (i + 1) d = a + 4 * (arI U V i + sumN (arI U V) (i + 1) d) := by
      unfold arI; grind
    rw [e, Int.add_assoc, Int.add_assoc]
theorem adj_sym (n i j : Nat) : adj n i j = adj n j i := by unfold adj; exact decide_eq_decide.mpr Or.comm
theorem four_cases (w : Int32) : (RM_isIn w 0 3 = 0 ∧ ¬ w = 0 ∧ ¬ w = 1 ∧ ¬ w = 2 ∧ ¬ w = 3) ∨ ∃ d : Nat, d < 4 ∧ w = nI d ∧ RM_isIn w 0 3 = 1 := by
  rcases spl w 4 (by omega) with hx | ⟨hx, hx2⟩ | ⟨d, hd, rfl⟩
  · refine Or.inl ⟨isIn_lo hx, ?_, ?_, ?_, ?_⟩ <;> (rintro rfl; revert hx; decide)
  · refine Or.inl ⟨by rw [k3]; exact isIn_hi (n := 3) (by omega) hx2, ?_, ?_, ?_, ?_⟩ <;> (rintro rfl; revert hx2; decide)
  · exact Or.inr ⟨d, hd, rfl, isIn_in (a := 0) (b := 3) (Nat.zero_le _) (by omega) (by omega)⟩
theorem op_line {m : Mem} (h : Inv m) (x w : Int32) : ∃ v m2, OH_line m x w = some v ∧ RM_line m x w = some (v, m2) ∧ Inv m2 := by
  have hI : Inv (sI m 133 0 0) := inv_frame fr0 h
  have g0 : ∀ j, gI (sI m 133 0 0) 135 j = gI m 135 j := fun j => by rw [gI_sI, if_neg (by omega)]
  rcases line_cases h x with ⟨h1, h2⟩ | ⟨k, hk, hk2, rfl, h1, h2⟩
  · refine ⟨-1, sI m 133 0 0, by rw [OH_line, h1, if_pos rfl], ?_, hI⟩
    simp only [RM_line, letM, h2 _ (g0 0), bI, if_pos]
  · obtain ⟨n, X, Y, D⟩ := lineD h hk2
    obtain ⟨m2, l1, l2, F2⟩ := D.look hk g0
    have hn := D.2.1
    have hp := D.2.2.2.2.1
    have h0 : 0 < n := by have := D.1; omega
    have hU := clz_bx h0 (fun i hi => (D.2.2.2.1 i hi).2.2.1)
    have hV := clz_bx h0 (fun i hi => (D.2.2.2.1 i hi).2.2.2)
    rcases four_cases w with ⟨w0, w1, w2, w3, w4⟩ | ⟨d, hd, rfl, w1⟩
    · refine ⟨-1, sI m 133 0 0, ?_, ?_, hI⟩
      · rw [OH_line, h1, if_neg (by decide), if_pos (n_in hk (by omega)), if_neg w1, if_neg w2, if_neg w3, if_neg w4]
      · simp only [RM_line, letM, h2 _ (g0 0), bI, w0, if_pos, ite_self]
    · have lo := fun kx => lr_out (x2 := nI d) (kx := kx) l2 n 0 FU 0 0 0 (by omega) (by unfold FU; omega)
      rw [Int.zero_add, Int.zero_add, Int.zero_add, show iz 0 = 0 from i0.symm, show nI 0 = 0 from k0.symm] at lo
      have sc : sumN (fun i => sumN (crI (clz n X) (clz n Y) i) 0 i) 0 n = sumN (fun i => sumN (crI (clz n X) (clz n Y) i) (i + 1) (n - (i + 1))) 0 n := by
        rw [← sumN_tri]
        apply sumN_cong; intro i _ _
        apply sumN_cong; intro j _ _
        unfold crI; rw [crP_sym]
      have st : sumN (fun i => sumN (toI n (clz n X) (clz n Y) i) 0 i) 0 n = sumN (fun i => sumN (toI n (clz n X) (clz n Y) i) (i + 1) (n - (i + 1))) 0 n := by
        rw [← sumN_tri]
        apply sumN_cong; intro i _ _
        apply sumN_cong; intro j _ _
        unfold toI; rw [meP_sym, adj_sym]
      have sa := sumN_bd (f := arI (clz n X) (clz n Y)) (B := 800) (by omega) n 0 (fun j _ _ => by
        have p := hU j; have p2 := hU (j + 1); have q := hV j; have q2 := hV (j + 1)
        have r1 := mbd (a := clz n X j) (b := clz n Y (j + 1)) (A := 20) (B := 20) (by omega) (by omega)
        have r2 := mbd (a := clz n X (j + 1)) (b := clz n Y j) (A := 20) (B := 20) (by omega) (by omega)
        unfold arI
        constructor <;> omega)
      have ed : iz (4 * sumN (arI (clz n X) (clz n Y)) 0 n) / 4 = iz (sumN (arI (clz n X) (clz n Y)) 0 n) := by
        rw [show (4 : Int32) = iz 4 by decide, iz_div (by omega) (by omega) (by omega), Int.mul_comm, Int.mul_tdiv_cancel _ (by omega)]
      have xo := xc_out (kx := fun y1 => some y1) hp n 0 FU 0 (by omega) (by unfold FU; omega)
      have to' := tc_out (kx := fun y1 => some y1) hp n 0 FU 0 (by omega) (by unfold FU; omega)
      have ao := ar_loop (kx := fun y1 => some y1) hp n 0 FU 0 (by omega) (by unfold FU; omega)
      rw [Int.zero_add, show iz 0 = 0 from i0.symm, show nI 0 = 0 from k0.symm] at xo to' ao
      have eI : Inv m2 := inv_frame (((Frm.sI (L := W_RM_line) (show sI m 133 0 0 = _ from rfl) rfl).tr (F2.mo (wL_sub rfl))).mo (wL_sub rfl)) h
      refine ⟨if d = 0 then nI n else if d = 1 then iz (sumN (arI (clz n X) (clz n Y)) 0 n) else if d = 2 then iz (sumN (fun i => sumN (crI (clz n X) (clz n Y) i) (i + 1) (n - (i + 1))) 0 n) else iz (sumN (fun i => sumN (toI n (clz n X) (clz n Y) i) (i + 1) (n - (i + 1))) 0 n), m2, ?_, ?_, eI⟩
      · rw [OH_line, h1, if_neg (by decide), if_pos (n_in hk (by omega)), n_ixn (by omega), hp.1]
        unfold LN_twiceArea LN_crossings LN_touches
        rw [xo, to', ao]
        simp only [bI]
        rcases (show d = 0 ∨ d = 1 ∨ d = 2 ∨ d = 3 by omega) with rfl | rfl | rfl | rfl <;> rfl
      · simp only [RM_line, letM, h2 _ (g0 0), bI, l1, bM, w1, l2.1]
        rw [lo, sc, st, ed]
        rcases (show d = 0 ∨ d = 1 ∨ d = 2 ∨ d = 3 by omega) with rfl | rfl | rfl | rfl <;> rfl

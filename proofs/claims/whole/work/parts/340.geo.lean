/-! GEOMETRY over whole numbers, and what both sides compute of it -/
def b2i (b : Bool) : Int32 := if b then 1 else 0
theorem b2i_t : b2i true = 1 := rfl
theorem b2i_f : b2i false = 0 := rfl
theorem b2i_z {b : Bool} : b2i b = 0 ∨ b2i b = 1 := by cases b; exact Or.inl rfl; exact Or.inr rfl
theorem b2i_0 {b : Bool} : b2i b = 0 ↔ b = false := by cases b <;> decide
theorem b2i_1 {b : Bool} : b2i b = 1 ↔ b = true := by cases b <;> decide
abbrev bd (B z : Int) : Prop := -B ≤ z ∧ z ≤ B
theorem mbd {a b A B : Int} (ha : bd A a) (hb : bd B b) : bd (A * B) (a * b) := by
  have h1 : (a * b).natAbs = a.natAbs * b.natAbs := Int.natAbs_mul a b
  have h2 : a.natAbs * b.natAbs ≤ A.toNat * B.toNat := Nat.mul_le_mul (by omega) (by omega)
  have h3 : ((A.toNat * B.toNat : Nat) : Int) = A * B := by rw [Int.natCast_mul, Int.toNat_of_nonneg (by omega), Int.toNat_of_nonneg (by omega)]
  constructor <;> omega
theorem pos_mul {p q : Int} : 0 < p * q ↔ (0 < p ∧ 0 < q) ∨ (p < 0 ∧ q < 0) := by
  constructor
  · intro h
    rcases Int.lt_trichotomy p 0 with h1 | h1 | h1
    · rcases Int.lt_trichotomy q 0 with h2 | h2 | h2
      · exact Or.inr ⟨h1, h2⟩
      · subst h2; simp at h
      · have := Int.mul_neg_of_neg_of_pos h1 h2; omega
    · subst h1; simp at h
    · rcases Int.lt_trichotomy q 0 with h2 | h2 | h2
      · have := Int.mul_neg_of_pos_of_neg h1 h2; omega
      · subst h2; simp at h
      · exact Or.inl ⟨h1, h2⟩
  · rintro (⟨h1, h2⟩ | ⟨h1, h2⟩)
    · exact Int.mul_pos h1 h2
    · exact Int.mul_pos_of_neg_of_neg h1 h2
def tz (ax ay bx by' x y : Int) : Int := (bx - ax) * (y - ay) - (by' - ay) * (x - ax)
def btw (v a b : Int) : Bool := decide ((a ≤ v ∧ v ≤ b) ∨ (b ≤ v ∧ v ≤ a))
def onZ (ax ay bx by' x y : Int) : Bool := decide (tz ax ay bx by' x y = 0) && (btw x ax bx && btw y ay by')
def r1 (ax ay bx by' x y : Int) : Int := if ay ≤ y ∧ y < by' then (if 0 < tz ax ay bx by' x y then 1 else 0) else if by' ≤ y ∧ y < ay then (if tz ax ay bx by' x y < 0 then -1 else 0) else 0
theorem tz_bd {ax ay bx by' x y : Int} (h1 : bd 100 ax) (h2 : bd 100 ay) (h3 : bd 100 bx) (h4 : bd 100 by') (h5 : bd 100 x) (h6 : bd 100 y) : bd 80000 (tz ax ay bx by' x y) := by
  have a := mbd (a := bx - ax) (b := y - ay) (A := 200) (B := 200) (by omega) (by omega)
  have b := mbd (a := by' - ay) (b := x - ax) (A := 200) (B := 200) (by omega) (by omega)
  unfold tz
  constructor <;> omega
theorem tz_two (ax ay bx by' x y : Int) : tz (2 * ax) (2 * ay) (2 * bx) (2 * by') (2 * x) (2 * y) = 4 * tz ax ay bx by' x y := by unfold tz; grind
theorem onZ_two (ax ay bx by' x y : Int) : onZ (2 * ax) (2 * ay) (2 * bx) (2 * by') (2 * x) (2 * y) = onZ ax ay bx by' x y := by
  unfold onZ btw
  rw [tz_two]
  congr 1
  · exact decide_eq_decide.mpr (by omega)
  · congr 1 <;> exact decide_eq_decide.mpr (by omega)
theorem r1_two (ax ay bx by' x y : Int) : r1 (2 * ax) (2 * ay) (2 * bx) (2 * by') (2 * x) (2 * y) = r1 ax ay bx by' x y := by
  unfold r1
  rw [tz_two]
  have e1 : (2 * ay ≤ 2 * y ∧ 2 * y < 2 * by') ↔ (ay ≤ y ∧ y < by') := by omega
  have e2 : (2 * by' ≤ 2 * y ∧ 2 * y < 2 * ay) ↔ (by' ≤ y ∧ y < ay) := by omega
  have e3 : (0 < 4 * tz ax ay bx by' x y) ↔ (0 < tz ax ay bx by' x y) := by omega
  have e4 : (4 * tz ax ay bx by' x y < 0) ↔ (tz ax ay bx by' x y < 0) := by omega
  simp only [e1, e2, e3, e4]
theorem turn_iz (ax ay bx by' x y : Int) : RM_turn (iz ax) (iz ay) (iz bx) (iz by') (iz x) (iz y) = iz (tz ax ay bx by' x y) := by
  unfold RM_turn tz
  simp only [iz_sub, iz_mul]
theorem z_iz (z : Int) (h : z = 0) : (0 : Int32) = iz z := by subst h; rfl
theorem i0 : (0 : Int32) = iz 0 := by decide
theorem i1 : (1 : Int32) = iz 1 := by decide
theorem i2 : (2 : Int32) = iz 2 := by decide
theorem im1 : (-1 : Int32) = iz (-1) := by decide
theorem i1000 : (1000 : Int32) = iz 1000 := by decide
theorem passes_iz {ax ay bx by' x y : Int} (h1 : bd 100 ax) (h2 : bd 100 ay) (h3 : bd 100 bx) (h4 : bd 100 by') (h5 : bd 100 x) (h6 : bd 100 y) :
    OH_passes (iz ax) (iz ay) (iz bx) (iz by') (iz x) (iz y) = if onZ ax ay bx by' x y then 1000 else iz (r1 ax ay bx by' x y) := by
  have ht := tz_bd h1 h2 h3 h4 h5 h6
  have hJ : OH_passes_J52 (iz ay) (iz by') (iz y) (iz (tz ax ay bx by' x y)) = iz (r1 ax ay bx by' x y) := by
    unfold OH_passes_J52 OH_passes_J75 r1
    simp only [i0, i1, im1]
    rw [iz_neg]
    simp only [iz_lt (show R31 y by omega) (show R31 ay by omega), iz_lt (show R31 y by omega) (show R31 by' by omega), iz_le (show R31 by' by omega) (show R31 y by omega), iz_le (show R31 ay by omega) (show R31 y by omega), iz_le (show R31 (tz ax ay bx by' x y) by omega) (show R31 0 by omega), iz_le (show R31 0 by omega) (show R31 (tz ax ay bx by' x y) by omega)]
    by_cases a1 : y < ay
    · by_cases a2 : y < by'
      · simp only [if_pos a1, if_pos a2, if_neg (show ¬ (ay ≤ y ∧ y < by') by omega), if_neg (show ¬ (by' ≤ y ∧ y < ay) by omega)]
      · simp only [if_pos a1, if_neg a2, if_neg (show ¬ (ay ≤ y ∧ y < by') by omega), if_pos (show (by' ≤ y ∧ y < ay) by omega), if_neg (show ¬ ay ≤ y by omega)]
        by_cases a3 : 0 ≤ tz ax ay bx by' x y
        · rw [if_pos a3, if_neg (by omega)]
        · rw [if_neg a3, if_pos (by omega)]
    · by_cases a2 : by' ≤ y
      · simp only [if_neg a1, if_pos a2, if_neg (show ¬ (ay ≤ y ∧ y < by') by omega), if_neg (show ¬ (by' ≤ y ∧ y < ay) by omega), if_neg (show ¬ y < by' by omega), if_pos (show ay ≤ y by omega)]
      · simp only [if_neg a1, if_neg a2, if_pos (show (ay ≤ y ∧ y < by') by omega)]
        by_cases a3 : tz ax ay bx by' x y ≤ 0
        · rw [if_pos a3, if_neg (by omega)]
        · rw [if_neg a3, if_pos (by omega)]
  have e : OH_passes (iz ax) (iz ay) (iz bx) (iz by') (iz x) (iz y) = if tz ax ay bx by' x y = 0 ∧ ¬ 0 < (ax - x) * (bx - x) ∧ ¬ 0 < (ay - y) * (by' - y) then 1000 else iz (r1 ax ay bx by' x y) := by
    have b1 := mbd (a := ax - x) (b := bx - x) (A := 200) (B := 200) (by omega) (by omega)
    have b2 := mbd (a := ay - y) (b := by' - y) (A := 200) (B := 200) (by omega) (by omega)
    unfold OH_passes letV
    simp only [iz_sub, iz_mul]
    rw [show iz ((bx - ax) * (y - ay) - (by' - ay) * (x - ax)) = iz (tz ax ay bx by' x y) from rfl]
    simp only [hJ]
    simp only [i0, iz_eq (show R31 (tz ax ay bx by' x y) by omega) (show R31 0 by omega), iz_lt (show R31 0 by omega) (show R31 ((ax - x) * (bx - x)) by omega), iz_lt (show R31 0 by omega) (show R31 ((ay - y) * (by' - y)) by omega)]
    split
    · split
      · rw [if_neg (by omega)]
      · split
        · rw [if_neg (by omega)]
        · rw [if_pos (by omega)]
    · rw [if_neg (by omega)]
  rw [e]
  have eo : (onZ ax ay bx by' x y = true) ↔ (tz ax ay bx by' x y = 0 ∧ ¬ 0 < (ax - x) * (bx - x) ∧ ¬ 0 < (ay - y) * (by' - y)) := by
    unfold onZ btw
    rw [pos_mul, pos_mul]
    simp only [Bool.and_eq_true, decide_eq_true_eq]
    omega
  by_cases ho : onZ ax ay bx by' x y = true
  · rw [if_pos ho, if_pos (eo.mp ho)]
  · rw [if_neg ho, if_neg (fun q => ho (eo.mpr q))]
theorem r1_bd (ax ay bx by' x y : Int) : bd 1 (r1 ax ay bx by' x y) := by
  unfold r1
  split
  · split <;> omega
  · split
    · split <;> omega
    · omega
/-- a closed row of corners: how often round, how often crossed, on it -/
def rndP (U V : Nat → Int) (x y : Int) : Nat → Int
  | 0 => 0
  | i + 1 => rndP U V x y i + r1 (U i) (V i) (U (i + 1)) (V (i + 1)) x y
def crsP (U V : Nat → Int) (x y : Int) : Nat → Int
  | 0 => 0
  | i + 1 => crsP U V x y i + ((r1 (U i) (V i) (U (i + 1)) (V (i + 1)) x y).natAbs : Int)
def onP (U V : Nat → Int) (x y : Int) : Nat → Bool
  | 0 => false
  | i + 1 => onP U V x y i || onZ (U i) (V i) (U (i + 1)) (V (i + 1)) x y
theorem rndP_bd (U V : Nat → Int) (x y : Int) : ∀ n : Nat, bd n (rndP U V x y n)
  | 0 => by simp only [rndP]; constructor <;> omega
  | n + 1 => by
    have h := rndP_bd U V x y n
    have h2 := r1_bd (U n) (V n) (U (n + 1)) (V (n + 1)) x y
    simp only [rndP]
    constructor <;> omega
theorem crsP_bd (U V : Nat → Int) (x y : Int) : ∀ n : Nat, 0 ≤ crsP U V x y n ∧ crsP U V x y n ≤ n
  | 0 => by simp [crsP]
  | n + 1 => by
    have h := crsP_bd U V x y n
    have h2 := r1_bd (U n) (V n) (U (n + 1)) (V (n + 1)) x y
    simp only [crsP]
    constructor <;> omega
theorem crs_par (U V : Nat → Int) (x y : Int) : ∀ n : Nat, crsP U V x y n % 2 = rndP U V x y n % 2
  | 0 => rfl
  | n + 1 => by
    have h := crs_par U V x y n
    have h2 := r1_bd (U n) (V n) (U (n + 1)) (V (n + 1)) x y
    simp only [crsP, rndP]
    omega
theorem rndP_two (U V : Nat → Int) (x y : Int) : ∀ n : Nat, rndP (fun i => 2 * U i) (fun i => 2 * V i) (2 * x) (2 * y) n = rndP U V x y n
  | 0 => rfl
  | n + 1 => by simp only [rndP]; rw [rndP_two U V x y n, r1_two]
theorem onP_two (U V : Nat → Int) (x y : Int) : ∀ n : Nat, onP (fun i => 2 * U i) (fun i => 2 * V i) (2 * x) (2 * y) n = onP U V x y n
  | 0 => rfl
  | n + 1 => by simp only [onP]; rw [onP_two U V x y n, onZ_two]
/-- whose a point is by a line -/
def hisP (law edge : Int32) (U V : Nat → Int) (x y : Int) (n : Nat) : Bool :=
  if onP U V x y n then decide (edge = 1) else if law = 0 then decide (rndP U V x y n % 2 = 1) else if law = 1 then decide (rndP U V x y n ≠ 0) else decide (0 < rndP U V x y n)
theorem hisP_two (law edge : Int32) (U V : Nat → Int) (x y : Int) (n : Nat) : hisP law edge (fun i => 2 * U i) (fun i => 2 * V i) (2 * x) (2 * y) n = hisP law edge U V x y n := by
  unfold hisP
  rw [rndP_two, onP_two]
theorem and_one : ∀ k : Nat, k < 41 → iz ((k : Int) - 20) &&& 1 = iz (((k : Int) - 20) % 2) := by decide +kernel
theorem OH_isHis_eq {law : Int32} {z : Int} (hz : bd 20 z) : OH_isHis law (iz z) = b2i (if law = 0 then decide (z % 2 = 1) else if law = 1 then decide (z ≠ 0) else decide (0 < z)) := by
  have hand : iz z &&& 1 = iz (z % 2) := by
    have := and_one (z + 20).toNat (by omega)
    rwa [show ((z + 20).toNat : Int) - 20 = z by omega] at this
  unfold OH_isHis
  simp only [hand]
  have e1 : (iz (z % 2) = 0) ↔ (z % 2 = 0) := by rw [i0, iz_eq (by omega) (by omega)]
  have e2 : (iz z = 0) ↔ (z = 0) := by rw [i0, iz_eq (by omega) (by omega)]
  have e3 : (iz z ≤ 0) ↔ (z ≤ 0) := by rw [i0, iz_le (by omega) (by omega)]
  simp only [e1, e2, e3]
  by_cases l0 : law = 0
  · rw [if_pos l0, if_pos l0]
    by_cases h : z % 2 = 0
    · rw [if_pos h, decide_eq_false (by omega)]; rfl
    · rw [if_neg h, decide_eq_true (by omega)]; rfl
  · rw [if_neg l0, if_neg l0]
    by_cases l1 : law = 1
    · rw [if_pos l1, if_pos l1]
      by_cases h : z = 0
      · rw [if_pos h, decide_eq_false (by omega)]; rfl
      · rw [if_neg h, decide_eq_true (by omega)]; rfl
    · rw [if_neg l1, if_neg l1]
      by_cases h : z ≤ 0
      · rw [if_pos h, decide_eq_false (by omega)]; rfl
      · rw [if_neg h, decide_eq_true (by omega)]; rfl

/-! an edge at the middles of squares -/
theorem iz_div {a b : Int} (ha : R31 a) (hb : 0 < b) (hb2 : b < 2147483648) : iz a / iz b = iz (a.tdiv b) := by
  apply Int32.toInt_inj.mp
  have hq : R31 (a.tdiv b) := by
    have h1 : (a.tdiv b).natAbs ≤ a.natAbs := by rw [Int.natAbs_tdiv]; exact Nat.div_le_self _ _
    rcases Int.le_total 0 a with h | h
    · have := Int.tdiv_nonneg h (show 0 ≤ b by omega)
      constructor <;> omega
    · have h2 := Int.tdiv_nonneg (a := -a) (b := b) (by omega) (show 0 ≤ b by omega)
      rw [Int.neg_tdiv] at h2
      constructor <;> omega
  rw [Int32.toInt_div, iz_toInt ha, iz_toInt ⟨by omega, hb2⟩, iz_toInt hq]
  rw [Int.bmod_eq_of_le (by omega) (by omega)]
theorem xor_neg {a b : Int} (ha : R31 a) (hb : 0 < b) (hb2 : b < 2147483648) : (iz a ^^^ iz b) < 0 ↔ a < 0 := by
  have key : ∀ x : Int32, x < 0 ↔ x.toBitVec.msb = true := by
    intro x
    rw [Int32.lt_iff_toInt_lt, show (0 : Int32).toInt = 0 from rfl, BitVec.msb_eq_toInt]
    simp
  rw [key, Int32.toBitVec_xor, BitVec.msb_xor]
  have h1 : (iz b).toBitVec.msb = false := by
    have := key (iz b)
    rw [i0, iz_lt ⟨by omega, hb2⟩ (by omega)] at this
    cases h : (iz b).toBitVec.msb with
    | false => rfl
    | true => have := this.mpr h; omega
  rw [h1, Bool.xor_false, ← key, i0, iz_lt ha (by omega)]
theorem fdiv_iz {a b : Int} (ha : bd 100000 a) (hb : 0 < b) (hb2 : b < 100000) : JM_floorDiv (iz a) (iz b) = iz (a / b) := by
  unfold JM_floorDiv
  have hq : bd 100000 (a.tdiv b) := by
    have h1 : (a.tdiv b).natAbs ≤ a.natAbs := by rw [Int.natAbs_tdiv]; exact Nat.div_le_self _ _
    omega
  have hm := Int.mul_tdiv_add_tmod a b
  have hmb : bd 100000 (a.tdiv b * b) := by
    have h2 : (a.tmod b).natAbs ≤ a.natAbs := by rw [Int.natAbs_tmod]; exact Nat.mod_le _ _
    have h3 : a.tdiv b * b = a - a.tmod b := by rw [Int.mul_comm]; omega
    have h4 : (a.tdiv b * b).natAbs ≤ a.natAbs := by
      rw [Int.natAbs_mul, Int.natAbs_tdiv]; exact Nat.div_mul_le_self _ _
    omega
  rw [iz_div (by omega) hb (by omega), iz_mul]
  simp only [xor_neg (show R31 a by omega) hb (show b < 2147483648 by omega), iz_eq (show R31 (a.tdiv b * b) by omega) (show R31 a by omega)]
  have hc : a.tdiv b * b = b * a.tdiv b := Int.mul_comm _ _
  by_cases h0 : 0 ≤ a
  · rw [if_neg (by omega), Int.tdiv_eq_ediv_of_nonneg h0]
  · by_cases hd : b ∣ a
    · have : a.tdiv b = a / b := by rw [Int.tdiv_eq_ediv_of_dvd hd]
      have hz : a.tmod b = 0 := Int.tmod_eq_zero_of_dvd hd
      rw [if_neg (by omega), this]
    · have hnz : a.tmod b ≠ 0 := fun h => hd (Int.dvd_of_tmod_eq_zero h)
      rw [if_pos ⟨by omega, by omega⟩, im1, iz_add]
      congr 1
      have h5 := Int.tdiv_eq_ediv (a := a) (b := b)
      rw [h5]
      have hs : b.sign = 1 := Int.sign_eq_one_of_pos hb
      rw [if_neg (by rintro (h | h); exact h0 h; exact hd h), hs]
      omega
theorem fmod_iz {a b : Int} (ha : bd 100000 a) (hb : 0 < b) (hb2 : b < 100000) : (JM_floorMod (iz a) (iz b) = 0) ↔ b ∣ a := by
  have hq : bd 100000 (a.tdiv b) := by
    have h1 : (a.tdiv b).natAbs ≤ a.natAbs := by rw [Int.natAbs_tdiv]; exact Nat.div_le_self _ _
    omega
  have hm := Int.mul_tdiv_add_tmod a b
  have hc : a.tdiv b * b = b * a.tdiv b := Int.mul_comm _ _
  have er : irm (iz a) (iz b) = iz (a.tmod b) := by
    unfold irm
    rw [iz_div (by omega) hb (by omega), iz_mul, iz_sub]
    congr 1
    omega
  have hr : bd 100000 (a.tmod b) := by
    have h2 : (a.tmod b).natAbs ≤ a.natAbs := by rw [Int.natAbs_tmod]; exact Nat.mod_le _ _
    omega
  have hlt : (a.tmod b).natAbs < b.natAbs := by rw [Int.natAbs_tmod]; exact Nat.mod_lt _ (by omega)
  unfold JM_floorMod
  rw [er]
  simp only [xor_neg (show R31 a by omega) hb (show b < 2147483648 by omega)]
  have e0 : (iz (a.tmod b) = 0) ↔ a.tmod b = 0 := by rw [i0, iz_eq (by omega) (by omega)]
  have ed : a.tmod b = 0 ↔ b ∣ a := ⟨Int.dvd_of_tmod_eq_zero, Int.tmod_eq_zero_of_dvd⟩
  rw [← ed]
  split
  · rw [iz_add, i0, iz_eq (by omega) (by omega)]
    rename_i h
    rw [e0] at h
    omega
  · exact e0
/-- the column of squares whose middle is the last one west of where the edge from u down to l goes through row r -/
def colz (ux uy lx ly r : Int) : Int := ux + ((2 * (r - uy) + 1) * (lx - ux) - (ly - uy) - 1) / (2 * (ly - uy))
def alz (ux uy lx ly r : Int) : Int := (2 * (r - uy) + 1) * (lx - ux) - (ly - uy)
theorem tz_mid (ax ay bx by' c r : Int) : tz (2 * ax) (2 * ay) (2 * bx) (2 * by') (2 * c + 1) (2 * r + 1) = 2 * (alz ax ay bx by' r - (c - ax) * (2 * (by' - ay))) := by unfold tz alz; grind
theorem tz_rev (ax ay bx by' x y : Int) : tz ax ay bx by' x y = - tz bx by' ax ay x y := by unfold tz; grind
theorem colz_le {ux uy lx ly r c : Int} (h : uy < ly) : c ≤ colz ux uy lx ly r ↔ 0 < tz (2 * ux) (2 * uy) (2 * lx) (2 * ly) (2 * c + 1) (2 * r + 1) := by
  rw [tz_mid]
  have h1 : c - ux ≤ (alz ux uy lx ly r - 1) / (2 * (ly - uy)) ↔ (c - ux) * (2 * (ly - uy)) ≤ alz ux uy lx ly r - 1 := Int.le_ediv_iff_mul_le (by omega)
  have h2 : colz ux uy lx ly r = ux + (alz ux uy lx ly r - 1) / (2 * (ly - uy)) := rfl
  rw [h2]
  constructor
  · intro h3
    have := h1.mp (by omega)
    omega
  · intro h3
    have := h1.mpr (by omega)
    omega
theorem r1_mid (ax ay bx by' c r : Int) : r1 (2 * ax) (2 * ay) (2 * bx) (2 * by') (2 * c + 1) (2 * r + 1) = if ay ≤ r ∧ r < by' then (if c ≤ colz ax ay bx by' r then 1 else 0) else if by' ≤ r ∧ r < ay then (if c ≤ colz bx by' ax ay r then -1 else 0) else 0 := by
  unfold r1
  by_cases h1 : ay ≤ r ∧ r < by'
  · rw [if_pos h1, if_pos (by omega)]
    simp only [colz_le (show ay < by' by omega)]
  · rw [if_neg h1, if_neg (by omega)]
    by_cases h2 : by' ≤ r ∧ r < ay
    · rw [if_pos h2, if_pos (by omega)]
      have e : (tz (2 * ax) (2 * ay) (2 * bx) (2 * by') (2 * c + 1) (2 * r + 1) < 0) ↔ 0 < tz (2 * bx) (2 * by') (2 * ax) (2 * ay) (2 * c + 1) (2 * r + 1) := by
        rw [tz_rev]; omega
      simp only [e, colz_le (show by' < ay by omega)]
    · rw [if_neg h2, if_neg (by omega)]
theorem btw_x {ux uy lx ly c r : Int} (h : uy ≤ r ∧ r < ly) (he : alz ux uy lx ly r = (c - ux) * (2 * (ly - uy))) : btw (2 * c + 1) (2 * ux) (2 * lx) = true := by
  unfold btw
  rw [decide_eq_true_eq]
  have e2 : (2 * (r - uy) + 1) * (lx - ux) = (ly - uy) * (2 * (c - ux) + 1) := by unfold alz at he; grind
  rcases Int.le_total 0 (lx - ux) with h0 | h0
  · left
    have p1 : 0 ≤ (2 * (r - uy) + 1) * (lx - ux) := Int.mul_nonneg (by omega) h0
    have p2 : (2 * (r - uy) + 1) * (lx - ux) ≤ (2 * (ly - uy)) * (lx - ux) := Int.mul_le_mul_of_nonneg_right (by omega) h0
    have p3 : (ly - uy) * (2 * (c - ux) + 1) ≤ (ly - uy) * (2 * (lx - ux)) := by rw [← e2]; grind
    have p4 := Int.le_of_mul_le_mul_left p3 (by omega)
    have p5 : 0 ≤ (ly - uy) * (2 * (c - ux) + 1) := by rw [← e2]; exact p1
    have p6 : (ly - uy) * 0 ≤ (ly - uy) * (2 * (c - ux) + 1) := by omega
    have p7 := Int.le_of_mul_le_mul_left p6 (by omega)
    omega
  · right
    have p1 : (2 * (r - uy) + 1) * (lx - ux) ≤ 0 := Int.mul_nonpos_of_nonneg_of_nonpos (by omega) h0
    have p2 : (2 * (ly - uy)) * (lx - ux) ≤ (2 * (r - uy) + 1) * (lx - ux) := Int.mul_le_mul_of_nonpos_right (by omega) h0
    have p3 : (ly - uy) * (2 * (lx - ux)) ≤ (ly - uy) * (2 * (c - ux) + 1) := by rw [← e2]; grind
    have p4 := Int.le_of_mul_le_mul_left p3 (by omega)
    have p5 : (ly - uy) * (2 * (c - ux) + 1) ≤ 0 := by rw [← e2]; exact p1
    have p6 : (ly - uy) * (2 * (c - ux) + 1) ≤ (ly - uy) * 0 := by omega
    have p7 := Int.le_of_mul_le_mul_left p6 (by omega)
    omega
theorem btw_c (v a b : Int) : btw v a b = btw v b a := by unfold btw; exact decide_eq_decide.mpr (by omega)
theorem onZ_rev (ax ay bx by' x y : Int) : onZ ax ay bx by' x y = onZ bx by' ax ay x y := by
  unfold onZ
  rw [btw_c x, btw_c y, tz_rev]
  congr 1
  exact decide_eq_decide.mpr (by omega)
theorem onZ_down {ux uy lx ly c r : Int} (h : uy < ly) : onZ (2 * ux) (2 * uy) (2 * lx) (2 * ly) (2 * c + 1) (2 * r + 1) = decide ((uy ≤ r ∧ r < ly) ∧ alz ux uy lx ly r = (c - ux) * (2 * (ly - uy))) := by
  unfold onZ
  rw [tz_mid]
  by_cases h1 : uy ≤ r ∧ r < ly
  · by_cases h2 : alz ux uy lx ly r = (c - ux) * (2 * (ly - uy))
    · rw [btw_x h1 h2, decide_eq_true (show _ ∧ _ from ⟨h1, h2⟩), decide_eq_true (by omega)]
      unfold btw
      rw [decide_eq_true (by omega)]; rfl
    · rw [decide_eq_false (p := 2 * _ = 0) (by omega), decide_eq_false (fun q => h2 q.2)]; rfl
  · have : btw (2 * r + 1) (2 * uy) (2 * ly) = false := by unfold btw; exact decide_eq_false (by omega)
    rw [this, Bool.and_false, Bool.and_false, decide_eq_false (fun q => h1 q.1)]
theorem onZ_flat (ax ay bx c r : Int) : onZ (2 * ax) (2 * ay) (2 * bx) (2 * ay) (2 * c + 1) (2 * r + 1) = false := by
  unfold onZ
  have : btw (2 * r + 1) (2 * ay) (2 * ay) = false := by unfold btw; exact decide_eq_false (by omega)
  rw [this, Bool.and_false, Bool.and_false]
/-- on the middle: as the class finds it -/
theorem alz_iff {ux uy lx ly c r : Int} (h : uy < ly) : alz ux uy lx ly r = (c - ux) * (2 * (ly - uy)) ↔ c = colz ux uy lx ly r + 1 ∧ 2 * (ly - uy) ∣ alz ux uy lx ly r := by
  have h2 : colz ux uy lx ly r = ux + (alz ux uy lx ly r - 1) / (2 * (ly - uy)) := rfl
  have hp : 0 < 2 * (ly - uy) := by omega
  constructor
  · intro e
    refine ⟨?_, ⟨c - ux, by rw [e, Int.mul_comm]⟩⟩
    have : (alz ux uy lx ly r - 1) / (2 * (ly - uy)) = c - ux - 1 := by
      rw [e]
      apply Int.le_antisymm
      · have := (Int.ediv_lt_iff_lt_mul (a := (c - ux) * (2 * (ly - uy)) - 1) (b := c - ux) hp).mpr (by omega)
        omega
      · rw [Int.le_ediv_iff_mul_le hp, Int.sub_mul]
        omega
    omega
  · rintro ⟨e, ⟨q, hq⟩⟩
    have hq2 : alz ux uy lx ly r = q * (2 * (ly - uy)) := by rw [hq, Int.mul_comm]
    have : (alz ux uy lx ly r - 1) / (2 * (ly - uy)) = q - 1 := by
      rw [hq2]
      apply Int.le_antisymm
      · have := (Int.ediv_lt_iff_lt_mul (a := q * (2 * (ly - uy)) - 1) (b := q) hp).mpr (by omega)
        omega
      · rw [Int.le_ediv_iff_mul_le hp, Int.sub_mul]
        omega
    rw [hq2]
    congr 1
    omega
/-- within the parish the column lies between -1 and 19 -/
theorem colz_bd {ux uy lx ly r : Int} (h : uy ≤ r ∧ r < ly) (h1 : 0 ≤ ux ∧ ux ≤ 20) (h2 : 0 ≤ lx ∧ lx ≤ 20) : -1 ≤ colz ux uy lx ly r ∧ colz ux uy lx ly r ≤ 19 := by
  have hl : uy < ly := by omega
  constructor
  · rw [colz_le hl, tz_mid]
    have e : alz ux uy lx ly r - (-1 - ux) * (2 * (ly - uy)) = (2 * (r - uy) + 1) * lx + (2 * (ly - r) - 1) * ux + (ly - uy) := by unfold alz; grind
    have p1 : 0 ≤ (2 * (r - uy) + 1) * lx := Int.mul_nonneg (by omega) h2.1
    have p2 : 0 ≤ (2 * (ly - r) - 1) * ux := Int.mul_nonneg (by omega) h1.1
    omega
  · rcases Int.lt_or_le (colz ux uy lx ly r) 20 with h3 | h3
    · omega
    · exfalso
      rw [colz_le hl, tz_mid] at h3
      have e : alz ux uy lx ly r - (20 - ux) * (2 * (ly - uy)) = -((2 * (r - uy) + 1) * (20 - lx) + (2 * (ly - r) - 1) * (20 - ux) + (ly - uy)) := by unfold alz; grind
      have p1 : 0 ≤ (2 * (r - uy) + 1) * (20 - lx) := Int.mul_nonneg (by omega) (by omega)
      have p2 : 0 ≤ (2 * (ly - r) - 1) * (20 - ux) := Int.mul_nonneg (by omega) (by omega)
      omega

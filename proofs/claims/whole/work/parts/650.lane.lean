/-! by night: lanes of 8 bits, bits -/
def jz (z : Int) : Int64 := Int64.ofInt z
theorem jz_add (a b : Int) : jz a + jz b = jz (a + b) := (Int64.ofInt_add a b).symm
def pkS (f : Nat → Int) : Nat → Int
  | 0 => 0
  | n + 1 => pkS f n + 256 ^ n * f n
theorem pkS_add (f g : Nat → Int) : ∀ n, pkS (fun p => f p + g p) n = pkS f n + pkS g n
  | 0 => rfl
  | n + 1 => by simp only [pkS]; rw [pkS_add f g n]; grind
theorem pkS_cong {f g : Nat → Int} : ∀ n, (∀ p, p < n → f p = g p) → pkS f n = pkS g n
  | 0, _ => rfl
  | n + 1, h => by simp only [pkS]; rw [pkS_cong n (fun p hp => h p (by omega)), h n (by omega)]
theorem pkS_shift (f : Nat → Int) : ∀ n, pkS f (n + 1) = f 0 + 256 * pkS (fun p => f (p + 1)) n
  | 0 => by simp [pkS]
  | n + 1 => by
    rw [pkS, pkS_shift f n]
    simp only [pkS]
    rw [Int.pow_succ]
    grind
theorem pkS_zero {f : Nat → Int} {N : Nat} (h : ∀ p, N ≤ p → f p = 0) : ∀ d, pkS f (N + d) = pkS f N
  | 0 => rfl
  | d + 1 => by
    rw [← Nat.add_assoc, pkS, pkS_zero h d, h _ (by omega)]; omega
theorem pkS_bd {f : Nat → Int} : ∀ n, (∀ p, p < n → 0 ≤ f p ∧ f p < 256) → 0 ≤ pkS f n ∧ pkS f n < 256 ^ n
  | 0, _ => by simp [pkS]
  | n + 1, h => by
    obtain ⟨a, b⟩ := pkS_bd n (fun p hp => h p (by omega))
    obtain ⟨c, d⟩ := h n (by omega)
    have e : (256 : Int) ^ (n + 1) = 256 ^ n * 256 := Int.pow_succ ..
    have p0 : (0 : Int) < 256 ^ n := Int.pow_pos (by omega)
    simp only [pkS]
    have h1 : 0 ≤ 256 ^ n * f n := Int.mul_nonneg (by omega) c
    have h2 : 256 ^ n * f n ≤ 256 ^ n * 255 := Int.mul_le_mul_of_nonneg_left (by omega) (by omega)
    rw [e]
    constructor
    · omega
    · omega
theorem pkS_dig : ∀ (p n : Nat) (f : Nat → Int), (∀ p, p < n → 0 ≤ f p ∧ f p < 256) → p < n → (pkS f n / 256 ^ p) % 256 = f p
  | 0, n + 1, f, h, hp => by
    have := h 0 (by omega)
    rw [pkS_shift, Int.pow_zero, Int.ediv_one]
    omega
  | p + 1, n + 1, f, h, hp => by
    have := h 0 (by omega)
    have ih := pkS_dig p n (fun p => f (p + 1)) (fun q hq => h (q + 1) (by omega)) (by omega)
    rw [pkS_shift, Int.pow_succ, Int.mul_comm (256 ^ p) 256, ← Int.ediv_ediv_of_nonneg (by omega), show (f 0 + 256 * pkS (fun p => f (p + 1)) n) / 256 = pkS (fun p => f (p + 1)) n by omega]
    exact ih
theorem t32 {x : Int64} {a : Nat} (h : x.toBitVec.toNat = a) (ha : a < 256) : Int64.toInt32 x = nI a := by
  apply Int32.toBitVec_inj.mp
  apply BitVec.eq_of_toNat_eq
  rw [Int64.toBitVec_toInt32, BitVec.signExtend_eq_setWidth_of_le _ (by omega), BitVec.toNat_setWidth, h]
  show a % 2 ^ 32 = (BitVec.ofNat 32 a).toNat
  rw [BitVec.toNat_ofNat]
theorem jlu {Z : Nat} (hZ : Z < 2 ^ 64) : ∀ p, p < 8 → ((jlushr (jz Z) (8 * nI p)) &&& 255).toBitVec.toNat = (Z / 256 ^ p) % 256 := by
  intro p hp
  have e : (8 * nI p).toInt64.toUInt64 &&& Int64.toUInt64 63 = UInt64.ofNat (8 * p) := by
    have key : ∀ p, p < 8 → (8 * nI p).toInt64.toUInt64 &&& Int64.toUInt64 63 = UInt64.ofNat (8 * p) := by decide +kernel
    exact key p hp
  have e2 : (UInt64.ofNat (8 * p)).toNat = 8 * p := by rw [UInt64.toNat_ofNat']; omega
  have e3 : ((jz Z).toUInt64).toNat = Z := by
    show (jz Z).toBitVec.toNat = Z
    unfold jz
    rw [Int64.toBitVec_ofInt, BitVec.ofInt_natCast, BitVec.toNat_ofNat]
    omega
  unfold jlushr
  rw [e]
  show (((jz Z).toUInt64 >>> UInt64.ofNat (8 * p)).toBitVec &&& (255 : BitVec 64)).toNat = _
  rw [BitVec.toNat_and]
  show ((jz Z).toUInt64 >>> UInt64.ofNat (8 * p)).toNat &&& 255 = _
  rw [UInt64.toNat_shiftRight, e2, e3, Nat.mod_eq_of_lt (show 8 * p < 64 by omega), Nat.shiftRight_eq_div_pow, show (255 : Nat) = 2 ^ 8 - 1 from rfl, Nat.and_two_pow_sub_one_eq_mod, Nat.pow_mul]
theorem roundOf_eq {f : Nat → Int} (h : ∀ p, p < 8 → bd 15 (f p)) {p : Nat} (hp : p < 8) : PT_roundOf (jz (pkS (fun p => 16 + f p) 8)) (nI p) = iz (f p) := by
  have hb : ∀ p, p < 8 → 0 ≤ 16 + f p ∧ 16 + f p < 256 := fun p hp => by have := h p hp; omega
  obtain ⟨b1, b2⟩ := pkS_bd 8 hb
  obtain ⟨Z, eZ⟩ : ∃ Z : Nat, (pkS (fun p => 16 + f p) 8) = (Z : Int) := ⟨(pkS (fun p => 16 + f p) 8).toNat, by omega⟩
  have d := pkS_dig p 8 _ hb hp
  rw [eZ] at b2 d
  have dn : ((Z / 256 ^ p) % 256 : Nat) = (16 + f p) := by
    rw [← d, Int.natCast_emod, Int.natCast_ediv, Int.natCast_pow]; rfl
  unfold PT_roundOf
  rw [eZ, t32 (jlu (by omega) p hp) (by omega), nI_iz, dn, show (16 : Int32) = iz 16 from by decide, iz_sub]
  congr 1
  omega
def tb (x : Int32) (p : Nat) : Bool := x.toBitVec.getLsbD p
theorem tb_or (x y : Int32) (p : Nat) : tb (x ||| y) p = (tb x p || tb y p) := by
  unfold tb
  rw [Int32.toBitVec_or, BitVec.getLsbD_or]
theorem tb_0 (p : Nat) : tb 0 p = false := by
  unfold tb
  show (0 : BitVec 32).getLsbD p = false
  simp
theorem tb_jshl : ∀ p, p < 8 → ∀ q, q < 8 → tb (jshl 1 (nI p)) q = decide (q = p) := by decide +kernel
theorem and1 (x : BitVec 32) : (x &&& 1#32 = 0#32) ↔ x.getLsbD 0 = false := by
  constructor
  · intro h
    have := congrArg (fun z => BitVec.getLsbD z 0) h
    simpa using this
  · intro h
    apply BitVec.eq_of_getLsbD_eq
    intro i hi
    rw [BitVec.getLsbD_and]
    by_cases q : i = 0
    · subst q; rw [h]; simp
    · simp [BitVec.getLsbD_one, q]
theorem tb_jshr {x : Int32} {p : Nat} (hp : p < 8) : ((jshr x (nI p)) &&& 1 = 0) ↔ tb x p = false := by
  have e : nI p &&& 31 = nI p := by
    have key : ∀ p, p < 8 → nI p &&& 31 = nI p := by decide +kernel
    exact key p hp
  have e2 : ((nI p).toBitVec.smod 32).toNat = p := by
    have key : ∀ p, p < 8 → ((nI p).toBitVec.smod 32).toNat = p := by decide +kernel
    exact key p hp
  unfold jshr tb
  rw [e, ← Int32.toBitVec_inj, Int32.toBitVec_and, Int32.toBitVec_shiftRight]
  show (x.toBitVec.sshiftRight' ((nI p).toBitVec.smod 32) &&& 1#32 = 0#32) ↔ _
  rw [and1]
  unfold BitVec.sshiftRight'
  rw [e2, BitVec.getLsbD_sshiftRight]
  simp
  omega

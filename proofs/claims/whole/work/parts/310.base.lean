/-! BASE: numbers, memory, the relation between the class's cells and the reference's -/
def iz (z : Int) : Int32 := Int32.ofInt z
theorem iz_add (a b : Int) : iz a + iz b = iz (a + b) := (Int32.ofInt_add a b).symm
theorem iz_sub (a b : Int) : iz a - iz b = iz (a - b) := (Int32.ofInt_sub a b).symm
theorem iz_mul (a b : Int) : iz a * iz b = iz (a * b) := (Int32.ofInt_mul a b).symm
theorem iz_neg (a : Int) : -iz a = iz (-a) := (Int32.ofInt_neg a).symm
theorem iz_lit (n : Nat) : (@OfNat.ofNat Int32 n Int32.instOfNat) = iz (n : Int) := Int32.ofInt_eq_ofNat.symm
theorem nI_iz (n : Nat) : nI n = iz (n : Int) := Int32.ofInt_eq_ofNat.symm
abbrev R31 (z : Int) : Prop := -2147483648 ≤ z ∧ z < 2147483648
theorem iz_toInt {a : Int} (h : R31 a) : (iz a).toInt = a := Int32.toInt_ofInt_of_le h.1 h.2
theorem iz_of (x : Int32) : iz x.toInt = x := Int32.ofInt_toInt x
theorem iz_lt {a b : Int} (ha : R31 a) (hb : R31 b) : iz a < iz b ↔ a < b := by rw [Int32.lt_iff_toInt_lt, iz_toInt ha, iz_toInt hb]
theorem iz_le {a b : Int} (ha : R31 a) (hb : R31 b) : iz a ≤ iz b ↔ a ≤ b := by rw [Int32.le_iff_toInt_le, iz_toInt ha, iz_toInt hb]
theorem iz_eq {a b : Int} (ha : R31 a) (hb : R31 b) : iz a = iz b ↔ a = b := by rw [← Int32.toInt_inj, iz_toInt ha, iz_toInt hb]
theorem n_toInt {n : Nat} (h : n < 2147483648) : (nI n).toInt = (n : Int) := by rw [nI_iz, iz_toInt ⟨by omega, by omega⟩]
theorem n_ixn {n : Nat} (h : n < 2147483648) : ixn (nI n) = n := by
  show (nI n).toInt.toNat = n
  rw [n_toInt h]; omega
theorem n_add (a b : Nat) : nI a + nI b = nI (a + b) := by rw [nI_iz, nI_iz, nI_iz, iz_add]; congr 1
theorem n_mul (a b : Nat) : nI a * nI b = nI (a * b) := by rw [nI_iz, nI_iz, nI_iz, iz_mul]; congr 1
theorem n_lit (n : Nat) : (@OfNat.ofNat Int32 n Int32.instOfNat) = nI n := rfl
theorem n_lt {a b : Nat} (ha : a < 2147483648) (hb : b < 2147483648) : nI a < nI b ↔ a < b := by rw [Int32.lt_iff_toInt_lt, n_toInt ha, n_toInt hb]; omega
theorem n_le {a b : Nat} (ha : a < 2147483648) (hb : b < 2147483648) : nI a ≤ nI b ↔ a ≤ b := by rw [Int32.le_iff_toInt_le, n_toInt ha, n_toInt hb]; omega
theorem n_eq {a b : Nat} (ha : a < 2147483648) (hb : b < 2147483648) : nI a = nI b ↔ a = b := by rw [← Int32.toInt_inj, n_toInt ha, n_toInt hb]; omega
theorem n_inb {a n : Nat} (ha : a < 2147483648) : inb (nI a) n ↔ a < n := by
  show (¬ nI a < 0 ∧ ixn (nI a) < n) ↔ _
  rw [n_ixn ha, show (0 : Int32) = nI 0 from rfl, n_lt ha (by omega)]
  omega
theorem n_in {a n : Nat} (h : a < n) (hn : n < 2147483648) : inb (nI a) n := (n_inb (by omega)).mpr h
/-- a small number that is not below 0 -/
def isN (x : Int32) (B : Nat) : Prop := 0 ≤ x.toInt ∧ x.toInt ≤ B
theorem isN.eq {x : Int32} {B : Nat} (h : isN x B) : x = nI (ixn x) := by
  rw [nI_iz]
  have : ((ixn x : Nat) : Int) = x.toInt := by show ((x.toInt.toNat : Nat) : Int) = _; have := h.1; omega
  rw [this, iz_of]
theorem isN.le {x : Int32} {B : Nat} (h : isN x B) : ixn x ≤ B := by
  show x.toInt.toNat ≤ B
  have := h.2; omega
theorem isN.ex {x : Int32} {B : Nat} (h : isN x B) : ∃ n, n ≤ B ∧ x = nI n := ⟨ixn x, h.le, h.eq⟩
theorem isN.of {n B : Nat} (h : n ≤ B) (hB : B < 2147483648) : isN (nI n) B := by
  unfold isN
  rw [n_toInt (by omega)]
  omega
theorem isN.mono {x : Int32} {B C : Nat} (h : isN x B) (hc : B ≤ C) : isN x C := ⟨h.1, by have := h.2; omega⟩
/-! memory -/
theorem gI_sI (m : Mem) (c k d j : Nat) (x : Int32) : gI (sI m c k x) d j = if d = c ∧ j = k then x else gI m d j := rfl
theorem gJ_sI (m : Mem) (c k d j : Nat) (x : Int32) : gJ (sI m c k x) d j = gJ m d j := rfl
theorem gN_sI (m : Mem) (c k j : Nat) (x : Int32) : gN (sI m c k x) j = gN m j := rfl
theorem gI_sJ (m : Mem) (c k d j : Nat) (x : Int64) : gI (sJ m c k x) d j = gI m d j := rfl
theorem gJ_sJ (m : Mem) (c k d j : Nat) (x : Int64) : gJ (sJ m c k x) d j = if d = c ∧ j = k then x else gJ m d j := rfl
theorem gN_sJ (m : Mem) (c k j : Nat) (x : Int64) : gN (sJ m c k x) j = gN m j := rfl
theorem gI_cpI (m : Mem) (a0 sp a1 dp n d j : Nat) : gI (cpI m a0 sp a1 dp n) d j = if d = a1 ∧ dp ≤ j ∧ j < dp + n then gI m a0 (sp + (j - dp)) else gI m d j := rfl
theorem gJ_cpI (m : Mem) (a0 sp a1 dp n d j : Nat) : gJ (cpI m a0 sp a1 dp n) d j = gJ m d j := rfl
theorem gN_cpI (m : Mem) (a0 sp a1 dp n j : Nat) : gN (cpI m a0 sp a1 dp n) j = gN m j := rfl
theorem gI_cpJ (m : Mem) (a0 sp a1 dp n d j : Nat) : gI (cpJ m a0 sp a1 dp n) d j = gI m d j := rfl
theorem gJ_cpJ (m : Mem) (a0 sp a1 dp n d j : Nat) : gJ (cpJ m a0 sp a1 dp n) d j = if d = a1 ∧ dp ≤ j ∧ j < dp + n then gJ m a0 (sp + (j - dp)) else gJ m d j := rfl
theorem gN_cpJ (m : Mem) (a0 sp a1 dp n j : Nat) : gN (cpJ m a0 sp a1 dp n) j = gN m j := rfl
theorem Frm.I {L : List (Nat × Nat)} {m m' : Mem} (h : Frm L [] m m') (c k : Nat) (hw : wL L c k = false) : gI m' c k = gI m c k := (h.1 c k hw (fun _ h => by cases h)).1
theorem Frm.J {L : List (Nat × Nat)} {m m' : Mem} (h : Frm L [] m m') (c k : Nat) (hw : wL L c k = false) : gJ m' c k = gJ m c k := (h.1 c k hw (fun _ h => by cases h)).2
theorem Frm.N {L R : List (Nat × Nat)} {m m' : Mem} (h : Frm L R m m') (k : Nat) : gN m' k = gN m k := by unfold gN; rw [h.2]
def nx (n i : Nat) : Nat := if i + 1 < n then i + 1 else 0
/-! the relation -/
/-- a parish at cell p is that of the row c from o on, its names of the row n from q on -/
def PRel (m : Mem) (p c o n q : Nat) : Prop :=
  gI m p 6 = gI m c o ∧ gI m p 7 = gI m c (o + 1) ∧ gI m p 8 = gI m c (o + 2) ∧ gI m p 9 = gI m c (o + 3) ∧ gI m p 10 = gI m c (o + 4) ∧ gI m p 11 = gI m c (o + 5) ∧ gI m p 12 = gI m c (o + 6) ∧
  (∀ k, k < 4 → gI m (p + 15) k = gI m c (o + 7 + k)) ∧
  (∀ k, k < ixn (gI m c o) → gI m (p + 2 + 3 * k) 1 = gI m c (o + 11 + k) ∧ gJ m (p + 2 + 3 * k) 0 = gJ m n (q + k) ∧ ∀ i, i < ixn (gI m c (o + 11 + k)) → gI m (p + 2 + 3 * k + 1) i = gI m c (o + 14 + 24 * k + 2 * i) ∧ gI m (p + 2 + 3 * k + 2) i = gI m c (o + 14 + 24 * k + 2 * i + 1)) ∧
  (∀ h, h < ixn (gI m c (o + 1)) → gI m (p + 11) h = gI m c (o + 86 + 3 * h) ∧ gI m (p + 12) h = gI m c (o + 86 + 3 * h + 1) ∧ gI m (p + 13) h = gI m c (o + 86 + 3 * h + 2) ∧ gJ m (p + 14) h = gJ m n (q + 3 + h))
/-- corners as they may be -/
def WFc (m : Mem) (c o k : Nat) : Prop :=
  3 ≤ ixn (gI m c (o + 11 + k)) ∧ isN (gI m c (o + 11 + k)) 12 ∧ (∀ i, i < ixn (gI m c (o + 11 + k)) → isN (gI m c (o + 14 + 24 * k + 2 * i)) 20 ∧ isN (gI m c (o + 14 + 24 * k + 2 * i + 1)) 20) ∧
  ∀ i, i < ixn (gI m c (o + 11 + k)) → ¬ (gI m c (o + 14 + 24 * k + 2 * i) = gI m c (o + 14 + 24 * k + 2 * nx (ixn (gI m c (o + 11 + k))) i) ∧ gI m c (o + 14 + 24 * k + 2 * i + 1) = gI m c (o + 14 + 24 * k + 2 * nx (ixn (gI m c (o + 11 + k))) i + 1))
def WFs (m : Mem) (c o : Nat) : Prop :=
  isN (gI m c o) 3 ∧ isN (gI m c (o + 1)) 10 ∧ isN (gI m c (o + 2)) 19 ∧ isN (gI m c (o + 3)) 19 ∧ isN (gI m c (o + 4)) 2 ∧ isN (gI m c (o + 5)) 1 ∧
  (∀ k, k < 4 → isN (gI m c (o + 7 + k)) 9) ∧ (∀ k, k < ixn (gI m c o) → WFc m c o k) ∧
  (∀ h, h < ixn (gI m c (o + 1)) → isN (gI m c (o + 86 + 3 * h)) 19 ∧ isN (gI m c (o + 86 + 3 * h + 1)) 19 ∧ isN (gI m c (o + 86 + 3 * h + 2)) 99)
def iTape (m : Mem) : Prop := gI m 1 1 = gI m 133 2 ∧ isN (gI m 133 2) 940 ∧ ∀ i, i < ixn (gI m 133 2) → gI m 2 i = gI m 134 i &&& 255
/-- what can be undone -/
def iUndo (m : Mem) : Prop := gI m 3 1 = gI m 133 40 ∧ isN (gI m 133 40) 8 ∧ ∀ u, u < ixn (gI m 133 40) →
  gI m 4 (73 * u) = gI m 151 (116 * u + 6) ∧
  (∀ k, k < ixn (gI m 135 0) → ∀ i, i < ixn (gI m 135 (11 + k)) → gI m 4 (73 * u + 1 + 24 * k + i) = gI m 151 (116 * u + 14 + 24 * k + 2 * i) ∧ gI m 4 (73 * u + 1 + 24 * k + 12 + i) = gI m 151 (116 * u + 14 + 24 * k + 2 * i + 1)) ∧
  (∀ j, j < 116 → j ≠ 6 → (j < 14 ∨ 86 ≤ j) → gI m 151 (116 * u + j) = gI m 135 j) ∧ WFs m 151 (116 * u)
def iImg (m : Mem) : Prop := ∀ k, k < 2 → gI m 100 k = gI m 161 k ∧ isN (gI m 161 k) 1 ∧ (gI m 161 k = 1 → PRel m (68 + 16 * k) 159 (116 * k) 160 (13 * k) ∧ WFs m 159 (116 * k))
def iTold (m : Mem) : Prop :=
  gI m 0 15 = gI m 133 14 ∧ gI m 0 16 = gI m 133 27 ∧
  (gI m 133 36 = 0 ∧ (∀ i, i < 3 → gI m 27 i = -1) ∨ gI m 133 36 = 1 ∧ ∀ i, i < 3 → gI m 27 i = gI m 148 i) ∧
  (gI m 133 52 = 0 ∧ (∀ i, i < 4 → gI m 32 i = -1001) ∨ gI m 133 52 = 1 ∧ ∀ i, i < 4 → gI m 32 i = gI m 155 i) ∧
  (gI m 133 49 = 0 ∧ (∀ i, i < 4 → gI m 66 i = -1) ∨ gI m 133 49 = 1 ∧ ∀ i, i < 4 → gI m 66 i = gI m 154 i) ∧
  gI m 40 1 = gI m 133 45 ∧ (gI m 133 45 = -1 ∧ gI m 40 0 = 0 ∨ 0 < gI m 133 45 ∧ gI m 40 0 = gI m 133 46 ∧ isN (gI m 133 46) 2 ∧ ∀ i, i < 3 * ixn (gI m 133 46) → gI m 41 i = gI m 153 i)
def resW : List Int64 := [1818848869, 6840697, 109300298179432, 7102839, 7300196, 491496238692, 1818584692, 1701078885, 6842739, 123563833652072, 448378008179, 110, 101, 115, 119, 482905517684, 28526]
def iRes (m : Mem) : Prop := ∀ k, k < 17 → gJ m 138 k = resW.getD k 0
def iNow (m : Mem) : Prop := gN m 13 = 101 ∧ gN m 14 = 117 ∨ gN m 13 = 117 ∧ gN m 14 = 101
def Inv (m : Mem) : Prop := iNow m ∧ iTape m ∧ PRel m (gN m 13) 135 0 137 0 ∧ WFs m 135 0 ∧ iUndo m ∧ iImg m ∧ iTold m ∧ iRes m
/-- what is of no account between two calls -/
def Lsc : List (Nat × Nat) := [(1, 2), (1, 3), (1, 4), (1, 5), (1, 6), (1, 7), (1, 8), (1, 9), (1, 10), (5, 999999), (6, 999999), (7, 999999), (8, 999999), (9, 999999), (10, 999999), (11, 999999), (12, 999999), (13, 999999), (14, 999999), (15, 999999), (16, 999999), (17, 999999), (18, 999999), (19, 999999), (20, 999999), (21, 999999), (22, 999999), (23, 999999), (24, 999999), (25, 999999), (26, 1), (26, 2), (26, 3), (26, 7), (26, 8), (28, 999999), (29, 999999), (30, 999999), (31, 1), (33, 999999), (34, 999999), (35, 999999), (36, 999999), (37, 999999), (38, 999999), (39, 999999), (40, 15), (40, 16), (40, 17), (42, 999999), (43, 999999), (44, 999999), (45, 999999), (46, 999999), (47, 999999), (48, 999999), (49, 999999), (50, 999999), (51, 999999), (52, 999999), (53, 999999), (54, 999999), (55, 999999), (56, 999999), (57, 999999), (58, 999999), (59, 999999), (60, 999999), (61, 999999), (62, 999999), (63, 999999), (64, 999999), (65, 999999), (133, 0), (133, 3), (133, 4), (133, 5), (133, 10), (133, 11), (133, 12), (133, 13), (133, 15), (133, 16), (133, 17), (133, 18), (133, 19), (133, 22), (133, 23), (133, 24), (133, 28), (133, 33), (133, 41), (133, 43), (133, 47), (136, 999999), (139, 999999), (140, 999999), (141, 999999), (142, 999999), (143, 999999), (144, 999999), (145, 999999), (146, 999999), (147, 999999), (149, 999999), (150, 999999), (152, 999999), (156, 999999), (157, 999999), (158, 999999)]
theorem PRel.cong {m m' : Mem} {p c o n q : Nat} (hc : ∀ k, gI m' c k = gI m c k) (hn : ∀ k, gJ m' n k = gJ m n k) (hp : ∀ d k, p ≤ d → d < p + 16 → gI m' d k = gI m d k ∧ gJ m' d k = gJ m d k) (hl : ixn (gI m c o) ≤ 3) (h : PRel m p c o n q) : PRel m' p c o n q := by
  unfold PRel at *
  simp only [hc, hn]
  obtain ⟨h1, h2, h3, h4, h5, h6, h7, h8, h9, h10⟩ := h
  refine ⟨?_, ?_, ?_, ?_, ?_, ?_, ?_, ?_, ?_, ?_⟩
  · rw [(hp p 6 (by omega) (by omega)).1]; exact h1
  · rw [(hp p 7 (by omega) (by omega)).1]; exact h2
  · rw [(hp p 8 (by omega) (by omega)).1]; exact h3
  · rw [(hp p 9 (by omega) (by omega)).1]; exact h4
  · rw [(hp p 10 (by omega) (by omega)).1]; exact h5
  · rw [(hp p 11 (by omega) (by omega)).1]; exact h6
  · rw [(hp p 12 (by omega) (by omega)).1]; exact h7
  · intro k hk; rw [(hp _ _ (by omega) (by omega)).1]; exact h8 k hk
  · intro k hk
    obtain ⟨a, b, d⟩ := h9 k hk
    refine ⟨?_, ?_, fun i hi => ⟨?_, ?_⟩⟩
    · rw [(hp _ _ (by omega) (by omega)).1]; exact a
    · rw [(hp _ _ (by omega) (by omega)).2]; exact b
    · rw [(hp _ _ (by omega) (by omega)).1]; exact (d i hi).1
    · rw [(hp _ _ (by omega) (by omega)).1]; exact (d i hi).2
  · intro k hk
    obtain ⟨a, b, d, e⟩ := h10 k hk
    refine ⟨?_, ?_, ?_, ?_⟩
    · rw [(hp _ _ (by omega) (by omega)).1]; exact a
    · rw [(hp _ _ (by omega) (by omega)).1]; exact b
    · rw [(hp _ _ (by omega) (by omega)).1]; exact d
    · rw [(hp _ _ (by omega) (by omega)).2]; exact e
theorem WFs.cong {m m' : Mem} {c o : Nat} (hc : ∀ k, gI m' c k = gI m c k) (h : WFs m c o) : WFs m' c o := by
  unfold WFs WFc at *
  simp only [hc]
  exact h
theorem lsc_par {p d k : Nat} (hp : p = 68 ∨ p = 84 ∨ p = 101 ∨ p = 117) (h1 : p ≤ d) (h2 : d < p + 16) : wL Lsc d k = false := by
  have key : ∀ d, 66 ≤ d → d < 133 → ∀ k, wL Lsc d k = false := by
    intro d h1 h2 k
    unfold wL
    rw [List.any_eq_false]
    have : ∀ q ∈ Lsc, q.1 < 66 ∨ 133 ≤ q.1 := by decide +kernel
    intro q hq
    have := this q hq
    simp only [Bool.and_eq_true, beq_iff_eq, not_and]
    intro h; omega
  exact key d (by omega) (by omega) k
theorem inv_frame {m m' : Mem} (hF : Frm Lsc [] m m') (h : Inv m) : Inv m' := by
  obtain ⟨hN, hT, hP, hW, hU, hI, hQ, hR⟩ := h
  have a135 : ∀ k, gI m' 135 k = gI m 135 k := fun k => hF.I _ _ rfl
  have hpp : ∀ p, (p = 68 ∨ p = 84 ∨ p = 101 ∨ p = 117) → ∀ d k, p ≤ d → d < p + 16 → gI m' d k = gI m d k ∧ gJ m' d k = gJ m d k := fun p hp d k h1 h2 => ⟨hF.I _ _ (lsc_par hp h1 h2), hF.J _ _ (lsc_par hp h1 h2)⟩
  have hnow : gN m 13 = 68 ∨ gN m 13 = 84 ∨ gN m 13 = 101 ∨ gN m 13 = 117 := by rcases hN with h | h <;> omega
  refine ⟨?_, ?_, ?_, hW.cong a135, ?_, ?_, ?_, ?_⟩
  · unfold iNow; rw [hF.N, hF.N]; exact hN
  · unfold iTape at *
    rw [hF.I 1 1 rfl, hF.I 133 2 rfl]
    refine ⟨hT.1, hT.2.1, fun i hi => ?_⟩
    rw [hF.I 2 i rfl, hF.I 134 i rfl]; exact hT.2.2 i hi
  · rw [hF.N]
    exact hP.cong a135 (fun k => hF.J _ _ rfl) (hpp _ hnow) hW.1.le
  · unfold iUndo at *
    rw [hF.I 3 1 rfl, hF.I 133 40 rfl]
    simp only [a135, fun k => hF.I 151 k rfl, fun k => hF.I 4 k rfl]
    refine ⟨hU.1, hU.2.1, fun u hu => ?_⟩
    obtain ⟨b1, b2, b3, b4⟩ := hU.2.2 u hu
    exact ⟨b1, b2, b3, b4.cong (fun k => hF.I 151 k rfl)⟩
  · intro k hk
    obtain ⟨b1, b2, b3⟩ := hI k hk
    rw [hF.I 100 k rfl, hF.I 161 k rfl]
    refine ⟨b1, b2, fun h1 => ?_⟩
    obtain ⟨c1, c2⟩ := b3 h1
    exact ⟨c1.cong (fun k => hF.I 159 k rfl) (fun k => hF.J 160 k rfl) (hpp _ (by omega)) c2.1.le, c2.cong (fun k => hF.I 159 k rfl)⟩
  · unfold iTold at *
    rw [hF.I 0 15 rfl, hF.I 133 14 rfl, hF.I 0 16 rfl, hF.I 133 27 rfl, hF.I 133 36 rfl, hF.I 133 52 rfl, hF.I 133 49 rfl, hF.I 40 1 rfl, hF.I 133 45 rfl, hF.I 40 0 rfl, hF.I 133 46 rfl]
    simp only [fun k => hF.I 27 k rfl, fun k => hF.I 148 k rfl, fun k => hF.I 32 k rfl, fun k => hF.I 155 k rfl, fun k => hF.I 66 k rfl, fun k => hF.I 154 k rfl, fun k => hF.I 41 k rfl, fun k => hF.I 153 k rfl]
    exact hQ
  · intro k hk
    rw [hF.J 138 k rfl]; exact hR k hk

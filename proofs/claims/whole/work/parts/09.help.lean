theorem bpz_m20 : (Int8.ofInt (-20)).toInt32 = (-20) := by decide
theorem bpz_m2 : (Int8.ofInt (-2)).toInt32 = (-2) := by decide
theorem bpz_6 : (Int8.ofInt 6).toInt32 = 6 := by decide
theorem bpz_7 : (Int8.ofInt 7).toInt32 = 7 := by decide
theorem bpz_8 : (Int8.ofInt 8).toInt32 = 8 := by decide
theorem bpz_9 : (Int8.ofInt 9).toInt32 = 9 := by decide
theorem bpz_10 : (Int8.ofInt 10).toInt32 = 10 := by decide
theorem bpz_11 : (Int8.ofInt 11).toInt32 = 11 := by decide
theorem bpz_12 : (Int8.ofInt 12).toInt32 = 12 := by decide
theorem bpz_13 : (Int8.ofInt 13).toInt32 = 13 := by decide
theorem bpz_14 : (Int8.ofInt 14).toInt32 = 14 := by decide
theorem bpz_15 : (Int8.ofInt 15).toInt32 = 15 := by decide
theorem bpz_16 : (Int8.ofInt 16).toInt32 = 16 := by decide
theorem bpz_17 : (Int8.ofInt 17).toInt32 = 17 := by decide
theorem bpz_19 : (Int8.ofInt 19).toInt32 = 19 := by decide
theorem bpz_20 : (Int8.ofInt 20).toInt32 = 20 := by decide
theorem bpz_24 : (Int8.ofInt 24).toInt32 = 24 := by decide
theorem bpz_30 : (Int8.ofInt 30).toInt32 = 30 := by decide
theorem bpz_32 : (Int8.ofInt 32).toInt32 = 32 := by decide
theorem bpz_40 : (Int8.ofInt 40).toInt32 = 40 := by decide
theorem bpz_48 : (Int8.ofInt 48).toInt32 = 48 := by decide
theorem bpz_57 : (Int8.ofInt 57).toInt32 = 57 := by decide
theorem bpz_59 : (Int8.ofInt 59).toInt32 = 59 := by decide
theorem bpz_73 : (Int8.ofInt 73).toInt32 = 73 := by decide
theorem bpz_86 : (Int8.ofInt 86).toInt32 = 86 := by decide
theorem bpz_97 : (Int8.ofInt 97).toInt32 = 97 := by decide
theorem bpz_98 : (Int8.ofInt 98).toInt32 = 98 := by decide
theorem bpz_99 : (Int8.ofInt 99).toInt32 = 99 := by decide
theorem bpz_116 : (Int8.ofInt 116).toInt32 = 116 := by decide
theorem bpz_122 : (Int8.ofInt 122).toInt32 = 122 := by decide
theorem icz_m8 : Int32.ofInt (-8) = (-8) := by decide
theorem icz_m1 : Int32.ofInt (-1) = (-1) := by decide
theorem icz_0 : Int32.ofInt 0 = 0 := by decide
theorem icz_1 : Int32.ofInt 1 = 1 := by decide
theorem icz_2 : Int32.ofInt 2 = 2 := by decide
theorem icz_3 : Int32.ofInt 3 = 3 := by decide
theorem icz_4 : Int32.ofInt 4 = 4 := by decide
theorem icz_5 : Int32.ofInt 5 = 5 := by decide
theorem spz_m2000 : (Int16.ofInt (-2000)).toInt32 = (-2000) := by decide
theorem spz_m1001 : (Int16.ofInt (-1001)).toInt32 = (-1001) := by decide
theorem spz_200 : (Int16.ofInt 200).toInt32 = 200 := by decide
theorem spz_255 : (Int16.ofInt 255).toInt32 = 255 := by decide
theorem spz_300 : (Int16.ofInt 300).toInt32 = 300 := by decide
theorem spz_380 : (Int16.ofInt 380).toInt32 = 380 := by decide
theorem spz_400 : (Int16.ofInt 400).toInt32 = 400 := by decide
theorem spz_511 : (Int16.ofInt 511).toInt32 = 511 := by decide
theorem spz_812 : (Int16.ofInt 812).toInt32 = 812 := by decide
theorem spz_900 : (Int16.ofInt 900).toInt32 = 900 := by decide
theorem spz_940 : (Int16.ofInt 940).toInt32 = 940 := by decide
theorem spz_1000 : (Int16.ofInt 1000).toInt32 = 1000 := by decide
theorem spz_1600 : (Int16.ofInt 1600).toInt32 = 1600 := by decide
theorem spz_12345 : (Int16.ofInt 12345).toInt32 = 12345 := by decide
theorem sh_0 : shp 0 = (11, 0) := rfl
theorem sh_1 : shp 1 = (8, 0) := rfl
theorem sh_2 : shp 2 = (100, 940) := rfl
theorem sh_3 : shp 3 = (0, 0) := rfl
theorem sh_4 : shp 4 = (100, 584) := rfl
theorem sh_5 : shp 5 = (1, 0) := rfl
theorem sh_6 : shp 6 = (100, 400) := rfl
theorem sh_7 : shp 7 = (100, 400) := rfl
theorem sh_8 : shp 8 = (100, 400) := rfl
theorem sh_9 : shp 9 = (100, 400) := rfl
theorem sh_10 : shp 10 = (100, 400) := rfl
theorem sh_11 : shp 11 = (1, 0) := rfl
theorem sh_12 : shp 12 = (100, 400) := rfl
theorem sh_13 : shp 13 = (100, 400) := rfl
theorem sh_14 : shp 14 = (100, 400) := rfl
theorem sh_15 : shp 15 = (100, 400) := rfl
theorem sh_16 : shp 16 = (100, 400) := rfl
theorem sh_17 : shp 17 = (6, 0) := rfl
theorem sh_18 : shp 18 = (100, 400) := rfl
theorem sh_19 : shp 19 = (100, 400) := rfl
theorem sh_20 : shp 20 = (100, 401) := rfl
theorem sh_21 : shp 21 = (100, 1600) := rfl
theorem sh_22 : shp 22 = (100, 401) := rfl
theorem sh_23 : shp 23 = (100, 400) := rfl
theorem sh_24 : shp 24 = (100, 6) := rfl
theorem sh_25 : shp 25 = (100, 25600) := rfl
theorem sh_26 : shp 26 = (10, 0) := rfl
theorem sh_27 : shp 27 = (100, 3) := rfl
theorem sh_28 : shp 28 = (100, 400) := rfl
theorem sh_29 : shp 29 = (100, 400) := rfl
theorem sh_30 : shp 30 = (100, 400) := rfl
theorem sh_31 : shp 31 = (4, 0) := rfl
theorem sh_32 : shp 32 = (100, 4) := rfl
theorem sh_33 : shp 33 = (100, 30) := rfl
theorem sh_34 : shp 34 = (100, 30) := rfl
theorem sh_35 : shp 35 = (100, 99) := rfl
theorem sh_36 : shp 36 = (7, 0) := rfl
theorem sh_37 : shp 37 = (100, 8) := rfl
theorem sh_38 : shp 38 = (100, 8) := rfl
theorem sh_39 : shp 39 = (100, 8) := rfl
theorem sh_40 : shp 40 = (3, 0) := rfl
theorem sh_41 : shp 41 = (100, 6) := rfl
theorem sh_42 : shp 42 = (2, 0) := rfl
theorem sh_43 : shp 43 = (100, 12) := rfl
theorem sh_44 : shp 44 = (100, 12) := rfl
theorem sh_45 : shp 45 = (9, 0) := rfl
theorem sh_46 : shp 46 = (101, 12) := rfl
theorem sh_47 : shp 47 = (100, 12) := rfl
theorem sh_48 : shp 48 = (100, 12) := rfl
theorem sh_49 : shp 49 = (100, 576) := rfl
theorem sh_50 : shp 50 = (100, 576) := rfl
theorem sh_51 : shp 51 = (9, 0) := rfl
theorem sh_52 : shp 52 = (101, 576) := rfl
theorem sh_53 : shp 53 = (100, 576) := rfl
theorem sh_54 : shp 54 = (9, 0) := rfl
theorem sh_55 : shp 55 = (101, 576) := rfl
theorem sh_56 : shp 56 = (100, 576) := rfl
theorem sh_57 : shp 57 = (9, 0) := rfl
theorem sh_58 : shp 58 = (101, 576) := rfl
theorem sh_59 : shp 59 = (100, 576) := rfl
theorem sh_60 : shp 60 = (100, 12) := rfl
theorem sh_61 : shp 61 = (100, 576) := rfl
theorem sh_62 : shp 62 = (100, 576) := rfl
theorem sh_63 : shp 63 = (2, 0) := rfl
theorem sh_64 : shp 64 = (100, 12) := rfl
theorem sh_65 : shp 65 = (100, 12) := rfl
theorem sh_66 : shp 66 = (100, 4) := rfl
theorem sh_67 : shp 67 = (105, 2) := rfl
theorem sh_68 : shp 68 = (5, 0) := rfl
theorem sh_69 : shp 69 = (104, 3) := rfl
theorem sh_70 : shp 70 = (2, 0) := rfl
theorem sh_71 : shp 71 = (100, 12) := rfl
theorem sh_72 : shp 72 = (100, 12) := rfl
theorem sh_73 : shp 73 = (2, 0) := rfl
theorem sh_74 : shp 74 = (100, 12) := rfl
theorem sh_75 : shp 75 = (100, 12) := rfl
theorem sh_76 : shp 76 = (2, 0) := rfl
theorem sh_77 : shp 77 = (100, 12) := rfl
theorem sh_78 : shp 78 = (100, 12) := rfl
theorem sh_79 : shp 79 = (100, 10) := rfl
theorem sh_80 : shp 80 = (100, 10) := rfl
theorem sh_81 : shp 81 = (100, 10) := rfl
theorem sh_82 : shp 82 = (101, 10) := rfl
theorem sh_83 : shp 83 = (100, 4) := rfl
theorem sh_84 : shp 84 = (5, 0) := rfl
theorem sh_85 : shp 85 = (104, 3) := rfl
theorem sh_86 : shp 86 = (2, 0) := rfl
theorem sh_87 : shp 87 = (100, 12) := rfl
theorem sh_88 : shp 88 = (100, 12) := rfl
theorem sh_89 : shp 89 = (2, 0) := rfl
theorem sh_90 : shp 90 = (100, 12) := rfl
theorem sh_91 : shp 91 = (100, 12) := rfl
theorem sh_92 : shp 92 = (2, 0) := rfl
theorem sh_93 : shp 93 = (100, 12) := rfl
theorem sh_94 : shp 94 = (100, 12) := rfl
theorem sh_95 : shp 95 = (100, 10) := rfl
theorem sh_96 : shp 96 = (100, 10) := rfl
theorem sh_97 : shp 97 = (100, 10) := rfl
theorem sh_98 : shp 98 = (101, 10) := rfl
theorem sh_99 : shp 99 = (100, 4) := rfl
theorem sh_100 : shp 100 = (103, 2) := rfl
theorem sh_101 : shp 101 = (5, 0) := rfl
theorem sh_102 : shp 102 = (104, 3) := rfl
theorem sh_103 : shp 103 = (2, 0) := rfl
theorem sh_104 : shp 104 = (100, 12) := rfl
theorem sh_105 : shp 105 = (100, 12) := rfl
theorem sh_106 : shp 106 = (2, 0) := rfl
theorem sh_107 : shp 107 = (100, 12) := rfl
theorem sh_108 : shp 108 = (100, 12) := rfl
theorem sh_109 : shp 109 = (2, 0) := rfl
theorem sh_110 : shp 110 = (100, 12) := rfl
theorem sh_111 : shp 111 = (100, 12) := rfl
theorem sh_112 : shp 112 = (100, 10) := rfl
theorem sh_113 : shp 113 = (100, 10) := rfl
theorem sh_114 : shp 114 = (100, 10) := rfl
theorem sh_115 : shp 115 = (101, 10) := rfl
theorem sh_116 : shp 116 = (100, 4) := rfl
theorem sh_117 : shp 117 = (5, 0) := rfl
theorem sh_118 : shp 118 = (104, 3) := rfl
theorem sh_119 : shp 119 = (2, 0) := rfl
theorem sh_120 : shp 120 = (100, 12) := rfl
theorem sh_121 : shp 121 = (100, 12) := rfl
theorem sh_122 : shp 122 = (2, 0) := rfl
theorem sh_123 : shp 123 = (100, 12) := rfl
theorem sh_124 : shp 124 = (100, 12) := rfl
theorem sh_125 : shp 125 = (2, 0) := rfl
theorem sh_126 : shp 126 = (100, 12) := rfl
theorem sh_127 : shp 127 = (100, 12) := rfl
theorem sh_128 : shp 128 = (100, 10) := rfl
theorem sh_129 : shp 129 = (100, 10) := rfl
theorem sh_130 : shp 130 = (100, 10) := rfl
theorem sh_131 : shp 131 = (101, 10) := rfl
theorem sh_132 : shp 132 = (100, 4) := rfl
theorem sh_133 : shp 133 = (12, 0) := rfl
theorem sh_134 : shp 134 = (102, 940) := rfl
theorem sh_135 : shp 135 = (100, 116) := rfl
theorem sh_136 : shp 136 = (100, 116) := rfl
theorem sh_137 : shp 137 = (101, 26) := rfl
theorem sh_138 : shp 138 = (101, 17) := rfl
theorem sh_139 : shp 139 = (100, 13) := rfl
theorem sh_140 : shp 140 = (100, 13) := rfl
theorem sh_141 : shp 141 = (103, 400) := rfl
theorem sh_142 : shp 142 = (103, 400) := rfl
theorem sh_143 : shp 143 = (100, 400) := rfl
theorem sh_144 : shp 144 = (100, 400) := rfl
theorem sh_145 : shp 145 = (100, 400) := rfl
theorem sh_146 : shp 146 = (100, 400) := rfl
theorem sh_147 : shp 147 = (103, 400) := rfl
theorem sh_148 : shp 148 = (100, 3) := rfl
theorem sh_149 : shp 149 = (100, 400) := rfl
theorem sh_150 : shp 150 = (100, 51200) := rfl
theorem sh_151 : shp 151 = (100, 928) := rfl
theorem sh_152 : shp 152 = (100, 24) := rfl
theorem sh_153 : shp 153 = (100, 6) := rfl
theorem sh_154 : shp 154 = (100, 4) := rfl
theorem sh_155 : shp 155 = (100, 4) := rfl
theorem sh_156 : shp 156 = (100, 30) := rfl
theorem sh_157 : shp 157 = (100, 30) := rfl
theorem sh_158 : shp 158 = (100, 30) := rfl
theorem sh_159 : shp 159 = (100, 232) := rfl
theorem sh_160 : shp 160 = (101, 26) := rfl
theorem sh_161 : shp 161 = (103, 2) := rfl
theorem sh_162 : shp 162 = (101, 1) := rfl
theorem shq {a k L : Nat} (h : shp a = (k, L)) : shp a = (k, (shp a).2) := by rw [h]
theorem sh_by {P : Nat → Prop} {a k L : Nat} (hk : k ≠ 999) (h : shp a = (k, L)) (key : ∀ c, c < shpL.length → shp c = (k, L) → P c) : P a := key a (shp_lt h hk) h
theorem shc_1_0 {a : Nat} (h : shp a = (1, 0)) : shp (a + 1) = (100, 400) := sh_by (P := fun a => shp (a + 1) = (100, 400)) (by decide) h (by decide +kernel)
theorem shc_1_1 {a : Nat} (h : shp a = (1, 0)) : shp (a + 2) = (100, 400) := sh_by (P := fun a => shp (a + 2) = (100, 400)) (by decide) h (by decide +kernel)
theorem shc_1_2 {a : Nat} (h : shp a = (1, 0)) : shp (a + 3) = (100, 400) := sh_by (P := fun a => shp (a + 3) = (100, 400)) (by decide) h (by decide +kernel)
theorem shc_1_3 {a : Nat} (h : shp a = (1, 0)) : shp (a + 4) = (100, 400) := sh_by (P := fun a => shp (a + 4) = (100, 400)) (by decide) h (by decide +kernel)
theorem shc_1_4 {a : Nat} (h : shp a = (1, 0)) : shp (a + 5) = (100, 400) := sh_by (P := fun a => shp (a + 5) = (100, 400)) (by decide) h (by decide +kernel)
theorem shc_2_2 {a : Nat} (h : shp a = (2, 0)) : shp (a + 1) = (100, 12) := sh_by (P := fun a => shp (a + 1) = (100, 12)) (by decide) h (by decide +kernel)
theorem shc_2_3 {a : Nat} (h : shp a = (2, 0)) : shp (a + 2) = (100, 12) := sh_by (P := fun a => shp (a + 2) = (100, 12)) (by decide) h (by decide +kernel)
theorem shc_5_0 {a : Nat} (h : shp a = (5, 0)) : shp (a + 1) = (104, 3) := sh_by (P := fun a => shp (a + 1) = (104, 3)) (by decide) h (by decide +kernel)
theorem shc_5_1 {a : Nat} (h : shp a = (5, 0)) : shp (a + 11) = (100, 10) := sh_by (P := fun a => shp (a + 11) = (100, 10)) (by decide) h (by decide +kernel)
theorem shc_5_2 {a : Nat} (h : shp a = (5, 0)) : shp (a + 12) = (100, 10) := sh_by (P := fun a => shp (a + 12) = (100, 10)) (by decide) h (by decide +kernel)
theorem shc_5_3 {a : Nat} (h : shp a = (5, 0)) : shp (a + 13) = (100, 10) := sh_by (P := fun a => shp (a + 13) = (100, 10)) (by decide) h (by decide +kernel)
theorem shc_5_4 {a : Nat} (h : shp a = (5, 0)) : shp (a + 14) = (101, 10) := sh_by (P := fun a => shp (a + 14) = (101, 10)) (by decide) h (by decide +kernel)
theorem shc_5_5 {a : Nat} (h : shp a = (5, 0)) : shp (a + 15) = (100, 4) := sh_by (P := fun a => shp (a + 15) = (100, 4)) (by decide) h (by decide +kernel)
theorem shln {a : Nat} {i : Int32} (h : shp a = (5, 0)) (hi : inb i 3) : shp (a + 2 + 3 * ixn i) = (2, 0) := by
  have key : ∀ k, k < 3 → shp (a + 2 + 3 * k) = (2, 0) := sh_by (P := fun a => ∀ k, k < 3 → shp (a + 2 + 3 * k) = (2, 0)) (by decide) h (by decide +kernel)
  exact key _ hi.2
theorem shim {i : Int32} (hi : inb i 2) : shp (68 + 16 * ixn i) = (5, 0) := by
  have key : ∀ k, k < 2 → shp (68 + 16 * k) = (5, 0) := by decide +kernel
  exact key _ hi.2
def irm (x y : Int32) : Int32 := x - x / y * y
def jshl (x y : Int32) : Int32 := x <<< (y &&& 31)
def jshr (x y : Int32) : Int32 := x >>> (y &&& 31)
def jushr (x y : Int32) : Int32 := (x.toUInt32 >>> (y.toUInt32 &&& Int32.toUInt32 31)).toInt32
def jlshl (x : Int64) (y : Int32) : Int64 := x <<< (y.toInt64 &&& 63)
def jlushr (x : Int64) (y : Int32) : Int64 := (x.toUInt64 >>> (y.toInt64.toUInt64 &&& Int64.toUInt64 63)).toInt64
section
variable {M : MI} {pc n : Nat} {lv : List (Nat × Value)} {st : List Value} {m : Mem} {Q : Option Value → Mem → Prop}
theorem E_irm {x y : Int32} (k : Nat) (hd : M.2.2.2.2.2.2[k]? = some (pc, .irem, 1)) (hn : pc + 1 = n) (hy : ¬ y = 0) (h : E M n lv (.int (irm x y) :: st) m Q) : E M pc lv (.int y :: .int x :: st) m Q := E_irem k hd hn hy h
theorem E_jshl {x y : Int32} (k : Nat) (hd : M.2.2.2.2.2.2[k]? = some (pc, .ishl, 1)) (hn : pc + 1 = n) (h : E M n lv (.int (jshl x y) :: st) m Q) : E M pc lv (.int y :: .int x :: st) m Q := E_ishl k hd hn h
theorem E_jshr {x y : Int32} (k : Nat) (hd : M.2.2.2.2.2.2[k]? = some (pc, .ishr, 1)) (hn : pc + 1 = n) (h : E M n lv (.int (jshr x y) :: st) m Q) : E M pc lv (.int y :: .int x :: st) m Q := E_ishr k hd hn h
theorem E_jushr {x y : Int32} (k : Nat) (hd : M.2.2.2.2.2.2[k]? = some (pc, .iushr, 1)) (hn : pc + 1 = n) (h : E M n lv (.int (jushr x y) :: st) m Q) : E M pc lv (.int y :: .int x :: st) m Q := E_iushr k hd hn h
theorem E_jlshl {x : Int64} {y : Int32} (k : Nat) (hd : M.2.2.2.2.2.2[k]? = some (pc, .lshl, 1)) (hn : pc + 1 = n) (h : E M n lv (.long (jlshl x y) :: st) m Q) : E M pc lv (.int y :: .long x :: st) m Q := E_lshl k hd hn h
theorem E_jlushr {x : Int64} {y : Int32} (k : Nat) (hd : M.2.2.2.2.2.2[k]? = some (pc, .lushr, 1)) (hn : pc + 1 = n) (h : E M n lv (.long (jlushr x y) :: st) m Q) : E M pc lv (.int y :: .long x :: st) m Q := E_lushr k hd hn h
end
/-! Math -/
def JM_min (x y : Int32) : Int32 := if y < x then y else x
def JM_max (x y : Int32) : Int32 := if x < y then y else x
def JM_abs (x : Int32) : Int32 := if 0 ≤ x then x else 0 - x
def JM_floorDiv (x y : Int32) : Int32 := if (x ^^^ y) < 0 ∧ ¬ x / y * y = x then x / y + (-1) else x / y
def JM_floorMod (x y : Int32) : Int32 := if (x ^^^ y) < 0 ∧ ¬ irm x y = 0 then irm x y + y else irm x y
section
variable {M : MI} {pc n ix : Nat} {lv : List (Nat × Value)} {st : List Value} {m : Mem} {Q : Option Value → Mem → Prop}
theorem E_jmin {x y : Int32} (k : Nat) (hd : M.2.2.2.2.2.2[k]? = some (pc, .invokestatic ix, 3)) (hn : pc + 3 = n) (h1 : Cond.methodLink M.1.cls ix Lib.Math.min.name ∈ TW) (h2 : Cond.static Lib.Math.min.name ∈ TW) (h3 : Cond.initialized "java/lang/Math" ∈ TW) (h4 : Cond.code Lib.Math.min.name Lib.Math.min.code 2 (some .int) ∈ TW) (hr : 1 ≤ M.2.2.2.2.1 ∧ (st.map fun v => v.category).sum + 13 ≤ M.2.2.2.2.2.1) (h : E M n lv (.int (JM_min x y) :: st) m Q) : E M pc lv (.int y :: .int x :: st) m Q := by
  intro g p l e s mid args below meth c H locs G ls hE hw hl
  subst hn
  exact va_mmin hE.1 hE.2.1 (by rw [hE.2.2.1]; exact hl.1.symm) hE.2.2.2.1 (hE.2.2.2.2.1 _ h1) (hE.2.2.2.2.1 _ h2) (hE.2.2.2.2.1 _ h3) (hE.2.2.2.2.1 _ h4) hr.1 (by rw [cat_sum]; exact hr.2) (Nat.le_refl _) (Nat.le_refl _) (gdec g hd) (h g p l e s mid args below meth c H locs G ls hE hw hl)
theorem E_jmax {x y : Int32} (k : Nat) (hd : M.2.2.2.2.2.2[k]? = some (pc, .invokestatic ix, 3)) (hn : pc + 3 = n) (h1 : Cond.methodLink M.1.cls ix Lib.Math.max.name ∈ TW) (h2 : Cond.static Lib.Math.max.name ∈ TW) (h3 : Cond.initialized "java/lang/Math" ∈ TW) (h4 : Cond.code Lib.Math.max.name Lib.Math.max.code 2 (some .int) ∈ TW) (hr : 1 ≤ M.2.2.2.2.1 ∧ (st.map fun v => v.category).sum + 13 ≤ M.2.2.2.2.2.1) (h : E M n lv (.int (JM_max x y) :: st) m Q) : E M pc lv (.int y :: .int x :: st) m Q := by
  intro g p l e s mid args below meth c H locs G ls hE hw hl
  subst hn
  exact va_mmax hE.1 hE.2.1 (by rw [hE.2.2.1]; exact hl.1.symm) hE.2.2.2.1 (hE.2.2.2.2.1 _ h1) (hE.2.2.2.2.1 _ h2) (hE.2.2.2.2.1 _ h3) (hE.2.2.2.2.1 _ h4) hr.1 (by rw [cat_sum]; exact hr.2) (Nat.le_refl _) (Nat.le_refl _) (gdec g hd) (h g p l e s mid args below meth c H locs G ls hE hw hl)
theorem E_jabs {x : Int32} (k : Nat) (hd : M.2.2.2.2.2.2[k]? = some (pc, .invokestatic ix, 3)) (hn : pc + 3 = n) (h1 : Cond.methodLink M.1.cls ix Lib.Math.abs.name ∈ TW) (h2 : Cond.static Lib.Math.abs.name ∈ TW) (h3 : Cond.initialized "java/lang/Math" ∈ TW) (h4 : Cond.code Lib.Math.abs.name Lib.Math.abs.code 1 (some .int) ∈ TW) (hr : 1 ≤ M.2.2.2.2.1 ∧ (st.map fun v => v.category).sum + 13 ≤ M.2.2.2.2.2.1) (h : E M n lv (.int (JM_abs x) :: st) m Q) : E M pc lv (.int x :: st) m Q := by
  intro g p l e s mid args below meth c H locs G ls hE hw hl
  subst hn
  exact va_mabs hE.1 hE.2.1 (by rw [hE.2.2.1]; exact hl.1.symm) hE.2.2.2.1 (hE.2.2.2.2.1 _ h1) (hE.2.2.2.2.1 _ h2) (hE.2.2.2.2.1 _ h3) (hE.2.2.2.2.1 _ h4) hr.1 (by rw [cat_sum]; exact hr.2) (Nat.le_refl _) (Nat.le_refl _) (gdec g hd) (h g p l e s mid args below meth c H locs G ls hE hw hl)
abbrev nm_fdiv : MethodName := ⟨"java/lang/Math", "floorDiv", "(II)I"⟩
abbrev nm_fmod : MethodName := ⟨"java/lang/Math", "floorMod", "(II)I"⟩
end
theorem tabo {x : Int32} {lo hi : Int} (h1 : -2147483648 ≤ lo) (h2 : hi < 2147483648) (h : ∀ z : Int, lo ≤ z → z ≤ hi → ¬ x = Int32.ofInt z) : x.toInt < lo ∨ hi < x.toInt := by
  rcases Int.lt_or_le x.toInt lo with h3 | h3
  · exact Or.inl h3
  · rcases Int.lt_or_le hi x.toInt with h4 | h4
    · exact Or.inr h4
    · exact absurd (Int32.ofInt_toInt x).symm (h x.toInt h3 h4)
def RD_wordOf (x0 : Int64) : Int32 :=
  if x0 = 110 then 0 else if x0 = 101 then 1 else if x0 = 115 then 2 else if x0 = 119 then 3 else if x0 = 7300196 then 4 else if x0 = 491496238692 then 5 else if x0 = 1818584692 then 6 else if x0 = 123563833652072 then 7 else if x0 = 6842739 then 8 else if x0 = 28526 then 9 else if x0 = 1818848869 then 10 else if x0 = 6840697 then 11 else if x0 = 109300298179432 then 12 else if x0 = 7102839 then 13 else if x0 = 1701078885 then 14 else if x0 = 448378008179 then 15 else if x0 = 482905517684 then 16 else 17

def RD_put_L3 (x1 : Int32) (kx : Mem → Option Mem) : Nat → Mem → Int32 → Option Mem
  | 0, _, _ => none
  | n + 1, m, x2 =>
  if x2 < 0 then (kx m)
  else (if 940 ≤ (gI m 1 1) then (kx m)
  else (if inb (gI m 1 1) 940 then (letM (sI m 2 (ixn (gI m 1 1)) ((jushr x1 x2) &&& 255)) fun m2 =>
  letM (sI m2 1 1 ((gI m2 1 1) + 1)) fun m3 =>
  RD_put_L3 x1 kx n m3 (x2 + (-8))) else none))
def RD_put (m : Mem) (x1 : Int32) : Option Mem :=
  RD_put_L3 x1 (fun m1 => some m1) FU m 24
def OH_feed (m : Mem) (x1 : Int32) (x2 : Int32) (x3 : Int32) (x4 : Int32) (x5 : Int32) : Option (Int32 × Mem) :=
  if ((gI m 1 1) + 20) ≤ 940 then (bM (RD_put m x1) fun m1 =>
  bM (RD_put m1 x2) fun m3 =>
  bM (RD_put m3 x3) fun m5 =>
  bM (RD_put m5 x4) fun m7 =>
  bM (RD_put m7 x5) fun m9 =>
  some ((gI m9 1 1), m9))
  else (some ((-1), m))
def OH_end (m : Mem) (x1 : Int32) : Option (Int32 × Mem) :=
  if x1 < 0 then (some (0, m))
  else (if x1 ≤ (gI m 1 1) then (letM (sI m 1 1 x1) fun m1 =>
  some (1, m1))
  else (some (0, m)))
def RD_begin (m : Mem) (x1 : Int32) : Option Mem :=
  letM (sI m 1 9 x1) fun m1 =>
  letM (sI m1 1 10 0) fun m2 =>
  letM (sI m2 1 2 0) fun m3 =>
  letM (sI m3 1 3 0) fun m4 =>
  some m4
def PH_clear_L2 (x0 : Nat) (kx : Mem → Option Mem) : Nat → Mem → Int32 → Option Mem
  | 0, _, _ => none
  | n + 1, m, x1 =>
  if 4 ≤ x1 then (kx m)
  else (if inb x1 4 then (letM (sI m (x0 + 15) (ixn x1) x1) fun m2 =>
  PH_clear_L2 x0 kx n m2 (x1 + 1)) else none)
def PH_clear (m : Mem) (x0 : Nat) : Option Mem :=
  PH_clear_L2 x0 (fun m1 => letM (sI m1 x0 6 0) fun m2 =>
  letM (sI m2 x0 7 0) fun m3 =>
  letM (sI m3 x0 8 0) fun m4 =>
  letM (sI m4 x0 9 0) fun m5 =>
  letM (sI m5 x0 10 0) fun m6 =>
  letM (sI m6 x0 11 0) fun m7 =>
  letM (sI m7 x0 12 0) fun m8 =>
  letM (sI m8 x0 13 0) fun m9 =>
  some m9) FU m 0
def RD_readRun_J98 (kr : Mem → Int32 → Int32 → Option Mem) (kx : Mem → Int32 → Int32 → Option Mem) (m : Mem) (x1 : Int32) (x2 : Int32) : Option Mem :=
  letM (sI m 1 10 ((gI m 1 10) + 1)) fun m1 =>
  kr m1 x1 x2
def RD_readRun_J67 (kr : Mem → Int32 → Int32 → Option Mem) (kx : Mem → Int32 → Int32 → Option Mem) (m : Mem) (x1 : Int32) (x2 : Int32) (x3 : Int32) : Option Mem :=
  if x3 < 48 then (kx m x1 x2)
  else (if 57 < x3 then (kx m x1 x2)
  else (letM (sI m 1 7 ((((gI m 1 7) * 10) + x3) - 48)) fun m1 =>
  RD_readRun_J98 kr kx m1 x1 (x2 + 1)))
def RD_readRun_L14 (kx : Mem → Int32 → Int32 → Option Mem) : Nat → Mem → Int32 → Int32 → Option Mem
  | 0, _, _, _ => none
  | n + 1, m, x1, x2 =>
  if (gI m 1 1) ≤ (gI m 1 10) then (kx m x1 x2)
  else (if inb (gI m 1 10) 940 then (letV ((gI m 2 (ixn (gI m 1 10)))) fun v2 =>
  if v2 < 97 then (RD_readRun_J67 (RD_readRun_L14 kx n) (kx) m x1 x2 v2)
  else (if 122 < v2 then (RD_readRun_J67 (RD_readRun_L14 kx n) (kx) m x1 x2 v2)
  else (letM (sJ m 1 8 ((jlshl (gJ m 1 8) 8) ||| (Int32.toInt64 v2))) fun m3 =>
  RD_readRun_J98 (RD_readRun_L14 kx n) (kx) m3 (x1 + 1) x2))) else none)
def RD_readRun_J139 (m : Mem) (x1 : Int32) (x2 : Int32) : Option Mem :=
  if x1 = 0 then (if x2 < 1 then (some m)
  else (if 2 < x2 then (some m)
  else (letM (sI m 1 4 2) fun m1 =>
  some m1)))
  else (some m)
def RD_readRun_J111 (m : Mem) (x1 : Int32) (x2 : Int32) : Option Mem :=
  letM (sI m 1 4 4) fun m1 =>
  if x2 = 0 then (if x1 < 1 then (RD_readRun_J139 m1 x1 x2)
  else (if 7 < x1 then (RD_readRun_J139 m1 x1 x2)
  else (letM (sI m1 1 4 1) fun m2 =>
  some m2)))
  else (RD_readRun_J139 m1 x1 x2)
def RD_readRun (m : Mem) : Option Mem :=
  letM (sJ m 1 8 0) fun m1 =>
  letM (sI m1 1 7 0) fun m2 =>
  RD_readRun_L14 (fun m5 y3 y4 => RD_readRun_J111 m5 y3 y4) FU m2 0 0
def RD_advance_J48 (kr : Mem → Option Mem) (kx : Mem → Option Mem) (m : Mem) (x1 : Int32) : Option Mem :=
  letM (sI m 1 10 ((gI m 1 10) + 1)) fun m1 =>
  kr m1
def RD_advance_L12 (x1 : Int32) (kx : Mem → Option Mem) : Nat → Mem → Option Mem
  | 0, _ => none
  | n + 1, m =>
  if x1 ≤ (gI m 1 10) then (kx m)
  else (if inb (gI m 1 10) 940 then (if (gI m 2 (ixn (gI m 1 10))) = 32 then (RD_advance_J48 (RD_advance_L12 x1 kx n) (kx) m x1)
  else (if (gI m 2 (ixn (gI m 1 10))) = 10 then (RD_advance_J48 (RD_advance_L12 x1 kx n) (kx) m x1)
  else (kx m))) else none)
def RD_advance_J61 (m : Mem) (x1 : Int32) : Option Mem :=
  if (gI m 1 10) < x1 then (letM (sI m 1 5 (gI m 1 10)) fun m1 =>
  if inb (gI m1 1 10) 940 then (if (gI m1 2 (ixn (gI m1 1 10))) = 59 then (letM (sI m1 1 10 ((gI m1 1 10) + 1)) fun m6 =>
  letM (sI m6 1 4 3) fun m7 =>
  some m7)
  else (bM (RD_readRun m1) fun m3 =>
  if (gI m3 1 4) = 1 then (letM (sI m3 1 6 (RD_wordOf (gJ m3 1 8))) fun m5 =>
  some m5)
  else (some m3))) else none)
  else (letM (sI m 1 5 x1) fun m8 =>
  letM (sI m8 1 4 0) fun m9 =>
  some m9)
def RD_advance (m : Mem) : Option Mem :=
  letV ((JM_min (gI m 1 1) (gI m 1 9))) fun v1 =>
  RD_advance_L12 v1 (fun m2 => RD_advance_J61 m2 v1) FU m
def RD_isAtEnd (m : Mem) : Option (Int32 × Mem) :=
  bM (RD_advance m) fun m1 =>
  if (gI m1 1 4) = 0 then (some (1, m1))
  else (some (0, m1))
def RD_failAt (m : Mem) (x1 : Int32) (x2 : Int32) : Option (Int32 × Mem) :=
  letM (sI m 1 2 x1) fun m1 =>
  letM (sI m1 1 3 x2) fun m2 =>
  some (0, m2)
def RD_fail (m : Mem) (x1 : Int32) : Option (Int32 × Mem) :=
  bV (RD_failAt m x1 (gI m 1 5)) fun v1 m2 =>
  if v1 = 0 ∨ v1 = 1 then (some (v1, m2)) else none
def RD_closes (m : Mem) : Option (Int32 × Mem) :=
  if (gI m 1 1) ≤ (gI m 1 9) then (some (1, m))
  else (bV (RD_fail m 1) fun v1 m2 =>
  if v1 = 0 then (some (0, m2))
  else (some (1, m2)))
def RD_isWord (m : Mem) (x1 : Int32) (x2 : Int32) : Int32 :=
  if (gI m 1 4) = 1 then (if (gI m 1 6) < x1 then (0)
  else (if x2 < (gI m 1 6) then (0)
  else (1)))
  else (0)
def PH_isLineNamed_L2 (m : Mem) (x0 : Nat) (x1 : Int64) (kx : Option Int32) : Nat → Int32 → Option Int32
  | 0, _ => none
  | n + 1, x3 =>
  if (gI m x0 6) ≤ x3 then (kx)
  else (if inb x3 3 then (if (lg_cmp (gJ m (x0 + 2 + 3 * ixn x3) 0) x1) = 0 then (some 1)
  else (PH_isLineNamed_L2 m x0 x1 kx n (x3 + 1))) else none)
def PH_isLineNamed (m : Mem) (x0 : Nat) (x1 : Int64) : Option Int32 :=
  PH_isLineNamed_L2 m x0 x1 (some 0) FU 0
def PH_hayNamed_L2 (m : Mem) (x0 : Nat) (x1 : Int64) (kx : Option Int32) : Nat → Int32 → Option Int32
  | 0, _ => none
  | n + 1, x3 =>
  if (gI m x0 7) ≤ x3 then (kx)
  else (if inb x3 10 then (if (lg_cmp (gJ m (x0 + 14) (ixn x3)) x1) = 0 then (some x3)
  else (PH_hayNamed_L2 m x0 x1 kx n (x3 + 1))) else none)
def PH_hayNamed (m : Mem) (x0 : Nat) (x1 : Int64) : Option Int32 :=
  PH_hayNamed_L2 m x0 x1 (some (-1)) FU 0
def PH_tellName_J44 (m : Mem) : Option (Int32 × Mem) :=
  bV (RD_fail m 3) fun v1 m2 =>
  if v1 = 0 then (some (0, m2))
  else (some (1, m2))
def PH_tellName (m : Mem) (x0 : Nat) : Option (Int32 × Mem) :=
  bM (RD_advance m) fun m1 =>
  if (RD_isWord m1 17 17) = 0 then (bV (RD_fail m1 1) fun v7 m8 =>
  if v7 = 0 ∨ v7 = 1 then (some (v7, m8)) else none)
  else (bI (PH_isLineNamed m1 x0 (gJ m1 1 8)) fun v3 =>
  if v3 = 0 then (bI (PH_hayNamed m1 x0 (gJ m1 1 8)) fun v5 =>
  if v5 = (-1) then (some (1, m1))
  else (PH_tellName_J44 m1))
  else (PH_tellName_J44 m1))
def LN_isAt (m : Mem) (x0 : Nat) (x1 : Int32) (x2 : Int32) (x3 : Int32) : Option Int32 :=
  if inb x1 12 then (if (gI m (x0 + 1) (ixn x1)) = x2 then (if (gI m (x0 + 2) (ixn x1)) = x3 then (some 1)
  else (some 0))
  else (some 0)) else none
def PH_closeLine (m : Mem) (x0 : Nat) (x2 : Nat) : Option (Int32 × Mem) :=
  if (gI m x2 1) = 0 then (bV (RD_fail m 1) fun v13 m14 =>
  if v13 = 0 ∨ v13 = 1 then (some (v13, m14)) else none)
  else (if 3 ≤ (gI m x2 1) then (if inb 0 12 then (bI (LN_isAt m x2 ((gI m x2 1) - 1) (gI m (x2 + 1) (ixn 0)) (gI m (x2 + 2) (ixn 0))) fun v2 =>
  if v2 = 0 then (letM (sI m x0 6 ((gI m x0 6) + 1)) fun m4 =>
  some (1, m4))
  else (bV (RD_fail m 3) fun v5 m6 =>
  if v5 = 0 ∨ v5 = 1 then (some (v5, m6)) else none)) else none)
  else (bV (RD_fail m 4) fun v9 m10 =>
  if v9 = 0 ∨ v9 = 1 then (some (v9, m10)) else none))
def PH_beginsCorner (m : Mem) (x1 : Nat) : Option (Int32 × Mem) :=
  if (gI m 1 4) = 2 then (if (gI m 1 7) ≤ 20 then (if (gI m x1 1) < 12 then (some (1, m))
  else (bV (RD_fail m 4) fun v1 m2 =>
  if v1 = 0 then (some (0, m2))
  else (some (1, m2))))
  else (bV (RD_fail m 2) fun v4 m5 =>
  if v4 = 0 ∨ v4 = 1 then (some (v4, m5)) else none))
  else (bV (RD_fail m 1) fun v8 m9 =>
  if v8 = 0 ∨ v8 = 1 then (some (v8, m9)) else none)
def RD_readNumber_J34 (m : Mem) : Option (Int32 × Mem) :=
  bV (RD_fail m 2) fun v1 m2 =>
  if v1 = 0 then (some (0, m2))
  else (some (1, m2))
def RD_readNumber (m : Mem) (x1 : Int32) (x2 : Int32) : Option (Int32 × Mem) :=
  bM (RD_advance m) fun m1 =>
  if (gI m1 1 4) = 2 then (if (gI m1 1 7) < x1 then (RD_readNumber_J34 m1)
  else (if (gI m1 1 7) ≤ x2 then (some (1, m1))
  else (RD_readNumber_J34 m1)))
  else (bV (RD_fail m1 1) fun v3 m4 =>
  if v3 = 0 ∨ v3 = 1 then (some (v3, m4)) else none)
def LN_add (m : Mem) (x0 : Nat) (x1 : Int32) (x2 : Int32) : Option (Int32 × Mem) :=
  if (gI m x0 1) < 12 then (if inb (gI m x0 1) 12 then (letM (sI m (x0 + 1) (ixn (gI m x0 1)) x1) fun m2 =>
  if inb (gI m2 x0 1) 12 then (letM (sI m2 (x0 + 2) (ixn (gI m2 x0 1)) x2) fun m4 =>
  letM (sI m4 x0 1 ((gI m4 x0 1) + 1)) fun m5 =>
  some (1, m5)) else none) else none)
  else (some (0, m))
def PH_endsCorner_J30 (m : Mem) (x1 : Nat) (x2 : Int32) : Option (Int32 × Mem) :=
  bV (LN_add m x1 x2 (gI m 1 7)) fun v1 m2 =>
  if v1 = 0 ∨ v1 = 1 then (some (v1, m2)) else none
def PH_endsCorner (m : Mem) (x1 : Nat) (x2 : Int32) : Option (Int32 × Mem) :=
  letV ((gI m x1 1)) fun v1 =>
  if v1 ≤ 0 then (PH_endsCorner_J30 m x1 x2)
  else (bI (LN_isAt m x1 (v1 - 1) x2 (gI m 1 7)) fun v2 =>
  if v2 = 0 then (PH_endsCorner_J30 m x1 x2)
  else (bV (RD_fail m 3) fun v4 m5 =>
  if v4 = 0 ∨ v4 = 1 then (some (v4, m5)) else none))
def PH_tellLine_L49 (x0 : Nat) (x2 : Nat) (kx : Mem → Option (Int32 × Mem)) : Nat → Mem → Int32 → Option (Int32 × Mem)
  | 0, _, _ => none
  | n + 1, m, x3 =>
  if 12 < x3 then (kx m)
  else (bM (RD_advance m) fun m1 =>
  if (gI m1 1 4) = 3 then (bV (PH_closeLine m1 x0 x2) fun v13 m14 =>
  if v13 = 0 ∨ v13 = 1 then (some (v13, m14)) else none)
  else (letV ((gI m1 1 7)) fun v3 =>
  bV (PH_beginsCorner m1 x2) fun v4 m5 =>
  if v4 = 0 then (some (0, m5))
  else (bV (RD_readNumber m5 0 20) fun v7 m8 =>
  if v7 = 0 then (some (0, m8))
  else (bV (PH_endsCorner m8 x2 v3) fun v10 m11 =>
  if v10 = 0 then (some (0, m11))
  else (PH_tellLine_L49 x0 x2 kx n m11 (x3 + 1))))))
def PH_tellLine (m : Mem) (x0 : Nat) : Option (Int32 × Mem) :=
  if (gI m x0 6) < 3 then (bV (PH_tellName m x0) fun v1 m2 =>
  if v1 = 0 then (some (0, m2))
  else (if inb (gI m2 x0 6) 3 then (letM (sJ m2 (x0 + 2 + 3 * ixn (gI m2 x0 6)) 0 (gJ m2 1 8)) fun m5 =>
  letM (sI m5 (x0 + 2 + 3 * ixn (gI m2 x0 6)) 1 0) fun m6 =>
  PH_tellLine_L49 x0 (x0 + 2 + 3 * ixn (gI m2 x0 6)) (fun m7 => some (0, m7)) FU m6 0) else none))
  else (bV (RD_fail m 4) fun v8 m9 =>
  if v8 = 0 ∨ v8 = 1 then (some (v8, m9)) else none)
def RD_readSemicolon (m : Mem) : Option (Int32 × Mem) :=
  bM (RD_advance m) fun m1 =>
  if (gI m1 1 4) = 3 then (some (1, m1))
  else (bV (RD_fail m1 1) fun v3 m4 =>
  if v3 = 0 then (some (0, m4))
  else (some (1, m4)))
def PH_tellHay (m : Mem) (x0 : Nat) : Option (Int32 × Mem) :=
  letV ((gI m x0 7)) fun v1 =>
  if v1 < 10 then (bV (PH_tellName m x0) fun v2 m3 =>
  if v2 = 0 then (some (0, m3))
  else (if inb v1 10 then (letM (sJ m3 (x0 + 14) (ixn v1) (gJ m3 1 8)) fun m6 =>
  bV (RD_readNumber m6 0 19) fun v7 m8 =>
  if v7 = 0 then (some (0, m8))
  else (letM (sI m8 (x0 + 11) (ixn v1) (gI m8 1 7)) fun m10 =>
  bV (RD_readNumber m10 0 19) fun v11 m12 =>
  if v11 = 0 then (some (0, m12))
  else (letM (sI m12 (x0 + 12) (ixn v1) (gI m12 1 7)) fun m14 =>
  bV (RD_readNumber m14 0 99) fun v15 m16 =>
  if v15 = 0 then (some (0, m16))
  else (letM (sI m16 (x0 + 13) (ixn v1) (gI m16 1 7)) fun m18 =>
  letM (sI m18 x0 7 ((gI m18 x0 7) + 1)) fun m19 =>
  bV (RD_readSemicolon m19) fun v20 m21 =>
  if v20 = 0 ∨ v20 = 1 then (some (v20, m21)) else none)))) else none))
  else (bV (RD_fail m 4) fun v24 m25 =>
  if v24 = 0 ∨ v24 = 1 then (some (v24, m25)) else none)
def PH_tellsFirst (m : Mem) (x0 : Nat) (x2 : Int32) : Option (Int32 × Mem) :=
  if ((gI m x0 13) &&& x2) = 0 then (letM (sI m x0 13 ((gI m x0 13) ||| x2)) fun m1 =>
  some (1, m1))
  else (bV (RD_fail m 3) fun v2 m3 =>
  if v2 = 0 ∨ v2 = 1 then (some (v2, m3)) else none)
def PH_tellChurch (m : Mem) (x0 : Nat) : Option (Int32 × Mem) :=
  bV (PH_tellsFirst m x0 1) fun v1 m2 =>
  if v1 = 0 then (some (0, m2))
  else (bV (RD_readNumber m2 0 19) fun v4 m5 =>
  if v4 = 0 then (some (0, m5))
  else (letM (sI m5 x0 8 (gI m5 1 7)) fun m7 =>
  bV (RD_readNumber m7 0 19) fun v8 m9 =>
  if v8 = 0 then (some (0, m9))
  else (letM (sI m9 x0 9 (gI m9 1 7)) fun m11 =>
  bV (RD_readSemicolon m11) fun v12 m13 =>
  if v12 = 0 ∨ v12 = 1 then (some (v12, m13)) else none)))
def RD_readWord (m : Mem) (x1 : Int32) (x2 : Int32) : Option (Int32 × Mem) :=
  bM (RD_advance m) fun m1 =>
  if (RD_isWord m1 x1 x2) = 0 then (bV (RD_fail m1 1) fun v3 m4 =>
  if v3 = 0 then (some (0, m4))
  else (some (1, m4)))
  else (some (1, m1))
def PH_tellLaw (m : Mem) (x0 : Nat) : Option (Int32 × Mem) :=
  bV (PH_tellsFirst m x0 2) fun v1 m2 =>
  if v1 = 0 then (some (0, m2))
  else (bV (RD_readWord m2 4 6) fun v4 m5 =>
  if v4 = 0 then (some (0, m5))
  else (letM (sI m5 x0 10 ((gI m5 1 6) - 4)) fun m7 =>
  bV (RD_readSemicolon m7) fun v8 m9 =>
  if v8 = 0 ∨ v8 = 1 then (some (v8, m9)) else none))
def PH_tellEdge (m : Mem) (x0 : Nat) : Option (Int32 × Mem) :=
  bV (PH_tellsFirst m x0 4) fun v1 m2 =>
  if v1 = 0 then (some (0, m2))
  else (bV (RD_readWord m2 7 8) fun v4 m5 =>
  if v4 = 0 then (some (0, m5))
  else (letM (sI m5 x0 11 ((gI m5 1 6) - 7)) fun m7 =>
  bV (RD_readSemicolon m7) fun v8 m9 =>
  if v8 = 0 ∨ v8 = 1 then (some (v8, m9)) else none))
def PH_tellHeirs_L14 (x0 : Nat) (kx : Mem → Option (Int32 × Mem)) : Nat → Mem → Int32 → Option (Int32 × Mem)
  | 0, _, _ => none
  | n + 1, m, x2 =>
  if 4 ≤ x2 then (kx m)
  else (bV (RD_readNumber m 0 9) fun v1 m2 =>
  if v1 = 0 then (some (0, m2))
  else (if inb x2 4 then (letM (sI m2 (x0 + 15) (ixn x2) (gI m2 1 7)) fun m5 =>
  PH_tellHeirs_L14 x0 kx n m5 (x2 + 1)) else none))
def PH_tellHeirs (m : Mem) (x0 : Nat) : Option (Int32 × Mem) :=
  bV (PH_tellsFirst m x0 8) fun v1 m2 =>
  if v1 = 0 then (some (0, m2))
  else (PH_tellHeirs_L14 x0 (fun m4 => bV (RD_readSemicolon m4) fun v5 m6 =>
  if v5 = 0 ∨ v5 = 1 then (some (v5, m6)) else none) FU m2 0)
def PH_tellRow (m : Mem) (x0 : Nat) : Option (Int32 × Mem) :=
  if (RD_isWord m 10 15) = 0 then (bV (RD_fail m 1) fun v30 m31 =>
  if v30 = 0 ∨ v30 = 1 then (some (v30, m31)) else none)
  else (if (gI m 1 6) = 10 then (bV (PH_tellLine m x0) fun v5 m6 =>
  if v5 = 0 ∨ v5 = 1 then (some (v5, m6)) else none)
  else (if (gI m 1 6) = 11 then (bV (PH_tellHay m x0) fun v9 m10 =>
  if v9 = 0 ∨ v9 = 1 then (some (v9, m10)) else none)
  else (if (gI m 1 6) = 12 then (bV (PH_tellChurch m x0) fun v13 m14 =>
  if v13 = 0 ∨ v13 = 1 then (some (v13, m14)) else none)
  else (if (gI m 1 6) = 13 then (bV (PH_tellLaw m x0) fun v17 m18 =>
  if v17 = 0 ∨ v17 = 1 then (some (v17, m18)) else none)
  else (if (gI m 1 6) = 14 then (bV (PH_tellEdge m x0) fun v21 m22 =>
  if v21 = 0 ∨ v21 = 1 then (some (v21, m22)) else none)
  else (bV (PH_tellHeirs m x0) fun v1 m2 =>
  if v1 = 0 ∨ v1 = 1 then (some (v1, m2)) else none))))))
def PH_tell_L6 (x0 : Nat) (kx : Mem → Option (Int32 × Mem)) : Nat → Mem → Int32 → Option (Int32 × Mem)
  | 0, _, _ => none
  | n + 1, m, x2 =>
  if 900 < x2 then (kx m)
  else (bV (RD_isAtEnd m) fun v1 m2 =>
  if v1 = 0 then (bV (PH_tellRow m2 x0) fun v4 m5 =>
  if v4 = 0 then (some ((-1), m5))
  else (PH_tell_L6 x0 kx n m5 (x2 + 1)))
  else (bV (RD_closes m2) fun v7 m8 =>
  if v7 = 0 then (some ((-1), m8))
  else (some (x2, m8))))
def PH_tell (m : Mem) (x0 : Nat) : Option (Int32 × Mem) :=
  bM (PH_clear m x0) fun m1 =>
  PH_tell_L6 x0 (fun m3 => some ((-1), m3)) FU m1 0
def AC_forget (m : Mem) : Option Mem :=
  letM (sI m 3 1 0) fun m1 =>
  some m1
def OH_closeText (m : Mem) (x1 : Int32) : Option (Int32 × Mem) :=
  letM (sI m 0 15 (gI m 1 2)) fun m1 =>
  letM (sI m1 1 1 0) fun m2 =>
  if (gI m2 0 15) = 0 then (some (x1, m2))
  else (some (((-1) - (gI m2 1 3)), m2))
def OH_parish_J51 (m : Mem) (x1 : Int32) : Option (Int32 × Mem) :=
  bV (OH_closeText m x1) fun v1 m2 =>
  some (v1, m2)
def OH_parish (m : Mem) : Option (Int32 × Mem) :=
  bM (RD_begin m 900) fun m1 =>
  bV (PH_tell m1 (gN m1 14)) fun v4 m5 =>
  if v4 < 0 then (OH_parish_J51 m5 v4)
  else (letM (sN m5 13 (gN m5 14)) fun m9 =>
  letM (sN m9 14 (gN m5 13)) fun m10 =>
  bM (AC_forget m10) fun m11 =>
  OH_parish_J51 m11 v4)
def OH_fault (m : Mem) : Int32 :=
  (gI m 0 15)
def PH_hasLine (m : Mem) (x0 : Nat) (x1 : Int32) : Int32 :=
  if x1 < 0 then (0)
  else (if (gI m x0 6) ≤ x1 then (0)
  else (1))
def PH_hasCorner (m : Mem) (x0 : Nat) (x1 : Int32) (x2 : Int32) : Option Int32 :=
  if (PH_hasLine m x0 x1) = 0 then (some 0)
  else (if x2 < 0 then (some 0)
  else (if inb x1 3 then (if (gI m (x0 + 2 + 3 * ixn x1) 1) ≤ x2 then (some 0)
  else (some 1)) else none))
def LN_before (m : Mem) (x0 : Nat) (x1 : Int32) : Int32 :=
  if x1 ≤ 0 then (((gI m x0 1) - 1))
  else ((x1 - 1))
def LN_after (m : Mem) (x0 : Nat) (x1 : Int32) : Int32 :=
  if (gI m x0 1) ≤ (x1 + 1) then (0)
  else ((x1 + 1))
def JI_compare (x0 : Int32) (x1 : Int32) : Int32 :=
  if x1 ≤ x0 then (if x0 = x1 then (0)
  else (1))
  else ((-1))
def LN_bend (m : Mem) (x0 : Nat) (x1 : Int32) (x2 : Int32) (x3 : Int32) : Option Int32 :=
  if inb x2 12 then (if inb x1 12 then (if inb x3 12 then (some (JI_compare (((gI m (x0 + 1) (ixn x2)) - (gI m (x0 + 1) (ixn x1))) * ((gI m (x0 + 2) (ixn x3)) - (gI m (x0 + 2) (ixn x2)))) (((gI m (x0 + 2) (ixn x2)) - (gI m (x0 + 2) (ixn x1))) * ((gI m (x0 + 1) (ixn x3)) - (gI m (x0 + 1) (ixn x2)))))) else none) else none) else none
def PH_hasHay (m : Mem) (x0 : Nat) (x1 : Int32) : Int32 :=
  if x1 < 0 then (0)
  else (if (gI m x0 7) ≤ x1 then (0)
  else (1))
def LN_twiceArea_L4 (m : Mem) (x0 : Nat) (kx : Int32 → Option Int32) : Nat → Int32 → Int32 → Option Int32
  | 0, _, _ => none
  | n + 1, x1, x2 =>
  if (gI m x0 1) ≤ x2 then (kx x1)
  else (letV ((LN_after m x0 x2)) fun v1 =>
  if inb x2 12 then (if inb v1 12 then (letV ((x1 + (((gI m (x0 + 1) (ixn x2)) * (gI m (x0 + 2) (ixn v1))) - ((gI m (x0 + 1) (ixn v1)) * (gI m (x0 + 2) (ixn x2)))))) fun v4 =>
  LN_twiceArea_L4 m x0 kx n v4 (x2 + 1)) else none) else none)
def LN_twiceArea (m : Mem) (x0 : Nat) : Option Int32 :=
  LN_twiceArea_L4 m x0 (fun y1 => some y1) FU 0 0
def LN_crossWithin (m : Mem) (x0 : Nat) (x1 : Int32) (x2 : Int32) : Option Int32 :=
  letV ((LN_after m x0 x1)) fun v1 =>
  letV ((LN_after m x0 x2)) fun v2 =>
  bI (LN_bend m x0 x1 v1 x2) fun v3 =>
  bI (LN_bend m x0 x1 v1 v2) fun v5 =>
  if 0 ≤ (v3 * v5) then (some 0)
  else (bI (LN_bend m x0 x2 v2 x1) fun v7 =>
  bI (LN_bend m x0 x2 v2 v1) fun v9 =>
  if 0 ≤ (v7 * v9) then (some 0)
  else (some 1))
def LN_crossings_L16 (m : Mem) (x0 : Nat) (x2 : Int32) (kx : Int32 → Option Int32) : Nat → Int32 → Int32 → Option Int32
  | 0, _, _ => none
  | n + 1, x1, x3 =>
  if (gI m x0 1) ≤ x3 then (kx x1)
  else (bI (LN_crossWithin m x0 x2 x3) fun v1 =>
  if v1 = 0 then (LN_crossings_L16 m x0 x2 kx n x1 (x3 + 1))
  else (LN_crossings_L16 m x0 x2 kx n (x1 + 1) (x3 + 1)))
def LN_crossings_L4 (m : Mem) (x0 : Nat) (kx : Int32 → Option Int32) : Nat → Int32 → Int32 → Option Int32
  | 0, _, _ => none
  | n + 1, x1, x2 =>
  if (gI m x0 1) ≤ x2 then (kx x1)
  else (letV ((x2 + 1)) fun v1 =>
  LN_crossings_L16 m x0 x2 (fun y2 => LN_crossings_L4 m x0 kx n y2 (x2 + 1)) FU x1 v1)
def LN_crossings (m : Mem) (x0 : Nat) : Option Int32 :=
  LN_crossings_L4 m x0 (fun y1 => some y1) FU 0 0
def OH_passes_J75 (x1 : Int32) (x3 : Int32) (x5 : Int32) (x6 : Int32) : Int32 :=
  if x5 < x3 then (0)
  else (if x1 ≤ x5 then (0)
  else (if 0 ≤ x6 then (0)
  else ((-1))))
def OH_passes_J52 (x1 : Int32) (x3 : Int32) (x5 : Int32) (x6 : Int32) : Int32 :=
  if x5 < x1 then (OH_passes_J75 x1 x3 x5 x6)
  else (if x3 ≤ x5 then (OH_passes_J75 x1 x3 x5 x6)
  else (if x6 ≤ 0 then (0)
  else (1)))
def OH_passes (x0 : Int32) (x1 : Int32) (x2 : Int32) (x3 : Int32) (x4 : Int32) (x5 : Int32) : Int32 :=
  letV ((((x2 - x0) * (x5 - x1)) - ((x3 - x1) * (x4 - x0)))) fun v1 =>
  if v1 = 0 then (if 0 < ((x0 - x4) * (x2 - x4)) then (OH_passes_J52 x1 x3 x5 v1)
  else (if 0 < ((x1 - x5) * (x3 - x5)) then (OH_passes_J52 x1 x3 x5 v1)
  else (1000)))
  else (OH_passes_J52 x1 x3 x5 v1)
def LN_passesBy (m : Mem) (x0 : Nat) (x1 : Int32) (x2 : Int32) (x3 : Int32) : Option Int32 :=
  letV ((LN_after m x0 x1)) fun v1 =>
  if inb x1 12 then (if inb v1 12 then (some (OH_passes (gI m (x0 + 1) (ixn x1)) (gI m (x0 + 2) (ixn x1)) (gI m (x0 + 1) (ixn v1)) (gI m (x0 + 2) (ixn v1)) x2 x3)) else none) else none
def LN_endsMeet (m : Mem) (x0 : Nat) (x1 : Int32) (x2 : Int32) : Option Int32 :=
  letV ((LN_after m x0 x1)) fun v1 =>
  letV ((LN_after m x0 x2)) fun v2 =>
  if inb x2 12 then (bI (LN_passesBy m x0 x1 (gI m (x0 + 1) (ixn x2)) (gI m (x0 + 2) (ixn x2))) fun v4 =>
  if v4 = 1000 then (some 1)
  else (if inb v2 12 then (bI (LN_passesBy m x0 x1 (gI m (x0 + 1) (ixn v2)) (gI m (x0 + 2) (ixn v2))) fun v7 =>
  if v7 = 1000 then (some 1)
  else (if inb x1 12 then (bI (LN_passesBy m x0 x2 (gI m (x0 + 1) (ixn x1)) (gI m (x0 + 2) (ixn x1))) fun v10 =>
  if v10 = 1000 then (some 1)
  else (if inb v1 12 then (bI (LN_passesBy m x0 x2 (gI m (x0 + 1) (ixn v1)) (gI m (x0 + 2) (ixn v1))) fun v13 =>
  if v13 = 1000 then (some 1)
  else (some 0)) else none)) else none)) else none)) else none
def LN_touches_L16 (m : Mem) (x0 : Nat) (x2 : Int32) (kx : Int32 → Option Int32) : Nat → Int32 → Int32 → Option Int32
  | 0, _, _ => none
  | n + 1, x1, x3 =>
  if (gI m x0 1) ≤ x3 then (kx x1)
  else (if (LN_after m x0 x2) = x3 then (LN_touches_L16 m x0 x2 kx n x1 (x3 + 1))
  else (if (LN_after m x0 x3) = x2 then (LN_touches_L16 m x0 x2 kx n x1 (x3 + 1))
  else (bI (LN_endsMeet m x0 x2 x3) fun v1 =>
  if v1 = 0 then (LN_touches_L16 m x0 x2 kx n x1 (x3 + 1))
  else (LN_touches_L16 m x0 x2 kx n (x1 + 1) (x3 + 1)))))
def LN_touches_L4 (m : Mem) (x0 : Nat) (kx : Int32 → Option Int32) : Nat → Int32 → Int32 → Option Int32
  | 0, _, _ => none
  | n + 1, x1, x2 =>
  if (gI m x0 1) ≤ x2 then (kx x1)
  else (letV ((x2 + 1)) fun v1 =>
  LN_touches_L16 m x0 x2 (fun y2 => LN_touches_L4 m x0 kx n y2 (x2 + 1)) FU x1 v1)
def LN_touches (m : Mem) (x0 : Nat) : Option Int32 :=
  LN_touches_L4 m x0 (fun y1 => some y1) FU 0 0
def OH_line (m : Mem) (x1 : Int32) (x2 : Int32) : Option Int32 :=
  if (PH_hasLine m (gN m 13) x1) = 0 then (some (-1))
  else (if inb x1 3 then (if x2 = 0 then (some (gI m ((gN m 13) + 2 + 3 * ixn x1) 1))
  else (if x2 = 1 then (bI (LN_twiceArea m ((gN m 13) + 2 + 3 * ixn x1)) fun v4 =>
  some v4)
  else (if x2 = 2 then (bI (LN_crossings m ((gN m 13) + 2 + 3 * ixn x1)) fun v6 =>
  some v6)
  else (if x2 = 3 then (bI (LN_touches m ((gN m 13) + 2 + 3 * ixn x1)) fun v8 =>
  some v8)
  else (some (-1)))))) else none)
def OH_isPoint (x0 : Int32) (x1 : Int32) : Int32 :=
  if x0 < 0 then (0)
  else (if 20 < x0 then (0)
  else (if x1 < 0 then (0)
  else (if 20 < x1 then (0)
  else (1))))
def LN_timesRound_L5 (m : Mem) (x0 : Nat) (x1 : Int32) (x2 : Int32) (kx : Int32 → Option Int32) : Nat → Int32 → Int32 → Option Int32
  | 0, _, _ => none
  | n + 1, x3, x4 =>
  if (gI m x0 1) ≤ x4 then (kx x3)
  else (bI (LN_passesBy m x0 x4 x1 x2) fun v1 =>
  if v1 = 1000 then (some 1000)
  else (letV ((x3 + v1)) fun v3 =>
  LN_timesRound_L5 m x0 x1 x2 kx n v3 (x4 + 1)))
def LN_timesRound (m : Mem) (x0 : Nat) (x1 : Int32) (x2 : Int32) : Option Int32 :=
  LN_timesRound_L5 m x0 x1 x2 (fun y1 => some y1) FU 0 0
def OH_isHis (x0 : Int32) (x1 : Int32) : Int32 :=
  if x0 = 0 then (if (x1 &&& 1) = 0 then (0)
  else (1))
  else (if x0 = 1 then (if x1 = 0 then (0)
  else (1))
  else (if x1 ≤ 0 then (0)
  else (1)))
def PH_ownerOf (m : Mem) (x0 : Nat) (x1 : Int32) (x2 : Int32) (x3 : Int32) : Option Int32 :=
  if inb x1 3 then (bI (LN_timesRound m (x0 + 2 + 3 * ixn x1) x2 x3) fun v2 =>
  if v2 = 1000 then (some (2 + (gI m x0 11)))
  else (if (OH_isHis (gI m x0 10) v2) = 0 then (some 0)
  else (some 1))) else none
def OH_whose (m : Mem) (x1 : Int32) (x2 : Int32) (x3 : Int32) : Option Int32 :=
  if (PH_hasLine m (gN m 13) x1) = 0 then (some (-1))
  else (if (OH_isPoint x2 x3) = 0 then (some (-1))
  else (bI (PH_ownerOf m (gN m 13) x1 x2 x3) fun v3 =>
  some v3))
def OH_isSquare (x0 : Int32) (x1 : Int32) : Int32 :=
  if x0 < 0 then (0)
  else (if 20 ≤ x0 then (0)
  else (if x1 < 0 then (0)
  else (if 20 ≤ x1 then (0)
  else (1))))
def JA_fill_L5 (x0 : Nat) (x1 : Int32) (x3 : Int32) (kx : Mem → Option Mem) : Nat → Mem → Int32 → Option Mem
  | 0, _, _ => none
  | n + 1, m, x2 =>
  if x3 ≤ x2 then (kx m)
  else (if inb x2 (shp x0).2 then (letM (sI m x0 (ixn x2) x1) fun m2 =>
  JA_fill_L5 x0 x1 x3 kx n m2 (x2 + 1)) else none)
def JA_fill (m : Mem) (x0 : Nat) (x1 : Int32) : Option Mem :=
  letV ((Int32.ofNat (shp x0).2)) fun v1 =>
  JA_fill_L5 x0 x1 v1 (fun m2 => some m2) FU m 0
def OH_squareAt (x0 : Int32) (x1 : Int32) : Int32 :=
  ((x1 * 20) + x0)
def GR_crossRows_J121 (kr : Mem → Int32 → Option Mem) (kx : Mem → Option Mem) (m : Mem) (x0 : Nat) (x1 : Nat) (x2 : Int32) (x3 : Int32) (x4 : Int32) (x5 : Int32) (x6 : Int32) (x7 : Int32) (x8 : Int32) (x9 : Int32) (x10 : Int32) : Option Mem :=
  if (x9 + 1) < 0 then (kr m (x7 + 1))
  else (if 20 ≤ (x9 + 1) then (kr m (x7 + 1))
  else (if ¬ (2 * x6) = 0 then (if (JM_floorMod x8 (2 * x6)) = 0 then (if inb (x10 + 1) 400 then (letM (sI m (x0 + 5) (ixn (x10 + 1)) 1) fun m3 =>
  kr m3 (x7 + 1)) else none)
  else (kr m (x7 + 1))) else none))
def GR_crossRows_L22 (x0 : Nat) (x1 : Nat) (x2 : Int32) (x3 : Int32) (x4 : Int32) (x5 : Int32) (x6 : Int32) (kx : Mem → Option Mem) : Nat → Mem → Int32 → Option Mem
  | 0, _, _ => none
  | n + 1, m, x7 =>
  if x6 ≤ x7 then (kx m)
  else (if inb x3 12 then (if inb x2 12 then (letV (((((2 * x7) + 1) * ((gI m (x1 + 1) (ixn x3)) - (gI m (x1 + 1) (ixn x2)))) - x6)) fun v3 =>
  if ¬ (2 * x6) = 0 then (letV (((gI m (x1 + 1) (ixn x2)) + (JM_floorDiv (v3 - 1) (2 * x6)))) fun v5 =>
  letV ((OH_squareAt v5 (x5 + x7))) fun v6 =>
  if v5 < 0 then (GR_crossRows_J121 (GR_crossRows_L22 x0 x1 x2 x3 x4 x5 x6 kx n) (kx) m x0 x1 x2 x3 x4 x5 x6 x7 v3 v5 v6)
  else (if 20 ≤ v5 then (GR_crossRows_J121 (GR_crossRows_L22 x0 x1 x2 x3 x4 x5 x6 kx n) (kx) m x0 x1 x2 x3 x4 x5 x6 x7 v3 v5 v6)
  else (if inb v6 400 then (letM (sI m (x0 + 2) (ixn v6) ((gI m (x0 + 2) (ixn v6)) + 1)) fun m8 =>
  letM (sI m8 (x0 + 4) (ixn v6) ((gI m8 (x0 + 4) (ixn v6)) + x4)) fun m9 =>
  GR_crossRows_J121 (GR_crossRows_L22 x0 x1 x2 x3 x4 x5 x6 kx n) (kx) m9 x0 x1 x2 x3 x4 x5 x6 x7 v3 v5 v6) else none))) else none) else none) else none)
def GR_crossRows (m : Mem) (x0 : Nat) (x1 : Nat) (x2 : Int32) (x3 : Int32) (x4 : Int32) : Option Mem :=
  if inb x2 12 then (letV ((gI m (x1 + 2) (ixn x2))) fun v2 =>
  if inb x3 12 then (letV (((gI m (x1 + 2) (ixn x3)) - v2)) fun v4 =>
  GR_crossRows_L22 x0 x1 x2 x3 x4 v2 v4 (fun m5 => some m5) FU m 0) else none) else none
def GR_crossColumns_L22 (x0 : Nat) (x1 : Nat) (x2 : Int32) (x3 : Int32) (x4 : Int32) (x5 : Int32) (kx : Mem → Option Mem) : Nat → Mem → Int32 → Option Mem
  | 0, _, _ => none
  | n + 1, m, x6 =>
  if x5 ≤ x6 then (kx m)
  else (if inb x3 12 then (if inb x2 12 then (letV (((((2 * x6) + 1) * ((gI m (x1 + 2) (ixn x3)) - (gI m (x1 + 2) (ixn x2)))) - x5)) fun v3 =>
  if ¬ (2 * x5) = 0 then (letV (((gI m (x1 + 2) (ixn x2)) + (JM_floorDiv (v3 - 1) (2 * x5)))) fun v5 =>
  if v5 < 0 then (GR_crossColumns_L22 x0 x1 x2 x3 x4 x5 kx n m (x6 + 1))
  else (if 20 ≤ v5 then (GR_crossColumns_L22 x0 x1 x2 x3 x4 x5 kx n m (x6 + 1))
  else (if inb (OH_squareAt (x4 + x6) v5) 400 then (letM (sI m (x0 + 3) (ixn (OH_squareAt (x4 + x6) v5)) ((gI m (x0 + 3) (ixn (OH_squareAt (x4 + x6) v5))) + 1)) fun m7 =>
  GR_crossColumns_L22 x0 x1 x2 x3 x4 x5 kx n m7 (x6 + 1)) else none))) else none) else none) else none)
def GR_crossColumns (m : Mem) (x0 : Nat) (x1 : Nat) (x2 : Int32) (x3 : Int32) : Option Mem :=
  if inb x2 12 then (letV ((gI m (x1 + 1) (ixn x2))) fun v2 =>
  if inb x3 12 then (letV (((gI m (x1 + 1) (ixn x3)) - v2)) fun v4 =>
  GR_crossColumns_L22 x0 x1 x2 x3 v2 v4 (fun m5 => some m5) FU m 0) else none) else none
def GR_ownRow_L11 (x0 : Nat) (x1 : Int32) (x2 : Int32) (x3 : Int32) (kx : Mem → Option Mem) : Nat → Mem → Int32 → Int32 → Option Mem
  | 0, _, _, _ => none
  | n + 1, m, x4, x5 =>
  if x5 < x1 then (kx m)
  else (if inb x5 400 then (letV ((x4 + (gI m (x0 + 4) (ixn x5)))) fun v2 =>
  if (gI m (x0 + 5) (ixn x5)) = 0 then (if (OH_isHis x2 v2) = 0 then (letM (sI m (x0 + 1) (ixn x5) 0) fun m3 =>
  GR_ownRow_L11 x0 x1 x2 x3 kx n m3 v2 (x5 + (-1)))
  else (letM (sI m (x0 + 1) (ixn x5) 1) fun m4 =>
  GR_ownRow_L11 x0 x1 x2 x3 kx n m4 v2 (x5 + (-1))))
  else (letM (sI m (x0 + 1) (ixn x5) x3) fun m5 =>
  GR_ownRow_L11 x0 x1 x2 x3 kx n m5 v2 (x5 + (-1)))) else none)
def GR_ownRow (m : Mem) (x0 : Nat) (x1 : Int32) (x2 : Int32) (x3 : Int32) : Option Mem :=
  letV (((x1 + 20) - 1)) fun v1 =>
  GR_ownRow_L11 x0 x1 x2 x3 (fun m2 => some m2) FU m 0 v1
def GR_survey_J92 (kr : Mem → Int32 → Option Mem) (kx : Mem → Option Mem) (m : Mem) (x0 : Nat) (x1 : Nat) (x2 : Int32) (x3 : Int32) (x4 : Int32) (x5 : Int32) : Option Mem :=
  if inb x4 12 then (if inb x5 12 then (if (gI m (x1 + 1) (ixn x5)) ≤ (gI m (x1 + 1) (ixn x4)) then (bM (GR_crossColumns m x0 x1 x5 x4) fun m3 =>
  kr m3 (x4 + 1))
  else (bM (GR_crossColumns m x0 x1 x4 x5) fun m5 =>
  kr m5 (x4 + 1))) else none) else none
def GR_survey_L35 (x0 : Nat) (x1 : Nat) (x2 : Int32) (x3 : Int32) (kx : Mem → Option Mem) : Nat → Mem → Int32 → Option Mem
  | 0, _, _ => none
  | n + 1, m, x4 =>
  if (gI m x1 1) ≤ x4 then (kx m)
  else (letV ((LN_after m x1 x4)) fun v1 =>
  if inb x4 12 then (if inb v1 12 then (if (gI m (x1 + 2) (ixn v1)) ≤ (gI m (x1 + 2) (ixn x4)) then (bM (GR_crossRows m x0 x1 v1 x4 (-1)) fun m4 =>
  GR_survey_J92 (GR_survey_L35 x0 x1 x2 x3 kx n) (kx) m4 x0 x1 x2 x3 x4 v1)
  else (bM (GR_crossRows m x0 x1 x4 v1 1) fun m6 =>
  GR_survey_J92 (GR_survey_L35 x0 x1 x2 x3 kx n) (kx) m6 x0 x1 x2 x3 x4 v1)) else none) else none)
def GR_survey_L139 (x0 : Nat) (x2 : Int32) (x3 : Int32) (kx : Mem → Option Mem) : Nat → Mem → Int32 → Option Mem
  | 0, _, _ => none
  | n + 1, m, x4 =>
  if 20 ≤ x4 then (kx m)
  else (bM (GR_ownRow m x0 (x4 * 20) x2 x3) fun m1 =>
  GR_survey_L139 x0 x2 x3 kx n m1 (x4 + 1))
def GR_survey (m : Mem) (x0 : Nat) (x1 : Nat) (x2 : Int32) (x3 : Int32) : Option Mem :=
  bM (JA_fill m (x0 + 2) 0) fun m1 =>
  bM (JA_fill m1 (x0 + 3) 0) fun m3 =>
  bM (JA_fill m3 (x0 + 4) 0) fun m5 =>
  bM (JA_fill m5 (x0 + 5) 0) fun m7 =>
  GR_survey_L35 x0 x1 x2 x3 (fun m9 => GR_survey_L139 x0 x2 x3 (fun m10 => some m10) FU m9 0) FU m7 0
def OH_survey (m : Mem) (x1 : Int32) : Option Mem :=
  if inb x1 3 then (bM (GR_survey m 5 ((gN m 13) + 2 + 3 * ixn x1) (gI m (gN m 13) 10) (gI m (gN m 13) 11)) fun m5 =>
  some m5) else none
def OH_square (m : Mem) (x1 : Int32) (x2 : Int32) (x3 : Int32) : Option (Int32 × Mem) :=
  if (PH_hasLine m (gN m 13) x1) = 0 then (some ((-1), m))
  else (if (OH_isSquare x2 x3) = 0 then (some ((-1), m))
  else (bM (OH_survey m x1) fun m2 =>
  if inb (OH_squareAt x2 x3) 400 then (some ((gI m2 6 (ixn (OH_squareAt x2 x3))), m2)) else none))
def GR_area_L4 (m : Mem) (x0 : Nat) (kx : Int32 → Option Int32) : Nat → Int32 → Int32 → Option Int32
  | 0, _, _ => none
  | n + 1, x1, x2 =>
  if 400 ≤ x2 then (kx x1)
  else (if inb x2 400 then (letV ((x1 + (gI m (x0 + 1) (ixn x2)))) fun v2 =>
  GR_area_L4 m x0 kx n v2 (x2 + 1)) else none)
def GR_area (m : Mem) (x0 : Nat) : Option Int32 :=
  GR_area_L4 m x0 (fun y1 => some y1) FU 0 0
def OH_acres (m : Mem) (x1 : Int32) : Option (Int32 × Mem) :=
  if (PH_hasLine m (gN m 13) x1) = 0 then (some ((-1), m))
  else (bM (OH_survey m x1) fun m2 =>
  bI (GR_area m2 5) fun v4 =>
  some (v4, m2))
def OH_stepFrom (x0 : Int32) (x1 : Int32) : Int32 :=
  if x1 = 0 then (if x0 < 20 then ((-1))
  else ((x0 - 20)))
  else (if x1 = 1 then (if 19 ≤ (irm x0 20) then ((-1))
  else ((x0 + 1)))
  else (if x1 = 2 then (if 380 ≤ x0 then ((-1))
  else ((x0 + 20)))
  else (if x1 = 3 then (if (irm x0 20) ≤ 0 then ((-1))
  else ((x0 - 1)))
  else ((-1)))))
def GR_fences_L13 (m : Mem) (x0 : Nat) (x2 : Int32) (kx : Int32 → Option Int32) : Nat → Int32 → Int32 → Option Int32
  | 0, _, _ => none
  | n + 1, x1, x3 =>
  if 3 < x3 then (kx x1)
  else (if inb x2 400 then (if (gI m (x0 + 1) (ixn x2)) = 0 then (kx x1)
  else (letV ((OH_stepFrom x2 x3)) fun v2 =>
  if v2 < 0 then (GR_fences_L13 m x0 x2 kx n (x1 + 1) (x3 + 1))
  else (if inb v2 400 then (if (gI m (x0 + 1) (ixn v2)) = 0 then (GR_fences_L13 m x0 x2 kx n (x1 + 1) (x3 + 1))
  else (GR_fences_L13 m x0 x2 kx n x1 (x3 + 1))) else none))) else none)
def GR_fences_L4 (m : Mem) (x0 : Nat) (kx : Int32 → Option Int32) : Nat → Int32 → Int32 → Option Int32
  | 0, _, _ => none
  | n + 1, x1, x2 =>
  if 400 ≤ x2 then (kx x1)
  else (GR_fences_L13 m x0 x2 (fun y1 => GR_fences_L4 m x0 kx n y1 (x2 + 1)) FU x1 0)
def GR_fences (m : Mem) (x0 : Nat) : Option Int32 :=
  GR_fences_L4 m x0 (fun y1 => some y1) FU 0 0
def OH_border (m : Mem) (x1 : Int32) : Option (Int32 × Mem) :=
  if (PH_hasLine m (gN m 13) x1) = 0 then (some ((-1), m))
  else (bM (OH_survey m x1) fun m2 =>
  bI (GR_fences m2 5) fun v4 =>
  some (v4, m2))
def OH_within_L40 (m : Mem) (x2 : Int32) (x3 : Nat) (kx : Int32 → Option Int32) : Nat → Int32 → Int32 → Option Int32
  | 0, _, _ => none
  | n + 1, x4, x5 =>
  if (gI m x3 1) ≤ x5 then (kx x4)
  else (if inb x5 12 then (bI (PH_ownerOf m (gN m 13) x2 (gI m (x3 + 1) (ixn x5)) (gI m (x3 + 2) (ixn x5))) fun v3 =>
  letV ((x4 + (v3 &&& 1))) fun v5 =>
  OH_within_L40 m x2 x3 kx n v5 (x5 + 1)) else none)
def OH_within (m : Mem) (x1 : Int32) (x2 : Int32) : Option Int32 :=
  if (PH_hasLine m (gN m 13) x1) = 0 then (some (-1))
  else (if (PH_hasLine m (gN m 13) x2) = 0 then (some (-1))
  else (if inb x1 3 then (OH_within_L40 m x2 ((gN m 13) + 2 + 3 * ixn x1) (fun y5 => some y5) FU 0 0) else none))
def OH_hearPoint (m : Mem) (x1 : Int32) (x2 : Int32) : Option (Int32 × Mem) :=
  if x2 < 30 then (bV (RD_readNumber m 0 20) fun v1 m2 =>
  if v1 = 0 then (some (0, m2))
  else (letV ((gI m2 1 7)) fun v4 =>
  bV (RD_readNumber m2 0 20) fun v5 m6 =>
  if v5 = 0 then (some (0, m6))
  else (bI (PH_ownerOf m6 (gN m6 13) x1 v4 (gI m6 1 7)) fun v9 =>
  bV (RD_readWord m6 7 9) fun v11 m12 =>
  if v11 = 0 then (some (0, m12))
  else (if (gI m12 1 6) = 9 then (if v9 < 2 then (some (0, m12))
  else (some (1, m12)))
  else (if (v9 &&& 1) = ((gI m12 1 6) - 7) then (some (1, m12))
  else (some (0, m12)))))))
  else (bV (RD_fail m 4) fun v14 m15 =>
  if v14 = 0 ∨ v14 = 1 then (some (v14, m15)) else none)
def PH_haySquare (m : Mem) (x0 : Nat) (x1 : Int32) : Option Int32 :=
  if inb x1 10 then (some (OH_squareAt (gI m (x0 + 11) (ixn x1)) (gI m (x0 + 12) (ixn x1)))) else none
def OH_hearHay (m : Mem) (x1 : Int32) : Option (Int32 × Mem) :=
  if (RD_isWord m 17 17) = 0 then (bV (RD_fail m 1) fun v20 m21 =>
  if v20 = 0 ∨ v20 = 1 then (some (v20, m21)) else none)
  else (bI (PH_hayNamed m (gN m 13) (gJ m 1 8)) fun v2 =>
  if (PH_hasHay m (gN m 13) v2) = 0 then (bV (RD_fail m 3) fun v16 m17 =>
  if v16 = 0 ∨ v16 = 1 then (some (v16, m17)) else none)
  else (if x1 < 30 then (bV (RD_readWord m 7 8) fun v5 m6 =>
  if v5 = 0 then (some (0, m6))
  else (bI (PH_haySquare m6 (gN m6 13) v2) fun v9 =>
  if inb v9 400 then (if (gI m6 6 (ixn v9)) = ((gI m6 1 6) - 7) then (some (1, m6))
  else (some (0, m6))) else none))
  else (bV (RD_fail m 4) fun v12 m13 =>
  if v12 = 0 ∨ v12 = 1 then (some (v12, m13)) else none)))
def OH_hearClaims_J72 (kr : Mem → Int32 → Int32 → Int32 → Option (Int32 × Mem)) (kx : Mem → Option (Int32 × Mem)) (m : Mem) (x1 : Int32) (x2 : Int32) (x3 : Int32) (x4 : Int32) (s0 : Int32) : Option (Int32 × Mem) :=
  if (gI m 1 2) = 0 then (bV (RD_readSemicolon m) fun v1 m2 =>
  if v1 = 0 then (some ((-1), m2))
  else (if s0 = 0 then (if x3 = (-1) then (kr m2 (x2 + 1) x4 (x4 + 1))
  else (kr m2 (x2 + 1) x3 (x4 + 1)))
  else (kr m2 x2 x3 (x4 + 1))))
  else (some ((-1), m))
def OH_hearClaims_L7 (x1 : Int32) (kx : Mem → Option (Int32 × Mem)) : Nat → Mem → Int32 → Int32 → Int32 → Option (Int32 × Mem)
  | 0, _, _, _, _ => none
  | n + 1, m, x2, x3, x4 =>
  if 300 < x4 then (kx m)
  else (bV (RD_isAtEnd m) fun v1 m2 =>
  if v1 = 0 then (if (RD_isWord m2 16 16) = 0 then (bV (OH_hearHay m2 x4) fun v4 m5 =>
  OH_hearClaims_J72 (OH_hearClaims_L7 x1 kx n) (kx) m5 x1 x2 x3 x4 v4)
  else (bV (OH_hearPoint m2 x1 x4) fun v7 m8 =>
  OH_hearClaims_J72 (OH_hearClaims_L7 x1 kx n) (kx) m8 x1 x2 x3 x4 v7))
  else (bV (RD_closes m2) fun v10 m11 =>
  if v10 = 0 then (some (x2, m11))
  else (letM (sI m11 0 16 x3) fun m13 =>
  some (x2, m13))))
def OH_hearClaims (m : Mem) (x1 : Int32) : Option (Int32 × Mem) :=
  OH_hearClaims_L7 x1 (fun m1 => some ((-1), m1)) FU m 0 (-1) 0
def OH_claims (m : Mem) (x1 : Int32) : Option (Int32 × Mem) :=
  if (PH_hasLine m (gN m 13) x1) = 0 then (letM (sI m 1 1 0) fun m12 =>
  some ((-2000), m12))
  else (bM (OH_survey m x1) fun m2 =>
  bM (RD_begin m2 300) fun m4 =>
  bV (OH_hearClaims m4 x1) fun v6 m7 =>
  bV (OH_closeText m7 v6) fun v9 m10 =>
  some (v9, m10))
def OH_wrong (m : Mem) : Int32 :=
  (gI m 0 16)
def OH_loads_L32 (x2 : Int32) (kx : Mem → Int32 → Option (Int32 × Mem)) : Nat → Mem → Int32 → Int32 → Option (Int32 × Mem)
  | 0, _, _, _ => none
  | n + 1, m, x3, x4 =>
  if (gI m (gN m 13) 7) ≤ x4 then (kx m x3)
  else (bI (PH_haySquare m (gN m 13) x4) fun v3 =>
  if inb v3 400 then (if (gI m 6 (ixn v3)) = x2 then (if inb x4 10 then (letV ((x3 + (gI m ((gN m 13) + 13) (ixn x4)))) fun v8 =>
  OH_loads_L32 x2 kx n m v8 (x4 + 1)) else none)
  else (OH_loads_L32 x2 kx n m x3 (x4 + 1))) else none)
def OH_loads (m : Mem) (x1 : Int32) (x2 : Int32) : Option (Int32 × Mem) :=
  if (PH_hasLine m (gN m 13) x1) = 0 then (some ((-1), m))
  else (if x2 < 0 then (some ((-1), m))
  else (if x2 ≤ 1 then (bM (OH_survey m x1) fun m2 =>
  OH_loads_L32 x2 (fun m5 y4 => some (y4, m5)) FU m2 0 0)
  else (some ((-1), m))))
def OH_surveyForHeirs_J87 (m : Mem) : Option Mem :=
  bM (GR_survey m 11 63 (gI m (gN m 13) 10) (gI m (gN m 13) 11)) fun m3 =>
  some m3
def OH_surveyForHeirs_J87b (m : Mem) (s1 : Nat) : Option Mem :=
  bM (GR_survey m 11 s1 (gI m (gN m 13) 10) (gI m (gN m 13) 11)) fun m3 =>
  some m3
def OH_surveyForHeirs_J39 (m : Mem) : Option Mem :=
  bM (GR_survey m 5 63 (gI m (gN m 13) 10) (gI m (gN m 13) 11)) fun m3 =>
  if (PH_hasLine m3 (gN m3 13) 1) = 0 then (OH_surveyForHeirs_J87 m3)
  else (if inb 1 3 then (OH_surveyForHeirs_J87b m3 ((gN m3 13) + 2 + 3 * ixn 1)) else none)
def OH_surveyForHeirs_J39b (m : Mem) (s1 : Nat) : Option Mem :=
  bM (GR_survey m 5 s1 (gI m (gN m 13) 10) (gI m (gN m 13) 11)) fun m3 =>
  if (PH_hasLine m3 (gN m3 13) 1) = 0 then (OH_surveyForHeirs_J87 m3)
  else (if inb 1 3 then (OH_surveyForHeirs_J87b m3 ((gN m3 13) + 2 + 3 * ixn 1)) else none)
def OH_surveyForHeirs (m : Mem) : Option Mem :=
  letM (sI m 63 1 0) fun m1 =>
  if (PH_hasLine m1 (gN m1 13) 0) = 0 then (OH_surveyForHeirs_J39 m1)
  else (if inb 0 3 then (OH_surveyForHeirs_J39b m1 ((gN m1 13) + 2 + 3 * ixn 0)) else none)
def OH_heirOf (m : Mem) (x1 : Int32) : Option Int32 :=
  if inb x1 400 then (if inb ((gI m 6 (ixn x1)) + (2 * (gI m 12 (ixn x1)))) 4 then (some (gI m ((gN m 13) + 15) (ixn ((gI m 6 (ixn x1)) + (2 * (gI m 12 (ixn x1))))))) else none) else none
def OH_heir (m : Mem) (x1 : Int32) (x2 : Int32) : Option (Int32 × Mem) :=
  if (OH_isSquare x1 x2) = 0 then (some ((-1), m))
  else (bM (OH_surveyForHeirs m) fun m1 =>
  bI (OH_heirOf m1 (OH_squareAt x1 x2)) fun v3 =>
  some (v3, m1))
def OH_estate_L20 (x1 : Int32) (kx : Mem → Int32 → Option (Int32 × Mem)) : Nat → Mem → Int32 → Int32 → Option (Int32 × Mem)
  | 0, _, _, _ => none
  | n + 1, m, x2, x3 =>
  if 400 ≤ x3 then (kx m x2)
  else (bI (OH_heirOf m x3) fun v1 =>
  if v1 = x1 then (OH_estate_L20 x1 kx n m (x2 + 1) (x3 + 1))
  else (OH_estate_L20 x1 kx n m x2 (x3 + 1)))
def OH_estate (m : Mem) (x1 : Int32) : Option (Int32 × Mem) :=
  if x1 < 0 then (some ((-1), m))
  else (if x1 ≤ 9 then (bM (OH_surveyForHeirs m) fun m1 =>
  OH_estate_L20 x1 (fun m4 y3 => some (y3, m4)) FU m1 0 0)
  else (some ((-1), m)))
def PC_flood_L37 (x1 : Nat) (x2 : Int32) (x5 : Int32) (kx : Mem → Int32 → Option (Int32 × Mem)) : Nat → Mem → Int32 → Int32 → Option (Int32 × Mem)
  | 0, _, _, _ => none
  | n + 1, m, x4, x6 =>
  if 3 < x6 then (kx m x4)
  else (if inb x5 400 then (letV ((OH_stepFrom (gI m 19 (ixn x5)) x6)) fun v2 =>
  if v2 < 0 then (PC_flood_L37 x1 x2 x5 kx n m x4 (x6 + 1))
  else (if inb v2 400 then (if (gI m 18 (ixn v2)) = (-1) then (if inb x2 400 then (if (gI m x1 (ixn v2)) = (gI m x1 (ixn x2)) then (if 400 ≤ x4 then (PC_flood_L37 x1 x2 x5 kx n m x4 (x6 + 1))
  else (letM (sI m 18 (ixn v2) (gI m 17 0)) fun m5 =>
  if inb x4 400 then (letM (sI m5 19 (ixn x4) v2) fun m7 =>
  PC_flood_L37 x1 x2 x5 kx n m7 (x4 + 1) (x6 + 1)) else none))
  else (PC_flood_L37 x1 x2 x5 kx n m x4 (x6 + 1))) else none)
  else (PC_flood_L37 x1 x2 x5 kx n m x4 (x6 + 1))) else none)) else none)
def PC_flood_L27 (x1 : Nat) (x2 : Int32) (kx : Mem → Int32 → Option (Int32 × Mem)) : Nat → Mem → Int32 → Int32 → Option (Int32 × Mem)
  | 0, _, _, _ => none
  | n + 1, m, x4, x5 =>
  if x4 ≤ x5 then (kx m x4)
  else (PC_flood_L37 x1 x2 x5 (fun m2 y1 => PC_flood_L27 x1 x2 kx n m2 y1 (x5 + 1)) FU m x4 0)
def PC_flood (m : Mem) (x1 : Nat) (x2 : Int32) (x3 : Int32) : Option (Int32 × Mem) :=
  if inb x2 400 then (letM (sI m 18 (ixn x2) (gI m 17 0)) fun m2 =>
  if inb x3 400 then (letM (sI m2 19 (ixn x3) x2) fun m4 =>
  PC_flood_L27 x1 x2 (fun m6 y5 => some (y5, m6)) FU m4 (x3 + 1) x3) else none) else none
def PC_listBeside_J36 (kr : Mem → Int32 → Int32 → Option (Int32 × Mem)) (kx : Mem → Int32 → Option (Int32 × Mem)) (m : Mem) (x1 : Int32) (x2 : Int32) (x4 : Int32) (x5 : Int32) (s0 : Int32) : Option (Int32 × Mem) :=
  if s0 = x1 then (kr m x4 (x5 + 1))
  else (if inb s0 400 then (if (gI m 23 (ixn s0)) = x1 then (kr m x4 (x5 + 1))
  else (if 1600 ≤ x4 then (kr m x4 (x5 + 1))
  else (letM (sI m 23 (ixn s0) x1) fun m2 =>
  if inb x4 1600 then (letM (sI m2 21 (ixn x4) s0) fun m4 =>
  kr m4 (x4 + 1) (x5 + 1)) else none))) else none)
def PC_listBeside_L6 (x1 : Int32) (x2 : Int32) (kx : Mem → Int32 → Option (Int32 × Mem)) : Nat → Mem → Int32 → Int32 → Option (Int32 × Mem)
  | 0, _, _, _ => none
  | n + 1, m, x4, x5 =>
  if 3 < x5 then (kx m x4)
  else (letV ((OH_stepFrom x2 x5)) fun v1 =>
  if 0 ≤ v1 then (if inb v1 400 then (PC_listBeside_J36 (PC_listBeside_L6 x1 x2 kx n) (kx) m x1 x2 x4 x5 (gI m 18 (ixn v1))) else none)
  else (PC_listBeside_J36 (PC_listBeside_L6 x1 x2 kx n) (kx) m x1 x2 x4 x5 x1))
def PC_listBeside (m : Mem) (x1 : Int32) (x2 : Int32) (x3 : Int32) : Option (Int32 × Mem) :=
  PC_listBeside_L6 x1 x2 (fun m2 y1 => some (y1, m2)) FU m x3 0
def PC_findBeside_L34 (x2 : Int32) (kx : Mem → Int32 → Option Mem) : Nat → Mem → Int32 → Int32 → Option Mem
  | 0, _, _, _ => none
  | n + 1, m, x1, x3 =>
  if inb (x2 + 1) 401 then (if (gI m 20 (ixn (x2 + 1))) ≤ x3 then (kx m x1)
  else (if inb x3 400 then (bV (PC_listBeside m x2 (gI m 19 (ixn x3)) x1) fun v3 m4 =>
  PC_findBeside_L34 x2 kx n m4 v3 (x3 + 1)) else none)) else none
def PC_findBeside_L12 (kx : Mem → Int32 → Option Mem) : Nat → Mem → Int32 → Int32 → Option Mem
  | 0, _, _, _ => none
  | n + 1, m, x1, x2 =>
  if (gI m 17 0) ≤ x2 then (kx m x1)
  else (if inb x2 401 then (letM (sI m 22 (ixn x2) x1) fun m2 =>
  letV ((gI m2 20 (ixn x2))) fun v3 =>
  PC_findBeside_L34 x2 (fun m5 y4 => PC_findBeside_L12 kx n m5 y4 (x2 + 1)) FU m2 x1 v3) else none)
def PC_findBeside (m : Mem) : Option Mem :=
  bM (JA_fill m 23 (-1)) fun m1 =>
  PC_findBeside_L12 (fun m4 y3 => if inb (gI m4 17 0) 401 then (letM (sI m4 22 (ixn (gI m4 17 0)) y3) fun m6 =>
  some m6) else none) FU m1 0 0
def PC_find_L17 (x1 : Nat) (kx : Mem → Int32 → Option Mem) : Nat → Mem → Int32 → Int32 → Option Mem
  | 0, _, _, _ => none
  | n + 1, m, x2, x3 =>
  if 400 ≤ x3 then (kx m x2)
  else (if inb x3 400 then (if (gI m 18 (ixn x3)) = (-1) then (if inb (gI m 17 0) 401 then (letM (sI m 20 (ixn (gI m 17 0)) x2) fun m3 =>
  bV (PC_flood m3 (x1 + 1) x3 x2) fun v4 m5 =>
  letM (sI m5 17 0 ((gI m5 17 0) + 1)) fun m7 =>
  PC_find_L17 x1 kx n m7 v4 (x3 + 1)) else none)
  else (PC_find_L17 x1 kx n m x2 (x3 + 1))) else none)
def PC_find (m : Mem) (x1 : Nat) : Option Mem :=
  bM (JA_fill m 18 (-1)) fun m1 =>
  letM (sI m1 17 0 0) fun m3 =>
  PC_find_L17 x1 (fun m5 y4 => if inb (gI m5 17 0) 401 then (letM (sI m5 20 (ixn (gI m5 17 0)) y4) fun m7 =>
  bM (PC_findBeside m7) fun m8 =>
  some m8) else none) FU m3 0 0
def OH_surveyPieces (m : Mem) (x1 : Int32) : Option Mem :=
  bM (OH_survey m x1) fun m1 =>
  bM (PC_find m1 5) fun m3 =>
  some m3
def OH_pieces (m : Mem) (x1 : Int32) : Option (Int32 × Mem) :=
  if (PH_hasLine m (gN m 13) x1) = 0 then (some ((-1), m))
  else (bM (OH_surveyPieces m x1) fun m2 =>
  some ((gI m2 17 0), m2))
def PC_firstOf (m : Mem) (x1 : Int32) : Option Int32 :=
  if inb x1 401 then (if inb (gI m 20 (ixn x1)) 400 then (some (gI m 19 (ixn (gI m 20 (ixn x1))))) else none) else none
def PC_sizeOf (m : Mem) (x1 : Int32) : Option Int32 :=
  if inb (x1 + 1) 401 then (if inb x1 401 then (some ((gI m 20 (ixn (x1 + 1))) - (gI m 20 (ixn x1)))) else none) else none
def PC_neighboursOf (m : Mem) (x1 : Int32) : Option Int32 :=
  if inb (x1 + 1) 401 then (if inb x1 401 then (some ((gI m 22 (ixn (x1 + 1))) - (gI m 22 (ixn x1)))) else none) else none
def OH_piece (m : Mem) (x1 : Int32) (x2 : Int32) (x3 : Int32) : Option (Int32 × Mem) :=
  if (PH_hasLine m (gN m 13) x1) = 0 then (some ((-1), m))
  else (bM (OH_surveyPieces m x1) fun m2 =>
  if x2 < 0 then (some ((-1), m2))
  else (if x2 < (gI m2 17 0) then (bI (PC_firstOf m2 x2) fun v4 =>
  if x3 = 0 then (bI (PC_sizeOf m2 x2) fun v6 =>
  some (v6, m2))
  else (if x3 = 1 then (if inb v4 400 then (some ((gI m2 6 (ixn v4)), m2)) else none)
  else (if x3 = 2 then (some ((irm v4 20), m2))
  else (if x3 = 3 then (some ((v4 / 20), m2))
  else (if x3 = 4 then (bI (PC_neighboursOf m2 x2) fun v9 =>
  some (v9, m2))
  else (some ((-1), m2)))))))
  else (some ((-1), m2))))
def OH_pieceAt (m : Mem) (x1 : Int32) (x2 : Int32) (x3 : Int32) : Option (Int32 × Mem) :=
  if (PH_hasLine m (gN m 13) x1) = 0 then (some ((-1), m))
  else (if (OH_isSquare x2 x3) = 0 then (some ((-1), m))
  else (bM (OH_surveyPieces m x1) fun m2 =>
  if inb (OH_squareAt x2 x3) 400 then (some ((gI m2 18 (ixn (OH_squareAt x2 x3))), m2)) else none))
def GR_crossed_J29 (m : Mem) (x0 : Nat) (x4 : Int32) : Option Int32 :=
  if inb x4 400 then (some (gI m (x0 + 2) (ixn x4))) else none
def GR_crossed (m : Mem) (x0 : Nat) (x1 : Int32) (x2 : Int32) : Option Int32 :=
  letV ((OH_stepFrom x1 x2)) fun v1 =>
  if 0 ≤ v1 then (letV ((JM_min x1 v1)) fun v2 =>
  if x2 = 1 then (GR_crossed_J29 m x0 v2)
  else (if x2 = 3 then (GR_crossed_J29 m x0 v2)
  else (if inb v2 400 then (some (gI m (x0 + 3) (ixn v2))) else none)))
  else (some (-1))
def OH_crosses (m : Mem) (x1 : Int32) (x2 : Int32) (x3 : Int32) (x4 : Int32) : Option (Int32 × Mem) :=
  if (PH_hasLine m (gN m 13) x1) = 0 then (some ((-1), m))
  else (if (OH_isSquare x2 x3) = 0 then (some ((-1), m))
  else (bM (OH_survey m x1) fun m2 =>
  bI (GR_crossed m2 5 (OH_squareAt x2 x3) x4) fun v4 =>
  some (v4, m2)))
def WK_followRow_L41 (x2 : Nat) (x3 : Int32) (x4 : Int32) (kx : Mem → Option (Int32 × Mem)) : Nat → Mem → Int32 → Option (Int32 × Mem)
  | 0, _, _ => none
  | n + 1, m, x5 =>
  if (gI m 1 7) ≤ x5 then (kx m)
  else (letV ((OH_stepFrom (gI m 26 1) x4)) fun v1 =>
  if 0 ≤ v1 then (bI (GR_crossed m x2 (gI m 26 1) x4) fun v2 =>
  letM (sI m 26 3 ((gI m 26 3) + v2)) fun m4 =>
  letM (sI m4 26 1 v1) fun m5 =>
  letM (sI m5 26 2 ((gI m5 26 2) + 1)) fun m6 =>
  WK_followRow_L41 x2 x3 x4 kx n m6 (x5 + 1))
  else (bV (RD_failAt m 5 x3) fun v7 m8 =>
  if v7 = 0 ∨ v7 = 1 then (some (v7, m8)) else none))
def WK_followRow (m : Mem) (x2 : Nat) : Option (Int32 × Mem) :=
  if (RD_isWord m 0 3) = 0 then (bV (RD_fail m 1) fun v11 m12 =>
  if v11 = 0 ∨ v11 = 1 then (some (v11, m12)) else none)
  else (letV ((gI m 1 5)) fun v1 =>
  letV ((gI m 1 6)) fun v2 =>
  bV (RD_readNumber m 1 20) fun v3 m4 =>
  if v3 = 0 then (some (0, m4))
  else (WK_followRow_L41 x2 v1 v2 (fun m6 => bV (RD_readSemicolon m6) fun v7 m8 =>
  if v7 = 0 ∨ v7 = 1 then (some (v7, m8)) else none) FU m4 0))
def WK_follow_L18 (x2 : Nat) (kx : Mem → Option (Int32 × Mem)) : Nat → Mem → Int32 → Option (Int32 × Mem)
  | 0, _, _ => none
  | n + 1, m, x4 =>
  if 300 < x4 then (kx m)
  else (bV (RD_isAtEnd m) fun v1 m2 =>
  if v1 = 0 then (bV (WK_followRow m2 x2) fun v4 m5 =>
  if v4 = 0 then (some ((-1), m5))
  else (WK_follow_L18 x2 kx n m5 (x4 + 1)))
  else (bV (RD_closes m2) fun v7 m8 =>
  if v7 = 0 then (some ((gI m8 26 3), m8))
  else (if inb 0 3 then (letM (sI m8 27 (ixn 0) (irm (gI m8 26 1) 20)) fun m11 =>
  if inb 1 3 then (letM (sI m11 27 (ixn 1) ((gI m11 26 1) / 20)) fun m13 =>
  if inb 2 3 then (letM (sI m13 27 (ixn 2) (gI m13 26 2)) fun m15 =>
  some ((gI m15 26 3), m15)) else none) else none) else none)))
def WK_follow (m : Mem) (x2 : Nat) (x3 : Int32) : Option (Int32 × Mem) :=
  letM (sI m 26 1 x3) fun m1 =>
  letM (sI m1 26 2 0) fun m2 =>
  letM (sI m2 26 3 0) fun m3 =>
  WK_follow_L18 x2 (fun m4 => some ((-1), m4)) FU m3 0
def OH_walk (m : Mem) (x1 : Int32) (x2 : Int32) : Option (Int32 × Mem) :=
  if (PH_hasLine m (gN m 13) x1) = 0 then (letM (sI m 1 1 0) fun m2 =>
  some ((-2000), m2))
  else (if (PH_hasHay m (gN m 13) x2) = 0 then (letM (sI m 1 1 0) fun m17 =>
  some ((-2000), m17))
  else (bM (OH_survey m x1) fun m4 =>
  bM (RD_begin m4 300) fun m6 =>
  bI (PH_haySquare m6 (gN m6 13) x2) fun v9 =>
  bV (WK_follow m6 5 v9) fun v11 m12 =>
  bV (OH_closeText m12 v11) fun v14 m15 =>
  some (v14, m15)))
def OH_walked (m : Mem) (x1 : Int32) : Option Int32 :=
  if x1 < 0 then (some (-1))
  else (if 3 ≤ x1 then (some (-1))
  else (if inb x1 3 then (some (gI m 27 (ixn x1))) else none))
def PH_churchSquare (m : Mem) (x0 : Nat) : Int32 :=
  (OH_squareAt (gI m x0 8) (gI m x0 9))
def WK_offer_J74 (m : Mem) (x1 : Int32) (s1 : Int32) : Option Mem :=
  if inb s1 400 then (letM (sI m 29 (ixn s1) x1) fun m2 =>
  letM (sI m2 26 8 ((gI m2 26 8) + 1)) fun m3 =>
  some m3) else none
def WK_offer (m : Mem) (x1 : Int32) (x2 : Int32) : Option Mem :=
  if inb x1 400 then (if x2 < (gI m 28 (ixn x1)) then (letM (sI m 28 (ixn x1) x2) fun m2 =>
  if (gI m2 30 (ixn x1)) = 0 then (if 400 ≤ (gI m2 26 8) then (some m2)
  else (letM (sI m2 30 (ixn x1) 1) fun m3 =>
  letV (((gI m3 26 7) + (gI m3 26 8))) fun v4 =>
  if 400 ≤ v4 then (WK_offer_J74 m3 x1 (v4 - 400))
  else (WK_offer_J74 m3 x1 v4)))
  else (some m2))
  else (some m)) else none
def WK_offerNeighbours_L2 (x1 : Nat) (x2 : Int32) (kx : Mem → Option Mem) : Nat → Mem → Int32 → Option Mem
  | 0, _, _ => none
  | n + 1, m, x3 =>
  if 3 < x3 then (kx m)
  else (letV ((OH_stepFrom x2 x3)) fun v1 =>
  if v1 < 0 then (WK_offerNeighbours_L2 x1 x2 kx n m (x3 + 1))
  else (if inb x2 400 then (bI (GR_crossed m x1 x2 x3) fun v3 =>
  bM (WK_offer m v1 (((gI m 28 (ixn x2)) + (v3 * 400)) + 1)) fun m5 =>
  WK_offerNeighbours_L2 x1 x2 kx n m5 (x3 + 1)) else none))
def WK_offerNeighbours (m : Mem) (x1 : Nat) (x2 : Int32) : Option Mem :=
  WK_offerNeighbours_L2 x1 x2 (fun m1 => some m1) FU m 0
def WK_cheapest_J84 (kr : Mem → Int32 → Option (Int32 × Mem)) (kx : Mem → Option (Int32 × Mem)) (m : Mem) (x1 : Nat) (x3 : Int32) (x4 : Int32) (x5 : Int32) (s1 : Int32) : Option (Int32 × Mem) :=
  letM (sI m 26 7 s1) fun m1 =>
  letM (sI m1 26 8 ((gI m1 26 8) - 1)) fun m2 =>
  if inb x5 400 then (letM (sI m2 30 (ixn x5) 0) fun m4 =>
  bM (WK_offerNeighbours m4 x1 x5) fun m5 =>
  kr m5 (x4 + 1)) else none
def WK_cheapest_L36 (x1 : Nat) (x3 : Int32) (kx : Mem → Option (Int32 × Mem)) : Nat → Mem → Int32 → Option (Int32 × Mem)
  | 0, _, _ => none
  | n + 1, m, x4 =>
  if 1000000 ≤ x4 then (kx m)
  else (if (gI m 26 8) ≤ 0 then (kx m)
  else (if inb (gI m 26 7) 400 then (letV ((gI m 29 (ixn (gI m 26 7)))) fun v2 =>
  if 400 ≤ ((gI m 26 7) + 1) then (WK_cheapest_J84 (WK_cheapest_L36 x1 x3 kx n) (kx) m x1 x3 x4 v2 0)
  else (WK_cheapest_J84 (WK_cheapest_L36 x1 x3 kx n) (kx) m x1 x3 x4 v2 ((gI m 26 7) + 1))) else none))
def WK_cheapest (m : Mem) (x1 : Nat) (x2 : Int32) (x3 : Int32) : Option (Int32 × Mem) :=
  bM (JA_fill m 28 100000000) fun m1 =>
  bM (JA_fill m1 30 0) fun m3 =>
  letM (sI m3 26 7 0) fun m5 =>
  letM (sI m5 26 8 0) fun m6 =>
  bM (WK_offer m6 x2 0) fun m7 =>
  WK_cheapest_L36 x1 x3 (fun m9 => if inb x3 400 then (some ((gI m9 28 (ixn x3)), m9)) else none) FU m7 0
def OH_least (m : Mem) (x1 : Int32) (x2 : Int32) (x3 : Int32) : Option (Int32 × Mem) :=
  if (PH_hasLine m (gN m 13) x1) = 0 then (some ((-1), m))
  else (if (PH_hasHay m (gN m 13) x2) = 0 then (some ((-1), m))
  else (if x3 < 0 then (some ((-1), m))
  else (if x3 ≤ 1 then (bM (OH_survey m x1) fun m3 =>
  bI (PH_haySquare m3 (gN m3 13) x2) fun v6 =>
  bV (WK_cheapest m3 5 v6 (PH_churchSquare m3 (gN m3 13))) fun v9 m10 =>
  if x3 = 0 then (some ((v9 / 400), m10))
  else (some ((irm v9 400), m10)))
  else (some ((-1), m)))))
def PC_beginOpenings (m : Mem) (x1 : Int32) : Option Mem :=
  if inb x1 400 then (letM (sI m 17 9 (gI m 18 (ixn x1))) fun m2 =>
  letM (sI m2 17 8 0) fun m3 =>
  some m3) else none
def PC_addEnd_L24 (x2 : Int32) (kx : Mem → Int32 → Option Mem) : Nat → Mem → Int32 → Int32 → Option Mem
  | 0, _, _, _ => none
  | n + 1, m, x3, x4 =>
  if (gI m 17 8) ≤ x4 then (kx m x3)
  else (if x3 = 0 then (if inb x4 6 then (if (gI m 24 (ixn x4)) = x2 then (PC_addEnd_L24 x2 kx n m 1 (x4 + 1))
  else (PC_addEnd_L24 x2 kx n m 0 (x4 + 1))) else none)
  else (PC_addEnd_L24 x2 kx n m 1 (x4 + 1)))
def PC_addEnd_J20 (m : Mem) (x2 : Int32) (s0 : Int32) : Option Mem :=
  PC_addEnd_L24 x2 (fun m2 y1 => if y1 = 0 then (if 6 ≤ (gI m2 17 8) then (some m2)
  else (if inb (gI m2 17 8) 6 then (letM (sI m2 24 (ixn (gI m2 17 8)) x2) fun m4 =>
  letM (sI m4 17 8 ((gI m4 17 8) + 1)) fun m5 =>
  some m5) else none))
  else (some m2)) FU m s0 0
def PC_addEnd (m : Mem) (x1 : Int32) : Option Mem :=
  if inb x1 400 then (letV ((gI m 18 (ixn x1))) fun v2 =>
  if v2 = (gI m 17 9) then (PC_addEnd_J20 m v2 1)
  else (PC_addEnd_J20 m v2 0)) else none
def PC_joinParts_L3 (x1 : Int32) (x2 : Int32) (x3 : Int32) (kx : Mem → Option Mem) : Nat → Mem → Int32 → Option Mem
  | 0, _, _ => none
  | n + 1, m, x4 =>
  if (gI m 17 0) ≤ x4 then (kx m)
  else (if inb (x1 + x4) 25600 then (if inb (x2 + x4) 25600 then (if inb (x3 + x4) 25600 then (letM (sI m 25 (ixn (x1 + x4)) (JM_min (gI m 25 (ixn (x1 + x4))) ((gI m 25 (ixn (x2 + x4))) + (gI m 25 (ixn (x3 + x4)))))) fun m4 =>
  PC_joinParts_L3 x1 x2 x3 kx n m4 (x4 + 1)) else none) else none) else none)
def PC_joinParts (m : Mem) (x1 : Int32) (x2 : Int32) (x3 : Int32) : Option Mem :=
  PC_joinParts_L3 x1 x2 x3 (fun m1 => some m1) FU m 0
def PC_joinSets_L8 (x1 : Int32) (x2 : Int32) (kx : Mem → Option Mem) : Nat → Mem → Int32 → Option Mem
  | 0, _, _ => none
  | n + 1, m, x3 =>
  if (gI m 17 0) ≤ x3 then (kx m)
  else (if inb (x2 + x3) 25600 then (letM (sI m 25 (ixn (x2 + x3)) 100000000) fun m2 =>
  PC_joinSets_L8 x1 x2 kx n m2 (x3 + 1)) else none)
def PC_joinSets_L34 (x1 : Int32) (x2 : Int32) (kx : Mem → Option Mem) : Nat → Mem → Int32 → Option Mem
  | 0, _, _ => none
  | n + 1, m, x3 =>
  if (gI m 17 8) ≤ x3 then (kx m)
  else (if x1 = (jshl 1 x3) then (if inb x3 6 then (if inb (x2 + (gI m 24 (ixn x3))) 25600 then (letM (sI m 25 (ixn (x2 + (gI m 24 (ixn x3)))) 0) fun m3 =>
  PC_joinSets_L34 x1 x2 kx n m3 (x3 + 1)) else none) else none)
  else (PC_joinSets_L34 x1 x2 kx n m (x3 + 1)))
def PC_joinSets_L71 (x1 : Int32) (x2 : Int32) (kx : Mem → Option Mem) : Nat → Mem → Int32 → Option Mem
  | 0, _, _ => none
  | n + 1, m, x3 =>
  if x1 ≤ x3 then (kx m)
  else (if (x3 &&& x1) = x3 then (if (x1 - x3) ≤ x3 then (PC_joinSets_L71 x1 x2 kx n m (x3 + 1))
  else (bM (PC_joinParts m x2 (x3 * 400) ((x1 - x3) * 400)) fun m1 =>
  PC_joinSets_L71 x1 x2 kx n m1 (x3 + 1)))
  else (PC_joinSets_L71 x1 x2 kx n m (x3 + 1)))
def PC_joinSets (m : Mem) (x1 : Int32) : Option Mem :=
  letV ((x1 * 400)) fun v1 =>
  PC_joinSets_L8 x1 v1 (fun m2 => PC_joinSets_L34 x1 v1 (fun m3 => PC_joinSets_L71 x1 v1 (fun m4 => some m4) FU m3 1) FU m2 0) FU m 0
def PC_openFrom_L8 (x1 : Int32) (x2 : Int32) (x3 : Int32) (kx : Mem → Option Mem) : Nat → Mem → Int32 → Option Mem
  | 0, _, _ => none
  | n + 1, m, x4 =>
  if inb (x2 + 1) 401 then (if (gI m 22 (ixn (x2 + 1))) ≤ x4 then (kx m)
  else (if inb x4 1600 then (letV ((x1 + (gI m 21 (ixn x4)))) fun v3 =>
  if inb v3 25600 then (letM (sI m 25 (ixn v3) (JM_min (gI m 25 (ixn v3)) x3)) fun m5 =>
  PC_openFrom_L8 x1 x2 x3 kx n m5 (x4 + 1)) else none) else none)) else none
def PC_openFrom (m : Mem) (x1 : Int32) (x2 : Int32) (x3 : Int32) : Option Mem :=
  if inb x2 401 then (letV ((gI m 22 (ixn x2))) fun v2 =>
  PC_openFrom_L8 x1 x2 x3 (fun m3 => some m3) FU m v2) else none
def PC_spread_L21 (x1 : Int32) (x3 : Int32) (kx : Mem → Int32 → Option Mem) : Nat → Mem → Int32 → Int32 → Option Mem
  | 0, _, _, _ => none
  | n + 1, m, x2, x4 =>
  if (gI m 17 0) ≤ x4 then (kx m x2)
  else (if inb (x1 + x4) 25600 then (if (gI m 25 (ixn (x1 + x4))) = x3 then (bM (PC_openFrom m x1 x4 (x3 + 1)) fun m2 =>
  PC_spread_L21 x1 x3 kx n m2 x2 (x4 + 1))
  else (if (gI m 25 (ixn (x1 + x4))) ≤ x3 then (PC_spread_L21 x1 x3 kx n m x2 (x4 + 1))
  else (PC_spread_L21 x1 x3 kx n m 1 (x4 + 1)))) else none)
def PC_spread_L4 (x1 : Int32) (kx : Mem → Option Mem) : Nat → Mem → Int32 → Int32 → Option Mem
  | 0, _, _, _ => none
  | n + 1, m, x2, x3 =>
  if x2 = 0 then (kx m)
  else (if (gI m 17 0) ≤ x3 then (kx m)
  else (PC_spread_L21 x1 x3 (fun m2 y1 => PC_spread_L4 x1 kx n m2 y1 (x3 + 1)) FU m 0 0))
def PC_spread (m : Mem) (x1 : Int32) : Option Mem :=
  PC_spread_L4 x1 (fun m1 => some m1) FU m 1 0
def PC_fewestOpenings_L20 (x1 : Int32) (kx : Mem → Option (Int32 × Mem)) : Nat → Mem → Int32 → Option (Int32 × Mem)
  | 0, _, _ => none
  | n + 1, m, x2 =>
  if x1 < x2 then (kx m)
  else (bM (PC_joinSets m x2) fun m1 =>
  bM (PC_spread m1 (x2 * 400)) fun m3 =>
  PC_fewestOpenings_L20 x1 kx n m3 (x2 + 1))
def PC_fewestOpenings (m : Mem) : Option (Int32 × Mem) :=
  if (gI m 17 8) = 0 then (some (0, m))
  else (letV (((jshl 1 (gI m 17 8)) - 1)) fun v1 =>
  PC_fewestOpenings_L20 v1 (fun m2 => if inb ((v1 * 400) + (gI m2 17 9)) 25600 then (some ((gI m2 25 (ixn ((v1 * 400) + (gI m2 17 9)))), m2)) else none) FU m 1)
def OH_stiles_L46 (kx : Mem → Option (Int32 × Mem)) : Nat → Mem → Int32 → Option (Int32 × Mem)
  | 0, _, _ => none
  | n + 1, m, x2 =>
  if (gI m (gN m 13) 7) ≤ x2 then (kx m)
  else (bI (PH_haySquare m (gN m 13) x2) fun v3 =>
  bM (PC_addEnd m v3) fun m5 =>
  OH_stiles_L46 kx n m5 (x2 + 1))
def OH_stiles (m : Mem) (x1 : Int32) : Option (Int32 × Mem) :=
  if (PH_hasLine m (gN m 13) x1) = 0 then (some ((-1), m))
  else (if (gI m (gN m 13) 7) ≤ 6 then (bM (OH_surveyPieces m x1) fun m3 =>
  bM (PC_beginOpenings m3 (PH_churchSquare m3 (gN m3 13))) fun m6 =>
  OH_stiles_L46 (fun m8 => bV (PC_fewestOpenings m8) fun v9 m10 =>
  some (v9, m10)) FU m6 0)
  else (some ((-1), m)))
def LN_mayStandAt (m : Mem) (x0 : Nat) (x1 : Int32) (x2 : Int32) (x3 : Int32) : Option Int32 :=
  bI (LN_isAt m x0 (LN_before m x0 x1) x2 x3) fun v1 =>
  if v1 = 0 then (bI (LN_isAt m x0 (LN_after m x0 x1) x2 x3) fun v3 =>
  if v3 = 0 then (some 1)
  else (some 0))
  else (some 0)
def OH_canMove (m : Mem) (x1 : Int32) (x2 : Int32) (x3 : Int32) (x4 : Int32) : Option Int32 :=
  bI (PH_hasCorner m (gN m 13) x1 x2) fun v2 =>
  if v2 = 0 then (some 0)
  else (if (OH_isPoint x3 x4) = 0 then (some 0)
  else (if inb x1 3 then (bI (LN_isAt m ((gN m 13) + 2 + 3 * ixn x1) x2 x3 x4) fun v6 =>
  if v6 = 0 then (bI (LN_mayStandAt m ((gN m 13) + 2 + 3 * ixn x1) x2 x3 x4) fun v9 =>
  if v9 = 0 then (some 0)
  else (some 1))
  else (some 0)) else none))
def AC_keep_L52 (x1 : Nat) (x2 : Int32) (kx : Mem → Option Mem) : Nat → Mem → Int32 → Option Mem
  | 0, _, _ => none
  | n + 1, m, x3 =>
  if 3 ≤ x3 then (kx m)
  else (letV (((x2 + 1) + (x3 * 24))) fun v1 =>
  if inb x3 3 then (if cpok 0 v1 12 12 584 then (letM (cpI m ((x1 + 2 + 3 * ixn x3) + 1) (ixn 0) 4 (ixn v1) (ixn 12)) fun m4 =>
  if cpok 0 (v1 + 12) 12 12 584 then (letM (cpI m4 ((x1 + 2 + 3 * ixn x3) + 2) (ixn 0) 4 (ixn (v1 + 12)) (ixn 12)) fun m6 =>
  AC_keep_L52 x1 x2 kx n m6 (x3 + 1)) else none) else none) else none)
def AC_keep_J32 (m : Mem) (x1 : Nat) : Option Mem :=
  letV (((gI m 3 1) * 73)) fun v1 =>
  if inb v1 584 then (letM (sI m 4 (ixn v1) (gI m x1 12)) fun m3 =>
  AC_keep_L52 x1 v1 (fun m4 => letM (sI m4 3 1 ((gI m4 3 1) + 1)) fun m5 =>
  some m5) FU m3 0) else none
def AC_keep (m : Mem) (x1 : Nat) : Option Mem :=
  if (gI m 3 1) < 8 then (AC_keep_J32 m x1)
  else (letM (cpI m 4 (ixn 73) 4 (ixn 0) (ixn 511)) fun m1 =>
  letM (sI m1 3 1 7) fun m2 =>
  AC_keep_J32 m2 x1)
def PH_put (m : Mem) (x0 : Nat) (x1 : Int32) (x2 : Int32) (x3 : Int32) (x4 : Int32) : Option Mem :=
  if inb x1 3 then (if inb x2 12 then (letM (sI m ((x0 + 2 + 3 * ixn x1) + 1) (ixn x2) x3) fun m3 =>
  letM (sI m3 ((x0 + 2 + 3 * ixn x1) + 2) (ixn x2) x4) fun m4 =>
  letM (sI m4 x0 12 ((gI m4 x0 12) + 1)) fun m5 =>
  some m5) else none) else none
def OH_move (m : Mem) (x1 : Int32) (x2 : Int32) (x3 : Int32) (x4 : Int32) : Option (Int32 × Mem) :=
  bI (OH_canMove m x1 x2 x3 x4) fun v1 =>
  if v1 = 0 then (some (0, m))
  else (bM (AC_keep m (gN m 13)) fun m4 =>
  bM (PH_put m4 (gN m4 13) x1 x2 x3 x4) fun m7 =>
  some (1, m7))
def LN_staysBy_L28 (m : Mem) (x0 : Nat) (x1 : Int32) (x2 : Int32) (kx : Option Int32) : Nat → Int32 → Option Int32
  | 0, _ => none
  | n + 1, x3 =>
  if (gI m x0 1) ≤ x3 then (kx)
  else (if inb x3 12 then (if (OH_isPoint ((gI m (x0 + 1) (ixn x3)) + x1) ((gI m (x0 + 2) (ixn x3)) + x2)) = 0 then (some 0)
  else (LN_staysBy_L28 m x0 x1 x2 kx n (x3 + 1))) else none)
def LN_staysBy (m : Mem) (x0 : Nat) (x1 : Int32) (x2 : Int32) : Option Int32 :=
  if x1 < (-20) then (some 0)
  else (if 20 < x1 then (some 0)
  else (if x2 < (-20) then (some 0)
  else (if x2 ≤ 20 then (LN_staysBy_L28 m x0 x1 x2 (some 1) FU 0)
  else (some 0))))
def OH_shift_L63 (x1 : Int32) (x2 : Int32) (x3 : Int32) (x4 : Nat) (kx : Mem → Option (Int32 × Mem)) : Nat → Mem → Int32 → Option (Int32 × Mem)
  | 0, _, _ => none
  | n + 1, m, x5 =>
  if (gI m x4 1) ≤ x5 then (kx m)
  else (if inb x5 12 then (bM (PH_put m (gN m 13) x1 x5 ((gI m (x4 + 1) (ixn x5)) + x2) ((gI m (x4 + 2) (ixn x5)) + x3)) fun m3 =>
  OH_shift_L63 x1 x2 x3 x4 kx n m3 (x5 + 1)) else none)
def OH_shift_J19 (m : Mem) (x1 : Int32) (x2 : Int32) (x3 : Int32) : Option (Int32 × Mem) :=
  if inb x1 3 then (bI (LN_staysBy m ((gN m 13) + 2 + 3 * ixn x1) x2 x3) fun v3 =>
  if v3 = 0 then (some (0, m))
  else (bM (AC_keep m (gN m 13)) fun m6 =>
  OH_shift_L63 x1 x2 x3 ((gN m6 13) + 2 + 3 * ixn x1) (fun m9 => some (1, m9)) FU m6 0)) else none
def OH_shift (m : Mem) (x1 : Int32) (x2 : Int32) (x3 : Int32) : Option (Int32 × Mem) :=
  if (PH_hasLine m (gN m 13) x1) = 0 then (some (0, m))
  else (if x2 = 0 then (if x3 = 0 then (some (0, m))
  else (OH_shift_J19 m x1 x2 x3))
  else (OH_shift_J19 m x1 x2 x3))
def LN_copyFrom (m : Mem) (x0 : Nat) (x1 : Nat) : Option Mem :=
  letM (sJ m x0 0 (gJ m x1 0)) fun m1 =>
  letM (sI m1 x0 1 (gI m1 x1 1)) fun m2 =>
  letM (cpI m2 (x1 + 1) (ixn 0) (x0 + 1) (ixn 0) (ixn 12)) fun m3 =>
  letM (cpI m3 (x1 + 2) (ixn 0) (x0 + 2) (ixn 0) (ixn 12)) fun m4 =>
  some m4
def OH_moved_L98 (x5 : Int32) (kx : Mem → Int32 → Option (Int32 × Mem)) : Nat → Mem → Int32 → Int32 → Option (Int32 × Mem)
  | 0, _, _, _ => none
  | n + 1, m, x6, x7 =>
  if 400 ≤ x7 then (kx m x6)
  else (if inb x7 400 then (if (gI m 6 (ixn x7)) = x5 then (if (gI m 12 (ixn x7)) = x5 then (OH_moved_L98 x5 kx n m x6 (x7 + 1))
  else (OH_moved_L98 x5 kx n m (x6 + 1) (x7 + 1)))
  else (OH_moved_L98 x5 kx n m x6 (x7 + 1))) else none)
def OH_moved (m : Mem) (x1 : Int32) (x2 : Int32) (x3 : Int32) (x4 : Int32) (x5 : Int32) : Option (Int32 × Mem) :=
  if x5 < 0 then (some ((-1), m))
  else (if 1 < x5 then (some ((-1), m))
  else (bI (OH_canMove m x1 x2 x3 x4) fun v1 =>
  if v1 = 0 then (some ((-1), m))
  else (bM (OH_survey m x1) fun m3 =>
  if inb x1 3 then (bM (LN_copyFrom m3 63 ((gN m3 13) + 2 + 3 * ixn x1)) fun m7 =>
  if inb x2 12 then (letM (sI m7 64 (ixn x2) x3) fun m10 =>
  letM (sI m10 65 (ixn x2) x4) fun m11 =>
  bM (GR_survey m11 11 63 (gI m11 (gN m11 13) 10) (gI m11 (gN m11 13) 11)) fun m14 =>
  OH_moved_L98 x5 (fun m17 y16 => some (y16, m17)) FU m14 0 0) else none) else none)))
def PH_draw (m : Mem) (x0 : Nat) (x1 : Int32) : Option (Int32 × Mem) :=
  letM (sI m x0 14 (((gI m x0 14) * 1103515245) + 12345)) fun m1 =>
  if x1 ≤ 0 then (some (0, m1))
  else (if ¬ x1 = 0 then (some ((irm (jushr (gI m1 x0 14) 8) x1), m1)) else none)
def PH_passNights_J126 (kr : Mem → Int32 → Option (Int32 × Mem)) (kx : Mem → Option (Int32 × Mem)) (m : Mem) (x0 : Nat) (x1 : Int32) (x3 : Int32) (x4 : Int32) (x5 : Int32) (x6 : Int32) (x8 : Int32) (s0 : Int32) (s1 : Int32) : Option (Int32 × Mem) :=
  letV ((s0 - s1)) fun v1 =>
  if (OH_isPoint x8 v1) = 0 then (kr m (x4 + 1))
  else (if inb x5 3 then (bI (LN_mayStandAt m (x0 + 2 + 3 * ixn x5) x6 x8 v1) fun v3 =>
  if v3 = 0 then (kr m (x4 + 1))
  else (bM (PH_put m x0 x5 x6 x8 v1) fun m5 =>
  kr m5 (x4 + 1))) else none)
def PH_passNights_J115 (kr : Mem → Int32 → Option (Int32 × Mem)) (kx : Mem → Option (Int32 × Mem)) (m : Mem) (x0 : Nat) (x1 : Int32) (x3 : Int32) (x4 : Int32) (x5 : Int32) (x6 : Int32) (x7 : Int32) (x8 : Int32) (s0 : Int32) (s1 : Int32) : Option (Int32 × Mem) :=
  if x7 = 0 then (PH_passNights_J126 kr kx m x0 x1 x3 x4 x5 x6 x8 (s0 + s1) 1)
  else (PH_passNights_J126 kr kx m x0 x1 x3 x4 x5 x6 x8 (s0 + s1) 0)
def PH_passNights_J88 (kr : Mem → Int32 → Option (Int32 × Mem)) (kx : Mem → Option (Int32 × Mem)) (m : Mem) (x0 : Nat) (x1 : Int32) (x3 : Int32) (x4 : Int32) (x5 : Int32) (x6 : Int32) (x7 : Int32) (s0 : Int32) (s1 : Int32) : Option (Int32 × Mem) :=
  letV ((s0 - s1)) fun v1 =>
  if inb x5 3 then (if inb x6 12 then (if x7 = 2 then (PH_passNights_J115 kr kx m x0 x1 x3 x4 x5 x6 x7 v1 (gI m ((x0 + 2 + 3 * ixn x5) + 2) (ixn x6)) 1)
  else (PH_passNights_J115 kr kx m x0 x1 x3 x4 x5 x6 x7 v1 (gI m ((x0 + 2 + 3 * ixn x5) + 2) (ixn x6)) 0)) else none) else none
def PH_passNights_J76 (kr : Mem → Int32 → Option (Int32 × Mem)) (kx : Mem → Option (Int32 × Mem)) (m : Mem) (x0 : Nat) (x1 : Int32) (x3 : Int32) (x4 : Int32) (x5 : Int32) (x6 : Int32) (x7 : Int32) (s0 : Int32) (s1 : Int32) : Option (Int32 × Mem) :=
  if x7 = 3 then (PH_passNights_J88 kr kx m x0 x1 x3 x4 x5 x6 x7 (s0 + s1) 1)
  else (PH_passNights_J88 kr kx m x0 x1 x3 x4 x5 x6 x7 (s0 + s1) 0)
def PH_passNights_L13 (x0 : Nat) (x1 : Int32) (x3 : Int32) (kx : Mem → Option (Int32 × Mem)) : Nat → Mem → Int32 → Option (Int32 × Mem)
  | 0, _, _ => none
  | n + 1, m, x4 =>
  if x1 ≤ x4 then (kx m)
  else (bV (PH_draw m x0 (gI m x0 6)) fun v1 m2 =>
  if inb v1 3 then (bV (PH_draw m2 x0 (gI m2 (x0 + 2 + 3 * ixn v1) 1)) fun v5 m6 =>
  bV (PH_draw m6 x0 4) fun v8 m9 =>
  if inb v5 12 then (if v8 = 1 then (PH_passNights_J76 (PH_passNights_L13 x0 x1 x3 kx n) (kx) m9 x0 x1 x3 x4 v1 v5 v8 (gI m9 ((x0 + 2 + 3 * ixn v1) + 1) (ixn v5)) 1)
  else (PH_passNights_J76 (PH_passNights_L13 x0 x1 x3 kx n) (kx) m9 x0 x1 x3 x4 v1 v5 v8 (gI m9 ((x0 + 2 + 3 * ixn v1) + 1) (ixn v5)) 0)) else none) else none)
def PH_passNights (m : Mem) (x0 : Nat) (x1 : Int32) (x2 : Int32) : Option (Int32 × Mem) :=
  letV ((gI m x0 12)) fun v1 =>
  letM (sI m x0 14 x2) fun m2 =>
  PH_passNights_L13 x0 x1 v1 (fun m3 => some (((gI m3 x0 12) - v1), m3)) FU m2 0
def OH_nights (m : Mem) (x1 : Int32) (x2 : Int32) : Option (Int32 × Mem) :=
  if x1 < 1 then (some ((-1), m))
  else (if 200 < x1 then (some ((-1), m))
  else (if 1 ≤ (gI m (gN m 13) 6) then (bM (AC_keep m (gN m 13)) fun m3 =>
  bV (PH_passNights m3 (gN m3 13) x1 x2) fun v6 m7 =>
  some (v6, m7))
  else (some ((-1), m))))
def AC_takeBack_L40 (x1 : Nat) (x2 : Int32) (kx : Mem → Option (Int32 × Mem)) : Nat → Mem → Int32 → Option (Int32 × Mem)
  | 0, _, _ => none
  | n + 1, m, x3 =>
  if 3 ≤ x3 then (kx m)
  else (letV (((x2 + 1) + (x3 * 24))) fun v1 =>
  if inb x3 3 then (if cpok v1 0 12 584 12 then (letM (cpI m 4 (ixn v1) ((x1 + 2 + 3 * ixn x3) + 1) (ixn 0) (ixn 12)) fun m4 =>
  if cpok (v1 + 12) 0 12 584 12 then (letM (cpI m4 4 (ixn (v1 + 12)) ((x1 + 2 + 3 * ixn x3) + 2) (ixn 0) (ixn 12)) fun m6 =>
  AC_takeBack_L40 x1 x2 kx n m6 (x3 + 1)) else none) else none) else none)
def AC_takeBack (m : Mem) (x1 : Nat) : Option (Int32 × Mem) :=
  if 1 ≤ (gI m 3 1) then (letM (sI m 3 1 ((gI m 3 1) - 1)) fun m1 =>
  letV (((gI m1 3 1) * 73)) fun v2 =>
  if inb v2 584 then (letM (sI m1 x1 12 (gI m1 4 (ixn v2))) fun m4 =>
  AC_takeBack_L40 x1 v2 (fun m5 => some ((gI m5 3 1), m5)) FU m4 0) else none)
  else (some ((-1), m))
def OH_undo (m : Mem) : Option (Int32 × Mem) :=
  bV (AC_takeBack m (gN m 13)) fun v2 m3 =>
  some (v2, m3)
def PT_take_L35 (kx : Mem → Option (Int32 × Mem)) : Nat → Mem → Int32 → Option (Int32 × Mem)
  | 0, _, _ => none
  | n + 1, m, x2 =>
  if (gI m 1 1) ≤ (x2 + 2) then (kx m)
  else (if 8 ≤ (gI m 36 2) then (kx m)
  else (if inb x2 940 then (if inb (x2 + 1) 940 then (if (OH_isPoint (gI m 2 (ixn x2)) (gI m 2 (ixn (x2 + 1)))) = 0 then (some (0, m))
  else (if inb (x2 + 2) 940 then (if (gI m 2 (ixn (x2 + 2))) ≤ 1 then (if inb (gI m 36 2) 8 then (letM (sI m 37 (ixn (gI m 36 2)) (gI m 2 (ixn x2))) fun m5 =>
  if inb (gI m5 36 2) 8 then (letM (sI m5 38 (ixn (gI m5 36 2)) (gI m5 2 (ixn (x2 + 1)))) fun m7 =>
  if inb (gI m7 36 2) 8 then (letM (sI m7 39 (ixn (gI m7 36 2)) (gI m7 2 (ixn (x2 + 2)))) fun m9 =>
  letM (sI m9 36 2 ((gI m9 36 2) + 1)) fun m10 =>
  PT_take_L35 kx n m10 (x2 + 3)) else none) else none) else none)
  else (some (0, m))) else none)) else none) else none))
def PT_take (m : Mem) : Option (Int32 × Mem) :=
  letM (sI m 36 2 0) fun m1 =>
  if (gI m1 1 1) < 3 then (some (0, m1))
  else (if 24 < (gI m1 1 1) then (some (0, m1))
  else (if (irm (gI m1 1 1) 3) = 0 then (PT_take_L35 (fun m2 => some (1, m2)) FU m1 0)
  else (some (0, m1))))
def PT_roundsBy_L6 (m : Mem) (x1 : Int32) (x2 : Int32) (x3 : Int32) (x4 : Int32) (kx : Int64 → Option Int64) : Nat → Int64 → Int32 → Option Int64
  | 0, _, _ => none
  | n + 1, x5, x7 =>
  if (gI m 36 2) ≤ x7 then (kx x5)
  else (if inb x7 8 then (letV ((OH_passes x1 x2 x3 x4 (gI m 37 (ixn x7)) (gI m 38 (ixn x7)))) fun v2 =>
  if v2 = 1000 then (PT_roundsBy_L6 m x1 x2 x3 x4 kx n x5 (x7 + 1))
  else (letL ((x5 + (jlshl (Int32.toInt64 v2) (8 * x7)))) fun w3 =>
  PT_roundsBy_L6 m x1 x2 x3 x4 kx n w3 (x7 + 1))) else none)
def PT_roundsBy (m : Mem) (x1 : Int32) (x2 : Int32) (x3 : Int32) (x4 : Int32) : Option Int64 :=
  PT_roundsBy_L6 m x1 x2 x3 x4 (fun y1 => some y1) FU 0 0
def PT_onBy_L6 (m : Mem) (x1 : Int32) (x2 : Int32) (x3 : Int32) (x4 : Int32) (kx : Int32 → Option Int32) : Nat → Int32 → Int32 → Option Int32
  | 0, _, _ => none
  | n + 1, x5, x6 =>
  if (gI m 36 2) ≤ x6 then (kx x5)
  else (if inb x6 8 then (if (OH_passes x1 x2 x3 x4 (gI m 37 (ixn x6)) (gI m 38 (ixn x6))) = 1000 then (letV ((x5 ||| (jshl 1 x6))) fun v2 =>
  PT_onBy_L6 m x1 x2 x3 x4 kx n v2 (x6 + 1))
  else (PT_onBy_L6 m x1 x2 x3 x4 kx n x5 (x6 + 1))) else none)
def PT_onBy (m : Mem) (x1 : Int32) (x2 : Int32) (x3 : Int32) (x4 : Int32) : Option Int32 :=
  PT_onBy_L6 m x1 x2 x3 x4 (fun y1 => some y1) FU 0 0
def NI_seeEdges_L2 (kx : Mem → Option Mem) : Nat → Mem → Int32 → Option Mem
  | 0, _, _ => none
  | n + 1, m, x1 =>
  if (gI m 42 1) ≤ x1 then (kx m)
  else (letV ((LN_after m 42 x1)) fun v1 =>
  if inb x1 12 then (if inb v1 12 then (bL (PT_roundsBy m (gI m 43 (ixn x1)) (gI m 44 (ixn x1)) (gI m 43 (ixn v1)) (gI m 44 (ixn v1))) fun v4 =>
  letM (sJ m 46 (ixn x1) v4) fun m6 =>
  bI (PT_onBy m6 (gI m6 43 (ixn x1)) (gI m6 44 (ixn x1)) (gI m6 43 (ixn v1)) (gI m6 44 (ixn v1))) fun v7 =>
  letM (sI m6 47 (ixn x1) v7) fun m9 =>
  NI_seeEdges_L2 kx n m9 (x1 + 1)) else none) else none)
def NI_seeEdges (m : Mem) : Option Mem :=
  NI_seeEdges_L2 (fun m1 => some m1) FU m 0
def NI_leaveOut_L14 (x1 : Int32) (x2 : Int32) (kx : Mem → Option Mem) : Nat → Mem → Int32 → Option Mem
  | 0, _, _ => none
  | n + 1, m, x3 =>
  if (gI m 42 1) ≤ x3 then (kx m)
  else (letV ((LN_after m 42 x3)) fun v1 =>
  if x3 = x1 then (NI_leaveOut_L14 x1 x2 kx n m (x3 + 1))
  else (if x3 = x2 then (NI_leaveOut_L14 x1 x2 kx n m (x3 + 1))
  else (if v1 = x1 then (NI_leaveOut_L14 x1 x2 kx n m (x3 + 1))
  else (if v1 = x2 then (NI_leaveOut_L14 x1 x2 kx n m (x3 + 1))
  else (if inb x3 12 then (letM (sJ m 40 15 ((gJ m 40 15) + (gJ m 46 (ixn x3)))) fun m3 =>
  letM (sI m3 40 16 ((gI m3 40 16) ||| (gI m3 47 (ixn x3)))) fun m4 =>
  NI_leaveOut_L14 x1 x2 kx n m4 (x3 + 1)) else none)))))
def NI_leaveOut (m : Mem) (x1 : Int32) (x2 : Int32) : Option Mem :=
  letM (sJ m 40 15 1157442765409226768) fun m1 =>
  letM (sI m1 40 16 0) fun m2 =>
  NI_leaveOut_L14 x1 x2 (fun m3 => some m3) FU m2 0
def PT_roundOf (x0 : Int64) (x2 : Int32) : Int32 :=
  ((Int64.toInt32 ((jlushr x0 (8 * x2)) &&& 255)) - 16)
def PT_fitOne_J46 (m : Mem) (s0 : Int32) (s1 : Int32) : Option Int32 :=
  if s0 = s1 then (some 1)
  else (some 0)
def PT_fitOne (m : Mem) (x1 : Int32) (x2 : Int32) (x3 : Int32) : Option Int32 :=
  if x3 = 0 then (if inb x1 8 then (if (gI m 39 (ixn x1)) = 1 then (PT_fitOne_J46 m (OH_isHis (gI m 36 0) x2) 1)
  else (PT_fitOne_J46 m (OH_isHis (gI m 36 0) x2) 0)) else none)
  else (if inb x1 8 then (if (gI m 39 (ixn x1)) = (gI m 36 1) then (some 1)
  else (some 0)) else none)
def PT_fit_J35 (kr : Int32 → Option Int32) (kx : Option Int32) (m : Mem) (x1 : Int64) (x3 : Int32) (x4 : Int32) (s1 : Int32) (s2 : Int32) (s3 : Int32) : Option Int32 :=
  bI (PT_fitOne m s1 s2 s3) fun v1 =>
  if v1 = 0 then (some 0)
  else (kr (x4 + 1))
def PT_fit_L3 (m : Mem) (x1 : Int64) (x3 : Int32) (kx : Option Int32) : Nat → Int32 → Option Int32
  | 0, _ => none
  | n + 1, x4 =>
  if (gI m 36 2) ≤ x4 then (kx)
  else (if ((jshr x3 x4) &&& 1) = 0 then (PT_fit_J35 (PT_fit_L3 m x1 x3 kx n) (kx) m x1 x3 x4 x4 (PT_roundOf x1 x4) 0)
  else (PT_fit_J35 (PT_fit_L3 m x1 x3 kx n) (kx) m x1 x3 x4 x4 (PT_roundOf x1 x4) 1))
def PT_fit (m : Mem) (x1 : Int64) (x3 : Int32) : Option Int32 :=
  PT_fit_L3 m x1 x3 (some 1) FU 0
def NI_conclude (m : Mem) (x1 : Int32) : Option (Int32 × Mem) :=
  letM (sI m 40 0 x1) fun m1 =>
  letM (sI m1 40 1 (gI m1 40 17)) fun m2 =>
  some (x1, m2)
def NI_seePlace (m : Mem) (x1 : Int32) (x2 : Int32) (x3 : Int32) : Option Mem :=
  if inb x1 12 then (letV (((x1 * 48) + (gI m 48 (ixn x1)))) fun v2 =>
  letV ((LN_before m 42 x1)) fun v3 =>
  letV ((LN_after m 42 x1)) fun v4 =>
  if inb v2 576 then (letM (sI m 49 (ixn v2) x2) fun m6 =>
  letM (sI m6 50 (ixn v2) x3) fun m7 =>
  if inb v3 12 then (bL (PT_roundsBy m7 (gI m7 43 (ixn v3)) (gI m7 44 (ixn v3)) x2 x3) fun v9 =>
  letM (sJ m7 52 (ixn v2) v9) fun m11 =>
  bI (PT_onBy m11 (gI m11 43 (ixn v3)) (gI m11 44 (ixn v3)) x2 x3) fun v12 =>
  letM (sI m11 53 (ixn v2) v12) fun m14 =>
  if inb v4 12 then (bL (PT_roundsBy m14 x2 x3 (gI m14 43 (ixn v4)) (gI m14 44 (ixn v4))) fun v16 =>
  letM (sJ m14 55 (ixn v2) v16) fun m18 =>
  bI (PT_onBy m18 x2 x3 (gI m18 43 (ixn v4)) (gI m18 44 (ixn v4))) fun v19 =>
  letM (sI m18 56 (ixn v2) v19) fun m21 =>
  letM (sI m21 48 (ixn x1) ((gI m21 48 (ixn x1)) + 1)) fun m22 =>
  some m22) else none) else none) else none) else none
def NI_seePlaces_J39 (kr : Mem → Int32 → Option Mem) (kx : Mem → Option Mem) (m : Mem) (x1 : Int32) (x2 : Int32) (x3 : Int32) (x4 : Int32) (s0 : Int32) : Option Mem :=
  if s0 = 0 then (kr m (x4 + 1))
  else (if inb x1 12 then (if (OH_isPoint ((gI m 43 (ixn x1)) + x3) ((gI m 44 (ixn x1)) + x4)) = 0 then (kr m (x4 + 1))
  else (if 48 ≤ (gI m 48 (ixn x1)) then (kr m (x4 + 1))
  else (bM (NI_seePlace m x1 ((gI m 43 (ixn x1)) + x3) ((gI m 44 (ixn x1)) + x4)) fun m2 =>
  kr m2 (x4 + 1)))) else none)
def NI_seePlaces_L19 (x1 : Int32) (x2 : Int32) (x3 : Int32) (kx : Mem → Option Mem) : Nat → Mem → Int32 → Option Mem
  | 0, _, _ => none
  | n + 1, m, x4 =>
  if x2 < x4 then (kx m)
  else (if x3 = 0 then (if x4 = 0 then (NI_seePlaces_J39 (NI_seePlaces_L19 x1 x2 x3 kx n) (kx) m x1 x2 x3 x4 0)
  else (NI_seePlaces_J39 (NI_seePlaces_L19 x1 x2 x3 kx n) (kx) m x1 x2 x3 x4 1))
  else (NI_seePlaces_J39 (NI_seePlaces_L19 x1 x2 x3 kx n) (kx) m x1 x2 x3 x4 1))
def NI_seePlaces_L10 (x1 : Int32) (x2 : Int32) (kx : Mem → Option Mem) : Nat → Mem → Int32 → Option Mem
  | 0, _, _ => none
  | n + 1, m, x3 =>
  if x2 < x3 then (kx m)
  else (letV ((-x2)) fun v1 =>
  NI_seePlaces_L19 x1 x2 x3 (fun m2 => NI_seePlaces_L10 x1 x2 kx n m2 (x3 + 1)) FU m v1)
def NI_seePlaces (m : Mem) (x1 : Int32) (x2 : Int32) : Option Mem :=
  if inb x1 12 then (letM (sI m 48 (ixn x1) 0) fun m2 =>
  letV ((-x2)) fun v3 =>
  NI_seePlaces_L10 x1 x2 (fun m4 => some m4) FU m2 v3) else none
def NI_sortKind_L60 (x1 : Int32) (x2 : Int32) (x3 : Int64) (x5 : Int32) (x6 : Int32) (kx : Mem → Option Mem) : Nat → Mem → Int32 → Option Mem
  | 0, _, _ => none
  | n + 1, m, x7 =>
  if x6 ≤ x7 then (kx m)
  else (if inb x7 576 then (if (lg_cmp (gJ m 58 (ixn x7)) x3) = 0 then (if (gI m 59 (ixn x7)) = x5 then (letM (sI m 61 (ixn x7) ((gI m 61 (ixn x7)) + 1)) fun m2 =>
  some m2)
  else (NI_sortKind_L60 x1 x2 x3 x5 x6 kx n m (x7 + 1)))
  else (NI_sortKind_L60 x1 x2 x3 x5 x6 kx n m (x7 + 1))) else none)
def NI_sortKind (m : Mem) (x1 : Int32) (x2 : Int32) : Option Mem :=
  if inb x2 576 then (letL (((gJ m 52 (ixn x2)) + (gJ m 55 (ixn x2)))) fun w2 =>
  letV (((gI m 53 (ixn x2)) ||| (gI m 56 (ixn x2)))) fun v3 =>
  if inb x1 12 then (letV (((x1 * 48) + (gI m 60 (ixn x1)))) fun v5 =>
  letV ((x1 * 48)) fun v6 =>
  NI_sortKind_L60 x1 x2 w2 v3 v5 (fun m7 => if inb x1 12 then (if 48 ≤ (gI m7 60 (ixn x1)) then (some m7)
  else (if inb v5 576 then (letM (sJ m7 58 (ixn v5) w2) fun m10 =>
  letM (sI m10 59 (ixn v5) v3) fun m11 =>
  letM (sI m11 61 (ixn v5) 1) fun m12 =>
  letM (sI m12 62 (ixn v5) x2) fun m13 =>
  letM (sI m13 60 (ixn x1) ((gI m13 60 (ixn x1)) + 1)) fun m14 =>
  some m14) else none)) else none) FU m v6) else none) else none
def NI_sortKinds_L9 (x1 : Int32) (kx : Mem → Option Mem) : Nat → Mem → Int32 → Option Mem
  | 0, _, _ => none
  | n + 1, m, x2 =>
  if inb x1 12 then (if (gI m 48 (ixn x1)) ≤ x2 then (kx m)
  else (letV (((x1 * 48) + x2)) fun v2 =>
  if inb v2 576 then (bI (LN_mayStandAt m 42 x1 (gI m 49 (ixn v2)) (gI m 50 (ixn v2))) fun v4 =>
  if v4 = 0 then (NI_sortKinds_L9 x1 kx n m (x2 + 1))
  else (bM (NI_sortKind m x1 v2) fun m6 =>
  NI_sortKinds_L9 x1 kx n m6 (x2 + 1))) else none)) else none
def NI_sortKinds (m : Mem) (x1 : Int32) : Option Mem :=
  if inb x1 12 then (letM (sI m 60 (ixn x1) 0) fun m2 =>
  NI_sortKinds_L9 x1 (fun m3 => some m3) FU m2 0) else none
def NI_keepFirst (m : Mem) (x1 : Int32) (x2 : Int32) (x3 : Int32) : Option Mem :=
  if inb (x1 * 3) 6 then (letM (sI m 41 (ixn (x1 * 3)) x2) fun m2 =>
  if inb x3 576 then (if inb ((x1 * 3) + 1) 6 then (letM (sI m2 41 (ixn ((x1 * 3) + 1)) (gI m2 49 (ixn x3))) fun m5 =>
  if inb ((x1 * 3) + 2) 6 then (letM (sI m5 41 (ixn ((x1 * 3) + 2)) (gI m5 50 (ixn x3))) fun m7 =>
  some m7) else none) else none) else none) else none
def NI_tryOne_J85 (kr : Mem → Int32 → Option Mem) (kx : Mem → Option Mem) (m : Mem) (x1 : Int32) (x2 : Int32) (x3 : Int32) : Option Mem :=
  if inb x3 576 then (letM (sI m 40 17 ((gI m 40 17) + (gI m 61 (ixn x3)))) fun m2 =>
  kr m2 (x3 + 1)) else none
def NI_tryOne_L23 (x1 : Int32) (x2 : Int32) (kx : Mem → Option Mem) : Nat → Mem → Int32 → Option Mem
  | 0, _, _ => none
  | n + 1, m, x3 =>
  if x2 ≤ x3 then (kx m)
  else (if inb x3 576 then (bI (PT_fit m ((gJ m 40 15) + (gJ m 58 (ixn x3))) ((gI m 40 16) ||| (gI m 59 (ixn x3)))) fun v2 =>
  if v2 = 0 then (NI_tryOne_L23 x1 x2 kx n m (x3 + 1))
  else (if (gI m 40 17) = 0 then (bM (NI_keepFirst m 0 x1 (gI m 62 (ixn x3))) fun m4 =>
  NI_tryOne_J85 (NI_tryOne_L23 x1 x2 kx n) (kx) m4 x1 x2 x3)
  else (NI_tryOne_J85 (NI_tryOne_L23 x1 x2 kx n) (kx) m x1 x2 x3))) else none)
def NI_tryOne (m : Mem) (x1 : Int32) : Option Mem :=
  bM (NI_leaveOut m x1 x1) fun m1 =>
  if inb x1 12 then (letV (((x1 * 48) + (gI m1 60 (ixn x1)))) fun v4 =>
  letV ((x1 * 48)) fun v5 =>
  NI_tryOne_L23 x1 v4 (fun m6 => some m6) FU m1 v5) else none
def PT_fitWithEdge_J73 (kr : Int32 → Option Int32) (kx : Option Int32) (m : Mem) (x1 : Int64) (x3 : Int32) (x4 : Int32) (x5 : Int32) (x6 : Int32) (x7 : Int32) (x8 : Int32) (s1 : Int32) (s2 : Int32) (s3 : Int32) : Option Int32 :=
  bI (PT_fitOne m s1 s2 s3) fun v1 =>
  if v1 = 0 then (some 0)
  else (kr (x8 + 1))
def PT_fitWithEdge_L3 (m : Mem) (x1 : Int64) (x3 : Int32) (x4 : Int32) (x5 : Int32) (x6 : Int32) (x7 : Int32) (kx : Option Int32) : Nat → Int32 → Option Int32
  | 0, _ => none
  | n + 1, x8 =>
  if (gI m 36 2) ≤ x8 then (kx)
  else (if inb x8 8 then (letV ((OH_passes x4 x5 x6 x7 (gI m 37 (ixn x8)) (gI m 38 (ixn x8)))) fun v2 =>
  if v2 = 1000 then (PT_fitWithEdge_J73 (PT_fitWithEdge_L3 m x1 x3 x4 x5 x6 x7 kx n) (kx) m x1 x3 x4 x5 x6 x7 x8 x8 ((PT_roundOf x1 x8) + v2) 1)
  else (if ((jshr x3 x8) &&& 1) = 0 then (PT_fitWithEdge_J73 (PT_fitWithEdge_L3 m x1 x3 x4 x5 x6 x7 kx n) (kx) m x1 x3 x4 x5 x6 x7 x8 x8 ((PT_roundOf x1 x8) + v2) 0)
  else (PT_fitWithEdge_J73 (PT_fitWithEdge_L3 m x1 x3 x4 x5 x6 x7 kx n) (kx) m x1 x3 x4 x5 x6 x7 x8 x8 ((PT_roundOf x1 x8) + v2) 1))) else none)
def PT_fitWithEdge (m : Mem) (x1 : Int64) (x3 : Int32) (x4 : Int32) (x5 : Int32) (x6 : Int32) (x7 : Int32) : Option Int32 :=
  PT_fitWithEdge_L3 m x1 x3 x4 x5 x6 x7 (some 1) FU 0
def NI_fitBetween_J96 (m : Mem) (x2 : Int32) (x4 : Int32) : Option Int32 :=
  if inb x2 576 then (if inb x4 576 then (letL ((((gJ m 40 15) + (gJ m 52 (ixn x2))) + (gJ m 55 (ixn x4)))) fun w3 =>
  letV ((((gI m 40 16) ||| (gI m 53 (ixn x2))) ||| (gI m 56 (ixn x4)))) fun v4 =>
  bI (PT_fitWithEdge m w3 v4 (gI m 49 (ixn x2)) (gI m 50 (ixn x2)) (gI m 49 (ixn x4)) (gI m 50 (ixn x4))) fun v5 =>
  if v5 = 0 ∨ v5 = 1 then (some v5) else none) else none) else none
def NI_fitBetween (m : Mem) (x1 : Int32) (x2 : Int32) (x3 : Int32) (x4 : Int32) : Option Int32 :=
  if inb x2 576 then (bI (LN_isAt m 42 (LN_before m 42 x1) (gI m 49 (ixn x2)) (gI m 50 (ixn x2))) fun v2 =>
  if v2 = 0 then (if inb x4 576 then (bI (LN_isAt m 42 (LN_after m 42 x3) (gI m 49 (ixn x4)) (gI m 50 (ixn x4))) fun v5 =>
  if v5 = 0 then (if (gI m 49 (ixn x2)) = (gI m 49 (ixn x4)) then (if (gI m 50 (ixn x2)) = (gI m 50 (ixn x4)) then (some 0)
  else (NI_fitBetween_J96 m x2 x4))
  else (NI_fitBetween_J96 m x2 x4))
  else (some 0)) else none)
  else (some 0)) else none
def NI_keepFirstTwo (m : Mem) (x1 : Int32) (x2 : Int32) (x3 : Int32) (x4 : Int32) : Option Mem :=
  if (gI m 40 17) = 0 then (bM (NI_keepFirst m 0 x1 x2) fun m1 =>
  bM (NI_keepFirst m1 1 x3 x4) fun m3 =>
  some m3)
  else (some m)
def NI_tryNeighbours_J103 (kr : Mem → Int32 → Option Mem) (kx : Mem → Option Mem) (m : Mem) (x1 : Int32) (x2 : Int32) (x3 : Int32) (x4 : Int32) (x5 : Int32) (x6 : Int32) (x7 : Int32) : Option Mem :=
  bM (NI_keepFirstTwo m x1 x6 x2 x7) fun m1 =>
  letM (sI m1 40 17 ((gI m1 40 17) + 1)) fun m3 =>
  kr m3 (x7 + 1)
def NI_tryNeighbours_L62 (x1 : Int32) (x2 : Int32) (x3 : Int32) (x4 : Int32) (x5 : Int32) (x6 : Int32) (kx : Mem → Option Mem) : Nat → Mem → Int32 → Option Mem
  | 0, _, _ => none
  | n + 1, m, x7 =>
  if x4 ≤ x7 then (kx m)
  else (if x5 = 0 then (bI (NI_fitBetween m x2 x7 x1 x6) fun v1 =>
  if v1 = 0 then (NI_tryNeighbours_L62 x1 x2 x3 x4 x5 x6 kx n m (x7 + 1))
  else (NI_tryNeighbours_J103 (NI_tryNeighbours_L62 x1 x2 x3 x4 x5 x6 kx n) (kx) m x1 x2 x3 x4 x5 x6 x7))
  else (bI (NI_fitBetween m x1 x6 x2 x7) fun v3 =>
  if v3 = 0 then (NI_tryNeighbours_L62 x1 x2 x3 x4 x5 x6 kx n m (x7 + 1))
  else (NI_tryNeighbours_J103 (NI_tryNeighbours_L62 x1 x2 x3 x4 x5 x6 kx n) (kx) m x1 x2 x3 x4 x5 x6 x7)))
def NI_tryNeighbours_L50 (x1 : Int32) (x2 : Int32) (x3 : Int32) (x4 : Int32) (x5 : Int32) (kx : Mem → Option Mem) : Nat → Mem → Int32 → Option Mem
  | 0, _, _ => none
  | n + 1, m, x6 =>
  if x3 ≤ x6 then (kx m)
  else (letV ((x2 * 48)) fun v1 =>
  NI_tryNeighbours_L62 x1 x2 x3 x4 x5 x6 (fun m2 => NI_tryNeighbours_L50 x1 x2 x3 x4 x5 kx n m2 (x6 + 1)) FU m v1)
def NI_tryNeighbours_J42 (m : Mem) (x1 : Int32) (x2 : Int32) (x3 : Int32) (x4 : Int32) (s0 : Int32) : Option Mem :=
  letV ((x1 * 48)) fun v1 =>
  NI_tryNeighbours_L50 x1 x2 x3 x4 s0 (fun m2 => some m2) FU m v1
def NI_tryNeighbours (m : Mem) (x1 : Int32) (x2 : Int32) : Option Mem :=
  if inb x1 12 then (letV (((x1 * 48) + (gI m 48 (ixn x1)))) fun v2 =>
  if inb x2 12 then (letV (((x2 * 48) + (gI m 48 (ixn x2)))) fun v4 =>
  if (LN_after m 42 x1) = x2 then (NI_tryNeighbours_J42 m x1 x2 v2 v4 1)
  else (NI_tryNeighbours_J42 m x1 x2 v2 v4 0)) else none) else none
def NI_tryApart_L77 (x1 : Int32) (x2 : Int32) (x3 : Int32) (x4 : Int32) (x5 : Int32) (x6 : Int64) (x8 : Int32) (kx : Mem → Option Mem) : Nat → Mem → Int32 → Option Mem
  | 0, _, _ => none
  | n + 1, m, x9 =>
  if x4 ≤ x9 then (kx m)
  else (if inb x9 576 then (bI (PT_fit m (x6 + (gJ m 58 (ixn x9))) (x8 ||| (gI m 59 (ixn x9)))) fun v2 =>
  if v2 = 0 then (NI_tryApart_L77 x1 x2 x3 x4 x5 x6 x8 kx n m (x9 + 1))
  else (if inb x5 576 then (bM (NI_keepFirstTwo m x1 (gI m 62 (ixn x5)) x2 (gI m 62 (ixn x9))) fun m5 =>
  letM (sI m5 40 17 ((gI m5 40 17) + ((gI m5 61 (ixn x5)) * (gI m5 61 (ixn x9))))) fun m7 =>
  NI_tryApart_L77 x1 x2 x3 x4 x5 x6 x8 kx n m7 (x9 + 1)) else none)) else none)
def NI_tryApart_L31 (x1 : Int32) (x2 : Int32) (x3 : Int32) (x4 : Int32) (kx : Mem → Option Mem) : Nat → Mem → Int32 → Option Mem
  | 0, _, _ => none
  | n + 1, m, x5 =>
  if x3 ≤ x5 then (kx m)
  else (if inb x5 576 then (letL (((gJ m 40 15) + (gJ m 58 (ixn x5)))) fun w2 =>
  letV (((gI m 40 16) ||| (gI m 59 (ixn x5)))) fun v3 =>
  letV ((x2 * 48)) fun v4 =>
  NI_tryApart_L77 x1 x2 x3 x4 x5 w2 v3 (fun m5 => NI_tryApart_L31 x1 x2 x3 x4 kx n m5 (x5 + 1)) FU m v4) else none)
def NI_tryApart (m : Mem) (x1 : Int32) (x2 : Int32) : Option Mem :=
  if inb x1 12 then (letV (((x1 * 48) + (gI m 60 (ixn x1)))) fun v2 =>
  if inb x2 12 then (letV (((x2 * 48) + (gI m 60 (ixn x2)))) fun v4 =>
  letV ((x1 * 48)) fun v5 =>
  NI_tryApart_L31 x1 x2 v2 v4 (fun m6 => some m6) FU m v5) else none) else none
def NI_tryTwo_J30 (m : Mem) (x1 : Int32) (x2 : Int32) : Option Mem :=
  bM (NI_tryNeighbours m x1 x2) fun m1 =>
  some m1
def NI_tryTwo (m : Mem) (x1 : Int32) (x2 : Int32) : Option Mem :=
  bM (NI_leaveOut m x1 x2) fun m1 =>
  if (LN_after m1 42 x1) = x2 then (NI_tryTwo_J30 m1 x1 x2)
  else (if (LN_after m1 42 x2) = x1 then (NI_tryTwo_J30 m1 x1 x2)
  else (bM (NI_tryApart m1 x1 x2) fun m3 =>
  some m3))
def NI_search_L54 (x2 : Int32) (kx : Mem → Option (Int32 × Mem)) : Nat → Mem → Int32 → Option (Int32 × Mem)
  | 0, _, _ => none
  | n + 1, m, x3 =>
  if (gI m 42 1) ≤ x3 then (kx m)
  else (bM (NI_seePlaces m x3 x2) fun m1 =>
  bM (NI_sortKinds m1 x3) fun m3 =>
  NI_search_L54 x2 kx n m3 (x3 + 1))
def NI_search_L84 (kx : Mem → Option (Int32 × Mem)) : Nat → Mem → Int32 → Option (Int32 × Mem)
  | 0, _, _ => none
  | n + 1, m, x3 =>
  if (gI m 42 1) ≤ x3 then (kx m)
  else (bM (NI_tryOne m x3) fun m1 =>
  NI_search_L84 kx n m1 (x3 + 1))
def NI_search_L137 (x3 : Int32) (kx : Mem → Option (Int32 × Mem)) : Nat → Mem → Int32 → Option (Int32 × Mem)
  | 0, _, _ => none
  | n + 1, m, x4 =>
  if (gI m 42 1) ≤ x4 then (kx m)
  else (bM (NI_tryTwo m x3 x4) fun m1 =>
  NI_search_L137 x3 kx n m1 (x4 + 1))
def NI_search_L121 (kx : Mem → Option (Int32 × Mem)) : Nat → Mem → Int32 → Option (Int32 × Mem)
  | 0, _, _ => none
  | n + 1, m, x3 =>
  if (gI m 42 1) ≤ x3 then (kx m)
  else (letV ((x3 + 1)) fun v1 =>
  NI_search_L137 x3 (fun m2 => NI_search_L121 kx n m2 (x3 + 1)) FU m v1)
def NI_search (m : Mem) (x1 : Nat) (x2 : Int32) : Option (Int32 × Mem) :=
  bM (LN_copyFrom m 42 x1) fun m1 =>
  bM (NI_seeEdges m1) fun m3 =>
  letM (sI m3 40 17 0) fun m5 =>
  bM (NI_leaveOut m5 (-1) (-1)) fun m6 =>
  bI (PT_fit m6 (gJ m6 40 15) (gI m6 40 16)) fun v8 =>
  if v8 = 0 then (NI_search_L54 x2 (fun m10 => NI_search_L84 (fun m11 => if (gI m11 40 17) ≤ 0 then (NI_search_L121 (fun m12 => if (gI m12 40 17) ≤ 0 then (some ((-1), m12))
  else (bV (NI_conclude m12 2) fun v13 m14 =>
  some (v13, m14))) FU m11 0)
  else (bV (NI_conclude m11 1) fun v16 m17 =>
  some (v16, m17))) FU m10 0) FU m6 0)
  else (letM (sI m6 40 17 1) fun m19 =>
  bV (NI_conclude m19 0) fun v20 m21 =>
  some (v20, m21))
def OH_byNight (m : Mem) (x1 : Int32) (x2 : Int32) : Option (Int32 × Mem) :=
  bV (PT_take m) fun v1 m2 =>
  letM (sI m2 1 1 0) fun m4 =>
  if v1 = 0 then (some ((-2), m4))
  else (if (PH_hasLine m4 (gN m4 13) x1) = 0 then (some ((-2), m4))
  else (if x2 < 1 then (some ((-2), m4))
  else (if x2 ≤ 3 then (letM (sI m4 36 0 (gI m4 (gN m4 13) 10)) fun m7 =>
  letM (sI m7 36 1 (gI m7 (gN m7 13) 11)) fun m9 =>
  if inb x1 3 then (bV (NI_search m9 ((gN m9 13) + 2 + 3 * ixn x1) x2) fun v12 m13 =>
  some (v12, m13)) else none)
  else (some ((-2), m4)))))
def OH_ways (m : Mem) : Int32 :=
  (gI m 40 1)
def OH_way (m : Mem) (x1 : Int32) (x2 : Int32) : Option Int32 :=
  if x1 < 0 then (some (-1))
  else (if 1 < x1 then (some (-1))
  else (if (gI m 40 0) ≤ x1 then (some (-1))
  else (if x2 < 0 then (some (-1))
  else (if x2 ≤ 2 then (if inb ((x1 * 3) + x2) 6 then (some (gI m 41 (ixn ((x1 * 3) + x2)))) else none)
  else (some (-1))))))
def PT_fitRectangle_J102 (kr : Int32 → Option Int32) (kx : Option Int32) (m : Mem) (x1 : Int32) (x2 : Int32) (x3 : Int32) (x4 : Int32) (x5 : Int32) (x6 : Int32) (s0 : Int32) (s1 : Int32) : Option Int32 :=
  if s0 = s1 then (kr (x6 + 1))
  else (some 0)
def PT_fitRectangle_J82 (kr : Int32 → Option Int32) (kx : Option Int32) (m : Mem) (x1 : Int32) (x2 : Int32) (x3 : Int32) (x4 : Int32) (x5 : Int32) (x6 : Int32) (s0 : Int32) : Option Int32 :=
  if inb x6 8 then (if (gI m 39 (ixn x6)) = 1 then (PT_fitRectangle_J102 kr kx m x1 x2 x3 x4 x5 x6 s0 1)
  else (PT_fitRectangle_J102 kr kx m x1 x2 x3 x4 x5 x6 s0 0)) else none
def PT_fitRectangle_L11 (m : Mem) (x1 : Int32) (x2 : Int32) (x3 : Int32) (x4 : Int32) (x5 : Int32) (kx : Option Int32) : Nat → Int32 → Option Int32
  | 0, _ => none
  | n + 1, x6 =>
  if (gI m 36 2) ≤ x6 then (kx)
  else (if inb x6 8 then (if (gI m 37 (ixn x6)) < (x1 + x5) then (PT_fitRectangle_J82 (PT_fitRectangle_L11 m x1 x2 x3 x4 x5 kx n) (kx) m x1 x2 x3 x4 x5 x6 0)
  else (if (x3 - x5) < (gI m 37 (ixn x6)) then (PT_fitRectangle_J82 (PT_fitRectangle_L11 m x1 x2 x3 x4 x5 kx n) (kx) m x1 x2 x3 x4 x5 x6 0)
  else (if (gI m 38 (ixn x6)) < (x2 + x5) then (PT_fitRectangle_J82 (PT_fitRectangle_L11 m x1 x2 x3 x4 x5 kx n) (kx) m x1 x2 x3 x4 x5 x6 0)
  else (if (x4 - x5) < (gI m 38 (ixn x6)) then (PT_fitRectangle_J82 (PT_fitRectangle_L11 m x1 x2 x3 x4 x5 kx n) (kx) m x1 x2 x3 x4 x5 x6 0)
  else (PT_fitRectangle_J82 (PT_fitRectangle_L11 m x1 x2 x3 x4 x5 kx n) (kx) m x1 x2 x3 x4 x5 x6 1))))) else none)
def PT_fitRectangle (m : Mem) (x1 : Int32) (x2 : Int32) (x3 : Int32) (x4 : Int32) : Option Int32 :=
  letV ((1 - (gI m 36 1))) fun v1 =>
  PT_fitRectangle_L11 m x1 x2 x3 x4 v1 (some 1) FU 0
def OH_findRectangle_L44 (x1 : Int32) (x2 : Int32) (x3 : Int32) (x5 : Int32) (kx : Mem → Option (Int32 × Mem)) : Nat → Mem → Int32 → Option (Int32 × Mem)
  | 0, _, _ => none
  | n + 1, m, x6 =>
  if x5 < x6 then (kx m)
  else (bI (PT_fitRectangle m x2 x3 (x2 + x6) ((x3 + x1) - x6)) fun v1 =>
  if v1 = 0 then (OH_findRectangle_L44 x1 x2 x3 x5 kx n m (x6 + 1))
  else (if inb 0 4 then (letM (sI m 66 (ixn 0) x2) fun m4 =>
  if inb 1 4 then (letM (sI m4 66 (ixn 1) x3) fun m6 =>
  if inb 2 4 then (letM (sI m6 66 (ixn 2) (x2 + x6)) fun m8 =>
  if inb 3 4 then (letM (sI m8 66 (ixn 3) ((x3 + x1) - x6)) fun m10 =>
  some (1, m10)) else none) else none) else none) else none))
def OH_findRectangle_L10 (x1 : Int32) (x2 : Int32) (kx : Mem → Option (Int32 × Mem)) : Nat → Mem → Int32 → Option (Int32 × Mem)
  | 0, _, _ => none
  | n + 1, m, x3 =>
  if 20 ≤ x3 then (kx m)
  else (letV ((JM_max 1 ((x3 + x1) - 20))) fun v1 =>
  letV ((JM_min (x1 - 1) (20 - x2))) fun v2 =>
  OH_findRectangle_L44 x1 x2 x3 v2 (fun m3 => OH_findRectangle_L10 x1 x2 kx n m3 (x3 + 1)) FU m v1)
def OH_findRectangle_L2 (x1 : Int32) (kx : Mem → Option (Int32 × Mem)) : Nat → Mem → Int32 → Option (Int32 × Mem)
  | 0, _, _ => none
  | n + 1, m, x2 =>
  if 20 ≤ x2 then (kx m)
  else (OH_findRectangle_L10 x1 x2 (fun m1 => OH_findRectangle_L2 x1 kx n m1 (x2 + 1)) FU m 0)
def OH_findRectangle (m : Mem) (x1 : Int32) : Option (Int32 × Mem) :=
  OH_findRectangle_L2 x1 (fun m1 => some (0, m1)) FU m 0
def OH_rectangle_L43 (kx : Mem → Option (Int32 × Mem)) : Nat → Mem → Int32 → Option (Int32 × Mem)
  | 0, _, _ => none
  | n + 1, m, x2 =>
  if 40 < x2 then (kx m)
  else (bV (OH_findRectangle m x2) fun v1 m2 =>
  if v1 = 0 then (OH_rectangle_L43 kx n m2 (x2 + 1))
  else (some (x2, m2)))
def OH_rectangle (m : Mem) : Option (Int32 × Mem) :=
  bV (PT_take m) fun v1 m2 =>
  letM (sI m2 1 1 0) fun m4 =>
  if v1 = 0 then (some ((-2), m4))
  else (letM (sI m4 36 1 (gI m4 (gN m4 13) 11)) fun m6 =>
  OH_rectangle_L43 (fun m7 => some ((-1), m7)) FU m6 2)
def OH_side (m : Mem) (x1 : Int32) : Option Int32 :=
  if x1 < 0 then (some (-1))
  else (if 4 ≤ x1 then (some (-1))
  else (if inb x1 4 then (some (gI m 66 (ixn x1))) else none))
def PA_together_L4 (m : Mem) (x1 : Int32) (kx : Int32 → Option Int32) : Nat → Int32 → Int32 → Option Int32
  | 0, _, _ => none
  | n + 1, x2, x3 =>
  if (gI m 31 1) ≤ x3 then (kx x2)
  else (if inb x3 30 then (if (gI m 33 (ixn x3)) = x1 then (letV ((x2 + (gI m 34 (ixn x3)))) fun v2 =>
  PA_together_L4 m x1 kx n v2 (x3 + 1))
  else (PA_together_L4 m x1 kx n x2 (x3 + 1))) else none)
def PA_together (m : Mem) (x1 : Int32) : Option Int32 :=
  PA_together_L4 m x1 (fun y1 => some y1) FU 0 0
def PA_rowsToMend_J108 (kr : Mem → Int32 → Option (Int32 × Mem)) (kx : Mem → Option (Int32 × Mem)) (m : Mem) (x1 : Int32) (x2 : Int32) (x3 : Int32) (x4 : Int32) (s1 : Int32) : Option (Int32 × Mem) :=
  if inb s1 99 then (letM (sI m 35 (ixn s1) ((gI m 35 (ixn s1)) + 1)) fun m2 =>
  kr m2 (x4 + 1)) else none
def PA_rowsToMend_J75 (kr : Mem → Int32 → Option (Int32 × Mem)) (kx : Mem → Option (Int32 × Mem)) (m : Mem) (x1 : Int32) (x2 : Int32) (x3 : Int32) (x4 : Int32) (s0 : Int32) : Option (Int32 × Mem) :=
  if s0 = 0 then (if inb x4 30 then (PA_rowsToMend_J108 kr kx m x1 x2 x3 x4 (99 - (gI m 34 (ixn x4)))) else none)
  else (if inb x4 30 then (PA_rowsToMend_J108 kr kx m x1 x2 x3 x4 ((gI m 34 (ixn x4)) - 1)) else none)
def PA_rowsToMend_J67 (kr : Mem → Int32 → Option (Int32 × Mem)) (kx : Mem → Option (Int32 × Mem)) (m : Mem) (x1 : Int32) (x2 : Int32) (x3 : Int32) (x4 : Int32) (s0 : Int32) (s1 : Int32) : Option (Int32 × Mem) :=
  if s0 = s1 then (PA_rowsToMend_J75 kr kx m x1 x2 x3 x4 1)
  else (PA_rowsToMend_J75 kr kx m x1 x2 x3 x4 0)
def PA_rowsToMend_J58 (kr : Mem → Int32 → Option (Int32 × Mem)) (kx : Mem → Option (Int32 × Mem)) (m : Mem) (x1 : Int32) (x2 : Int32) (x3 : Int32) (x4 : Int32) (s0 : Int32) : Option (Int32 × Mem) :=
  if x3 ≤ 0 then (PA_rowsToMend_J67 kr kx m x1 x2 x3 x4 s0 0)
  else (PA_rowsToMend_J67 kr kx m x1 x2 x3 x4 s0 1)
def PA_rowsToMend_J42 (kr : Mem → Int32 → Option (Int32 × Mem)) (kx : Mem → Option (Int32 × Mem)) (m : Mem) (x1 : Int32) (x2 : Int32) (x3 : Int32) (x4 : Int32) : Option (Int32 × Mem) :=
  if inb x4 30 then (if (gI m 33 (ixn x4)) = x1 then (PA_rowsToMend_J58 kr kx m x1 x2 x3 x4 1)
  else (PA_rowsToMend_J58 kr kx m x1 x2 x3 x4 0)) else none
def PA_rowsToMend_L11 (x1 : Int32) (x2 : Int32) (x3 : Int32) (kx : Mem → Option (Int32 × Mem)) : Nat → Mem → Int32 → Option (Int32 × Mem)
  | 0, _, _ => none
  | n + 1, m, x4 =>
  if (gI m 31 1) ≤ x4 then (kx m)
  else (if inb x4 30 then (if (gI m 33 (ixn x4)) = x1 then (PA_rowsToMend_J42 (PA_rowsToMend_L11 x1 x2 x3 kx n) (kx) m x1 x2 x3 x4)
  else (if (gI m 33 (ixn x4)) = x2 then (PA_rowsToMend_J42 (PA_rowsToMend_L11 x1 x2 x3 kx n) (kx) m x1 x2 x3 x4)
  else (PA_rowsToMend_L11 x1 x2 x3 kx n m (x4 + 1)))) else none)
def PA_rowsToMend_L140 (x6 : Int32) (kx : Mem → Int32 → Int32 → Option (Int32 × Mem)) : Nat → Mem → Int32 → Int32 → Int32 → Option (Int32 × Mem)
  | 0, _, _, _, _ => none
  | n + 1, m, x4, x5, x7 =>
  if inb x6 99 then (if (gI m 35 (ixn x6)) ≤ x7 then (kx m x4 x5)
  else (if x4 ≤ 0 then (kx m x4 x5)
  else (letV ((x4 - x6)) fun v2 =>
  PA_rowsToMend_L140 x6 kx n m v2 (x5 + 1) (x7 + 1)))) else none
def PA_rowsToMend_L132 (kx : Mem → Int32 → Int32 → Option (Int32 × Mem)) : Nat → Mem → Int32 → Int32 → Int32 → Option (Int32 × Mem)
  | 0, _, _, _, _ => none
  | n + 1, m, x4, x5, x6 =>
  if x6 ≤ 0 then (kx m x4 x5)
  else (PA_rowsToMend_L140 x6 (fun m3 y1 y2 => PA_rowsToMend_L132 kx n m3 y1 y2 (x6 + (-1))) FU m x4 x5 0)
def PA_rowsToMend (m : Mem) (x1 : Int32) (x2 : Int32) (x3 : Int32) : Option (Int32 × Mem) :=
  bM (JA_fill m 35 0) fun m1 =>
  PA_rowsToMend_L11 x1 x2 x3 (fun m3 => letV ((JM_abs x3)) fun v4 =>
  PA_rowsToMend_L132 (fun m7 y5 y6 => if y5 ≤ 0 then (some (y6, m7))
  else (some ((-1), m7))) FU m3 v4 0 98) FU m1 0
def PA_reckon_J89 (m : Mem) (x1 : Int32) (x2 : Int32) (x5 : Int32) (s1 : Int32) (s2 : Int32) : Option (Int32 × Mem) :=
  if inb s1 4 then (letM (sI m 32 (ixn s1) s2) fun m2 =>
  if x5 = 0 then (if inb 3 4 then (letM (sI m2 32 (ixn 3) (-1)) fun m4 =>
  some ((gI m4 31 1), m4)) else none)
  else (if inb 3 4 then (letM (sI m2 32 (ixn 3) ((JM_abs x1) + (JM_abs x2))) fun m6 =>
  some ((gI m6 31 1), m6)) else none)) else none
def PA_reckon_J55 (m : Mem) (x1 : Int32) (x2 : Int32) (x3 : Int32) (x4 : Int32) (s0 : Int32) : Option (Int32 × Mem) :=
  if inb 0 4 then (letM (sI m 32 (ixn 0) x1) fun m2 =>
  if inb 1 4 then (letM (sI m2 32 (ixn 1) x2) fun m4 =>
  if s0 = 0 then (PA_reckon_J89 m4 x1 x2 s0 2 (-1))
  else (PA_reckon_J89 m4 x1 x2 s0 2 (x3 + x4))) else none) else none
def PA_reckon (m : Mem) : Option (Int32 × Mem) :=
  bI (PA_together m 1) fun v1 =>
  bI (PA_together m 3) fun v3 =>
  letV ((v1 - v3)) fun v5 =>
  bI (PA_together m 2) fun v6 =>
  bI (PA_together m 0) fun v8 =>
  letV ((v6 - v8)) fun v10 =>
  bV (PA_rowsToMend m 1 3 v5) fun v11 m12 =>
  bV (PA_rowsToMend m12 2 0 v10) fun v14 m15 =>
  if v11 < 0 then (PA_reckon_J55 m15 v5 v10 v11 v14 0)
  else (if v14 < 0 then (PA_reckon_J55 m15 v5 v10 v11 v14 0)
  else (PA_reckon_J55 m15 v5 v10 v11 v14 1))
def PA_followRow (m : Mem) : Option (Int32 × Mem) :=
  if (RD_isWord m 0 3) = 0 then (bV (RD_fail m 1) fun v17 m18 =>
  if v17 = 0 ∨ v17 = 1 then (some (v17, m18)) else none)
  else (if (gI m 31 1) < 30 then (if inb (gI m 31 1) 30 then (letM (sI m 33 (ixn (gI m 31 1)) (gI m 1 6)) fun m2 =>
  bV (RD_readNumber m2 1 99) fun v3 m4 =>
  if v3 = 0 then (some (0, m4))
  else (if inb (gI m4 31 1) 30 then (letM (sI m4 34 (ixn (gI m4 31 1)) (gI m4 1 7)) fun m7 =>
  letM (sI m7 31 1 ((gI m7 31 1) + 1)) fun m8 =>
  bV (RD_readSemicolon m8) fun v9 m10 =>
  if v9 = 0 ∨ v9 = 1 then (some (v9, m10)) else none) else none)) else none)
  else (bV (RD_fail m 4) fun v13 m14 =>
  if v13 = 0 ∨ v13 = 1 then (some (v13, m14)) else none))
def PA_follow_J44 (kr : Mem → Int32 → Option (Int32 × Mem)) (kx : Mem → Option (Int32 × Mem)) (m : Mem) : Option (Int32 × Mem) :=
  bV (PA_reckon m) fun v1 m2 =>
  some (v1, m2)
def PA_follow_L7 (kx : Mem → Option (Int32 × Mem)) : Nat → Mem → Int32 → Option (Int32 × Mem)
  | 0, _, _ => none
  | n + 1, m, x2 =>
  if 300 < x2 then (kx m)
  else (bV (RD_isAtEnd m) fun v1 m2 =>
  if v1 = 0 then (bV (PA_followRow m2) fun v4 m5 =>
  if v4 = 0 then (some ((-1), m5))
  else (PA_follow_L7 kx n m5 (x2 + 1)))
  else (bV (RD_closes m2) fun v7 m8 =>
  if v7 = 0 then (some ((-1), m8))
  else (if 2 ≤ (gI m8 31 1) then (PA_follow_J44 (PA_follow_L7 kx n) (kx) m8)
  else (bV (RD_fail m8 4) fun v10 m11 =>
  if v10 = 0 then (some ((-1), m11))
  else (PA_follow_J44 (PA_follow_L7 kx n) (kx) m11)))))
def PA_follow (m : Mem) : Option (Int32 × Mem) :=
  letM (sI m 31 1 0) fun m1 =>
  PA_follow_L7 (fun m2 => some ((-1), m2)) FU m1 0
def OH_paces (m : Mem) : Option (Int32 × Mem) :=
  bM (RD_begin m 300) fun m1 =>
  bV (PA_follow m1) fun v3 m4 =>
  bV (OH_closeText m4 v3) fun v6 m7 =>
  some (v6, m7)
def OH_paced (m : Mem) (x1 : Int32) : Option Int32 :=
  if x1 < 0 then (some (-1001))
  else (if 4 ≤ x1 then (some (-1001))
  else (if inb x1 4 then (some (gI m 32 (ixn x1))) else none))
def PH_copyFrom_L2 (x0 : Nat) (x1 : Nat) (kx : Mem → Option Mem) : Nat → Mem → Int32 → Option Mem
  | 0, _, _ => none
  | n + 1, m, x2 =>
  if 3 ≤ x2 then (kx m)
  else (if inb x2 3 then (bM (LN_copyFrom m (x0 + 2 + 3 * ixn x2) (x1 + 2 + 3 * ixn x2)) fun m2 =>
  PH_copyFrom_L2 x0 x1 kx n m2 (x2 + 1)) else none)
def PH_copyFrom (m : Mem) (x0 : Nat) (x1 : Nat) : Option Mem :=
  PH_copyFrom_L2 x0 x1 (fun m1 => letM (cpI m1 (x1 + 11) (ixn 0) (x0 + 11) (ixn 0) (ixn 10)) fun m2 =>
  letM (cpI m2 (x1 + 12) (ixn 0) (x0 + 12) (ixn 0) (ixn 10)) fun m3 =>
  letM (cpI m3 (x1 + 13) (ixn 0) (x0 + 13) (ixn 0) (ixn 10)) fun m4 =>
  letM (cpJ m4 (x1 + 14) (ixn 0) (x0 + 14) (ixn 0) (ixn 10)) fun m5 =>
  letM (cpI m5 (x1 + 15) (ixn 0) (x0 + 15) (ixn 0) (ixn 4)) fun m6 =>
  letM (sI m6 x0 6 (gI m6 x1 6)) fun m7 =>
  letM (sI m7 x0 7 (gI m7 x1 7)) fun m8 =>
  letM (sI m8 x0 8 (gI m8 x1 8)) fun m9 =>
  letM (sI m9 x0 9 (gI m9 x1 9)) fun m10 =>
  letM (sI m10 x0 10 (gI m10 x1 10)) fun m11 =>
  letM (sI m11 x0 11 (gI m11 x1 11)) fun m12 =>
  letM (sI m12 x0 12 (gI m12 x1 12)) fun m13 =>
  some m13) FU m 0
def OH_image (m : Mem) (x1 : Int32) : Option (Int32 × Mem) :=
  if x1 < 0 then (some (0, m))
  else (if x1 ≤ 1 then (if inb x1 2 then (bM (PH_copyFrom m (68 + 16 * ixn x1) (gN m 13)) fun m3 =>
  letM (sI m3 100 (ixn x1) ((1 : Int32) &&& 1)) fun m5 =>
  some (1, m5)) else none)
  else (some (0, m)))
def OH_restore (m : Mem) (x1 : Int32) : Option (Int32 × Mem) :=
  if x1 < 0 then (some (0, m))
  else (if 1 < x1 then (some (0, m))
  else (if inb x1 2 then (if (gI m 100 (ixn x1)) = 0 then (some (0, m))
  else (bM (PH_copyFrom m (gN m 13) (68 + 16 * ixn x1)) fun m3 =>
  bM (AC_forget m3) fun m5 =>
  some (1, m5))) else none))
def OH_count (m : Mem) (x1 : Int32) : Int32 :=
  if x1 = 0 then ((gI m (gN m 13) 6))
  else (if x1 = 1 then ((gI m (gN m 13) 7))
  else (if x1 = 2 then ((gI m (gN m 13) 8))
  else (if x1 = 3 then ((gI m (gN m 13) 9))
  else (if x1 = 4 then ((gI m (gN m 13) 10))
  else (if x1 = 5 then ((gI m (gN m 13) 11))
  else (if x1 = 6 then ((gI m (gN m 13) 12))
  else (if x1 = 7 then ((gI m 1 1))
  else ((-1)))))))))
def RM_thrown (m : Mem) : Int32 :=
  (gI m 133 0)
def RM_throwsIf (m : Mem) (x1 : Int32) : Option (Int32 × Mem) :=
  if x1 = 0 then (letM (sI m 133 0 0) fun m1 =>
  if x1 = 0 ∨ x1 = 1 then (some (x1, m1)) else none)
  else (letM (sI m 133 0 1) fun m3 =>
  if x1 = 0 ∨ x1 = 1 then (some (x1, m3)) else none)
def RM_four_L3 (x1 : Int32) (kx : Mem → Option Mem) : Nat → Mem → Int32 → Option Mem
  | 0, _, _ => none
  | n + 1, m, x2 =>
  if x2 < 0 then (kx m)
  else (if inb (gI m 133 2) 940 then (letM (sI m 134 (ixn (gI m 133 2)) (Int8.toInt32 (Int32.toInt8 (Int8.toInt32 (Int32.toInt8 (jshr x1 x2)))))) fun m2 =>
  letM (sI m2 133 2 ((gI m2 133 2) + 1)) fun m3 =>
  RM_four_L3 x1 kx n m3 (x2 + (-8))) else none)
def RM_four (m : Mem) (x1 : Int32) : Option Mem :=
  RM_four_L3 x1 (fun m1 => some m1) FU m 24
def RM_feed (m : Mem) (x1 : Int32) (x2 : Int32) (x3 : Int32) (x4 : Int32) (x5 : Int32) : Option (Int32 × Mem) :=
  letM (sI m 133 0 0) fun m1 =>
  if ((gI m1 133 2) + 20) ≤ 940 then (bM (RM_four m1 x1) fun m2 =>
  bM (RM_four m2 x2) fun m4 =>
  bM (RM_four m4 x3) fun m6 =>
  bM (RM_four m6 x4) fun m8 =>
  bM (RM_four m8 x5) fun m10 =>
  some ((gI m10 133 2), m10))
  else (some ((-1), m1))
def RM_end (m : Mem) (x1 : Int32) : Option (Int32 × Mem) :=
  letM (sI m 133 0 0) fun m1 =>
  if x1 < 0 then (some (0, m1))
  else (if x1 ≤ (gI m1 133 2) then (letM (sI m1 133 2 x1) fun m2 =>
  some (1, m2))
  else (some (0, m1)))
def RM_taken (m : Mem) (x1 : Int32) : Option Mem :=
  letM (sI m 133 3 (gI m 133 2)) fun m1 =>
  letM (sI m1 133 2 0) fun m2 =>
  letM (sI m2 133 4 0) fun m3 =>
  letM (sI m3 133 5 x1) fun m4 =>
  some m4
def RM_isIn (x0 : Int32) (x1 : Int32) (x2 : Int32) : Int32 :=
  if x0 < x1 then (0)
  else (if x2 < x0 then (0)
  else (1))
def RM_has (x0 : Int32) (x1 : Int32) : Int32 :=
  if ((jshr x0 x1) &&& 1) = 1 then (1)
  else (0)
def RM_octet (m : Mem) (x1 : Int32) : Option Int32 :=
  if inb x1 940 then (some ((gI m 134 (ixn x1)) &&& 255)) else none
def RM_plain_L2 (kx : Mem → Option Mem) : Nat → Mem → Int32 → Option Mem
  | 0, _, _ => none
  | n + 1, m, x1 =>
  if 116 ≤ x1 then (kx m)
  else (if inb x1 116 then (letM (sI m 136 (ixn x1) 0) fun m2 =>
  RM_plain_L2 kx n m2 (x1 + 1)) else none)
def RM_plain_L23 (kx : Mem → Option Mem) : Nat → Mem → Int32 → Option Mem
  | 0, _, _ => none
  | n + 1, m, x1 =>
  if 4 ≤ x1 then (kx m)
  else (if inb (7 + x1) 116 then (letM (sI m 136 (ixn (7 + x1)) x1) fun m2 =>
  RM_plain_L23 kx n m2 (x1 + 1)) else none)
def RM_plain (m : Mem) : Option Mem :=
  RM_plain_L2 (fun m1 => RM_plain_L23 (fun m2 => some m2) FU m1 0) FU m 0
def RM_peek (m : Mem) : Option Int32 :=
  if (gI m 133 3) ≤ (gI m 133 4) then (some (-1))
  else (if inb (gI m 133 4) 940 then (some ((gI m 134 (ixn (gI m 133 4))) &&& 255)) else none)
def RM_isSmall (x0 : Int32) : Int32 :=
  if x0 < 97 then (0)
  else (if 122 < x0 then (0)
  else (1))
def RM_isDigit (x0 : Int32) : Int32 :=
  if x0 < 48 then (0)
  else (if 57 < x0 then (0)
  else (1))
def RM_next_J18 (kr : Mem → Option Mem) (kx : Mem → Option Mem) (m : Mem) : Option Mem :=
  letM (sI m 133 4 ((gI m 133 4) + 1)) fun m1 =>
  kr m1
def RM_next_L0 (kx : Mem → Option Mem) : Nat → Mem → Option Mem
  | 0, _ => none
  | n + 1, m =>
  bI (RM_peek m) fun v1 =>
  if v1 = 32 then (RM_next_J18 (RM_next_L0 kx n) (kx) m)
  else (bI (RM_peek m) fun v3 =>
  if v3 = 10 then (RM_next_J18 (RM_next_L0 kx n) (kx) m)
  else (kx m))
def RM_next_J251 (kr : Mem → Int32 → Option Mem) (kx : Mem → Int32 → Option Mem) (m : Mem) (x2 : Int32) (x3 : Int32) : Option Mem :=
  letM (sI m 133 12 ((gI m 133 12) + 1)) fun m1 =>
  letM (sI m1 133 4 ((gI m1 133 4) + 1)) fun m2 =>
  kr m2 x3
def RM_next_J224 (kr : Mem → Int32 → Option Mem) (kx : Mem → Int32 → Option Mem) (m : Mem) (x2 : Int32) (x3 : Int32) : Option Mem :=
  if 2 ≤ (gI m 133 12) then (RM_next_J251 kr kx m x2 x3)
  else (bI (RM_peek m) fun v1 =>
  letM (sI m 133 13 (((10 * (gI m 133 13)) + v1) - 48)) fun m3 =>
  RM_next_J251 kr kx m3 x2 x3)
def RM_next_J197 (kr : Mem → Int32 → Option Mem) (kx : Mem → Int32 → Option Mem) (m : Mem) (x2 : Int32) (s0 : Int32) : Option Mem :=
  if 7 ≤ (gI m 133 12) then (RM_next_J224 kr kx m x2 s0)
  else (bI (RM_peek m) fun v1 =>
  letM (sJ m 133 16 ((jlshl (gJ m 133 16) 8) ||| (Int32.toInt64 v1))) fun m3 =>
  RM_next_J224 kr kx m3 x2 s0)
def RM_next_J177 (kr : Mem → Int32 → Option Mem) (kx : Mem → Int32 → Option Mem) (m : Mem) (x2 : Int32) (x3 : Int32) : Option Mem :=
  if x3 = 0 then (RM_next_J197 kr kx m x2 0)
  else (bI (RM_peek m) fun v1 =>
  if (RM_isSmall v1) = x2 then (RM_next_J197 kr kx m x2 1)
  else (RM_next_J197 kr kx m x2 0))
def RM_next_L157 (x2 : Int32) (kx : Mem → Int32 → Option Mem) : Nat → Mem → Int32 → Option Mem
  | 0, _, _ => none
  | n + 1, m, x3 =>
  bI (RM_peek m) fun v1 =>
  if (RM_isSmall v1) = 0 then (bI (RM_peek m) fun v3 =>
  if (RM_isDigit v3) = 0 then (kx m x3)
  else (RM_next_J177 (RM_next_L157 x2 kx n) (kx) m x2 x3))
  else (RM_next_J177 (RM_next_L157 x2 kx n) (kx) m x2 x3)
def RM_next_J293 (m : Mem) (x2 : Int32) (s1 : Int32) (s2 : Int32) : Option Mem :=
  if s1 ≤ s2 then (if x2 = 0 then (letM (sI m 133 10 2) fun m1 =>
  some m1)
  else (letM (sI m 133 10 1) fun m2 =>
  some m2))
  else (letM (sI m 133 10 4) fun m3 =>
  some m3)
def RM_next_J140 (m : Mem) (x1 : Int32) : Option Mem :=
  letV ((RM_isSmall x1)) fun v1 =>
  letM (sJ m 133 16 0) fun m2 =>
  letM (sI m2 133 13 0) fun m3 =>
  RM_next_L157 v1 (fun m5 y4 => if y4 = 0 then (letM (sI m5 133 10 4) fun m6 =>
  some m6)
  else (if v1 = 0 then (RM_next_J293 m5 v1 (gI m5 133 12) 2)
  else (RM_next_J293 m5 v1 (gI m5 133 12) 7))) FU m3 1
def RM_next_J121 (m : Mem) (x1 : Int32) (s1 : Int32) : Option Mem :=
  letM (sI m 133 10 s1) fun m1 =>
  letM (sI m1 133 13 x1) fun m2 =>
  letM (sI m2 133 4 ((gI m2 133 4) + 1)) fun m3 =>
  some m3
def RM_next_J80 (m : Mem) : Option Mem :=
  bI (RM_peek m) fun v1 =>
  if 0 ≤ v1 then (if (RM_isSmall v1) = 0 then (if (RM_isDigit v1) = 0 then (if v1 = 59 then (RM_next_J121 m v1 3)
  else (RM_next_J121 m v1 4))
  else (RM_next_J140 m v1))
  else (RM_next_J140 m v1))
  else (letM (sI m 133 10 0) fun m3 =>
  some m3)
def RM_next (m : Mem) : Option Mem :=
  RM_next_L0 (fun m1 => letM (sI m1 133 11 (gI m1 133 4)) fun m2 =>
  letM (sI m2 133 12 0) fun m3 =>
  if (gI m3 133 3) ≤ (gI m3 133 5) then (RM_next_J80 m3)
  else (if (gI m3 133 4) < (gI m3 133 5) then (RM_next_J80 m3)
  else (letM (sI m3 133 11 (gI m3 133 5)) fun m4 =>
  letM (sI m4 133 10 4) fun m5 =>
  some m5))) FU m
def RM_bad (m : Mem) (x1 : Int32) : Option (Int32 × Mem) :=
  letM (sI m 133 14 x1) fun m1 =>
  letM (sI m1 133 15 (gI m1 133 11)) fun m2 =>
  some (0, m2)
def RM_isWord (m : Mem) (x1 : Int64) : Int32 :=
  if (gI m 133 10) = 1 then (if (lg_cmp (gJ m 133 16) x1) = 0 then (1)
  else (0))
  else (0)
def RM_isSign (m : Mem) (x1 : Int32) : Int32 :=
  if (gI m 133 10) = 3 then (if (gI m 133 13) = x1 then (1)
  else (0))
  else (0)
def RM_sign (m : Mem) (x1 : Int32) : Option (Int32 × Mem) :=
  if (RM_isSign m x1) = 0 then (bV (RM_bad m 1) fun v3 m4 =>
  if v3 = 0 ∨ v3 = 1 then (some (v3, m4)) else none)
  else (bM (RM_next m) fun m1 =>
  some (1, m1))
def RM_isName_L16 (m : Mem) (kx : Int32 → Option Int32) : Nat → Int32 → Int32 → Option Int32
  | 0, _, _ => none
  | n + 1, x1, x2 =>
  if 17 ≤ x2 then (kx x1)
  else (if x1 = 0 then (RM_isName_L16 m kx n 0 (x2 + 1))
  else (if inb x2 17 then (if (lg_cmp (gJ m 133 16) (gJ m 138 (ixn x2))) = 0 then (RM_isName_L16 m kx n 0 (x2 + 1))
  else (RM_isName_L16 m kx n 1 (x2 + 1))) else none))
def RM_isName_J13 (m : Mem) (s0 : Int32) : Option Int32 :=
  RM_isName_L16 m (fun y1 => if y1 = 0 ∨ y1 = 1 then (some y1) else none) FU s0 0
def RM_isName (m : Mem) : Option Int32 :=
  if (gI m 133 10) = 1 then (RM_isName_J13 m 1)
  else (RM_isName_J13 m 0)
def RM_takes (m : Mem) (x1 : Int32) (x2 : Int32) : Option (Int32 × Mem) :=
  if (gI m 133 10) = 2 then (if (RM_isIn (gI m 133 13) x1 x2) = 0 then (bV (RM_bad m 2) fun v4 m5 =>
  if v4 = 0 ∨ v4 = 1 then (some (v4, m5)) else none)
  else (letM (sI m 133 17 (gI m 133 13)) fun m1 =>
  bM (RM_next m1) fun m2 =>
  some (1, m2)))
  else (bV (RM_bad m 1) fun v8 m9 =>
  if v8 = 0 ∨ v8 = 1 then (some (v8, m9)) else none)
def RM_find_L2 (m : Mem) (x1 : Int32) (x2 : Int32) (kx : Option Int32) : Nat → Int32 → Option Int32
  | 0, _ => none
  | n + 1, x3 =>
  if x2 ≤ x3 then (kx)
  else (if inb (x1 + x3) 26 then (if (lg_cmp (gJ m 137 (ixn (x1 + x3))) (gJ m 133 16)) = 0 then (some x3)
  else (RM_find_L2 m x1 x2 kx n (x3 + 1))) else none)
def RM_find (m : Mem) (x1 : Int32) (x2 : Int32) : Option Int32 :=
  RM_find_L2 m x1 x2 (some (-1)) FU 0
def RM_fresh_J43 (m : Mem) : Option (Int32 × Mem) :=
  bV (RM_bad m 3) fun v1 m2 =>
  if v1 = 0 ∨ v1 = 1 then (some (v1, m2)) else none
def RM_fresh (m : Mem) (x1 : Int32) : Option (Int32 × Mem) :=
  bI (RM_isName m) fun v1 =>
  if v1 = 0 then (bV (RM_bad m 1) fun v13 m14 =>
  if v13 = 0 ∨ v13 = 1 then (some (v13, m14)) else none)
  else (if inb 0 116 then (bI (RM_find m 13 (gI m 136 (ixn 0))) fun v4 =>
  if 0 ≤ v4 then (RM_fresh_J43 m)
  else (if inb 1 116 then (bI (RM_find m 16 (gI m 136 (ixn 1))) fun v7 =>
  if v7 < 0 then (if inb x1 26 then (letM (sJ m 137 (ixn x1) (gJ m 133 16)) fun m10 =>
  bM (RM_next m10) fun m11 =>
  some (1, m11)) else none)
  else (RM_fresh_J43 m)) else none)) else none)
def RM_isOnce (m : Mem) (x1 : Int32) : Option (Int32 × Mem) :=
  if (RM_has (gI m 133 19) x1) = 0 then (letM (sI m 133 19 ((gI m 133 19) ||| (jshl 1 x1))) fun m1 =>
  bM (RM_next m1) fun m2 =>
  some (1, m2))
  else (bV (RM_bad m 3) fun v4 m5 =>
  if v4 = 0 ∨ v4 = 1 then (some (v4, m5)) else none)
def RM_readLine_J180 (kr : Mem → Int32 → Option (Int32 × Mem)) (kx : Mem → Int32 → Option (Int32 × Mem)) (m : Mem) (x1 : Int32) (x2 : Int32) (x3 : Int32) (x4 : Int32) : Option (Int32 × Mem) :=
  if inb (x3 + (2 * x2)) 116 then (letM (sI m 136 (ixn (x3 + (2 * x2))) x4) fun m2 =>
  if inb ((x3 + (2 * x2)) + 1) 116 then (letM (sI m2 136 (ixn ((x3 + (2 * x2)) + 1)) (gI m2 133 13)) fun m4 =>
  bM (RM_next m4) fun m5 =>
  kr m5 (x2 + 1)) else none) else none
def RM_readLine_L45 (x1 : Int32) (x3 : Int32) (kx : Mem → Int32 → Option (Int32 × Mem)) : Nat → Mem → Int32 → Option (Int32 × Mem)
  | 0, _, _ => none
  | n + 1, m, x2 =>
  if (RM_isSign m 59) = 0 then (if (gI m 133 10) = 2 then (if (gI m 133 13) ≤ 20 then (if x2 = 12 then (bV (RM_bad m 4) fun v18 m19 =>
  if v18 = 0 ∨ v18 = 1 then (some (v18, m19)) else none)
  else (letV ((gI m 133 13)) fun v1 =>
  bM (RM_next m) fun m2 =>
  if (gI m2 133 10) = 2 then (if (gI m2 133 13) ≤ 20 then (if x2 ≤ 0 then (RM_readLine_J180 (RM_readLine_L45 x1 x3 kx n) (kx) m2 x1 x2 x3 v1)
  else (if inb ((x3 + (2 * x2)) - 2) 116 then (if (gI m2 136 (ixn ((x3 + (2 * x2)) - 2))) = v1 then (if inb ((x3 + (2 * x2)) - 1) 116 then (if (gI m2 136 (ixn ((x3 + (2 * x2)) - 1))) = (gI m2 133 13) then (bV (RM_bad m2 3) fun v6 m7 =>
  if v6 = 0 ∨ v6 = 1 then (some (v6, m7)) else none)
  else (RM_readLine_J180 (RM_readLine_L45 x1 x3 kx n) (kx) m2 x1 x2 x3 v1)) else none)
  else (RM_readLine_J180 (RM_readLine_L45 x1 x3 kx n) (kx) m2 x1 x2 x3 v1)) else none))
  else (bV (RM_bad m2 2) fun v10 m11 =>
  if v10 = 0 ∨ v10 = 1 then (some (v10, m11)) else none))
  else (bV (RM_bad m2 1) fun v14 m15 =>
  if v14 = 0 ∨ v14 = 1 then (some (v14, m15)) else none)))
  else (bV (RM_bad m 2) fun v22 m23 =>
  if v22 = 0 ∨ v22 = 1 then (some (v22, m23)) else none))
  else (bV (RM_bad m 1) fun v26 m27 =>
  if v26 = 0 ∨ v26 = 1 then (some (v26, m27)) else none))
  else (kx m x2)
def RM_readLine_J287 (m : Mem) (x1 : Int32) (x2 : Int32) : Option (Int32 × Mem) :=
  if inb (11 + x1) 116 then (letM (sI m 136 (ixn (11 + x1)) x2) fun m2 =>
  if inb 0 116 then (letM (sI m2 136 (ixn 0) ((gI m2 136 (ixn 0)) + 1)) fun m4 =>
  some (1, m4)) else none) else none
def RM_readLine_J233 (m : Mem) (s1 : Int32) : Option (Int32 × Mem) :=
  bV (RM_bad m s1) fun v1 m2 =>
  if v1 = 0 ∨ v1 = 1 then (some (v1, m2)) else none
def RM_readLine (m : Mem) : Option (Int32 × Mem) :=
  if inb 0 116 then (letV ((gI m 136 (ixn 0))) fun v2 =>
  if v2 = 3 then (bV (RM_bad m 4) fun v19 m20 =>
  if v19 = 0 ∨ v19 = 1 then (some (v19, m20)) else none)
  else (bM (RM_next m) fun m3 =>
  bV (RM_fresh m3 (13 + v2)) fun v5 m6 =>
  if v5 = 0 then (some (0, m6))
  else (letV ((14 + (24 * v2))) fun v8 =>
  RM_readLine_L45 v2 v8 (fun m10 y9 => if 3 ≤ y9 then (if inb v8 116 then (if inb ((v8 + (2 * y9)) - 2) 116 then (if (gI m10 136 (ixn v8)) = (gI m10 136 (ixn ((v8 + (2 * y9)) - 2))) then (if inb (v8 + 1) 116 then (if inb ((v8 + (2 * y9)) - 1) 116 then (if (gI m10 136 (ixn (v8 + 1))) = (gI m10 136 (ixn ((v8 + (2 * y9)) - 1))) then (bV (RM_bad m10 3) fun v15 m16 =>
  if v15 = 0 ∨ v15 = 1 then (some (v15, m16)) else none)
  else (RM_readLine_J287 m10 v2 y9)) else none) else none)
  else (RM_readLine_J287 m10 v2 y9)) else none) else none)
  else (if y9 = 0 then (RM_readLine_J233 m10 1)
  else (RM_readLine_J233 m10 4))) FU m6 0))) else none
def RM_row_L372 (kx : Mem → Option (Int32 × Mem)) : Nat → Mem → Int32 → Option (Int32 × Mem)
  | 0, _, _ => none
  | n + 1, m, x1 =>
  if 4 ≤ x1 then (kx m)
  else (bV (RM_takes m 0 9) fun v1 m2 =>
  if v1 = 0 then (some (0, m2))
  else (if inb (7 + x1) 116 then (letM (sI m2 136 (ixn (7 + x1)) (gI m2 133 17)) fun m5 =>
  RM_row_L372 kx n m5 (x1 + 1)) else none))
def RM_row_J337 (m : Mem) (s1 : Int32) (s2 : Int32) : Option (Int32 × Mem) :=
  if inb s1 116 then (letM (sI m 136 (ixn s1) s2) fun m2 =>
  bM (RM_next m2) fun m3 =>
  some (1, m3)) else none
def RM_row_J317 (m : Mem) : Option (Int32 × Mem) :=
  if (RM_isWord m 6842739) = 0 then (RM_row_J337 m 5 0)
  else (RM_row_J337 m 5 1)
def RM_row_J247 (m : Mem) (s0 : Int32) : Option (Int32 × Mem) :=
  if 0 ≤ s0 then (if inb 4 116 then (letM (sI m 136 (ixn 4) s0) fun m2 =>
  bM (RM_next m2) fun m3 =>
  some (1, m3)) else none)
  else (bV (RM_bad m 1) fun v5 m6 =>
  if v5 = 0 ∨ v5 = 1 then (some (v5, m6)) else none)
def RM_row_L147 (kx : Mem → Option (Int32 × Mem)) : Nat → Mem → Int32 → Option (Int32 × Mem)
  | 0, _, _ => none
  | n + 1, m, x1 =>
  if 2 ≤ x1 then (kx m)
  else (bV (RM_takes m 0 19) fun v1 m2 =>
  if v1 = 0 then (some (0, m2))
  else (if inb (2 + x1) 116 then (letM (sI m2 136 (ixn (2 + x1)) (gI m2 133 17)) fun m5 =>
  RM_row_L147 kx n m5 (x1 + 1)) else none))
def RM_row_J82 (kr : Mem → Int32 → Option (Int32 × Mem)) (kx : Mem → Option (Int32 × Mem)) (m : Mem) (x1 : Int32) (x2 : Int32) (s1 : Int32) (s2 : Int32) : Option (Int32 × Mem) :=
  bV (RM_takes m s1 s2) fun v1 m2 =>
  if v1 = 0 then (some (0, m2))
  else (if inb ((86 + (3 * x1)) + x2) 116 then (letM (sI m2 136 (ixn ((86 + (3 * x1)) + x2)) (gI m2 133 17)) fun m5 =>
  kr m5 (x2 + 1)) else none)
def RM_row_L63 (x1 : Int32) (kx : Mem → Option (Int32 × Mem)) : Nat → Mem → Int32 → Option (Int32 × Mem)
  | 0, _, _ => none
  | n + 1, m, x2 =>
  if 3 ≤ x2 then (kx m)
  else (if 2 ≤ x2 then (RM_row_J82 (RM_row_L63 x1 kx n) (kx) m x1 x2 0 99)
  else (RM_row_J82 (RM_row_L63 x1 kx n) (kx) m x1 x2 0 19))
def RM_row (m : Mem) : Option (Int32 × Mem) :=
  if (RM_isWord m 1818848869) = 0 then (if (RM_isWord m 6840697) = 0 then (if (RM_isWord m 109300298179432) = 0 then (if (RM_isWord m 7102839) = 0 then (if (RM_isWord m 1701078885) = 0 then (if (RM_isWord m 448378008179) = 0 then (bV (RM_bad m 1) fun v5 m6 =>
  if v5 = 0 ∨ v5 = 1 then (some (v5, m6)) else none)
  else (bV (RM_isOnce m 3) fun v1 m2 =>
  if v1 = 0 then (some (0, m2))
  else (RM_row_L372 (fun m4 => some (1, m4)) FU m2 0)))
  else (bV (RM_isOnce m 2) fun v9 m10 =>
  if v9 = 0 then (some (0, m10))
  else (if (RM_isWord m10 6842739) = 0 then (if (RM_isWord m10 123563833652072) = 0 then (bV (RM_bad m10 1) fun v12 m13 =>
  if v12 = 0 ∨ v12 = 1 then (some (v12, m13)) else none)
  else (RM_row_J317 m10))
  else (RM_row_J317 m10))))
  else (bV (RM_isOnce m 1) fun v16 m17 =>
  if v16 = 0 then (some (0, m17))
  else (if (RM_isWord m17 7300196) = 0 then (if (RM_isWord m17 491496238692) = 0 then (if (RM_isWord m17 1818584692) = 0 then (RM_row_J247 m17 (-1))
  else (RM_row_J247 m17 2))
  else (RM_row_J247 m17 1))
  else (RM_row_J247 m17 0))))
  else (bV (RM_isOnce m 0) fun v19 m20 =>
  if v19 = 0 then (some (0, m20))
  else (RM_row_L147 (fun m22 => some (1, m22)) FU m20 0)))
  else (if inb 1 116 then (letV ((gI m 136 (ixn 1))) fun v24 =>
  if v24 = 10 then (bV (RM_bad m 4) fun v33 m34 =>
  if v33 = 0 ∨ v33 = 1 then (some (v33, m34)) else none)
  else (bM (RM_next m) fun m25 =>
  bV (RM_fresh m25 (16 + v24)) fun v27 m28 =>
  if v27 = 0 then (some (0, m28))
  else (RM_row_L63 v24 (fun m30 => if inb 1 116 then (letM (sI m30 136 (ixn 1) ((gI m30 136 (ixn 1)) + 1)) fun m32 =>
  some (1, m32)) else none) FU m28 0))) else none))
  else (bV (RM_readLine m) fun v37 m38 =>
  if v37 = 0 ∨ v37 = 1 then (some (v37, m38)) else none)
def RM_parish_L35 (kx : Mem → Option (Int32 × Mem)) : Nat → Mem → Option (Int32 × Mem)
  | 0, _ => none
  | n + 1, m =>
  if (gI m 133 10) = 0 then (kx m)
  else (bV (RM_row m) fun v1 m2 =>
  if v1 = 0 then (some (((-1) - (gI m2 133 15)), m2))
  else (bV (RM_sign m2 59) fun v4 m5 =>
  if v4 = 0 then (some (((-1) - (gI m5 133 15)), m5))
  else (letM (sI m5 133 18 ((gI m5 133 18) + 1)) fun m7 =>
  RM_parish_L35 kx n m7)))
def RM_parish_L80 (kx : Mem → Option (Int32 × Mem)) : Nat → Mem → Int32 → Option (Int32 × Mem)
  | 0, _, _ => none
  | n + 1, m, x1 =>
  if 116 ≤ x1 then (kx m)
  else (if inb x1 116 then (letM (sI m 135 (ixn x1) (gI m 136 (ixn x1))) fun m2 =>
  RM_parish_L80 kx n m2 (x1 + 1)) else none)
def RM_parish_L106 (kx : Mem → Option (Int32 × Mem)) : Nat → Mem → Int32 → Option (Int32 × Mem)
  | 0, _, _ => none
  | n + 1, m, x1 =>
  if 13 ≤ x1 then (kx m)
  else (if inb (13 + x1) 26 then (if inb x1 26 then (letM (sJ m 137 (ixn x1) (gJ m 137 (ixn (13 + x1)))) fun m3 =>
  RM_parish_L106 kx n m3 (x1 + 1)) else none) else none)
def RM_parish (m : Mem) : Option (Int32 × Mem) :=
  letM (sI m 133 0 0) fun m1 =>
  bM (RM_taken m1 900) fun m2 =>
  letM (sI m2 133 14 0) fun m4 =>
  letM (sI m4 133 18 0) fun m5 =>
  letM (sI m5 133 19 0) fun m6 =>
  bM (RM_plain m6) fun m7 =>
  bM (RM_next m7) fun m9 =>
  RM_parish_L35 (fun m11 => RM_parish_L80 (fun m12 => RM_parish_L106 (fun m13 => letM (sI m13 133 40 0) fun m14 =>
  some ((gI m14 133 18), m14)) FU m12 0) FU m11 0) FU m9
def RM_fault (m : Mem) : Option (Int32 × Mem) :=
  letM (sI m 133 0 0) fun m1 =>
  some ((gI m1 133 14), m1)
def RM_isLine (m : Mem) (x1 : Int32) : Option Int32 :=
  if inb 0 116 then (if (RM_isIn x1 0 ((gI m 135 (ixn 0)) - 1)) = 0 ∨ (RM_isIn x1 0 ((gI m 135 (ixn 0)) - 1)) = 1 then (some (RM_isIn x1 0 ((gI m 135 (ixn 0)) - 1))) else none) else none
def RM_isHay (m : Mem) (x1 : Int32) : Option Int32 :=
  if inb 1 116 then (if (RM_isIn x1 0 ((gI m 135 (ixn 1)) - 1)) = 0 ∨ (RM_isIn x1 0 ((gI m 135 (ixn 1)) - 1)) = 1 then (some (RM_isIn x1 0 ((gI m 135 (ixn 1)) - 1))) else none) else none
def RM_isCorner (m : Mem) (x1 : Int32) (x2 : Int32) : Option Int32 :=
  bI (RM_isLine m x1) fun v1 =>
  if v1 = 0 then (some 0)
  else (if inb (11 + x1) 116 then (if (RM_isIn x2 0 ((gI m 135 (ixn (11 + x1))) - 1)) = 0 then (some 0)
  else (some 1)) else none)
def RM_isSquare (x0 : Int32) (x1 : Int32) : Int32 :=
  if (RM_isIn x0 0 19) = 0 then (0)
  else (if (RM_isIn x1 0 19) = 0 then (0)
  else (1))
def RM_isPoint (x0 : Int32) (x1 : Int32) : Int32 :=
  if (RM_isIn x0 0 20) = 0 then (0)
  else (if (RM_isIn x1 0 20) = 0 then (0)
  else (1))
def RM_closes (m : Mem) : Option Mem :=
  if inb 0 13 then (if inb (gI m 133 22) 13 then (letM (sI m 139 (ixn (gI m 133 22)) (gI m 139 (ixn 0))) fun m3 =>
  if inb (gI m3 133 22) 13 then (letM (sI m3 140 (ixn (gI m3 133 22)) (gI m3 140 (ixn 0))) fun m5 =>
  some m5) else none) else none) else none
def RM_looks_L15 (x1 : Int32) (kx : Mem → Option Mem) : Nat → Mem → Int32 → Option Mem
  | 0, _, _ => none
  | n + 1, m, x2 =>
  if (gI m 133 22) ≤ x2 then (kx m)
  else (if inb ((14 + (24 * x1)) + (2 * x2)) 116 then (if inb x2 13 then (letM (sI m 139 (ixn x2) (2 * (gI m 135 (ixn ((14 + (24 * x1)) + (2 * x2)))))) fun m3 =>
  if inb (((14 + (24 * x1)) + (2 * x2)) + 1) 116 then (letM (sI m3 140 (ixn x2) (2 * (gI m3 135 (ixn (((14 + (24 * x1)) + (2 * x2)) + 1))))) fun m5 =>
  RM_looks_L15 x1 kx n m5 (x2 + 1)) else none) else none) else none)
def RM_looks (m : Mem) (x1 : Int32) : Option Mem :=
  if inb (11 + x1) 116 then (letM (sI m 133 22 (gI m 135 (ixn (11 + x1)))) fun m2 =>
  RM_looks_L15 x1 (fun m3 => bM (RM_closes m3) fun m4 =>
  some m4) FU m2 0) else none
def RM_turn (x0 : Int32) (x1 : Int32) (x2 : Int32) (x3 : Int32) (x4 : Int32) (x5 : Int32) : Int32 :=
  (((x2 - x0) * (x5 - x1)) - ((x3 - x1) * (x4 - x0)))
def RM_isBetween (x0 : Int32) (x1 : Int32) (x2 : Int32) : Option Int32 :=
  if x2 ≤ x1 then (if (RM_isIn x0 x2 x1) = 0 ∨ (RM_isIn x0 x2 x1) = 1 then (some (RM_isIn x0 x2 x1)) else none)
  else (if (RM_isIn x0 x1 x2) = 0 ∨ (RM_isIn x0 x1 x2) = 1 then (some (RM_isIn x0 x1 x2)) else none)
def RM_isOnEdge (m : Mem) (x1 : Int32) (x2 : Int32) (x3 : Int32) : Option Int32 :=
  if inb x1 13 then (if inb (x1 + 1) 13 then (if (RM_turn (gI m 139 (ixn x1)) (gI m 140 (ixn x1)) (gI m 139 (ixn (x1 + 1))) (gI m 140 (ixn (x1 + 1))) x2 x3) = 0 then (bI (RM_isBetween x2 (gI m 139 (ixn x1)) (gI m 139 (ixn (x1 + 1)))) fun v3 =>
  if v3 = 0 then (some 0)
  else (bI (RM_isBetween x3 (gI m 140 (ixn x1)) (gI m 140 (ixn (x1 + 1)))) fun v5 =>
  if v5 = 0 then (some 0)
  else (some 1)))
  else (some 0)) else none) else none
def RM_isOnLine_L2 (m : Mem) (x1 : Int32) (x2 : Int32) (kx : Option Int32) : Nat → Int32 → Option Int32
  | 0, _ => none
  | n + 1, x3 =>
  if (gI m 133 22) ≤ x3 then (kx)
  else (bI (RM_isOnEdge m x3 x1 x2) fun v1 =>
  if v1 = 0 then (RM_isOnLine_L2 m x1 x2 kx n (x3 + 1))
  else (some 1))
def RM_isOnLine (m : Mem) (x1 : Int32) (x2 : Int32) : Option Int32 :=
  RM_isOnLine_L2 m x1 x2 (some 0) FU 0
def RM_rounds_J143 (kr : Mem → Int32 → Option Mem) (kx : Mem → Option Mem) (m : Mem) (x1 : Int32) (x2 : Int32) (x3 : Int32) (x5 : Int32) (x6 : Int32) : Option Mem :=
  if x5 = 0 then (kr m (x3 + 1))
  else (if 0 ≤ x6 then (kr m (x3 + 1))
  else (letM (sI m 133 23 ((gI m 133 23) + 1)) fun m1 =>
  letM (sI m1 133 24 ((gI m1 133 24) - 1)) fun m2 =>
  kr m2 (x3 + 1)))
def RM_rounds_J76 (kr : Mem → Int32 → Option Mem) (kx : Mem → Option Mem) (m : Mem) (x1 : Int32) (x2 : Int32) (x3 : Int32) (x4 : Int32) (s0 : Int32) : Option Mem :=
  if inb x3 13 then (if inb (x3 + 1) 13 then (letV ((RM_turn (gI m 139 (ixn x3)) (gI m 140 (ixn x3)) (gI m 139 (ixn (x3 + 1))) (gI m 140 (ixn (x3 + 1))) x1 x2)) fun v3 =>
  if x4 = 0 then (RM_rounds_J143 kr kx m x1 x2 x3 s0 v3)
  else (if v3 ≤ 0 then (RM_rounds_J143 kr kx m x1 x2 x3 s0 v3)
  else (letM (sI m 133 23 ((gI m 133 23) + 1)) fun m4 =>
  letM (sI m4 133 24 ((gI m4 133 24) + 1)) fun m5 =>
  RM_rounds_J143 kr kx m5 x1 x2 x3 s0 v3))) else none) else none
def RM_rounds_J47 (kr : Mem → Int32 → Option Mem) (kx : Mem → Option Mem) (m : Mem) (x1 : Int32) (x2 : Int32) (x3 : Int32) (s0 : Int32) : Option Mem :=
  if inb (x3 + 1) 13 then (if x2 < (gI m 140 (ixn (x3 + 1))) then (RM_rounds_J76 kr kx m x1 x2 x3 s0 0)
  else (if inb x3 13 then (if (gI m 140 (ixn x3)) ≤ x2 then (RM_rounds_J76 kr kx m x1 x2 x3 s0 0)
  else (RM_rounds_J76 kr kx m x1 x2 x3 s0 1)) else none)) else none
def RM_rounds_L12 (x1 : Int32) (x2 : Int32) (kx : Mem → Option Mem) : Nat → Mem → Int32 → Option Mem
  | 0, _, _ => none
  | n + 1, m, x3 =>
  if (gI m 133 22) ≤ x3 then (kx m)
  else (if inb x3 13 then (if x2 < (gI m 140 (ixn x3)) then (RM_rounds_J47 (RM_rounds_L12 x1 x2 kx n) (kx) m x1 x2 x3 0)
  else (if inb (x3 + 1) 13 then (if (gI m 140 (ixn (x3 + 1))) ≤ x2 then (RM_rounds_J47 (RM_rounds_L12 x1 x2 kx n) (kx) m x1 x2 x3 0)
  else (RM_rounds_J47 (RM_rounds_L12 x1 x2 kx n) (kx) m x1 x2 x3 1)) else none)) else none)
def RM_rounds (m : Mem) (x1 : Int32) (x2 : Int32) : Option Mem :=
  letM (sI m 133 23 0) fun m1 =>
  letM (sI m1 133 24 0) fun m2 =>
  RM_rounds_L12 x1 x2 (fun m3 => some m3) FU m2 0
def RM_isHis (m : Mem) (x1 : Int32) (x2 : Int32) : Option (Int32 × Mem) :=
  bI (RM_isOnLine m x1 x2) fun v1 =>
  if v1 = 0 then (bM (RM_rounds m x1 x2) fun m3 =>
  if inb 4 116 then (if (gI m3 135 (ixn 4)) = 0 then (if (irm (gI m3 133 23) 2) = 1 then (some (1, m3))
  else (some (0, m3)))
  else (if (gI m3 135 (ixn 4)) = 1 then (if (gI m3 133 24) = 0 then (some (0, m3))
  else (some (1, m3)))
  else (if (gI m3 133 24) ≤ 0 then (some (0, m3))
  else (some (1, m3))))) else none)
  else (if inb 5 116 then (if (gI m 135 (ixn 5)) = 1 then (some (1, m))
  else (some (0, m))) else none)
def RM_corner_J24 (m : Mem) (x1 : Int32) (x2 : Int32) (x3 : Int32) (s1 : Int32) : Option (Int32 × Mem) :=
  bV (RM_throwsIf m s1) fun v1 m2 =>
  if v1 = 0 then (if 2 ≤ x3 then (bM (RM_looks m2 x1) fun m4 =>
  if ¬ (gI m4 133 22) = 0 then (letV ((irm ((x2 + (gI m4 133 22)) - 1) (gI m4 133 22))) fun v7 =>
  if inb v7 13 then (if inb x2 13 then (if inb (x2 + 1) 13 then (letV ((RM_turn (gI m4 139 (ixn v7)) (gI m4 140 (ixn v7)) (gI m4 139 (ixn x2)) (gI m4 140 (ixn x2)) (gI m4 139 (ixn (x2 + 1))) (gI m4 140 (ixn (x2 + 1))))) fun v11 =>
  if v11 ≤ 0 then (if 0 ≤ v11 then (some (0, m4))
  else (some ((-1), m4)))
  else (some (1, m4))) else none) else none) else none) else none)
  else (if inb (((14 + (24 * x1)) + (2 * x2)) + x3) 116 then (some ((gI m2 135 (ixn (((14 + (24 * x1)) + (2 * x2)) + x3))), m2)) else none))
  else (some (0, m2))
def RM_corner (m : Mem) (x1 : Int32) (x2 : Int32) (x3 : Int32) : Option (Int32 × Mem) :=
  bI (RM_isCorner m x1 x2) fun v1 =>
  if v1 = 0 then (RM_corner_J24 m x1 x2 x3 1)
  else (if (RM_isIn x3 0 2) = 0 then (RM_corner_J24 m x1 x2 x3 1)
  else (RM_corner_J24 m x1 x2 x3 0))
def RM_hay_J23 (m : Mem) (x1 : Int32) (x2 : Int32) (s1 : Int32) : Option (Int32 × Mem) :=
  bV (RM_throwsIf m s1) fun v1 m2 =>
  if v1 = 0 then (if inb ((86 + (3 * x1)) + x2) 116 then (some ((gI m2 135 (ixn ((86 + (3 * x1)) + x2))), m2)) else none)
  else (some (0, m2))
def RM_hay (m : Mem) (x1 : Int32) (x2 : Int32) : Option (Int32 × Mem) :=
  bI (RM_isHay m x1) fun v1 =>
  if v1 = 0 then (RM_hay_J23 m x1 x2 1)
  else (if (RM_isIn x2 0 2) = 0 then (RM_hay_J23 m x1 x2 1)
  else (RM_hay_J23 m x1 x2 0))
def RM_areUnlike_J8 (x0 : Int32) (x1 : Int32) : Int32 :=
  if 0 ≤ x0 then (0)
  else (if x1 ≤ 0 then (0)
  else (1))
def RM_areUnlike (x0 : Int32) (x1 : Int32) : Int32 :=
  if x0 ≤ 0 then (RM_areUnlike_J8 x0 x1)
  else (if x1 < 0 then (1)
  else (RM_areUnlike_J8 x0 x1))
def RM_areCrossed (m : Mem) (x1 : Int32) (x2 : Int32) : Option Int32 :=
  if inb x1 13 then (if inb (x1 + 1) 13 then (if inb x2 13 then (if inb (x2 + 1) 13 then (if (RM_areUnlike (RM_turn (gI m 139 (ixn x1)) (gI m 140 (ixn x1)) (gI m 139 (ixn (x1 + 1))) (gI m 140 (ixn (x1 + 1))) (gI m 139 (ixn x2)) (gI m 140 (ixn x2))) (RM_turn (gI m 139 (ixn x1)) (gI m 140 (ixn x1)) (gI m 139 (ixn (x1 + 1))) (gI m 140 (ixn (x1 + 1))) (gI m 139 (ixn (x2 + 1))) (gI m 140 (ixn (x2 + 1))))) = 0 then (some 0)
  else (if (RM_areUnlike (RM_turn (gI m 139 (ixn x2)) (gI m 140 (ixn x2)) (gI m 139 (ixn (x2 + 1))) (gI m 140 (ixn (x2 + 1))) (gI m 139 (ixn x1)) (gI m 140 (ixn x1))) (RM_turn (gI m 139 (ixn x2)) (gI m 140 (ixn x2)) (gI m 139 (ixn (x2 + 1))) (gI m 140 (ixn (x2 + 1))) (gI m 139 (ixn (x1 + 1))) (gI m 140 (ixn (x1 + 1))))) = 0 then (some 0)
  else (some 1))) else none) else none) else none) else none
def RM_areMet (m : Mem) (x1 : Int32) (x2 : Int32) : Option Int32 :=
  if inb x2 13 then (bI (RM_isOnEdge m x1 (gI m 139 (ixn x2)) (gI m 140 (ixn x2))) fun v2 =>
  if v2 = 0 then (if inb (x2 + 1) 13 then (bI (RM_isOnEdge m x1 (gI m 139 (ixn (x2 + 1))) (gI m 140 (ixn (x2 + 1)))) fun v5 =>
  if v5 = 0 then (if inb x1 13 then (bI (RM_isOnEdge m x2 (gI m 139 (ixn x1)) (gI m 140 (ixn x1))) fun v8 =>
  if v8 = 0 then (if inb (x1 + 1) 13 then (bI (RM_isOnEdge m x2 (gI m 139 (ixn (x1 + 1))) (gI m 140 (ixn (x1 + 1)))) fun v11 =>
  if v11 = 0 then (some 0)
  else (some 1)) else none)
  else (some 1)) else none)
  else (some 1)) else none)
  else (some 1)) else none
def RM_line_L99 (x2 : Int32) (x3 : Int32) (x6 : Int32) (kx : Mem → Int32 → Int32 → Option (Int32 × Mem)) : Nat → Mem → Int32 → Int32 → Int32 → Option (Int32 × Mem)
  | 0, _, _, _, _ => none
  | n + 1, m, x4, x5, x7 =>
  if x6 ≤ x7 then (kx m x4 x5)
  else (bI (RM_areCrossed m x6 x7) fun v1 =>
  if v1 = 0 then (if (x6 - x7) = 1 then (RM_line_L99 x2 x3 x6 kx n m x4 x5 (x7 + 1))
  else (if (x6 - x7) = ((gI m 133 22) - 1) then (RM_line_L99 x2 x3 x6 kx n m x4 x5 (x7 + 1))
  else (bI (RM_areMet m x6 x7) fun v3 =>
  if v3 = 0 then (RM_line_L99 x2 x3 x6 kx n m x4 x5 (x7 + 1))
  else (RM_line_L99 x2 x3 x6 kx n m x4 (x5 + 1) (x7 + 1)))))
  else (RM_line_L99 x2 x3 x6 kx n m (x4 + 1) x5 (x7 + 1)))
def RM_line_L49 (x2 : Int32) (kx : Mem → Int32 → Int32 → Int32 → Option (Int32 × Mem)) : Nat → Mem → Int32 → Int32 → Int32 → Int32 → Option (Int32 × Mem)
  | 0, _, _, _, _, _ => none
  | n + 1, m, x3, x4, x5, x6 =>
  if (gI m 133 22) ≤ x6 then (kx m x3 x4 x5)
  else (if inb x6 13 then (if inb (x6 + 1) 13 then (letV ((x3 + (((gI m 139 (ixn x6)) * (gI m 140 (ixn (x6 + 1)))) - ((gI m 139 (ixn (x6 + 1))) * (gI m 140 (ixn x6)))))) fun v3 =>
  RM_line_L99 x2 v3 x6 (fun m6 y4 y5 => RM_line_L49 x2 kx n m6 v3 y4 y5 (x6 + 1)) FU m x4 x5 0) else none) else none)
def RM_line (m : Mem) (x1 : Int32) (x2 : Int32) : Option (Int32 × Mem) :=
  letM (sI m 133 0 0) fun m1 =>
  bI (RM_isLine m1 x1) fun v2 =>
  if v2 = 0 then (some ((-1), m1))
  else (if (RM_isIn x2 0 3) = 0 then (some ((-1), m1))
  else (bM (RM_looks m1 x1) fun m4 =>
  if x2 = 0 then (some ((gI m4 133 22), m4))
  else (RM_line_L49 x2 (fun m9 y6 y7 y8 => if x2 = 1 then (some ((y6 / 4), m9))
  else (if x2 = 2 then (some (y7, m9))
  else (some (y8, m9)))) FU m4 0 0 0 0)))
def RM_whose_J46 (m : Mem) (x2 : Int32) (x3 : Int32) (s0 : Int32) : Option (Int32 × Mem) :=
  bI (RM_isOnLine m (2 * x2) (2 * x3)) fun v1 =>
  if v1 = 0 then (some ((s0 + 0), m))
  else (some ((s0 + 2), m))
def RM_whose (m : Mem) (x1 : Int32) (x2 : Int32) (x3 : Int32) : Option (Int32 × Mem) :=
  letM (sI m 133 0 0) fun m1 =>
  bI (RM_isLine m1 x1) fun v2 =>
  if v2 = 0 then (some ((-1), m1))
  else (if (RM_isPoint x2 x3) = 0 then (some ((-1), m1))
  else (bM (RM_looks m1 x1) fun m4 =>
  bV (RM_isHis m4 (2 * x2) (2 * x3)) fun v6 m7 =>
  if v6 = 0 then (RM_whose_J46 m7 x2 x3 0)
  else (RM_whose_J46 m7 x2 x3 1)))
def RM_round_J22 (m : Mem) (x1 : Int32) (x2 : Int32) (x3 : Int32) (s1 : Int32) : Option (Int32 × Mem) :=
  bV (RM_throwsIf m s1) fun v1 m2 =>
  if v1 = 0 then (bM (RM_looks m2 x1) fun m4 =>
  bI (RM_isOnLine m4 (2 * x2) (2 * x3)) fun v6 =>
  bV (RM_throwsIf m4 v6) fun v8 m9 =>
  if v8 = 0 then (bM (RM_rounds m9 (2 * x2) (2 * x3)) fun m11 =>
  some ((gI m11 133 24), m11))
  else (some (0, m9)))
  else (some (0, m2))
def RM_round (m : Mem) (x1 : Int32) (x2 : Int32) (x3 : Int32) : Option (Int32 × Mem) :=
  bI (RM_isLine m x1) fun v1 =>
  if v1 = 0 then (RM_round_J22 m x1 x2 x3 1)
  else (if (RM_isPoint x2 x3) = 0 then (RM_round_J22 m x1 x2 x3 1)
  else (RM_round_J22 m x1 x2 x3 0))
def RM_isSquareHis (m : Mem) (x1 : Int32) (x2 : Int32) : Option (Int32 × Mem) :=
  bV (RM_isHis m ((2 * x1) + 1) ((2 * x2) + 1)) fun v1 m2 =>
  if v1 = 0 ∨ v1 = 1 then (some (v1, m2)) else none
def RM_square (m : Mem) (x1 : Int32) (x2 : Int32) (x3 : Int32) : Option (Int32 × Mem) :=
  letM (sI m 133 0 0) fun m1 =>
  bI (RM_isLine m1 x1) fun v2 =>
  if v2 = 0 then (some ((-1), m1))
  else (if (RM_isSquare x2 x3) = 0 then (some ((-1), m1))
  else (bM (RM_looks m1 x1) fun m4 =>
  bV (RM_isSquareHis m4 x2 x3) fun v6 m7 =>
  if v6 = 0 then (some (0, m7))
  else (some (1, m7))))
def RM_maps_L9 (kx : Mem → Int32 → Option (Int32 × Mem)) : Nat → Mem → Int32 → Int32 → Option (Int32 × Mem)
  | 0, _, _, _ => none
  | n + 1, m, x2, x3 =>
  if 400 ≤ x3 then (kx m x2)
  else (bV (RM_isSquareHis m (irm x3 20) (x3 / 20)) fun v1 m2 =>
  if inb x3 400 then (letM (sI m2 141 (ixn x3) (v1 &&& 1)) fun m5 =>
  if (gI m5 141 (ixn x3)) = 0 then (letV ((x2 + 0)) fun v6 =>
  RM_maps_L9 kx n m5 v6 (x3 + 1))
  else (letV ((x2 + 1)) fun v7 =>
  RM_maps_L9 kx n m5 v7 (x3 + 1))) else none)
def RM_maps (m : Mem) (x1 : Int32) : Option (Int32 × Mem) :=
  bM (RM_looks m x1) fun m1 =>
  RM_maps_L9 (fun m4 y3 => some (y3, m4)) FU m1 0 0
def RM_acres (m : Mem) (x1 : Int32) : Option (Int32 × Mem) :=
  letM (sI m 133 0 0) fun m1 =>
  bI (RM_isLine m1 x1) fun v2 =>
  if v2 = 0 then (some ((-1), m1))
  else (bV (RM_maps m1 x1) fun v4 m5 =>
  some (v4, m5))
def RM_beside_J47 (x2 : Int32) (s0 : Int32) (s1 : Int32) : Int32 :=
  letV ((s0 + s1)) fun v1 =>
  if (RM_isSquare x2 v1) = 0 then ((-1))
  else (((20 * v1) + x2))
def RM_beside_J23 (x0 : Int32) (x1 : Int32) (s0 : Int32) (s1 : Int32) : Int32 :=
  letV ((s0 + s1)) fun v1 =>
  if x1 = 2 then (RM_beside_J47 v1 (x0 / 20) 1)
  else (if x1 = 0 then (RM_beside_J47 v1 (x0 / 20) (-1))
  else (RM_beside_J47 v1 (x0 / 20) 0))
def RM_beside (x0 : Int32) (x1 : Int32) : Int32 :=
  if x1 = 1 then (RM_beside_J23 x0 x1 (irm x0 20) 1)
  else (if x1 = 3 then (RM_beside_J23 x0 x1 (irm x0 20) (-1))
  else (RM_beside_J23 x0 x1 (irm x0 20) 0))
def RM_border_L35 (x3 : Int32) (kx : Mem → Int32 → Option (Int32 × Mem)) : Nat → Mem → Int32 → Int32 → Option (Int32 × Mem)
  | 0, _, _, _ => none
  | n + 1, m, x2, x4 =>
  if 4 ≤ x4 then (kx m x2)
  else (if inb x3 400 then (if (gI m 141 (ixn x3)) = 0 then (letV ((x2 + 0)) fun v2 =>
  RM_border_L35 x3 kx n m v2 (x4 + 1))
  else (if (RM_beside x3 x4) < 0 then (letV ((x2 + 1)) fun v3 =>
  RM_border_L35 x3 kx n m v3 (x4 + 1))
  else (if inb (RM_beside x3 x4) 400 then (if (gI m 141 (ixn (RM_beside x3 x4))) = 0 then (letV ((x2 + 1)) fun v6 =>
  RM_border_L35 x3 kx n m v6 (x4 + 1))
  else (letV ((x2 + 0)) fun v5 =>
  RM_border_L35 x3 kx n m v5 (x4 + 1))) else none))) else none)
def RM_border_L25 (kx : Mem → Int32 → Option (Int32 × Mem)) : Nat → Mem → Int32 → Int32 → Option (Int32 × Mem)
  | 0, _, _, _ => none
  | n + 1, m, x2, x3 =>
  if 400 ≤ x3 then (kx m x2)
  else (RM_border_L35 x3 (fun m2 y1 => RM_border_L25 kx n m2 y1 (x3 + 1)) FU m x2 0)
def RM_border (m : Mem) (x1 : Int32) : Option (Int32 × Mem) :=
  letM (sI m 133 0 0) fun m1 =>
  bI (RM_isLine m1 x1) fun v2 =>
  if v2 = 0 then (some ((-1), m1))
  else (bV (RM_maps m1 x1) fun v4 m5 =>
  RM_border_L25 (fun m8 y7 => some (y7, m8)) FU m5 0 0)
def RM_within_L33 (x1 : Int32) (kx : Mem → Int32 → Option (Int32 × Mem)) : Nat → Mem → Int32 → Int32 → Option (Int32 × Mem)
  | 0, _, _, _ => none
  | n + 1, m, x3, x4 =>
  if inb (11 + x1) 116 then (if (gI m 135 (ixn (11 + x1))) ≤ x4 then (kx m x3)
  else (if inb ((14 + (24 * x1)) + (2 * x4)) 116 then (if inb (((14 + (24 * x1)) + (2 * x4)) + 1) 116 then (bV (RM_isHis m (2 * (gI m 135 (ixn ((14 + (24 * x1)) + (2 * x4))))) (2 * (gI m 135 (ixn (((14 + (24 * x1)) + (2 * x4)) + 1))))) fun v4 m5 =>
  if v4 = 0 then (letV ((x3 + 0)) fun v7 =>
  RM_within_L33 x1 kx n m5 v7 (x4 + 1))
  else (letV ((x3 + 1)) fun v8 =>
  RM_within_L33 x1 kx n m5 v8 (x4 + 1))) else none) else none)) else none
def RM_within (m : Mem) (x1 : Int32) (x2 : Int32) : Option (Int32 × Mem) :=
  letM (sI m 133 0 0) fun m1 =>
  bI (RM_isLine m1 x1) fun v2 =>
  if v2 = 0 then (some ((-1), m1))
  else (bI (RM_isLine m1 x2) fun v4 =>
  if v4 = 0 then (some ((-1), m1))
  else (bM (RM_looks m1 x2) fun m6 =>
  RM_within_L33 x1 (fun m9 y8 => some (y8, m9)) FU m6 0 0))
def RM_claim_J244 (m : Mem) : Option (Int32 × Mem) :=
  bM (RM_next m) fun m1 =>
  some (1, m1)
def RM_claim_J180 (m : Mem) (x4 : Int32) (x5 : Int32) : Option (Int32 × Mem) :=
  if (RM_isWord m 6842739) = 0 then (if (RM_isWord m 123563833652072) = 0 then (bV (RM_bad m 1) fun v1 m2 =>
  if v1 = 0 ∨ v1 = 1 then (some (v1, m2)) else none)
  else (bV (RM_isHis m x4 x5) fun v5 m6 =>
  if v5 = 0 then (letM (sI m6 133 28 1) fun m9 =>
  RM_claim_J244 m9)
  else (letM (sI m6 133 28 0) fun m8 =>
  RM_claim_J244 m8)))
  else (bV (RM_isHis m x4 x5) fun v10 m11 =>
  if v10 = 0 ∨ v10 = 1 then (letM (sI m11 133 28 v10) fun m14 =>
  RM_claim_J244 m14) else none)
def RM_claim_J151 (m : Mem) (x2 : Int32) (x4 : Int32) (x5 : Int32) : Option (Int32 × Mem) :=
  if (RM_isWord m 28526) = 0 then (RM_claim_J180 m x4 x5)
  else (if x2 = 0 then (RM_claim_J180 m x4 x5)
  else (bI (RM_isOnLine m x4 x5) fun v1 =>
  if v1 = 0 ∨ v1 = 1 then (letM (sI m 133 28 v1) fun m4 =>
  RM_claim_J244 m4) else none))
def RM_claim_J44 (m : Mem) (x1 : Int32) (x2 : Int32) (s0 : Int32) : Option (Int32 × Mem) :=
  if 0 ≤ s0 then (if x1 = 30 then (bV (RM_bad m 4) fun v15 m16 =>
  if v15 = 0 ∨ v15 = 1 then (some (v15, m16)) else none)
  else (bM (RM_next m) fun m1 =>
  if inb (86 + (3 * s0)) 116 then (letV (((2 * (gI m1 135 (ixn (86 + (3 * s0))))) + 1)) fun v4 =>
  if inb ((86 + (3 * s0)) + 1) 116 then (letV (((2 * (gI m1 135 (ixn ((86 + (3 * s0)) + 1)))) + 1)) fun v6 =>
  if x2 = 0 then (RM_claim_J151 m1 x2 v4 v6)
  else (bV (RM_takes m1 0 20) fun v7 m8 =>
  if v7 = 0 then (some (0, m8))
  else (letV ((2 * (gI m8 133 17))) fun v10 =>
  bV (RM_takes m8 0 20) fun v11 m12 =>
  if v11 = 0 then (some (0, m12))
  else (letV ((2 * (gI m12 133 17))) fun v14 =>
  RM_claim_J151 m12 x2 v10 v14)))) else none) else none))
  else (bV (RM_bad m 3) fun v19 m20 =>
  if v19 = 0 ∨ v19 = 1 then (some (v19, m20)) else none)
def RM_claim_J25 (m : Mem) (x1 : Int32) (x2 : Int32) : Option (Int32 × Mem) :=
  if x2 = 0 then (if inb 1 116 then (bI (RM_find m 3 (gI m 135 (ixn 1))) fun v2 =>
  RM_claim_J44 m x1 x2 v2) else none)
  else (RM_claim_J44 m x1 x2 0)
def RM_claim (m : Mem) (x1 : Int32) : Option (Int32 × Mem) :=
  letV ((RM_isWord m 482905517684)) fun v1 =>
  if v1 = 0 then (bI (RM_isName m) fun v2 =>
  if v2 = 0 then (bV (RM_bad m 1) fun v4 m5 =>
  if v4 = 0 ∨ v4 = 1 then (some (v4, m5)) else none)
  else (RM_claim_J25 m x1 v1))
  else (RM_claim_J25 m x1 v1)
def RM_claims_L45 (kx : Mem → Int32 → Int32 → Option (Int32 × Mem)) : Nat → Mem → Int32 → Int32 → Int32 → Option (Int32 × Mem)
  | 0, _, _, _, _ => none
  | n + 1, m, x2, x3, x4 =>
  if (gI m 133 10) = 0 then (kx m x3 x4)
  else (bV (RM_claim m x2) fun v1 m2 =>
  if v1 = 0 then (some (((-1) - (gI m2 133 15)), m2))
  else (bV (RM_sign m2 59) fun v4 m5 =>
  if v4 = 0 then (some (((-1) - (gI m5 133 15)), m5))
  else (if (gI m5 133 28) = 0 then (if 0 ≤ x4 then (RM_claims_L45 kx n m5 (x2 + 1) (x3 + 1) x4)
  else (RM_claims_L45 kx n m5 (x2 + 1) (x3 + 1) x2))
  else (RM_claims_L45 kx n m5 (x2 + 1) x3 x4))))
def RM_claims (m : Mem) (x1 : Int32) : Option (Int32 × Mem) :=
  letM (sI m 133 0 0) fun m1 =>
  bM (RM_taken m1 300) fun m2 =>
  bI (RM_isLine m2 x1) fun v4 =>
  if v4 = 0 then (some ((-2000), m2))
  else (letM (sI m2 133 14 0) fun m6 =>
  bM (RM_looks m6 x1) fun m7 =>
  bM (RM_next m7) fun m9 =>
  RM_claims_L45 (fun m13 y11 y12 => letM (sI m13 133 27 y12) fun m14 =>
  some (y11, m14)) FU m9 0 0 (-1))
def RM_wrong (m : Mem) : Option (Int32 × Mem) :=
  letM (sI m 133 0 0) fun m1 =>
  some ((gI m1 133 27), m1)
def RM_loads_J85 (kr : Mem → Int32 → Int32 → Option (Int32 × Mem)) (kx : Mem → Int32 → Option (Int32 × Mem)) (m : Mem) (x2 : Int32) (x3 : Int32) (x4 : Int32) (s0 : Int32) (s1 : Int32) : Option (Int32 × Mem) :=
  if s0 = s1 then (if inb ((86 + (3 * x4)) + 2) 116 then (letV ((x3 + (gI m 135 (ixn ((86 + (3 * x4)) + 2))))) fun v2 =>
  kr m v2 (x4 + 1)) else none)
  else (kr m x3 (x4 + 1))
def RM_loads_L34 (x2 : Int32) (kx : Mem → Int32 → Option (Int32 × Mem)) : Nat → Mem → Int32 → Int32 → Option (Int32 × Mem)
  | 0, _, _, _ => none
  | n + 1, m, x3, x4 =>
  if inb 1 116 then (if (gI m 135 (ixn 1)) ≤ x4 then (kx m x3)
  else (if inb (86 + (3 * x4)) 116 then (if inb ((86 + (3 * x4)) + 1) 116 then (bV (RM_isSquareHis m (gI m 135 (ixn (86 + (3 * x4)))) (gI m 135 (ixn ((86 + (3 * x4)) + 1)))) fun v4 m5 =>
  if x2 = 1 then (RM_loads_J85 (RM_loads_L34 x2 kx n) (kx) m5 x2 x3 x4 v4 1)
  else (RM_loads_J85 (RM_loads_L34 x2 kx n) (kx) m5 x2 x3 x4 v4 0)) else none) else none)) else none
def RM_loads (m : Mem) (x1 : Int32) (x2 : Int32) : Option (Int32 × Mem) :=
  letM (sI m 133 0 0) fun m1 =>
  bI (RM_isLine m1 x1) fun v2 =>
  if v2 = 0 then (some ((-1), m1))
  else (if (RM_isIn x2 0 1) = 0 then (some ((-1), m1))
  else (bM (RM_looks m1 x1) fun m4 =>
  RM_loads_L34 x2 (fun m7 y6 => some (y6, m7)) FU m4 0 0))
def RM_heirOf_L5 (x1 : Int32) (x2 : Int32) (kx : Mem → Int32 → Option (Int32 × Mem)) : Nat → Mem → Int32 → Int32 → Option (Int32 × Mem)
  | 0, _, _, _ => none
  | n + 1, m, x3, x4 =>
  if 2 ≤ x4 then (kx m x3)
  else (bI (RM_isLine m x4) fun v1 =>
  if v1 = 0 then (RM_heirOf_L5 x1 x2 kx n m x3 (x4 + 1))
  else (bM (RM_looks m x4) fun m3 =>
  bV (RM_isSquareHis m3 x1 x2) fun v5 m6 =>
  if v5 = 0 then (letV ((x3 + 0)) fun v8 =>
  RM_heirOf_L5 x1 x2 kx n m6 v8 (x4 + 1))
  else (letV ((x3 + (1 + x4))) fun v9 =>
  RM_heirOf_L5 x1 x2 kx n m6 v9 (x4 + 1))))
def RM_heirOf (m : Mem) (x1 : Int32) (x2 : Int32) : Option (Int32 × Mem) :=
  RM_heirOf_L5 x1 x2 (fun m2 y1 => if inb (7 + y1) 116 then (some ((gI m2 135 (ixn (7 + y1))), m2)) else none) FU m 0 0
def RM_heir (m : Mem) (x1 : Int32) (x2 : Int32) : Option (Int32 × Mem) :=
  letM (sI m 133 0 0) fun m1 =>
  if (RM_isSquare x1 x2) = 0 then (some ((-1), m1))
  else (bV (RM_heirOf m1 x1 x2) fun v2 m3 =>
  some (v2, m3))
def RM_estate_L21 (x1 : Int32) (kx : Mem → Int32 → Option (Int32 × Mem)) : Nat → Mem → Int32 → Int32 → Option (Int32 × Mem)
  | 0, _, _, _ => none
  | n + 1, m, x2, x3 =>
  if 400 ≤ x3 then (kx m x2)
  else (bV (RM_heirOf m (irm x3 20) (x3 / 20)) fun v1 m2 =>
  if v1 = x1 then (letV ((x2 + 1)) fun v5 =>
  RM_estate_L21 x1 kx n m2 v5 (x3 + 1))
  else (letV ((x2 + 0)) fun v4 =>
  RM_estate_L21 x1 kx n m2 v4 (x3 + 1)))
def RM_estate (m : Mem) (x1 : Int32) : Option (Int32 × Mem) :=
  letM (sI m 133 0 0) fun m1 =>
  if (RM_isIn x1 0 9) = 0 then (some ((-1), m1))
  else (RM_estate_L21 x1 (fun m3 y2 => some (y2, m3)) FU m1 0 0)
def RM_parts_L13 (kx : Mem → Option Mem) : Nat → Mem → Int32 → Option Mem
  | 0, _, _ => none
  | n + 1, m, x2 =>
  if 400 ≤ x2 then (kx m)
  else (if inb x2 400 then (letM (sI m 143 (ixn x2) (-1)) fun m2 =>
  RM_parts_L13 kx n m2 (x2 + 1)) else none)
def RM_parts_L95 (x2 : Int32) (x4 : Int32) (kx : Mem → Int32 → Option Mem) : Nat → Mem → Int32 → Int32 → Option Mem
  | 0, _, _, _ => none
  | n + 1, m, x3, x5 =>
  if 4 ≤ x5 then (kx m x3)
  else (if inb x4 400 then (letV ((RM_beside (gI m 144 (ixn x4)) x5)) fun v2 =>
  if v2 < 0 then (RM_parts_L95 x2 x4 kx n m x3 (x5 + 1))
  else (if inb v2 400 then (if 0 ≤ (gI m 143 (ixn v2)) then (RM_parts_L95 x2 x4 kx n m x3 (x5 + 1))
  else (if inb x2 400 then (if (gI m 141 (ixn v2)) = (gI m 141 (ixn x2)) then (letM (sI m 143 (ixn v2) (gI m 133 33)) fun m5 =>
  if inb x3 400 then (letM (sI m5 144 (ixn x3) v2) fun m7 =>
  RM_parts_L95 x2 x4 kx n m7 (x3 + 1) (x5 + 1)) else none)
  else (RM_parts_L95 x2 x4 kx n m x3 (x5 + 1))) else none)) else none)) else none)
def RM_parts_L86 (x2 : Int32) (kx : Mem → Int32 → Option Mem) : Nat → Mem → Int32 → Int32 → Option Mem
  | 0, _, _, _ => none
  | n + 1, m, x3, x4 =>
  if x3 ≤ x4 then (kx m x3)
  else (RM_parts_L95 x2 x4 (fun m2 y1 => RM_parts_L86 x2 kx n m2 y1 (x4 + 1)) FU m x3 0)
def RM_parts_L35 (kx : Mem → Option Mem) : Nat → Mem → Int32 → Option Mem
  | 0, _, _ => none
  | n + 1, m, x2 =>
  if 400 ≤ x2 then (kx m)
  else (if inb x2 400 then (if (gI m 143 (ixn x2)) < 0 then (if inb (gI m 133 33) 400 then (letM (sI m 145 (ixn (gI m 133 33)) x2) fun m3 =>
  letM (sI m3 143 (ixn x2) (gI m3 133 33)) fun m4 =>
  if inb 0 400 then (letM (sI m4 144 (ixn 0) x2) fun m6 =>
  RM_parts_L86 x2 (fun m8 y7 => if inb (gI m8 133 33) 400 then (letM (sI m8 146 (ixn (gI m8 133 33)) y7) fun m10 =>
  letM (sI m10 133 33 ((gI m10 133 33) + 1)) fun m11 =>
  RM_parts_L35 kx n m11 (x2 + 1)) else none) FU m6 1 0) else none) else none)
  else (RM_parts_L35 kx n m (x2 + 1))) else none)
def RM_parts (m : Mem) (x1 : Int32) : Option Mem :=
  bV (RM_maps m x1) fun v1 m2 =>
  letM (sI m2 133 33 0) fun m4 =>
  RM_parts_L13 (fun m5 => RM_parts_L35 (fun m6 => some m6) FU m5 0) FU m4 0
def RM_pieces (m : Mem) (x1 : Int32) : Option (Int32 × Mem) :=
  letM (sI m 133 0 0) fun m1 =>
  bI (RM_isLine m1 x1) fun v2 =>
  if v2 = 0 then (some ((-1), m1))
  else (bM (RM_parts m1 x1) fun m4 =>
  some ((gI m4 133 33), m4))
def RM_besides_L2 (x1 : Int32) (kx : Mem → Option (Int32 × Mem)) : Nat → Mem → Int32 → Option (Int32 × Mem)
  | 0, _, _ => none
  | n + 1, m, x2 =>
  if (gI m 133 33) ≤ x2 then (kx m)
  else (if inb x2 400 then (letM (sI m 147 (ixn x2) ((0 : Int32) &&& 1)) fun m2 =>
  RM_besides_L2 x1 kx n m2 (x2 + 1)) else none)
def RM_besides_L50 (x1 : Int32) (x3 : Int32) (kx : Mem → Int32 → Option (Int32 × Mem)) : Nat → Mem → Int32 → Int32 → Option (Int32 × Mem)
  | 0, _, _, _ => none
  | n + 1, m, x2, x4 =>
  if 4 ≤ x4 then (kx m x2)
  else (letV ((RM_beside x3 x4)) fun v1 =>
  if v1 < 0 then (RM_besides_L50 x1 x3 kx n m x2 (x4 + 1))
  else (if inb v1 400 then (if (gI m 143 (ixn v1)) = x1 then (RM_besides_L50 x1 x3 kx n m x2 (x4 + 1))
  else (if inb (gI m 143 (ixn v1)) 400 then (if (gI m 147 (ixn (gI m 143 (ixn v1)))) = 0 then (letM (sI m 147 (ixn (gI m 143 (ixn v1))) ((1 : Int32) &&& 1)) fun m4 =>
  RM_besides_L50 x1 x3 kx n m4 (x2 + 1) (x4 + 1))
  else (RM_besides_L50 x1 x3 kx n m x2 (x4 + 1))) else none)) else none))
def RM_besides_L27 (x1 : Int32) (kx : Mem → Int32 → Option (Int32 × Mem)) : Nat → Mem → Int32 → Int32 → Option (Int32 × Mem)
  | 0, _, _, _ => none
  | n + 1, m, x2, x3 =>
  if 400 ≤ x3 then (kx m x2)
  else (if inb x3 400 then (if (gI m 143 (ixn x3)) = x1 then (RM_besides_L50 x1 x3 (fun m3 y2 => RM_besides_L27 x1 kx n m3 y2 (x3 + 1)) FU m x2 0)
  else (RM_besides_L27 x1 kx n m x2 (x3 + 1))) else none)
def RM_besides (m : Mem) (x1 : Int32) : Option (Int32 × Mem) :=
  RM_besides_L2 x1 (fun m1 => RM_besides_L27 x1 (fun m3 y2 => some (y2, m3)) FU m1 0 0) FU m 0
def RM_piece (m : Mem) (x1 : Int32) (x2 : Int32) (x3 : Int32) : Option (Int32 × Mem) :=
  letM (sI m 133 0 0) fun m1 =>
  bI (RM_isLine m1 x1) fun v2 =>
  if v2 = 0 then (some ((-1), m1))
  else (if (RM_isIn x3 0 4) = 0 then (some ((-1), m1))
  else (bM (RM_parts m1 x1) fun m4 =>
  if (RM_isIn x2 0 ((gI m4 133 33) - 1)) = 0 then (some ((-1), m4))
  else (if inb x2 400 then (letV ((gI m4 145 (ixn x2))) fun v7 =>
  if x3 = 0 then (some ((gI m4 146 (ixn x2)), m4))
  else (if x3 = 1 then (if inb v7 400 then (if (gI m4 141 (ixn v7)) = 0 then (some (0, m4))
  else (some (1, m4))) else none)
  else (if x3 = 2 then (some ((irm v7 20), m4))
  else (if x3 = 3 then (some ((v7 / 20), m4))
  else (bV (RM_besides m4 x2) fun v8 m9 =>
  some (v8, m9)))))) else none)))
def RM_pieceAt (m : Mem) (x1 : Int32) (x2 : Int32) (x3 : Int32) : Option (Int32 × Mem) :=
  letM (sI m 133 0 0) fun m1 =>
  bI (RM_isLine m1 x1) fun v2 =>
  if v2 = 0 then (some ((-1), m1))
  else (if (RM_isSquare x2 x3) = 0 then (some ((-1), m1))
  else (bM (RM_parts m1 x1) fun m4 =>
  if inb ((20 * x3) + x2) 400 then (some ((gI m4 143 (ixn ((20 * x3) + x2))), m4)) else none))
def RM_crossings_J198 (kr : Int32 → Int32 → Option Int32) (kx : Int32 → Option Int32) (m : Mem) (x1 : Int32) (x2 : Int32) (x3 : Int32) (x4 : Int32) (x5 : Int32) (x10 : Int32) (x12 : Int32) (x13 : Int32) : Option Int32 :=
  if x13 ≤ (x10 * x12) then (letV ((x4 + 0)) fun v1 =>
  kr v1 (x5 + 1))
  else (if ((x10 + 2) * x12) < x13 then (letV ((x4 + 0)) fun v2 =>
  kr v2 (x5 + 1))
  else (letV ((x4 + 1)) fun v3 =>
  kr v3 (x5 + 1)))
def RM_crossings_J135 (kr : Int32 → Int32 → Option Int32) (kx : Int32 → Option Int32) (m : Mem) (x1 : Int32) (x2 : Int32) (x3 : Int32) (x4 : Int32) (x5 : Int32) (x6 : Int32) (x7 : Int32) (x8 : Int32) (x9 : Int32) (x10 : Int32) (s0 : Int32) : Option Int32 :=
  letV ((x9 - x7)) fun v1 =>
  if v1 = 0 then (kr x4 (x5 + 1))
  else (bI (RM_isBetween s0 x7 x9) fun v2 =>
  if v2 = 0 then (kr x4 (x5 + 1))
  else (letV (((x6 * v1) + ((s0 - x7) * (x8 - x6)))) fun v4 =>
  if 0 ≤ v1 then (RM_crossings_J198 kr kx m x1 x2 x3 x4 x5 x10 v1 v4)
  else (letV ((-v4)) fun v5 =>
  letV ((-v1)) fun v6 =>
  RM_crossings_J198 kr kx m x1 x2 x3 x4 x5 x10 v6 v5)))
def RM_crossings_J124 (kr : Int32 → Int32 → Option Int32) (kx : Int32 → Option Int32) (m : Mem) (x1 : Int32) (x2 : Int32) (x3 : Int32) (x4 : Int32) (x5 : Int32) (x6 : Int32) (x7 : Int32) (x8 : Int32) (x9 : Int32) (s0 : Int32) : Option Int32 :=
  if x3 = 0 then (RM_crossings_J135 kr kx m x1 x2 x3 x4 x5 x6 x7 x8 x9 s0 x1)
  else (RM_crossings_J135 kr kx m x1 x2 x3 x4 x5 x6 x7 x8 x9 s0 x2)
def RM_crossings_J113 (kr : Int32 → Int32 → Option Int32) (kx : Int32 → Option Int32) (m : Mem) (x1 : Int32) (x2 : Int32) (x3 : Int32) (x4 : Int32) (x5 : Int32) (x6 : Int32) (x7 : Int32) (x8 : Int32) (s0 : Int32) : Option Int32 :=
  if x3 = 0 then (RM_crossings_J124 kr kx m x1 x2 x3 x4 x5 x6 x7 x8 s0 x2)
  else (RM_crossings_J124 kr kx m x1 x2 x3 x4 x5 x6 x7 x8 s0 x1)
def RM_crossings_J86 (kr : Int32 → Int32 → Option Int32) (kx : Int32 → Option Int32) (m : Mem) (x1 : Int32) (x2 : Int32) (x3 : Int32) (x4 : Int32) (x5 : Int32) (x6 : Int32) (x7 : Int32) (s0 : Int32) : Option Int32 :=
  if x3 = 0 then (if inb (x5 + 1) 13 then (RM_crossings_J113 kr kx m x1 x2 x3 x4 x5 x6 x7 s0 (gI m 139 (ixn (x5 + 1)))) else none)
  else (if inb (x5 + 1) 13 then (RM_crossings_J113 kr kx m x1 x2 x3 x4 x5 x6 x7 s0 (gI m 140 (ixn (x5 + 1)))) else none)
def RM_crossings_J59 (kr : Int32 → Int32 → Option Int32) (kx : Int32 → Option Int32) (m : Mem) (x1 : Int32) (x2 : Int32) (x3 : Int32) (x4 : Int32) (x5 : Int32) (x6 : Int32) (s0 : Int32) : Option Int32 :=
  if x3 = 0 then (if inb (x5 + 1) 13 then (RM_crossings_J86 kr kx m x1 x2 x3 x4 x5 x6 s0 (gI m 140 (ixn (x5 + 1)))) else none)
  else (if inb (x5 + 1) 13 then (RM_crossings_J86 kr kx m x1 x2 x3 x4 x5 x6 s0 (gI m 139 (ixn (x5 + 1)))) else none)
def RM_crossings_J36 (kr : Int32 → Int32 → Option Int32) (kx : Int32 → Option Int32) (m : Mem) (x1 : Int32) (x2 : Int32) (x3 : Int32) (x4 : Int32) (x5 : Int32) (s0 : Int32) : Option Int32 :=
  if x3 = 0 then (if inb x5 13 then (RM_crossings_J59 kr kx m x1 x2 x3 x4 x5 s0 (gI m 139 (ixn x5))) else none)
  else (if inb x5 13 then (RM_crossings_J59 kr kx m x1 x2 x3 x4 x5 s0 (gI m 140 (ixn x5))) else none)
def RM_crossings_L6 (m : Mem) (x1 : Int32) (x2 : Int32) (x3 : Int32) (kx : Int32 → Option Int32) : Nat → Int32 → Int32 → Option Int32
  | 0, _, _ => none
  | n + 1, x4, x5 =>
  if (gI m 133 22) ≤ x5 then (kx x4)
  else (if x3 = 0 then (if inb x5 13 then (RM_crossings_J36 (RM_crossings_L6 m x1 x2 x3 kx n) (kx) m x1 x2 x3 x4 x5 (gI m 140 (ixn x5))) else none)
  else (if inb x5 13 then (RM_crossings_J36 (RM_crossings_L6 m x1 x2 x3 kx n) (kx) m x1 x2 x3 x4 x5 (gI m 139 (ixn x5))) else none))
def RM_crossings (m : Mem) (x1 : Int32) (x2 : Int32) (x3 : Int32) : Option Int32 :=
  RM_crossings_L6 m x1 x2 x3 (fun y1 => some y1) FU 0 0
def RM_crossesOf_J48 (m : Mem) (s1 : Int32) (s2 : Int32) (s3 : Int32) : Option Int32 :=
  bI (RM_crossings m s1 s2 s3) fun v1 =>
  some v1
def RM_crossesOf_J18 (m : Mem) (x2 : Int32) (s0 : Int32) : Option Int32 :=
  if (irm x2 2) = 1 then (RM_crossesOf_J48 m ((2 * (irm s0 20)) + 1) ((2 * (s0 / 20)) + 1) 1)
  else (RM_crossesOf_J48 m ((2 * (irm s0 20)) + 1) ((2 * (s0 / 20)) + 1) 0)
def RM_crossesOf_J9 (m : Mem) (x1 : Int32) (x2 : Int32) : Option Int32 :=
  RM_crossesOf_J18 m x2 (RM_beside x1 x2)
def RM_crossesOf (m : Mem) (x1 : Int32) (x2 : Int32) : Option Int32 :=
  if x2 = 0 then (RM_crossesOf_J9 m x1 x2)
  else (if x2 = 3 then (RM_crossesOf_J9 m x1 x2)
  else (RM_crossesOf_J18 m x2 x1))
def RM_crosses (m : Mem) (x1 : Int32) (x2 : Int32) (x3 : Int32) (x4 : Int32) : Option (Int32 × Mem) :=
  letM (sI m 133 0 0) fun m1 =>
  bI (RM_isLine m1 x1) fun v2 =>
  if v2 = 0 then (some ((-1), m1))
  else (if (RM_isSquare x2 x3) = 0 then (some ((-1), m1))
  else (if (RM_isIn x4 0 3) = 0 then (some ((-1), m1))
  else (if 0 ≤ (RM_beside ((20 * x3) + x2) x4) then (bM (RM_looks m1 x1) fun m4 =>
  bI (RM_crossesOf m4 ((20 * x3) + x2) x4) fun v6 =>
  some (v6, m4))
  else (some ((-1), m1)))))
def RM_dirOfWord (m : Mem) : Int32 :=
  if (RM_isWord m 110) = 0 then (if (RM_isWord m 101) = 0 then (if (RM_isWord m 115) = 0 then (if (RM_isWord m 119) = 0 then ((-1))
  else (3))
  else (2))
  else (1))
  else (0)
def RM_walk_L142 (x6 : Int32) (x7 : Int32) (kx : Mem → Int32 → Int32 → Int32 → Option (Int32 × Mem)) : Nat → Mem → Int32 → Int32 → Int32 → Int32 → Option (Int32 × Mem)
  | 0, _, _, _, _, _ => none
  | n + 1, m, x3, x4, x5, x8 =>
  if (gI m 133 17) ≤ x8 then (kx m x3 x4 x5)
  else (if 0 ≤ (RM_beside x3 x6) then (bI (RM_crossesOf m x3 x6) fun v1 =>
  letV ((x4 + v1)) fun v3 =>
  letV ((RM_beside x3 x6)) fun v4 =>
  RM_walk_L142 x6 x7 kx n m v4 v3 (x5 + 1) (x8 + 1))
  else (letM (sI m 133 14 5) fun m5 =>
  some (((-1) - x7), m5)))
def RM_walk_L81 (kx : Mem → Int32 → Int32 → Int32 → Option (Int32 × Mem)) : Nat → Mem → Int32 → Int32 → Int32 → Option (Int32 × Mem)
  | 0, _, _, _, _ => none
  | n + 1, m, x3, x4, x5 =>
  if (gI m 133 10) = 0 then (kx m x3 x4 x5)
  else (letV ((RM_dirOfWord m)) fun v1 =>
  if 0 ≤ v1 then (letV ((gI m 133 11)) fun v2 =>
  bM (RM_next m) fun m3 =>
  bV (RM_takes m3 1 20) fun v5 m6 =>
  if v5 = 0 then (some (((-1) - (gI m6 133 15)), m6))
  else (RM_walk_L142 v1 v2 (fun m11 y8 y9 y10 => bV (RM_sign m11 59) fun v12 m13 =>
  if v12 = 0 then (some (((-1) - (gI m13 133 15)), m13))
  else (RM_walk_L81 kx n m13 y8 y9 y10)) FU m6 x3 x4 x5 0))
  else (bV (RM_bad m 1) fun v15 m16 =>
  some (((-1) - (gI m16 133 15)), m16)))
def RM_walk (m : Mem) (x1 : Int32) (x2 : Int32) : Option (Int32 × Mem) :=
  letM (sI m 133 0 0) fun m1 =>
  bM (RM_taken m1 300) fun m2 =>
  bI (RM_isLine m2 x1) fun v4 =>
  if v4 = 0 then (some ((-2000), m2))
  else (bI (RM_isHay m2 x2) fun v6 =>
  if v6 = 0 then (some ((-2000), m2))
  else (letM (sI m2 133 14 0) fun m8 =>
  bM (RM_looks m8 x1) fun m9 =>
  if inb ((86 + (3 * x2)) + 1) 116 then (if inb (86 + (3 * x2)) 116 then (letV (((20 * (gI m9 135 (ixn ((86 + (3 * x2)) + 1)))) + (gI m9 135 (ixn (86 + (3 * x2)))))) fun v13 =>
  bM (RM_next m9) fun m14 =>
  RM_walk_L81 (fun m19 y16 y17 y18 => if inb 0 3 then (letM (sI m19 148 (ixn 0) (irm y16 20)) fun m21 =>
  if inb 1 3 then (letM (sI m21 148 (ixn 1) (y16 / 20)) fun m23 =>
  if inb 2 3 then (letM (sI m23 148 (ixn 2) y18) fun m25 =>
  letM (sI m25 133 36 1) fun m26 =>
  some (y17, m26)) else none) else none) else none) FU m14 v13 0 0) else none) else none))
def RM_walked (m : Mem) (x1 : Int32) : Option (Int32 × Mem) :=
  letM (sI m 133 0 0) fun m1 =>
  if (gI m1 133 36) = 0 then (some ((-1), m1))
  else (if (RM_isIn x1 0 2) = 0 then (some ((-1), m1))
  else (if inb x1 3 then (some ((gI m1 148 (ixn x1)), m1)) else none))
def RM_least_L40 (x2 : Int32) (x3 : Int32) (kx : Mem → Option (Int32 × Mem)) : Nat → Mem → Int32 → Option (Int32 × Mem)
  | 0, _, _ => none
  | n + 1, m, x4 =>
  if 400 ≤ x4 then (kx m)
  else (if inb x4 400 then (letM (sI m 149 (ixn x4) 100000000) fun m2 =>
  RM_least_L40 x2 x3 kx n m2 (x4 + 1)) else none)
def RM_least_L123 (x3 : Int32) (x5 : Int32) (kx : Mem → Int32 → Option (Int32 × Mem)) : Nat → Mem → Int32 → Int32 → Option (Int32 × Mem)
  | 0, _, _, _ => none
  | n + 1, m, x4, x6 =>
  if 4 ≤ x6 then (kx m x4)
  else (letV ((RM_beside x5 x6)) fun v1 =>
  if v1 < 0 then (RM_least_L123 x3 x5 kx n m x4 (x6 + 1))
  else (if inb x5 400 then (if 100000000 ≤ (gI m 149 (ixn x5)) then (RM_least_L123 x3 x5 kx n m x4 (x6 + 1))
  else (if inb v1 400 then (if ((gI m 149 (ixn x5)) + 1) < (gI m 149 (ixn v1)) then (bI (RM_crossesOf m x5 x6) fun v4 =>
  letV ((((gI m 149 (ixn x5)) + (1000 * v4)) + 1)) fun v6 =>
  if v6 < (gI m 149 (ixn v1)) then (letM (sI m 149 (ixn v1) v6) fun m7 =>
  RM_least_L123 x3 x5 kx n m7 1 (x6 + 1))
  else (RM_least_L123 x3 x5 kx n m x4 (x6 + 1)))
  else (RM_least_L123 x3 x5 kx n m x4 (x6 + 1))) else none)) else none))
def RM_least_L112 (x3 : Int32) (kx : Mem → Int32 → Option (Int32 × Mem)) : Nat → Mem → Int32 → Int32 → Option (Int32 × Mem)
  | 0, _, _, _ => none
  | n + 1, m, x4, x5 =>
  if 400 ≤ x5 then (kx m x4)
  else (RM_least_L123 x3 x5 (fun m2 y1 => RM_least_L112 x3 kx n m2 y1 (x5 + 1)) FU m x4 0)
def RM_least_L101 (x3 : Int32) (kx : Mem → Option (Int32 × Mem)) : Nat → Mem → Int32 → Option (Int32 × Mem)
  | 0, _, _ => none
  | n + 1, m, x4 =>
  if x4 = 0 then (kx m)
  else (RM_least_L112 x3 (fun m2 y1 => RM_least_L101 x3 kx n m2 y1) FU m 0 0)
def RM_least (m : Mem) (x1 : Int32) (x2 : Int32) (x3 : Int32) : Option (Int32 × Mem) :=
  letM (sI m 133 0 0) fun m1 =>
  bI (RM_isLine m1 x1) fun v2 =>
  if v2 = 0 then (some ((-1), m1))
  else (bI (RM_isHay m1 x2) fun v4 =>
  if v4 = 0 then (some ((-1), m1))
  else (if (RM_isIn x3 0 1) = 0 then (some ((-1), m1))
  else (bM (RM_looks m1 x1) fun m6 =>
  RM_least_L40 x2 x3 (fun m8 => if inb ((86 + (3 * x2)) + 1) 116 then (if inb (86 + (3 * x2)) 116 then (if inb ((20 * (gI m8 135 (ixn ((86 + (3 * x2)) + 1)))) + (gI m8 135 (ixn (86 + (3 * x2))))) 400 then (letM (sI m8 149 (ixn ((20 * (gI m8 135 (ixn ((86 + (3 * x2)) + 1)))) + (gI m8 135 (ixn (86 + (3 * x2)))))) 0) fun m12 =>
  RM_least_L101 x3 (fun m13 => if inb 3 116 then (if inb 2 116 then (if inb ((20 * (gI m13 135 (ixn 3))) + (gI m13 135 (ixn 2))) 400 then (letV ((gI m13 149 (ixn ((20 * (gI m13 135 (ixn 3))) + (gI m13 135 (ixn 2)))))) fun v17 =>
  if x3 = 0 then (some ((v17 / 1000), m13))
  else (some ((irm v17 1000), m13))) else none) else none) else none) FU m12 1) else none) else none) else none) FU m6 0)))
def RM_stiles_J130 (kr : Mem → Int32 → Int32 → Option (Int32 × Mem)) (kx : Mem → Int32 → Option (Int32 × Mem)) (m : Mem) (x2 : Int32) (x3 : Int32) (x4 : Int32) (x5 : Int32) (x7 : Int32) (s0 : Int32) : Option (Int32 × Mem) :=
  letV (((x7 - 1) &&& x4)) fun v1 =>
  kr m s0 v1
def RM_stiles_L77 (x2 : Int32) (x3 : Int32) (x4 : Int32) (x5 : Int32) (kx : Mem → Int32 → Option (Int32 × Mem)) : Nat → Mem → Int32 → Int32 → Option (Int32 × Mem)
  | 0, _, _, _ => none
  | n + 1, m, x6, x7 =>
  if x7 ≤ 0 then (kx m x6)
  else (if inb ((400 * x7) + x5) 51200 then (if inb ((400 * (x4 ^^^ x7)) + x5) 51200 then (letV (((gI m 150 (ixn ((400 * x7) + x5))) + (gI m 150 (ixn ((400 * (x4 ^^^ x7)) + x5))))) fun v3 =>
  if x6 ≤ v3 then (RM_stiles_J130 (RM_stiles_L77 x2 x3 x4 x5 kx n) (kx) m x2 x3 x4 x5 x7 x6)
  else (RM_stiles_J130 (RM_stiles_L77 x2 x3 x4 x5 kx n) (kx) m x2 x3 x4 x5 x7 v3)) else none) else none)
def RM_stiles_L147 (x2 : Int32) (x3 : Int32) (x4 : Int32) (x5 : Int32) (kx : Mem → Int32 → Option (Int32 × Mem)) : Nat → Mem → Int32 → Int32 → Option (Int32 × Mem)
  | 0, _, _, _ => none
  | n + 1, m, x6, x7 =>
  if x2 ≤ x7 then (kx m x6)
  else (if x4 = (jshl 1 x7) then (if inb ((86 + (3 * x7)) + 1) 116 then (if inb (86 + (3 * x7)) 116 then (if inb ((20 * (gI m 135 (ixn ((86 + (3 * x7)) + 1)))) + (gI m 135 (ixn (86 + (3 * x7))))) 400 then (if (gI m 143 (ixn ((20 * (gI m 135 (ixn ((86 + (3 * x7)) + 1)))) + (gI m 135 (ixn (86 + (3 * x7))))))) = x5 then (RM_stiles_L147 x2 x3 x4 x5 kx n m 0 (x7 + 1))
  else (RM_stiles_L147 x2 x3 x4 x5 kx n m x6 (x7 + 1))) else none) else none) else none)
  else (RM_stiles_L147 x2 x3 x4 x5 kx n m x6 (x7 + 1)))
def RM_stiles_L54 (x2 : Int32) (x3 : Int32) (x4 : Int32) (kx : Mem → Option (Int32 × Mem)) : Nat → Mem → Int32 → Option (Int32 × Mem)
  | 0, _, _ => none
  | n + 1, m, x5 =>
  if (gI m 133 33) ≤ x5 then (kx m)
  else (letV (((x4 - 1) &&& x4)) fun v1 =>
  RM_stiles_L77 x2 x3 x4 x5 (fun m3 y2 => RM_stiles_L147 x2 x3 x4 x5 (fun m5 y4 => if inb ((400 * x4) + x5) 51200 then (letM (sI m5 150 (ixn ((400 * x4) + x5)) y4) fun m7 =>
  RM_stiles_L54 x2 x3 x4 kx n m7 (x5 + 1)) else none) FU m3 y2 0) FU m 100000000 v1)
def RM_stiles_L258 (x2 : Int32) (x3 : Int32) (x4 : Int32) (x6 : Int32) (kx : Mem → Int32 → Option (Int32 × Mem)) : Nat → Mem → Int32 → Int32 → Option (Int32 × Mem)
  | 0, _, _, _ => none
  | n + 1, m, x5, x7 =>
  if 4 ≤ x7 then (kx m x5)
  else (letV ((RM_beside x6 x7)) fun v1 =>
  if v1 < 0 then (RM_stiles_L258 x2 x3 x4 x6 kx n m x5 (x7 + 1))
  else (if inb v1 400 then (if inb x6 400 then (if (gI m 143 (ixn v1)) = (gI m 143 (ixn x6)) then (RM_stiles_L258 x2 x3 x4 x6 kx n m x5 (x7 + 1))
  else (if inb ((400 * x4) + (gI m 143 (ixn x6))) 51200 then (if inb ((400 * x4) + (gI m 143 (ixn v1))) 51200 then (if ((gI m 150 (ixn ((400 * x4) + (gI m 143 (ixn x6))))) + 1) < (gI m 150 (ixn ((400 * x4) + (gI m 143 (ixn v1))))) then (letM (sI m 150 (ixn ((400 * x4) + (gI m 143 (ixn v1)))) ((gI m 150 (ixn ((400 * x4) + (gI m 143 (ixn x6))))) + 1)) fun m6 =>
  RM_stiles_L258 x2 x3 x4 x6 kx n m6 1 (x7 + 1))
  else (RM_stiles_L258 x2 x3 x4 x6 kx n m x5 (x7 + 1))) else none) else none)) else none) else none))
def RM_stiles_L247 (x2 : Int32) (x3 : Int32) (x4 : Int32) (kx : Mem → Int32 → Option (Int32 × Mem)) : Nat → Mem → Int32 → Int32 → Option (Int32 × Mem)
  | 0, _, _, _ => none
  | n + 1, m, x5, x6 =>
  if 400 ≤ x6 then (kx m x5)
  else (RM_stiles_L258 x2 x3 x4 x6 (fun m2 y1 => RM_stiles_L247 x2 x3 x4 kx n m2 y1 (x6 + 1)) FU m x5 0)
def RM_stiles_L236 (x2 : Int32) (x3 : Int32) (x4 : Int32) (kx : Mem → Option (Int32 × Mem)) : Nat → Mem → Int32 → Option (Int32 × Mem)
  | 0, _, _ => none
  | n + 1, m, x5 =>
  if x5 = 0 then (kx m)
  else (RM_stiles_L247 x2 x3 x4 (fun m2 y1 => RM_stiles_L236 x2 x3 x4 kx n m2 y1) FU m 0 0)
def RM_stiles_L45 (x2 : Int32) (x3 : Int32) (kx : Mem → Option (Int32 × Mem)) : Nat → Mem → Int32 → Option (Int32 × Mem)
  | 0, _, _ => none
  | n + 1, m, x4 =>
  if x3 ≤ x4 then (kx m)
  else (RM_stiles_L54 x2 x3 x4 (fun m1 => RM_stiles_L236 x2 x3 x4 (fun m2 => RM_stiles_L45 x2 x3 kx n m2 (x4 + 1)) FU m1 1) FU m 0)
def RM_stiles (m : Mem) (x1 : Int32) : Option (Int32 × Mem) :=
  letM (sI m 133 0 0) fun m1 =>
  bI (RM_isLine m1 x1) fun v2 =>
  if v2 = 0 then (some ((-1), m1))
  else (if inb 1 116 then (if (gI m1 135 (ixn 1)) ≤ 6 then (bM (RM_parts m1 x1) fun m5 =>
  letV ((gI m5 135 (ixn 1))) fun v7 =>
  letV ((jshl 1 v7)) fun v8 =>
  RM_stiles_L45 v7 v8 (fun m9 => if v7 = 0 then (some (0, m9))
  else (if inb 3 116 then (if inb 2 116 then (if inb ((20 * (gI m9 135 (ixn 3))) + (gI m9 135 (ixn 2))) 400 then (if inb ((400 * (v8 - 1)) + (gI m9 143 (ixn ((20 * (gI m9 135 (ixn 3))) + (gI m9 135 (ixn 2)))))) 51200 then (some ((gI m9 150 (ixn ((400 * (v8 - 1)) + (gI m9 143 (ixn ((20 * (gI m9 135 (ixn 3))) + (gI m9 135 (ixn 2)))))))), m9)) else none) else none) else none) else none)) FU m5 1)
  else (some ((-1), m1))) else none)
def RM_keep_L47 (kx : Mem → Option Mem) : Nat → Mem → Int32 → Option Mem
  | 0, _, _ => none
  | n + 1, m, x1 =>
  if 116 ≤ x1 then (kx m)
  else (if inb x1 116 then (if inb ((116 * (gI m 133 40)) + x1) 928 then (letM (sI m 151 (ixn ((116 * (gI m 133 40)) + x1)) (gI m 135 (ixn x1))) fun m3 =>
  RM_keep_L47 kx n m3 (x1 + 1)) else none) else none)
def RM_keep_J45 (m : Mem) : Option Mem :=
  RM_keep_L47 (fun m1 => letM (sI m1 133 40 ((gI m1 133 40) + 1)) fun m2 =>
  some m2) FU m 0
def RM_keep_L11 (kx : Mem → Option Mem) : Nat → Mem → Int32 → Option Mem
  | 0, _, _ => none
  | n + 1, m, x1 =>
  if 812 ≤ x1 then (kx m)
  else (if inb (x1 + 116) 928 then (if inb x1 928 then (letM (sI m 151 (ixn x1) (gI m 151 (ixn (x1 + 116)))) fun m3 =>
  RM_keep_L11 kx n m3 (x1 + 1)) else none) else none)
def RM_keep (m : Mem) : Option Mem :=
  if (gI m 133 40) = 8 then (RM_keep_L11 (fun m1 => letM (sI m1 133 40 7) fun m2 =>
  RM_keep_J45 m2) FU m 0)
  else (RM_keep_J45 m)
def RM_undo_L26 (kx : Mem → Option (Int32 × Mem)) : Nat → Mem → Int32 → Option (Int32 × Mem)
  | 0, _, _ => none
  | n + 1, m, x1 =>
  if 116 ≤ x1 then (kx m)
  else (if inb ((116 * (gI m 133 40)) + x1) 928 then (if inb x1 116 then (letM (sI m 135 (ixn x1) (gI m 151 (ixn ((116 * (gI m 133 40)) + x1)))) fun m3 =>
  RM_undo_L26 kx n m3 (x1 + 1)) else none) else none)
def RM_undo (m : Mem) : Option (Int32 × Mem) :=
  letM (sI m 133 0 0) fun m1 =>
  if (gI m1 133 40) = 0 then (some ((-1), m1))
  else (letM (sI m1 133 40 ((gI m1 133 40) - 1)) fun m2 =>
  RM_undo_L26 (fun m3 => some ((gI m3 133 40), m3)) FU m2 0)
def RM_isAt (m : Mem) (x1 : Int32) (x2 : Int32) (x3 : Int32) (x4 : Int32) : Option Int32 :=
  if inb ((14 + (24 * x1)) + (2 * x2)) 116 then (if (gI m 135 (ixn ((14 + (24 * x1)) + (2 * x2)))) = x3 then (if inb (((14 + (24 * x1)) + (2 * x2)) + 1) 116 then (if (gI m 135 (ixn (((14 + (24 * x1)) + (2 * x2)) + 1))) = x4 then (some 1)
  else (some 0)) else none)
  else (some 0)) else none
def RM_canMove (m : Mem) (x1 : Int32) (x2 : Int32) (x3 : Int32) (x4 : Int32) : Option Int32 :=
  if inb (11 + x1) 116 then (letV ((gI m 135 (ixn (11 + x1)))) fun v2 =>
  if (RM_isPoint x3 x4) = 0 then (some 0)
  else (bI (RM_isAt m x1 x2 x3 x4) fun v3 =>
  if v3 = 0 then (if ¬ v2 = 0 then (bI (RM_isAt m x1 (irm (x2 + 1) v2) x3 x4) fun v6 =>
  if v6 = 0 then (bI (RM_isAt m x1 (irm ((x2 + v2) - 1) v2) x3 x4) fun v8 =>
  if v8 = 0 then (some 1)
  else (some 0))
  else (some 0)) else none)
  else (some 0))) else none
def RM_puts (m : Mem) (x1 : Int32) (x2 : Int32) (x3 : Int32) (x4 : Int32) : Option Mem :=
  if inb ((14 + (24 * x1)) + (2 * x2)) 116 then (letM (sI m 135 (ixn ((14 + (24 * x1)) + (2 * x2))) x3) fun m2 =>
  if inb (((14 + (24 * x1)) + (2 * x2)) + 1) 116 then (letM (sI m2 135 (ixn (((14 + (24 * x1)) + (2 * x2)) + 1)) x4) fun m4 =>
  some m4) else none) else none
def RM_move (m : Mem) (x1 : Int32) (x2 : Int32) (x3 : Int32) (x4 : Int32) : Option (Int32 × Mem) :=
  letM (sI m 133 0 0) fun m1 =>
  bI (RM_isCorner m1 x1 x2) fun v2 =>
  if v2 = 0 then (some (0, m1))
  else (bI (RM_canMove m1 x1 x2 x3 x4) fun v4 =>
  if v4 = 0 then (some (0, m1))
  else (bM (RM_keep m1) fun m6 =>
  bM (RM_puts m6 x1 x2 x3 x4) fun m8 =>
  if inb 6 116 then (letM (sI m8 135 (ixn 6) ((gI m8 135 (ixn 6)) + 1)) fun m11 =>
  some (1, m11)) else none))
def RM_shift_L48 (x1 : Int32) (x2 : Int32) (x3 : Int32) (kx : Mem → Option (Int32 × Mem)) : Nat → Mem → Int32 → Option (Int32 × Mem)
  | 0, _, _ => none
  | n + 1, m, x4 =>
  if inb (11 + x1) 116 then (if (gI m 135 (ixn (11 + x1))) ≤ x4 then (kx m)
  else (if inb ((14 + (24 * x1)) + (2 * x4)) 116 then (if inb (((14 + (24 * x1)) + (2 * x4)) + 1) 116 then (if (RM_isPoint ((gI m 135 (ixn ((14 + (24 * x1)) + (2 * x4)))) + x2) ((gI m 135 (ixn (((14 + (24 * x1)) + (2 * x4)) + 1))) + x3)) = 0 then (some (0, m))
  else (RM_shift_L48 x1 x2 x3 kx n m (x4 + 1))) else none) else none)) else none
def RM_shift_L123 (x1 : Int32) (x2 : Int32) (x3 : Int32) (kx : Mem → Option (Int32 × Mem)) : Nat → Mem → Int32 → Option (Int32 × Mem)
  | 0, _, _ => none
  | n + 1, m, x4 =>
  if inb (11 + x1) 116 then (if (gI m 135 (ixn (11 + x1))) ≤ x4 then (kx m)
  else (if inb ((14 + (24 * x1)) + (2 * x4)) 116 then (if inb (((14 + (24 * x1)) + (2 * x4)) + 1) 116 then (bM (RM_puts m x1 x4 ((gI m 135 (ixn ((14 + (24 * x1)) + (2 * x4)))) + x2) ((gI m 135 (ixn (((14 + (24 * x1)) + (2 * x4)) + 1))) + x3)) fun m4 =>
  RM_shift_L123 x1 x2 x3 kx n m4 (x4 + 1)) else none) else none)) else none
def RM_shift_J21 (m : Mem) (x1 : Int32) (x2 : Int32) (x3 : Int32) : Option (Int32 × Mem) :=
  if (RM_isIn x2 (-20) 20) = 0 then (some (0, m))
  else (if (RM_isIn x3 (-20) 20) = 0 then (some (0, m))
  else (RM_shift_L48 x1 x2 x3 (fun m1 => bM (RM_keep m1) fun m2 =>
  RM_shift_L123 x1 x2 x3 (fun m4 => if inb 6 116 then (if inb (11 + x1) 116 then (letM (sI m4 135 (ixn 6) ((gI m4 135 (ixn 6)) + (gI m4 135 (ixn (11 + x1))))) fun m7 =>
  some (1, m7)) else none) else none) FU m2 0) FU m 0))
def RM_shift (m : Mem) (x1 : Int32) (x2 : Int32) (x3 : Int32) : Option (Int32 × Mem) :=
  letM (sI m 133 0 0) fun m1 =>
  bI (RM_isLine m1 x1) fun v2 =>
  if v2 = 0 then (some (0, m1))
  else (if x2 = 0 then (if x3 = 0 then (some (0, m1))
  else (RM_shift_J21 m1 x1 x2 x3))
  else (RM_shift_J21 m1 x1 x2 x3))
def RM_moved_L94 (x1 : Int32) (x2 : Int32) (x5 : Int32) (x6 : Int32) (x7 : Int32) (kx : Mem → Option (Int32 × Mem)) : Nat → Mem → Int32 → Option (Int32 × Mem)
  | 0, _, _ => none
  | n + 1, m, x8 =>
  if 400 ≤ x8 then (kx m)
  else (if inb x8 400 then (letM (sI m 142 (ixn x8) ((gI m 141 (ixn x8)) &&& 1)) fun m2 =>
  RM_moved_L94 x1 x2 x5 x6 x7 kx n m2 (x8 + 1)) else none)
def RM_moved_J188 (kr : Mem → Int32 → Int32 → Option (Int32 × Mem)) (kx : Mem → Int32 → Option (Int32 × Mem)) (m : Mem) (x5 : Int32) (x9 : Int32) (s0 : Int32) (s1 : Int32) (s2 : Int32) : Option (Int32 × Mem) :=
  if s1 = s2 then (letV ((s0 + 1)) fun v2 =>
  kr m v2 (x9 + 1))
  else (letV ((s0 + 0)) fun v1 =>
  kr m v1 (x9 + 1))
def RM_moved_L144 (x5 : Int32) (kx : Mem → Int32 → Option (Int32 × Mem)) : Nat → Mem → Int32 → Int32 → Option (Int32 × Mem)
  | 0, _, _, _ => none
  | n + 1, m, x8, x9 =>
  if 400 ≤ x9 then (kx m x8)
  else (if inb x9 400 then (if (gI m 142 (ixn x9)) = (gI m 141 (ixn x9)) then (letV ((x8 + 0)) fun v2 =>
  RM_moved_L144 x5 kx n m v2 (x9 + 1))
  else (if x5 = 0 then (RM_moved_J188 (RM_moved_L144 x5 kx n) (kx) m x5 x9 x8 (gI m 142 (ixn x9)) 1)
  else (RM_moved_J188 (RM_moved_L144 x5 kx n) (kx) m x5 x9 x8 (gI m 142 (ixn x9)) 0))) else none)
def RM_moved (m : Mem) (x1 : Int32) (x2 : Int32) (x3 : Int32) (x4 : Int32) (x5 : Int32) : Option (Int32 × Mem) :=
  letM (sI m 133 0 0) fun m1 =>
  bI (RM_isCorner m1 x1 x2) fun v2 =>
  if v2 = 0 then (some ((-1), m1))
  else (bI (RM_canMove m1 x1 x2 x3 x4) fun v4 =>
  if v4 = 0 then (some ((-1), m1))
  else (if (RM_isIn x5 0 1) = 0 then (some ((-1), m1))
  else (if inb ((14 + (24 * x1)) + (2 * x2)) 116 then (letV ((gI m1 135 (ixn ((14 + (24 * x1)) + (2 * x2))))) fun v7 =>
  if inb (((14 + (24 * x1)) + (2 * x2)) + 1) 116 then (letV ((gI m1 135 (ixn (((14 + (24 * x1)) + (2 * x2)) + 1)))) fun v9 =>
  bM (RM_puts m1 x1 x2 x3 x4) fun m10 =>
  bV (RM_maps m10 x1) fun v12 m13 =>
  RM_moved_L94 x1 x2 x5 v7 v9 (fun m15 => bM (RM_puts m15 x1 x2 v7 v9) fun m16 =>
  bV (RM_maps m16 x1) fun v18 m19 =>
  RM_moved_L144 x5 (fun m22 y21 => some (y21, m22)) FU m19 0 0) FU m13 0) else none) else none)))
def RM_draw (m : Mem) (x1 : Int32) : Option (Int32 × Mem) :=
  letM (sI m 133 41 (((gI m 133 41) * 1103515245) + 12345)) fun m1 =>
  if ¬ x1 = 0 then (some ((irm (jushr (gI m1 133 41) 8) x1), m1)) else none
def RM_nights_J170 (kr : Mem → Int32 → Option (Int32 × Mem)) (kx : Mem → Option (Int32 × Mem)) (m : Mem) (x1 : Int32) (x3 : Int32) (x4 : Int32) (x5 : Int32) (x6 : Int32) (x8 : Int32) (s0 : Int32) (s1 : Int32) : Option (Int32 × Mem) :=
  letV ((s0 + s1)) fun v1 =>
  bI (RM_canMove m x5 x6 x8 v1) fun v2 =>
  if v2 = 0 then (kr m (x4 + 1))
  else (bM (RM_puts m x5 x6 x8 v1) fun m4 =>
  if inb 6 116 then (letM (sI m4 135 (ixn 6) ((gI m4 135 (ixn 6)) + 1)) fun m7 =>
  kr m7 (x4 + 1)) else none)
def RM_nights_J127 (kr : Mem → Int32 → Option (Int32 × Mem)) (kx : Mem → Option (Int32 × Mem)) (m : Mem) (x1 : Int32) (x3 : Int32) (x4 : Int32) (x5 : Int32) (x6 : Int32) (x7 : Int32) (s0 : Int32) (s1 : Int32) : Option (Int32 × Mem) :=
  letV ((s0 + s1)) fun v1 =>
  if inb (((14 + (24 * x5)) + (2 * x6)) + 1) 116 then (if x7 = 2 then (RM_nights_J170 kr kx m x1 x3 x4 x5 x6 v1 (gI m 135 (ixn (((14 + (24 * x5)) + (2 * x6)) + 1))) 1)
  else (if x7 = 0 then (RM_nights_J170 kr kx m x1 x3 x4 x5 x6 v1 (gI m 135 (ixn (((14 + (24 * x5)) + (2 * x6)) + 1))) (-1))
  else (RM_nights_J170 kr kx m x1 x3 x4 x5 x6 v1 (gI m 135 (ixn (((14 + (24 * x5)) + (2 * x6)) + 1))) 0))) else none
def RM_nights_L47 (x1 : Int32) (x3 : Int32) (kx : Mem → Option (Int32 × Mem)) : Nat → Mem → Int32 → Option (Int32 × Mem)
  | 0, _, _ => none
  | n + 1, m, x4 =>
  if x1 ≤ x4 then (kx m)
  else (if inb 0 116 then (bV (RM_draw m (gI m 135 (ixn 0))) fun v2 m3 =>
  if inb (11 + v2) 116 then (bV (RM_draw m3 (gI m3 135 (ixn (11 + v2)))) fun v6 m7 =>
  bV (RM_draw m7 4) fun v9 m10 =>
  if inb ((14 + (24 * v2)) + (2 * v6)) 116 then (if v9 = 1 then (RM_nights_J127 (RM_nights_L47 x1 x3 kx n) (kx) m10 x1 x3 x4 v2 v6 v9 (gI m10 135 (ixn ((14 + (24 * v2)) + (2 * v6)))) 1)
  else (if v9 = 3 then (RM_nights_J127 (RM_nights_L47 x1 x3 kx n) (kx) m10 x1 x3 x4 v2 v6 v9 (gI m10 135 (ixn ((14 + (24 * v2)) + (2 * v6)))) (-1))
  else (RM_nights_J127 (RM_nights_L47 x1 x3 kx n) (kx) m10 x1 x3 x4 v2 v6 v9 (gI m10 135 (ixn ((14 + (24 * v2)) + (2 * v6)))) 0))) else none) else none) else none)
def RM_nights (m : Mem) (x1 : Int32) (x2 : Int32) : Option (Int32 × Mem) :=
  letM (sI m 133 0 0) fun m1 =>
  if (RM_isIn x1 1 200) = 0 then (some ((-1), m1))
  else (if inb 0 116 then (if (gI m1 135 (ixn 0)) = 0 then (some ((-1), m1))
  else (bM (RM_keep m1) fun m3 =>
  letM (sI m3 133 41 x2) fun m5 =>
  if inb 6 116 then (letV ((gI m5 135 (ixn 6))) fun v7 =>
  RM_nights_L47 x1 v7 (fun m8 => if inb 6 116 then (some (((gI m8 135 (ixn 6)) - v7), m8)) else none) FU m5 0) else none)) else none)
def RM_isTold_J83 (kr : Mem → Int32 → Option (Int32 × Mem)) (kx : Mem → Option (Int32 × Mem)) (m : Mem) (x1 : Int32) (s0 : Int32) (s1 : Int32) : Option (Int32 × Mem) :=
  if s0 ≤ s1 then (kr m (x1 + 1))
  else (some (0, m))
def RM_isTold_L45 (kx : Mem → Option (Int32 × Mem)) : Nat → Mem → Int32 → Option (Int32 × Mem)
  | 0, _, _ => none
  | n + 1, m, x1 =>
  if (gI m 133 3) ≤ x1 then (kx m)
  else (bI (RM_octet m x1) fun v1 =>
  if inb x1 24 then (letM (sI m 152 (ixn x1) v1) fun m4 =>
  if (irm x1 3) = 2 then (RM_isTold_J83 (RM_isTold_L45 kx n) (kx) m4 x1 (gI m4 152 (ixn x1)) 1)
  else (RM_isTold_J83 (RM_isTold_L45 kx n) (kx) m4 x1 (gI m4 152 (ixn x1)) 20)) else none)
def RM_isTold (m : Mem) : Option (Int32 × Mem) :=
  bM (RM_taken m 940) fun m1 =>
  if (irm (gI m1 133 3) 3) = 0 then (if (RM_isIn ((gI m1 133 3) / 3) 1 8) = 0 then (some (0, m1))
  else (letM (sI m1 133 43 ((gI m1 133 3) / 3)) fun m3 =>
  RM_isTold_L45 (fun m4 => some (1, m4)) FU m3 0))
  else (some (0, m1))
def RM_areSo_J55 (kr : Mem → Int32 → Option (Int32 × Mem)) (kx : Mem → Option (Int32 × Mem)) (m : Mem) (x1 : Int32) (s0 : Int32) (s1 : Int32) : Option (Int32 × Mem) :=
  if s0 = s1 then (kr m (x1 + 1))
  else (some (0, m))
def RM_areSo_L2 (kx : Mem → Option (Int32 × Mem)) : Nat → Mem → Int32 → Option (Int32 × Mem)
  | 0, _, _ => none
  | n + 1, m, x1 =>
  if (gI m 133 43) ≤ x1 then (kx m)
  else (if inb (3 * x1) 24 then (if inb ((3 * x1) + 1) 24 then (bV (RM_isHis m (2 * (gI m 152 (ixn (3 * x1)))) (2 * (gI m 152 (ixn ((3 * x1) + 1))))) fun v3 m4 =>
  if inb ((3 * x1) + 2) 24 then (if (gI m4 152 (ixn ((3 * x1) + 2))) = 1 then (RM_areSo_J55 (RM_areSo_L2 kx n) (kx) m4 x1 v3 1)
  else (RM_areSo_J55 (RM_areSo_L2 kx n) (kx) m4 x1 v3 0)) else none) else none) else none)
def RM_areSo (m : Mem) : Option (Int32 × Mem) :=
  RM_areSo_L2 (fun m1 => some (1, m1)) FU m 0
def RM_tries (m : Mem) (x1 : Int32) (x2 : Int32) (x3 : Int32) (x4 : Int32) : Option (Int32 × Mem) :=
  letV (((2 * x4) + 1)) fun v1 =>
  if inb ((14 + (24 * x1)) + (2 * x2)) 116 then (if ¬ v1 = 0 then (letV ((((gI m 135 (ixn ((14 + (24 * x1)) + (2 * x2)))) + (x3 / v1)) - x4)) fun v4 =>
  if inb (((14 + (24 * x1)) + (2 * x2)) + 1) 116 then (letV ((((gI m 135 (ixn (((14 + (24 * x1)) + (2 * x2)) + 1))) + (irm x3 v1)) - x4)) fun v6 =>
  if inb x2 13 then (letM (sI m 139 (ixn x2) (2 * v4)) fun m8 =>
  letM (sI m8 140 (ixn x2) (2 * v6)) fun m9 =>
  bM (RM_closes m9) fun m10 =>
  if (RM_isPoint v4 v6) = 0 ∨ (RM_isPoint v4 v6) = 1 then (some ((RM_isPoint v4 v6), m10)) else none) else none) else none) else none) else none
def RM_areUnlikeCorners_L2 (m : Mem) (kx : Option Int32) : Nat → Int32 → Option Int32
  | 0, _ => none
  | n + 1, x1 =>
  if (gI m 133 22) ≤ x1 then (kx)
  else (if inb x1 13 then (if inb (x1 + 1) 13 then (if (gI m 139 (ixn x1)) = (gI m 139 (ixn (x1 + 1))) then (if (gI m 140 (ixn x1)) = (gI m 140 (ixn (x1 + 1))) then (some 0)
  else (RM_areUnlikeCorners_L2 m kx n (x1 + 1)))
  else (RM_areUnlikeCorners_L2 m kx n (x1 + 1))) else none) else none)
def RM_areUnlikeCorners (m : Mem) : Option Int32 :=
  RM_areUnlikeCorners_L2 m (some 1) FU 0
def RM_found_J17 (m : Mem) (x1 : Int32) (x2 : Int32) (s1 : Int32) : Option Mem :=
  letM (sI m 133 46 s1) fun m1 =>
  if inb 0 6 then (letM (sI m1 153 (ixn 0) x1) fun m3 =>
  if inb x1 13 then (if inb 1 6 then (letM (sI m3 153 (ixn 1) ((gI m3 139 (ixn x1)) / 2)) fun m6 =>
  if inb 2 6 then (letM (sI m6 153 (ixn 2) ((gI m6 140 (ixn x1)) / 2)) fun m8 =>
  if x2 < 0 then (letM (sI m8 133 47 ((gI m8 133 47) + 1)) fun m9 =>
  some m9)
  else (if inb 3 6 then (letM (sI m8 153 (ixn 3) x2) fun m11 =>
  if inb x2 13 then (if inb 4 6 then (letM (sI m11 153 (ixn 4) ((gI m11 139 (ixn x2)) / 2)) fun m14 =>
  if inb 5 6 then (letM (sI m14 153 (ixn 5) ((gI m14 140 (ixn x2)) / 2)) fun m16 =>
  letM (sI m16 133 47 ((gI m16 133 47) + 1)) fun m17 =>
  some m17) else none) else none) else none) else none)) else none) else none) else none) else none
def RM_found (m : Mem) (x1 : Int32) (x2 : Int32) : Option Mem :=
  if (gI m 133 47) = 0 then (if 0 ≤ x2 then (RM_found_J17 m x1 x2 2)
  else (RM_found_J17 m x1 x2 1))
  else (letM (sI m 133 47 ((gI m 133 47) + 1)) fun m1 =>
  some m1)
def RM_byNight_L93 (x1 : Int32) (x2 : Int32) (x3 : Int32) (x4 : Int32) (kx : Mem → Option (Int32 × Mem)) : Nat → Mem → Int32 → Option (Int32 × Mem)
  | 0, _, _ => none
  | n + 1, m, x5 =>
  if x3 ≤ x5 then (kx m)
  else (if x5 = (x3 / 2) then (RM_byNight_L93 x1 x2 x3 x4 kx n m (x5 + 1))
  else (bM (RM_looks m x1) fun m1 =>
  bV (RM_tries m1 x1 x4 x5 x2) fun v3 m4 =>
  if v3 = 0 then (RM_byNight_L93 x1 x2 x3 x4 kx n m4 (x5 + 1))
  else (bI (RM_areUnlikeCorners m4) fun v6 =>
  if v6 = 0 then (RM_byNight_L93 x1 x2 x3 x4 kx n m4 (x5 + 1))
  else (bV (RM_areSo m4) fun v8 m9 =>
  if v8 = 0 then (RM_byNight_L93 x1 x2 x3 x4 kx n m9 (x5 + 1))
  else (bM (RM_found m9 x4 (-1)) fun m11 =>
  RM_byNight_L93 x1 x2 x3 x4 kx n m11 (x5 + 1))))))
def RM_byNight_L76 (x1 : Int32) (x2 : Int32) (x3 : Int32) (kx : Mem → Option (Int32 × Mem)) : Nat → Mem → Int32 → Option (Int32 × Mem)
  | 0, _, _ => none
  | n + 1, m, x4 =>
  if inb (11 + x1) 116 then (if (gI m 135 (ixn (11 + x1))) ≤ x4 then (kx m)
  else (RM_byNight_L93 x1 x2 x3 x4 (fun m2 => RM_byNight_L76 x1 x2 x3 kx n m2 (x4 + 1)) FU m 0)) else none
def RM_byNight_L256 (x1 : Int32) (x2 : Int32) (x3 : Int32) (x4 : Int32) (x5 : Int32) (x6 : Int32) (kx : Mem → Option (Int32 × Mem)) : Nat → Mem → Int32 → Option (Int32 × Mem)
  | 0, _, _ => none
  | n + 1, m, x7 =>
  if x3 ≤ x7 then (kx m)
  else (if x7 = (x3 / 2) then (RM_byNight_L256 x1 x2 x3 x4 x5 x6 kx n m (x7 + 1))
  else (bV (RM_tries m x1 x5 x7 x2) fun v1 m2 =>
  if v1 = 0 then (RM_byNight_L256 x1 x2 x3 x4 x5 x6 kx n m2 (x7 + 1))
  else (bI (RM_areUnlikeCorners m2) fun v4 =>
  if v4 = 0 then (RM_byNight_L256 x1 x2 x3 x4 x5 x6 kx n m2 (x7 + 1))
  else (bV (RM_areSo m2) fun v6 m7 =>
  if v6 = 0 then (RM_byNight_L256 x1 x2 x3 x4 x5 x6 kx n m7 (x7 + 1))
  else (bM (RM_found m7 x4 x5) fun m9 =>
  RM_byNight_L256 x1 x2 x3 x4 x5 x6 kx n m9 (x7 + 1))))))
def RM_byNight_L218 (x1 : Int32) (x2 : Int32) (x3 : Int32) (x4 : Int32) (x5 : Int32) (kx : Mem → Option (Int32 × Mem)) : Nat → Mem → Int32 → Option (Int32 × Mem)
  | 0, _, _ => none
  | n + 1, m, x6 =>
  if x3 ≤ x6 then (kx m)
  else (bM (RM_looks m x1) fun m1 =>
  if x6 = (x3 / 2) then (RM_byNight_L218 x1 x2 x3 x4 x5 kx n m1 (x6 + 1))
  else (bV (RM_tries m1 x1 x4 x6 x2) fun v3 m4 =>
  if v3 = 0 then (RM_byNight_L218 x1 x2 x3 x4 x5 kx n m4 (x6 + 1))
  else (RM_byNight_L256 x1 x2 x3 x4 x5 x6 (fun m6 => RM_byNight_L218 x1 x2 x3 x4 x5 kx n m6 (x6 + 1)) FU m4 0)))
def RM_byNight_L201 (x1 : Int32) (x2 : Int32) (x3 : Int32) (x4 : Int32) (kx : Mem → Option (Int32 × Mem)) : Nat → Mem → Int32 → Option (Int32 × Mem)
  | 0, _, _ => none
  | n + 1, m, x5 =>
  if inb (11 + x1) 116 then (if (gI m 135 (ixn (11 + x1))) ≤ x5 then (kx m)
  else (RM_byNight_L218 x1 x2 x3 x4 x5 (fun m2 => RM_byNight_L201 x1 x2 x3 x4 kx n m2 (x5 + 1)) FU m 0)) else none
def RM_byNight_L181 (x1 : Int32) (x2 : Int32) (x3 : Int32) (kx : Mem → Option (Int32 × Mem)) : Nat → Mem → Int32 → Option (Int32 × Mem)
  | 0, _, _ => none
  | n + 1, m, x4 =>
  if inb (11 + x1) 116 then (if (gI m 135 (ixn (11 + x1))) ≤ x4 then (kx m)
  else (letV ((x4 + 1)) fun v2 =>
  RM_byNight_L201 x1 x2 x3 x4 (fun m3 => RM_byNight_L181 x1 x2 x3 kx n m3 (x4 + 1)) FU m v2)) else none
def RM_byNight (m : Mem) (x1 : Int32) (x2 : Int32) : Option (Int32 × Mem) :=
  letM (sI m 133 0 0) fun m1 =>
  bV (RM_isTold m1) fun v2 m3 =>
  if v2 = 0 then (some ((-2), m3))
  else (bI (RM_isLine m3 x1) fun v5 =>
  if v5 = 0 then (some ((-2), m3))
  else (if (RM_isIn x2 1 3) = 0 then (some ((-2), m3))
  else (bM (RM_looks m3 x1) fun m7 =>
  bV (RM_areSo m7) fun v9 m10 =>
  if v9 = 0 then (letV ((((2 * x2) + 1) * ((2 * x2) + 1))) fun v12 =>
  letM (sI m10 133 47 0) fun m13 =>
  RM_byNight_L76 x1 x2 v12 (fun m14 => if (gI m14 133 47) ≤ 0 then (RM_byNight_L181 x1 x2 v12 (fun m15 => if (gI m15 133 47) = 0 then (some ((-1), m15))
  else (letM (sI m15 133 45 (gI m15 133 47)) fun m16 =>
  some (2, m16))) FU m14 0)
  else (letM (sI m14 133 45 (gI m14 133 47)) fun m17 =>
  some (1, m17))) FU m13 0)
  else (letM (sI m10 133 45 1) fun m18 =>
  letM (sI m18 133 46 0) fun m19 =>
  some (0, m19)))))
def RM_ways (m : Mem) : Option (Int32 × Mem) :=
  letM (sI m 133 0 0) fun m1 =>
  some ((gI m1 133 45), m1)
def RM_way (m : Mem) (x1 : Int32) (x2 : Int32) : Option (Int32 × Mem) :=
  letM (sI m 133 0 0) fun m1 =>
  if (gI m1 133 45) ≤ 0 then (some ((-1), m1))
  else (if (RM_isIn x1 0 ((gI m1 133 46) - 1)) = 0 then (some ((-1), m1))
  else (if (RM_isIn x2 0 2) = 0 then (some ((-1), m1))
  else (if inb ((3 * x1) + x2) 6 then (some ((gI m1 153 (ixn ((3 * x1) + x2))), m1)) else none)))
def RM_isBy_J33 (kr : Mem → Int32 → Option (Int32 × Mem)) (kx : Mem → Option (Int32 × Mem)) (m : Mem) (x1 : Int32) (x2 : Int32) (x3 : Int32) (x4 : Int32) (x5 : Int32) (s1 : Int32) (s2 : Int32) (s3 : Int32) : Option (Int32 × Mem) :=
  if inb s1 13 then (letM (sI m 139 (ixn s1) (s2 * s3)) fun m2 =>
  if 2 ≤ x5 then (if inb x5 13 then (letM (sI m2 140 (ixn x5) (2 * x4)) fun m4 =>
  kr m4 (x5 + 1)) else none)
  else (if inb x5 13 then (letM (sI m2 140 (ixn x5) (2 * x2)) fun m6 =>
  kr m6 (x5 + 1)) else none)) else none
def RM_isBy_L3 (x1 : Int32) (x2 : Int32) (x3 : Int32) (x4 : Int32) (kx : Mem → Option (Int32 × Mem)) : Nat → Mem → Int32 → Option (Int32 × Mem)
  | 0, _, _ => none
  | n + 1, m, x5 =>
  if 4 ≤ x5 then (kx m)
  else (if x5 = 1 then (RM_isBy_J33 (RM_isBy_L3 x1 x2 x3 x4 kx n) (kx) m x1 x2 x3 x4 x5 x5 2 x3)
  else (if x5 = 2 then (RM_isBy_J33 (RM_isBy_L3 x1 x2 x3 x4 kx n) (kx) m x1 x2 x3 x4 x5 x5 2 x3)
  else (RM_isBy_J33 (RM_isBy_L3 x1 x2 x3 x4 kx n) (kx) m x1 x2 x3 x4 x5 x5 2 x1)))
def RM_isBy (m : Mem) (x1 : Int32) (x2 : Int32) (x3 : Int32) (x4 : Int32) : Option (Int32 × Mem) :=
  RM_isBy_L3 x1 x2 x3 x4 (fun m1 => bM (RM_closes m1) fun m2 =>
  bV (RM_areSo m2) fun v4 m5 =>
  if v4 = 0 ∨ v4 = 1 then (some (v4, m5)) else none) FU m 0
def RM_rectangle_J83 (kr : Mem → Int32 → Int32 → Option (Int32 × Mem)) (kx : Mem → Int32 → Option (Int32 × Mem)) (m : Mem) (x1 : Int32) (x2 : Int32) (x3 : Int32) (x4 : Int32) (x5 : Int32) (x6 : Int32) : Option (Int32 × Mem) :=
  bV (RM_isBy m x2 x3 x4 x5) fun v1 m2 =>
  if v1 = 0 then (kr m2 x1 (x5 + 1))
  else (if inb 0 4 then (letM (sI m2 154 (ixn 0) x2) fun m5 =>
  if inb 1 4 then (letM (sI m5 154 (ixn 1) x3) fun m7 =>
  if inb 2 4 then (letM (sI m7 154 (ixn 2) x4) fun m9 =>
  if inb 3 4 then (letM (sI m9 154 (ixn 3) x5) fun m11 =>
  letM (sI m11 133 49 1) fun m12 =>
  kr m12 x6 (x5 + 1)) else none) else none) else none) else none)
def RM_rectangle_L55 (x2 : Int32) (x3 : Int32) (x4 : Int32) (kx : Mem → Int32 → Option (Int32 × Mem)) : Nat → Mem → Int32 → Int32 → Option (Int32 × Mem)
  | 0, _, _, _ => none
  | n + 1, m, x1, x5 =>
  if 20 < x5 then (kx m x1)
  else (letV ((((x4 - x2) + x5) - x3)) fun v1 =>
  if x1 < 0 then (RM_rectangle_J83 (RM_rectangle_L55 x2 x3 x4 kx n) (kx) m x1 x2 x3 x4 x5 v1)
  else (if x1 ≤ v1 then (RM_rectangle_L55 x2 x3 x4 kx n m x1 (x5 + 1))
  else (RM_rectangle_J83 (RM_rectangle_L55 x2 x3 x4 kx n) (kx) m x1 x2 x3 x4 x5 v1)))
def RM_rectangle_L43 (x2 : Int32) (x3 : Int32) (kx : Mem → Int32 → Option (Int32 × Mem)) : Nat → Mem → Int32 → Int32 → Option (Int32 × Mem)
  | 0, _, _, _ => none
  | n + 1, m, x1, x4 =>
  if 20 < x4 then (kx m x1)
  else (letV ((x3 + 1)) fun v1 =>
  RM_rectangle_L55 x2 x3 x4 (fun m3 y2 => RM_rectangle_L43 x2 x3 kx n m3 y2 (x4 + 1)) FU m x1 v1)
def RM_rectangle_L32 (x2 : Int32) (kx : Mem → Int32 → Option (Int32 × Mem)) : Nat → Mem → Int32 → Int32 → Option (Int32 × Mem)
  | 0, _, _, _ => none
  | n + 1, m, x1, x3 =>
  if 20 ≤ x3 then (kx m x1)
  else (letV ((x2 + 1)) fun v1 =>
  RM_rectangle_L43 x2 x3 (fun m3 y2 => RM_rectangle_L32 x2 kx n m3 y2 (x3 + 1)) FU m x1 v1)
def RM_rectangle_L24 (kx : Mem → Int32 → Option (Int32 × Mem)) : Nat → Mem → Int32 → Int32 → Option (Int32 × Mem)
  | 0, _, _, _ => none
  | n + 1, m, x1, x2 =>
  if 20 ≤ x2 then (kx m x1)
  else (RM_rectangle_L32 x2 (fun m2 y1 => RM_rectangle_L24 kx n m2 y1 (x2 + 1)) FU m x1 0)
def RM_rectangle (m : Mem) : Option (Int32 × Mem) :=
  letM (sI m 133 0 0) fun m1 =>
  bV (RM_isTold m1) fun v2 m3 =>
  if v2 = 0 then (some ((-2), m3))
  else (letM (sI m3 133 22 4) fun m5 =>
  RM_rectangle_L24 (fun m7 y6 => some (y6, m7)) FU m5 (-1) 0)
def RM_side (m : Mem) (x1 : Int32) : Option (Int32 × Mem) :=
  letM (sI m 133 0 0) fun m1 =>
  if (gI m1 133 49) = 0 then (some ((-1), m1))
  else (if (RM_isIn x1 0 3) = 0 then (some ((-1), m1))
  else (if inb x1 4 then (some ((gI m1 154 (ixn x1)), m1)) else none))
def RM_mends_J73 (kr : Mem → Int32 → Option (Int32 × Mem)) (kx : Mem → Option (Int32 × Mem)) (m : Mem) (x1 : Int32) (x2 : Int32) (x3 : Int32) (x4 : Int32) (x5 : Int32) (x6 : Int32) (x7 : Int32) (s0 : Int32) : Option (Int32 × Mem) :=
  if x7 = 0 then (if s0 = 0 then (if inb x6 30 then (letM (sI m 156 (ixn x6) 0) fun m2 =>
  kr m2 (x6 + 1)) else none)
  else (if inb x6 30 then (letM (sI m 156 (ixn x6) (99 - (gI m 158 (ixn x6)))) fun m4 =>
  kr m4 (x6 + 1)) else none))
  else (if inb x6 30 then (letM (sI m 156 (ixn x6) ((gI m 158 (ixn x6)) - 1)) fun m6 =>
  kr m6 (x6 + 1)) else none)
def RM_mends_J65 (kr : Mem → Int32 → Option (Int32 × Mem)) (kx : Mem → Option (Int32 × Mem)) (m : Mem) (x1 : Int32) (x2 : Int32) (x3 : Int32) (x4 : Int32) (x5 : Int32) (x6 : Int32) (x7 : Int32) (s0 : Int32) (s1 : Int32) : Option (Int32 × Mem) :=
  if s0 = s1 then (RM_mends_J73 kr kx m x1 x2 x3 x4 x5 x6 x7 1)
  else (RM_mends_J73 kr kx m x1 x2 x3 x4 x5 x6 x7 0)
def RM_mends_J46 (kr : Mem → Int32 → Option (Int32 × Mem)) (kx : Mem → Option (Int32 × Mem)) (m : Mem) (x1 : Int32) (x2 : Int32) (x3 : Int32) (x4 : Int32) (x5 : Int32) (x6 : Int32) (s0 : Int32) : Option (Int32 × Mem) :=
  if inb x6 30 then (if x2 ≤ 0 then (RM_mends_J65 kr kx m x1 x2 x3 x4 x5 x6 s0 (gI m 157 (ixn x6)) x3)
  else (RM_mends_J65 kr kx m x1 x2 x3 x4 x5 x6 s0 (gI m 157 (ixn x6)) x4)) else none
def RM_mends_J38 (kr : Mem → Int32 → Option (Int32 × Mem)) (kx : Mem → Option (Int32 × Mem)) (m : Mem) (x1 : Int32) (x2 : Int32) (x3 : Int32) (x4 : Int32) (x5 : Int32) (x6 : Int32) (s0 : Int32) (s1 : Int32) : Option (Int32 × Mem) :=
  if s0 = s1 then (RM_mends_J46 kr kx m x1 x2 x3 x4 x5 x6 1)
  else (RM_mends_J46 kr kx m x1 x2 x3 x4 x5 x6 0)
def RM_mends_L15 (x1 : Int32) (x2 : Int32) (x3 : Int32) (x4 : Int32) (x5 : Int32) (kx : Mem → Option (Int32 × Mem)) : Nat → Mem → Int32 → Option (Int32 × Mem)
  | 0, _, _ => none
  | n + 1, m, x6 =>
  if x1 ≤ x6 then (kx m)
  else (if inb x6 30 then (if x2 ≤ 0 then (RM_mends_J38 (RM_mends_L15 x1 x2 x3 x4 x5 kx n) (kx) m x1 x2 x3 x4 x5 x6 (gI m 157 (ixn x6)) x4)
  else (RM_mends_J38 (RM_mends_L15 x1 x2 x3 x4 x5 kx n) (kx) m x1 x2 x3 x4 x5 x6 (gI m 157 (ixn x6)) x3)) else none)
def RM_mends_L138 (x1 : Int32) (x5 : Int32) (x6 : Int32) (kx : Mem → Int32 → Option (Int32 × Mem)) : Nat → Mem → Int32 → Int32 → Option (Int32 × Mem)
  | 0, _, _, _ => none
  | n + 1, m, x7, x8 =>
  if x1 ≤ x8 then (kx m x7)
  else (if inb x8 30 then (if inb x7 30 then (if (gI m 156 (ixn x8)) ≤ (gI m 156 (ixn x7)) then (RM_mends_L138 x1 x5 x6 kx n m x7 (x8 + 1))
  else (RM_mends_L138 x1 x5 x6 kx n m x8 (x8 + 1))) else none) else none)
def RM_mends_L127 (x1 : Int32) (kx : Mem → Int32 → Option (Int32 × Mem)) : Nat → Mem → Int32 → Int32 → Option (Int32 × Mem)
  | 0, _, _, _ => none
  | n + 1, m, x5, x6 =>
  if x5 ≤ 0 then (kx m x6)
  else (RM_mends_L138 x1 x5 x6 (fun m2 y1 => if inb y1 30 then (if (gI m2 156 (ixn y1)) = 0 then (some ((-1), m2))
  else (letV ((x5 - (gI m2 156 (ixn y1)))) fun v4 =>
  letM (sI m2 156 (ixn y1) 0) fun m5 =>
  RM_mends_L127 x1 kx n m5 v4 (x6 + 1))) else none) FU m 0 1)
def RM_mends_J10 (m : Mem) (x1 : Int32) (x2 : Int32) (x3 : Int32) (x4 : Int32) (s0 : Int32) : Option (Int32 × Mem) :=
  RM_mends_L15 x1 x2 x3 x4 s0 (fun m1 => RM_mends_L127 x1 (fun m3 y2 => some (y2, m3)) FU m1 s0 0) FU m 0
def RM_mends (m : Mem) (x1 : Int32) (x2 : Int32) (x3 : Int32) (x4 : Int32) : Option (Int32 × Mem) :=
  if 0 ≤ x2 then (RM_mends_J10 m x1 x2 x3 x4 x2)
  else (RM_mends_J10 m x1 x2 x3 x4 (-x2))
def RM_paces_J55 (kr : Mem → Int32 → Option (Int32 × Mem)) (kx : Mem → Int32 → Option (Int32 × Mem)) (m : Mem) (s1 : Int32) : Option (Int32 × Mem) :=
  bV (RM_bad m s1) fun v1 m2 =>
  some (((-1) - (gI m2 133 15)), m2)
def RM_paces_J45 (kr : Mem → Int32 → Option (Int32 × Mem)) (kx : Mem → Int32 → Option (Int32 × Mem)) (m : Mem) (x2 : Int32) : Option (Int32 × Mem) :=
  if 0 ≤ x2 then (RM_paces_J55 kr kx m 4)
  else (RM_paces_J55 kr kx m 1)
def RM_paces_L23 (kx : Mem → Int32 → Option (Int32 × Mem)) : Nat → Mem → Int32 → Option (Int32 × Mem)
  | 0, _, _ => none
  | n + 1, m, x1 =>
  if (gI m 133 10) = 0 then (kx m x1)
  else (letV ((RM_dirOfWord m)) fun v1 =>
  if v1 < 0 then (RM_paces_J45 (RM_paces_L23 kx n) (kx) m v1)
  else (if x1 = 30 then (RM_paces_J45 (RM_paces_L23 kx n) (kx) m v1)
  else (bM (RM_next m) fun m2 =>
  bV (RM_takes m2 1 99) fun v4 m5 =>
  if v4 = 0 then (some (((-1) - (gI m5 133 15)), m5))
  else (bV (RM_sign m5 59) fun v7 m8 =>
  if v7 = 0 then (some (((-1) - (gI m8 133 15)), m8))
  else (if inb x1 30 then (letM (sI m8 157 (ixn x1) v1) fun m11 =>
  letM (sI m11 158 (ixn x1) (gI m11 133 17)) fun m12 =>
  RM_paces_L23 kx n m12 (x1 + 1)) else none)))))
def RM_paces_J195 (kr : Mem → Int32 → Int32 → Int32 → Option (Int32 × Mem)) (kx : Mem → Int32 → Int32 → Option (Int32 × Mem)) (m : Mem) (x1 : Int32) (x3 : Int32) (x4 : Int32) (s0 : Int32) (s1 : Int32) : Option (Int32 × Mem) :=
  letV ((s0 + s1)) fun v1 =>
  if inb x4 30 then (if (gI m 157 (ixn x4)) = 2 then (letV ((x3 + (gI m 158 (ixn x4)))) fun v5 =>
  kr m v1 v5 (x4 + 1))
  else (if (gI m 157 (ixn x4)) = 0 then (letV ((x3 + (-(gI m 158 (ixn x4))))) fun v4 =>
  kr m v1 v4 (x4 + 1))
  else (letV ((x3 + 0)) fun v3 =>
  kr m v1 v3 (x4 + 1)))) else none
def RM_paces_L144 (x1 : Int32) (kx : Mem → Int32 → Int32 → Option (Int32 × Mem)) : Nat → Mem → Int32 → Int32 → Int32 → Option (Int32 × Mem)
  | 0, _, _, _, _ => none
  | n + 1, m, x2, x3, x4 =>
  if x1 ≤ x4 then (kx m x2 x3)
  else (if inb x4 30 then (if (gI m 157 (ixn x4)) = 1 then (RM_paces_J195 (RM_paces_L144 x1 kx n) (kx) m x1 x3 x4 x2 (gI m 158 (ixn x4)))
  else (if (gI m 157 (ixn x4)) = 3 then (RM_paces_J195 (RM_paces_L144 x1 kx n) (kx) m x1 x3 x4 x2 (-(gI m 158 (ixn x4))))
  else (RM_paces_J195 (RM_paces_L144 x1 kx n) (kx) m x1 x3 x4 x2 0))) else none)
def RM_paces_J337 (m : Mem) (x1 : Int32) (x3 : Int32) (s1 : Int32) (s2 : Int32) : Option (Int32 × Mem) :=
  if 0 ≤ x3 then (if inb s1 4 then (letM (sI m 155 (ixn s1) (s2 + x3)) fun m2 =>
  letM (sI m2 133 52 1) fun m3 =>
  some (x1, m3)) else none)
  else (if inb s1 4 then (letM (sI m 155 (ixn s1) (s2 + (-x3))) fun m5 =>
  letM (sI m5 133 52 1) fun m6 =>
  some (x1, m6)) else none)
def RM_paces_J307 (m : Mem) (x1 : Int32) (x2 : Int32) (x3 : Int32) (x4 : Int32) (x5 : Int32) (s1 : Int32) (s2 : Int32) : Option (Int32 × Mem) :=
  if inb s1 4 then (letM (sI m 155 (ixn s1) s2) fun m2 =>
  if x4 < 0 then (if inb 3 4 then (letM (sI m2 155 (ixn 3) (-1)) fun m4 =>
  letM (sI m4 133 52 1) fun m5 =>
  some (x1, m5)) else none)
  else (if 0 ≤ x5 then (if 0 ≤ x2 then (RM_paces_J337 m2 x1 x3 3 x2)
  else (RM_paces_J337 m2 x1 x3 3 (-x2)))
  else (if inb 3 4 then (letM (sI m2 155 (ixn 3) (-1)) fun m7 =>
  letM (sI m7 133 52 1) fun m8 =>
  some (x1, m8)) else none))) else none
def RM_paces (m : Mem) : Option (Int32 × Mem) :=
  letM (sI m 133 0 0) fun m1 =>
  bM (RM_taken m1 300) fun m2 =>
  letM (sI m2 133 14 0) fun m4 =>
  bM (RM_next m4) fun m5 =>
  RM_paces_L23 (fun m8 y7 => if 2 ≤ y7 then (RM_paces_L144 y7 (fun m11 y9 y10 => bV (RM_mends m11 y7 y9 1 3) fun v12 m13 =>
  bV (RM_mends m13 y7 y10 2 0) fun v15 m16 =>
  if inb 0 4 then (letM (sI m16 155 (ixn 0) y9) fun m19 =>
  if inb 1 4 then (letM (sI m19 155 (ixn 1) y10) fun m21 =>
  if v12 < 0 then (RM_paces_J307 m21 y7 y9 y10 v12 v15 2 (-1))
  else (if 0 ≤ v15 then (RM_paces_J307 m21 y7 y9 y10 v12 v15 2 (v12 + v15))
  else (RM_paces_J307 m21 y7 y9 y10 v12 v15 2 (-1)))) else none) else none) FU m8 0 0 0)
  else (bV (RM_bad m8 4) fun v22 m23 =>
  some (((-1) - (gI m23 133 15)), m23))) FU m5 0
def RM_paced (m : Mem) (x1 : Int32) : Option (Int32 × Mem) :=
  letM (sI m 133 0 0) fun m1 =>
  if (gI m1 133 52) = 0 then (some ((-1001), m1))
  else (if (RM_isIn x1 0 3) = 0 then (some ((-1001), m1))
  else (if inb x1 4 then (some ((gI m1 155 (ixn x1)), m1)) else none))
def RM_image_L18 (x1 : Int32) (kx : Mem → Option (Int32 × Mem)) : Nat → Mem → Int32 → Option (Int32 × Mem)
  | 0, _, _ => none
  | n + 1, m, x2 =>
  if 116 ≤ x2 then (kx m)
  else (if inb x2 116 then (if inb ((116 * x1) + x2) 232 then (letM (sI m 159 (ixn ((116 * x1) + x2)) (gI m 135 (ixn x2))) fun m3 =>
  RM_image_L18 x1 kx n m3 (x2 + 1)) else none) else none)
def RM_image_L49 (x1 : Int32) (kx : Mem → Option (Int32 × Mem)) : Nat → Mem → Int32 → Option (Int32 × Mem)
  | 0, _, _ => none
  | n + 1, m, x2 =>
  if 13 ≤ x2 then (kx m)
  else (if inb x2 26 then (if inb ((13 * x1) + x2) 26 then (letM (sJ m 160 (ixn ((13 * x1) + x2)) (gJ m 137 (ixn x2))) fun m3 =>
  RM_image_L49 x1 kx n m3 (x2 + 1)) else none) else none)
def RM_image (m : Mem) (x1 : Int32) : Option (Int32 × Mem) :=
  letM (sI m 133 0 0) fun m1 =>
  if (RM_isIn x1 0 1) = 0 then (some (0, m1))
  else (RM_image_L18 x1 (fun m2 => RM_image_L49 x1 (fun m3 => if inb x1 2 then (letM (sI m3 161 (ixn x1) ((1 : Int32) &&& 1)) fun m5 =>
  some (1, m5)) else none) FU m2 0) FU m1 0)
def RM_restore_L27 (x1 : Int32) (kx : Mem → Option (Int32 × Mem)) : Nat → Mem → Int32 → Option (Int32 × Mem)
  | 0, _, _ => none
  | n + 1, m, x2 =>
  if 116 ≤ x2 then (kx m)
  else (if inb ((116 * x1) + x2) 232 then (if inb x2 116 then (letM (sI m 135 (ixn x2) (gI m 159 (ixn ((116 * x1) + x2)))) fun m3 =>
  RM_restore_L27 x1 kx n m3 (x2 + 1)) else none) else none)
def RM_restore_L58 (x1 : Int32) (kx : Mem → Option (Int32 × Mem)) : Nat → Mem → Int32 → Option (Int32 × Mem)
  | 0, _, _ => none
  | n + 1, m, x2 =>
  if 13 ≤ x2 then (kx m)
  else (if inb ((13 * x1) + x2) 26 then (if inb x2 26 then (letM (sJ m 137 (ixn x2) (gJ m 160 (ixn ((13 * x1) + x2)))) fun m3 =>
  RM_restore_L58 x1 kx n m3 (x2 + 1)) else none) else none)
def RM_restore (m : Mem) (x1 : Int32) : Option (Int32 × Mem) :=
  letM (sI m 133 0 0) fun m1 =>
  if (RM_isIn x1 0 1) = 0 then (some (0, m1))
  else (if inb x1 2 then (if (gI m1 161 (ixn x1)) = 0 then (some (0, m1))
  else (RM_restore_L27 x1 (fun m3 => RM_restore_L58 x1 (fun m4 => letM (sI m4 133 40 0) fun m5 =>
  some (1, m5)) FU m3 0) FU m1 0)) else none)
def RM_count (m : Mem) (x1 : Int32) : Option (Int32 × Mem) :=
  letM (sI m 133 0 0) fun m1 =>
  if x1 = 7 then (some ((gI m1 133 2), m1))
  else (if (RM_isIn x1 0 6) = 0 then (some ((-1), m1))
  else (if inb x1 116 then (some ((gI m1 135 (ixn x1)), m1)) else none))

theorem RM_moved_L94_ok (x1 : Int32) (x2 : Int32) (x5 : Int32) (x6 : Int32) (x7 : Int32) (kx : Mem → Option (Int32 × Mem)) (R : Int32 × Mem) (hx : ∀ (m : Mem), kx m = some R → E M_RM_moved 122 [(0, .ref 133), (1, .int x1), (2, .int x2), (5, .int x5), (6, .int x6), (7, .int x7)] [] m (qI R.1 R.2)) : ∀ (n : Nat) (m : Mem) (x8 : Int32), RM_moved_L94 x1 x2 x5 x6 x7 kx n m x8 = some R → E M_RM_moved 94 [(0, .ref 133), (1, .int x1), (2, .int x2), (5, .int x5), (6, .int x6), (7, .int x7), (8, .int x8)] [] m (qI R.1 R.2) := by
  intro n
  induction n with
  | zero =>
    intro m x8 h
    exact absurd (show none = some R from h) (fun e => Option.some_ne_none R e.symm)
  | succ n ih =>
    intro m x8 h
    rw [RM_moved_L94] at h
    refine E_iload (n := 96) 62 rfl rfl 6 rfl <| E_sipush (v := 400) (n := 99) 63 rfl rfl spz_400 <| E_icmp_ge (n := 102) (t := 122) 64 rfl rfl rfl (fun hc => ?_) (fun hc => ?_)
    · have h := ifp h hc
      refine E_sub (lv' := [(0, .ref 133), (1, .int x1), (2, .int x2), (5, .int x5), (6, .int x6), (7, .int x7)]) [0, 1, 2, 3, 4, 5] rfl ?_
      exact hx m h
    · have h := ifn h hc
      obtain ⟨hc1, h⟩ := ift h
      obtain ⟨m2, hm2, h⟩ := letM_ex h
      refine E_aload_n (n := 103) 65 rfl rfl rfl 0 rfl <| E_gF (r := 142) (n := 106) 66 rfl rfl fg_12_57 sh_133 rfl <| E_iload (n := 108) 67 rfl rfl 6 rfl <| E_aload_n (n := 109) 68 rfl rfl rfl 0 rfl <| E_gF (r := 141) (n := 112) 69 rfl rfl fg_12_53 sh_133 rfl <| E_iload (n := 114) 70 rfl rfl 6 rfl <| E_zald (n := 115) 71 rfl rfl sh_141 hc1 <| E_zast (n := 116) 72 rfl rfl sh_142 hc1 <| E_mem hm2 <| E_iinc (v := (x8 + 1)) (lv' := [(0, .ref 133), (1, .int x1), (2, .int x2), (5, .int x5), (6, .int x6), (7, .int x7), (8, .int (x8 + 1))]) (n := 119) 73 rfl rfl 6 rfl (by rw [icz_1]) (Nat.le_of_ble_eq_true rfl) [1, 2, 3, 4, 5, 6, 0] rfl <| E_goto (t := 94) 74 rfl rfl <| ?_
      exact ih m2 (x8 + 1) h
theorem RM_moved_J188_ok (kr : Mem → Int32 → Int32 → Option (Int32 × Mem)) (kx : Mem → Int32 → Option (Int32 × Mem)) (m : Mem) (x5 : Int32) (x9 : Int32) (s0 : Int32) (s1 : Int32) (s2 : Int32) (R : Int32 × Mem) (hr : ∀ (m : Mem) (x8 : Int32) (x9 : Int32), kr m x8 x9 = some R → E M_RM_moved 144 [(0, .ref 133), (5, .int x5), (8, .int x8), (9, .int x9)] [] m (qI R.1 R.2)) (hx : ∀ (m : Mem) (x8 : Int32), kx m x8 = some R → E M_RM_moved 205 [(8, .int x8)] [] m (qI R.1 R.2)) (h : RM_moved_J188 kr kx m x5 x9 s0 s1 s2 = some R) : E M_RM_moved 188 [(0, .ref 133), (5, .int x5), (9, .int x9)] [.int s2, .int s1, .int s0] m (qI R.1 R.2) := by
  unfold RM_moved_J188 at h
  refine E_icmp_ne (n := 191) (t := 195) 111 rfl rfl rfl (fun hc => ?_) (fun hc => ?_)
  · have h := ifn h hc
    refine E_iconst (v := 0) (n := 196) 114 rfl rfl icz_0 <| ?_
    obtain ⟨v1, hv1, h⟩ := letV_ex h
    refine E_iadd (n := 197) 115 rfl rfl <| E_top hv1 <| E_istore (lv' := [(0, .ref 133), (5, .int x5), (8, .int v1), (9, .int x9)]) (n := 199) 116 rfl rfl (Nat.le_of_ble_eq_true rfl) [1, 2, 0, 3] rfl <| E_iinc (v := (x9 + 1)) (lv' := [(0, .ref 133), (5, .int x5), (8, .int v1), (9, .int (x9 + 1))]) (n := 202) 117 rfl rfl 3 rfl (by rw [icz_1]) (Nat.le_of_ble_eq_true rfl) [1, 2, 3, 0] rfl <| E_goto (t := 144) 118 rfl rfl <| ?_
    exact hr m v1 (x9 + 1) h
  · have h := ifp h hc
    refine E_iconst (v := 1) (n := 192) 112 rfl rfl icz_1 <| E_goto (t := 196) 113 rfl rfl <| ?_
    obtain ⟨v2, hv2, h⟩ := letV_ex h
    refine E_iadd (n := 197) 115 rfl rfl <| E_top hv2 <| E_istore (lv' := [(0, .ref 133), (5, .int x5), (8, .int v2), (9, .int x9)]) (n := 199) 116 rfl rfl (Nat.le_of_ble_eq_true rfl) [1, 2, 0, 3] rfl <| E_iinc (v := (x9 + 1)) (lv' := [(0, .ref 133), (5, .int x5), (8, .int v2), (9, .int (x9 + 1))]) (n := 202) 117 rfl rfl 3 rfl (by rw [icz_1]) (Nat.le_of_ble_eq_true rfl) [1, 2, 3, 0] rfl <| E_goto (t := 144) 118 rfl rfl <| ?_
    exact hr m v2 (x9 + 1) h
theorem RM_moved_L144_ok (x5 : Int32) (kx : Mem → Int32 → Option (Int32 × Mem)) (R : Int32 × Mem) (hx : ∀ (m : Mem) (x8 : Int32), kx m x8 = some R → E M_RM_moved 205 [(8, .int x8)] [] m (qI R.1 R.2)) : ∀ (n : Nat) (m : Mem) (x8 : Int32) (x9 : Int32), RM_moved_L144 x5 kx n m x8 x9 = some R → E M_RM_moved 144 [(0, .ref 133), (5, .int x5), (8, .int x8), (9, .int x9)] [] m (qI R.1 R.2) := by
  intro n
  induction n with
  | zero =>
    intro m x8 x9 h
    exact absurd (show none = some R from h) (fun e => Option.some_ne_none R e.symm)
  | succ n ih =>
    intro m x8 x9 h
    rw [RM_moved_L144] at h
    refine E_iload (n := 146) 89 rfl rfl 3 rfl <| E_sipush (v := 400) (n := 149) 90 rfl rfl spz_400 <| E_icmp_ge (n := 152) (t := 205) 91 rfl rfl rfl (fun hc => ?_) (fun hc => ?_)
    · have h := ifp h hc
      refine E_sub (lv' := [(8, .int x8)]) [2] rfl ?_
      exact hx m x8 h
    · have h := ifn h hc
      obtain ⟨hc1, h⟩ := ift h
      refine E_iload (n := 154) 92 rfl rfl 2 rfl <| E_aload_n (n := 155) 93 rfl rfl rfl 0 rfl <| E_gF (r := 142) (n := 158) 94 rfl rfl fg_12_57 sh_133 rfl <| E_iload (n := 160) 95 rfl rfl 3 rfl <| E_zald (n := 161) 96 rfl rfl sh_142 hc1 <| E_aload_n (n := 162) 97 rfl rfl rfl 0 rfl <| E_gF (r := 141) (n := 165) 98 rfl rfl fg_12_53 sh_133 rfl <| E_iload (n := 167) 99 rfl rfl 3 rfl <| E_zald (n := 168) 100 rfl rfl sh_141 hc1 <| E_icmp_eq (n := 171) (t := 195) 101 rfl rfl rfl (fun hc => ?_) (fun hc => ?_)
      · have h := ifp h hc
        refine E_iconst (v := 0) (n := 196) 114 rfl rfl icz_0 <| ?_
        obtain ⟨v2, hv2, h⟩ := letV_ex h
        refine E_iadd (n := 197) 115 rfl rfl <| E_top hv2 <| E_istore (lv' := [(0, .ref 133), (5, .int x5), (8, .int v2), (9, .int x9)]) (n := 199) 116 rfl rfl (Nat.le_of_ble_eq_true rfl) [1, 2, 0, 3] rfl <| E_iinc (v := (x9 + 1)) (lv' := [(0, .ref 133), (5, .int x5), (8, .int v2), (9, .int (x9 + 1))]) (n := 202) 117 rfl rfl 3 rfl (by rw [icz_1]) (Nat.le_of_ble_eq_true rfl) [1, 2, 3, 0] rfl <| E_goto (t := 144) 118 rfl rfl <| ?_
        exact ih m v2 (x9 + 1) h
      · have h := ifn h hc
        refine E_aload_n (n := 172) 102 rfl rfl rfl 0 rfl <| E_gF (r := 142) (n := 175) 103 rfl rfl fg_12_57 sh_133 rfl <| E_iload (n := 177) 104 rfl rfl 3 rfl <| E_zald (n := 178) 105 rfl rfl sh_142 hc1 <| E_iload (n := 180) 106 rfl rfl 1 rfl <| E_if_ne (n := 183) (t := 187) 107 rfl rfl rfl (fun hc => ?_) (fun hc => ?_)
        · have h := ifn h hc
          refine E_iconst (v := 0) (n := 188) 110 rfl rfl icz_0 <| ?_
          refine E_sub (lv' := [(0, .ref 133), (5, .int x5), (9, .int x9)]) [0, 1, 3] rfl ?_
          exact RM_moved_J188_ok _ _ m x5 x9 x8 (gI m 142 (ixn x9)) 0 _ ih hx h
        · have h := ifp h hc
          refine E_iconst (v := 1) (n := 184) 108 rfl rfl icz_1 <| E_goto (t := 188) 109 rfl rfl <| ?_
          refine E_sub (lv' := [(0, .ref 133), (5, .int x5), (9, .int x9)]) [0, 1, 3] rfl ?_
          exact RM_moved_J188_ok _ _ m x5 x9 x8 (gI m 142 (ixn x9)) 1 _ ih hx h
set_option maxRecDepth 10000 in
theorem K_RM_moved (m : Mem) (x1 : Int32) (x2 : Int32) (x3 : Int32) (x4 : Int32) (x5 : Int32) (R : Int32 × Mem) (h : RM_moved m x1 x2 x3 x4 x5 = some R) : Mt M_RM_moved [.ref 133, .int x1, .int x2, .int x3, .int x4, .int x5] m (qI R.1 R.2) := by
  refine Mt.of G_RM_moved (Nat.le_of_ble_eq_true rfl) (E_sub (lv' := [(0, .ref 133), (1, .int x1), (2, .int x2), (3, .int x3), (4, .int x4), (5, .int x5)]) [0, 1, 2, 3, 4, 5] rfl ?_)
  unfold RM_moved at h
  obtain ⟨m1, hm1, h⟩ := letM_ex h
  obtain ⟨v2, hq3, h⟩ := bI_ex h
  refine E_aload_n (n := 1) 0 rfl rfl rfl 0 rfl <| E_iconst (v := 0) (n := 2) 1 rfl rfl icz_0 <| E_pI (n := 5) 2 rfl rfl fp_12_1 sh_133 <| E_mem hm1 <| E_aload_n (n := 6) 3 rfl rfl rfl 0 rfl <| E_iload_n (n := 7) 4 rfl rfl rfl 1 rfl <| E_iload_n (n := 8) 5 rfl rfl rfl 2 rfl <| E_cV2r (n := 11) 6 rfl rfl co_12_288 rfl sh_133 rfl (K_RM_isCorner m1 x1 x2 _ hq3) <| E_if_eq (n := 14) (t := 36) 7 rfl rfl rfl (fun hc => ?_) (fun hc => ?_)
  · have h := ifp h hc
    refine E_iconst (v := (-1)) (n := 37) 20 rfl rfl icz_m1 <| E_ireturn 21 rfl rfl (eS h)
  · have h := ifn h hc
    obtain ⟨v4, hq5, h⟩ := bI_ex h
    refine E_aload_n (n := 15) 8 rfl rfl rfl 0 rfl <| E_iload_n (n := 16) 9 rfl rfl rfl 1 rfl <| E_iload_n (n := 17) 10 rfl rfl rfl 2 rfl <| E_iload_n (n := 18) 11 rfl rfl rfl 3 rfl <| E_iload (n := 20) 12 rfl rfl 4 rfl <| E_cV4r (n := 23) 13 rfl rfl co_12_366 rfl sh_133 rfl (K_RM_canMove m1 x1 x2 x3 x4 _ hq5) <| E_if_eq (n := 26) (t := 36) 14 rfl rfl rfl (fun hc => ?_) (fun hc => ?_)
    · have h := ifp h hc
      refine E_iconst (v := (-1)) (n := 37) 20 rfl rfl icz_m1 <| E_ireturn 21 rfl rfl (eS h)
    · have h := ifn h hc
      refine E_iload (n := 28) 15 rfl rfl 5 rfl <| E_iconst (v := 0) (n := 29) 16 rfl rfl icz_0 <| E_iconst (v := 1) (n := 30) 17 rfl rfl icz_1 <| E_dS3r (n := 33) 18 rfl rfl co_12_203 rfl rfl (K_RM_isIn m1 x5 0 1 _ rfl) <| E_if_ne (n := 36) (t := 38) 19 rfl rfl rfl (fun hc => ?_) (fun hc => ?_)
      · have h := ifn h hc
        obtain ⟨hc6, h⟩ := ift h
        obtain ⟨v7, hv7, h⟩ := letV_ex h
        obtain ⟨hc8, h⟩ := ift h
        obtain ⟨v9, hv9, h⟩ := letV_ex h
        obtain ⟨m10, hq11, h⟩ := bM_ex h
        obtain ⟨v12, m13, hq14, h⟩ := bV_ex h
        refine E_aload_n (n := 39) 22 rfl rfl rfl 0 rfl <| E_gF (r := 135) (n := 42) 23 rfl rfl fg_12_33 sh_133 rfl <| E_bipush (v := 14) (n := 44) 24 rfl rfl bpz_14 <| E_bipush (v := 24) (n := 46) 25 rfl rfl bpz_24 <| E_iload_n (n := 47) 26 rfl rfl rfl 1 rfl <| E_imul (n := 48) 27 rfl rfl <| E_iadd (n := 49) 28 rfl rfl <| E_iconst (v := 2) (n := 50) 29 rfl rfl icz_2 <| E_iload_n (n := 51) 30 rfl rfl rfl 2 rfl <| E_imul (n := 52) 31 rfl rfl <| E_iadd (n := 53) 32 rfl rfl <| E_iald (n := 54) 33 rfl rfl sh_135 hc6 <| E_top hv7 <| E_istore (lv' := [(0, .ref 133), (1, .int x1), (2, .int x2), (3, .int x3), (4, .int x4), (5, .int x5), (6, .int v7)]) (n := 56) 34 rfl rfl (Nat.le_of_ble_eq_true rfl) [1, 2, 3, 4, 5, 6, 0] rfl <| E_aload_n (n := 57) 35 rfl rfl rfl 0 rfl <| E_gF (r := 135) (n := 60) 36 rfl rfl fg_12_33 sh_133 rfl <| E_bipush (v := 14) (n := 62) 37 rfl rfl bpz_14 <| E_bipush (v := 24) (n := 64) 38 rfl rfl bpz_24 <| E_iload_n (n := 65) 39 rfl rfl rfl 1 rfl <| E_imul (n := 66) 40 rfl rfl <| E_iadd (n := 67) 41 rfl rfl <| E_iconst (v := 2) (n := 68) 42 rfl rfl icz_2 <| E_iload_n (n := 69) 43 rfl rfl rfl 2 rfl <| E_imul (n := 70) 44 rfl rfl <| E_iadd (n := 71) 45 rfl rfl <| E_iconst (v := 1) (n := 72) 46 rfl rfl icz_1 <| E_iadd (n := 73) 47 rfl rfl <| E_iald (n := 74) 48 rfl rfl sh_135 hc8 <| E_top hv9 <| E_istore (lv' := [(0, .ref 133), (1, .int x1), (2, .int x2), (3, .int x3), (4, .int x4), (5, .int x5), (6, .int v7), (7, .int v9)]) (n := 76) 49 rfl rfl (Nat.le_of_ble_eq_true rfl) [1, 2, 3, 4, 5, 6, 7, 0] rfl <| E_aload_n (n := 77) 50 rfl rfl rfl 0 rfl <| E_iload_n (n := 78) 51 rfl rfl rfl 1 rfl <| E_iload_n (n := 79) 52 rfl rfl rfl 2 rfl <| E_iload_n (n := 80) 53 rfl rfl rfl 3 rfl <| E_iload (n := 82) 54 rfl rfl 4 rfl <| E_cV4v (n := 85) 55 rfl rfl co_12_372 rfl sh_133 rfl (K_RM_puts m1 x1 x2 x3 x4 _ hq11) <| E_aload_n (n := 86) 56 rfl rfl rfl 0 rfl <| E_iload_n (n := 87) 57 rfl rfl rfl 1 rfl <| E_cV1r (n := 90) 58 rfl rfl co_12_322 rfl sh_133 rfl (K_RM_maps m10 x1 _ hq14) <| E_pop (n := 91) 59 rfl rfl rfl <| E_iconst (v := 0) (n := 92) 60 rfl rfl icz_0 <| E_istore (lv' := [(0, .ref 133), (1, .int x1), (2, .int x2), (3, .int x3), (4, .int x4), (5, .int x5), (6, .int v7), (7, .int v9), (8, .int 0)]) (n := 94) 61 rfl rfl (Nat.le_of_ble_eq_true rfl) [1, 2, 3, 4, 5, 6, 7, 8, 0] rfl <| ?_
        refine E_sub (lv' := [(0, .ref 133), (1, .int x1), (2, .int x2), (5, .int x5), (6, .int v7), (7, .int v9), (8, .int 0)]) [0, 1, 2, 5, 6, 7, 8] rfl ?_
        refine RM_moved_L94_ok x1 x2 x5 v7 v9 _ R ?_ FU m13 0 h
        intro m15 h
        obtain ⟨m16, hq17, h⟩ := bM_ex h
        obtain ⟨v18, m19, hq20, h⟩ := bV_ex h
        refine E_aload_n (n := 123) 75 rfl rfl rfl 0 rfl <| E_iload_n (n := 124) 76 rfl rfl rfl 1 rfl <| E_iload_n (n := 125) 77 rfl rfl rfl 2 rfl <| E_iload (n := 127) 78 rfl rfl 4 rfl <| E_iload (n := 129) 79 rfl rfl 5 rfl <| E_cV4v (n := 132) 80 rfl rfl co_12_372 rfl sh_133 rfl (K_RM_puts m15 x1 x2 v7 v9 _ hq17) <| E_aload_n (n := 133) 81 rfl rfl rfl 0 rfl <| E_iload_n (n := 134) 82 rfl rfl rfl 1 rfl <| E_cV1r (n := 137) 83 rfl rfl co_12_322 rfl sh_133 rfl (K_RM_maps m16 x1 _ hq20) <| E_pop (n := 138) 84 rfl rfl rfl <| E_iconst (v := 0) (n := 139) 85 rfl rfl icz_0 <| E_istore (lv' := [(0, .ref 133), (1, .int x1), (2, .int x2), (5, .int x5), (6, .int v7), (7, .int v9), (8, .int 0)]) (n := 141) 86 rfl rfl (Nat.le_of_ble_eq_true rfl) [1, 2, 3, 4, 5, 6, 0] rfl <| E_iconst (v := 0) (n := 142) 87 rfl rfl icz_0 <| E_istore (lv' := [(0, .ref 133), (1, .int x1), (2, .int x2), (5, .int x5), (6, .int v7), (7, .int v9), (8, .int 0), (9, .int 0)]) (n := 144) 88 rfl rfl (Nat.le_of_ble_eq_true rfl) [1, 2, 3, 4, 5, 6, 7, 0] rfl <| ?_
        refine E_sub (lv' := [(0, .ref 133), (5, .int x5), (8, .int 0), (9, .int 0)]) [0, 3, 6, 7] rfl ?_
        refine RM_moved_L144_ok x5 _ R ?_ FU m19 0 0 h
        intro m22 y21 h
        refine E_iload (n := 207) 119 rfl rfl 0 rfl <| E_ireturn 120 rfl rfl (eS h)
      · have h := ifp h hc
        refine E_iconst (v := (-1)) (n := 37) 20 rfl rfl icz_m1 <| E_ireturn 21 rfl rfl (eS h)
theorem K_RM_draw (m : Mem) (x1 : Int32) (R : Int32 × Mem) (h : RM_draw m x1 = some R) : Mt M_RM_draw [.ref 133, .int x1] m (qI R.1 R.2) := by
  refine Mt.of G_RM_draw (Nat.le_of_ble_eq_true rfl) (E_sub (lv' := [(0, .ref 133), (1, .int x1)]) [0, 1] rfl ?_)
  unfold RM_draw at h
  obtain ⟨m1, hm1, h⟩ := letM_ex h
  obtain ⟨hc2, h⟩ := ift h
  refine E_aload_n (n := 1) 0 rfl rfl rfl 0 rfl <| E_aload_n (n := 2) 1 rfl rfl rfl 0 rfl <| E_gI (n := 5) 2 rfl rfl fg_12_376 sh_133 <| E_ldcw (v := 1103515245) (n := 8) 3 rfl rfl tw_2011 <| E_imul (n := 9) 4 rfl rfl <| E_sipush (v := 12345) (n := 12) 5 rfl rfl spz_12345 <| E_iadd (n := 13) 6 rfl rfl <| E_pI (n := 16) 7 rfl rfl fp_12_376 sh_133 <| E_mem hm1 <| E_aload_n (n := 17) 8 rfl rfl rfl 0 rfl <| E_gI (n := 20) 9 rfl rfl fg_12_376 sh_133 <| E_bipush (v := 8) (n := 22) 10 rfl rfl bpz_8 <| E_jushr (n := 23) 11 rfl rfl <| E_iload_n (n := 24) 12 rfl rfl rfl 1 rfl <| E_irm (n := 25) 13 rfl rfl hc2 <| E_ireturn 14 rfl rfl (eS h)
theorem RM_nights_J170_ok (kr : Mem → Int32 → Option (Int32 × Mem)) (kx : Mem → Option (Int32 × Mem)) (m : Mem) (x1 : Int32) (x3 : Int32) (x4 : Int32) (x5 : Int32) (x6 : Int32) (x8 : Int32) (s0 : Int32) (s1 : Int32) (R : Int32 × Mem) (hr : ∀ (m : Mem) (x4 : Int32), kr m x4 = some R → E M_RM_nights 47 [(0, .ref 133), (1, .int x1), (3, .int x3), (4, .int x4)] [] m (qI R.1 R.2)) (hx : ∀ (m : Mem), kx m = some R → E M_RM_nights 220 [(0, .ref 133), (3, .int x3)] [] m (qI R.1 R.2)) (h : RM_nights_J170 kr kx m x1 x3 x4 x5 x6 x8 s0 s1 = some R) : E M_RM_nights 170 [(0, .ref 133), (1, .int x1), (3, .int x3), (4, .int x4), (5, .int x5), (6, .int x6), (8, .int x8)] [.int s1, .int s0] m (qI R.1 R.2) := by
  unfold RM_nights_J170 at h
  obtain ⟨v1, hv1, h⟩ := letV_ex h
  obtain ⟨v2, hq3, h⟩ := bI_ex h
  refine E_iadd (n := 171) 99 rfl rfl <| E_top hv1 <| E_istore (lv' := [(0, .ref 133), (1, .int x1), (3, .int x3), (4, .int x4), (5, .int x5), (6, .int x6), (8, .int x8), (9, .int v1)]) (n := 173) 100 rfl rfl (Nat.le_of_ble_eq_true rfl) [1, 2, 3, 4, 5, 6, 7, 0] rfl <| E_aload_n (n := 174) 101 rfl rfl rfl 0 rfl <| E_iload (n := 176) 102 rfl rfl 4 rfl <| E_iload (n := 178) 103 rfl rfl 5 rfl <| E_iload (n := 180) 104 rfl rfl 6 rfl <| E_iload (n := 182) 105 rfl rfl 7 rfl <| E_cV4r (n := 185) 106 rfl rfl co_12_366 rfl sh_133 rfl (K_RM_canMove m x5 x6 x8 v1 _ hq3) <| E_if_ne (n := 188) (t := 191) 107 rfl rfl rfl (fun hc => ?_) (fun hc => ?_)
  · have h := ifn h hc
    obtain ⟨m4, hq5, h⟩ := bM_ex h
    obtain ⟨hc6, h⟩ := ift h
    obtain ⟨m7, hm7, h⟩ := letM_ex h
    refine E_aload_n (n := 192) 109 rfl rfl rfl 0 rfl <| E_iload (n := 194) 110 rfl rfl 4 rfl <| E_iload (n := 196) 111 rfl rfl 5 rfl <| E_iload (n := 198) 112 rfl rfl 6 rfl <| E_iload (n := 200) 113 rfl rfl 7 rfl <| E_cV4v (n := 203) 114 rfl rfl co_12_372 rfl sh_133 rfl (K_RM_puts m x5 x6 x8 v1 _ hq5) <| E_aload_n (n := 204) 115 rfl rfl rfl 0 rfl <| E_gF (r := 135) (n := 207) 116 rfl rfl fg_12_33 sh_133 rfl <| E_bipush (v := 6) (n := 209) 117 rfl rfl bpz_6 <| E_dup2 (n := 210) 118 rfl rfl rfl rfl <| E_iald (n := 211) 119 rfl rfl sh_135 hc6 <| E_iconst (v := 1) (n := 212) 120 rfl rfl icz_1 <| E_iadd (n := 213) 121 rfl rfl <| E_iast (n := 214) 122 rfl rfl sh_135 hc6 <| E_mem hm7 <| ?_
    refine E_iinc (v := (x4 + 1)) (lv' := [(0, .ref 133), (1, .int x1), (3, .int x3), (4, .int (x4 + 1)), (5, .int x5), (6, .int x6), (8, .int x8), (9, .int v1)]) (n := 217) 123 rfl rfl 3 rfl (by rw [icz_1]) (Nat.le_of_ble_eq_true rfl) [1, 2, 3, 0, 4, 5, 6, 7] rfl <| E_goto (t := 47) 124 rfl rfl <| ?_
    refine E_sub (lv' := [(0, .ref 133), (1, .int x1), (3, .int x3), (4, .int (x4 + 1))]) [0, 1, 2, 3] rfl ?_
    exact hr m7 (x4 + 1) h
  · have h := ifp h hc
    refine E_goto (t := 214) 108 rfl rfl <| ?_
    refine E_iinc (v := (x4 + 1)) (lv' := [(0, .ref 133), (1, .int x1), (3, .int x3), (4, .int (x4 + 1)), (5, .int x5), (6, .int x6), (8, .int x8), (9, .int v1)]) (n := 217) 123 rfl rfl 3 rfl (by rw [icz_1]) (Nat.le_of_ble_eq_true rfl) [1, 2, 3, 0, 4, 5, 6, 7] rfl <| E_goto (t := 47) 124 rfl rfl <| ?_
    refine E_sub (lv' := [(0, .ref 133), (1, .int x1), (3, .int x3), (4, .int (x4 + 1))]) [0, 1, 2, 3] rfl ?_
    exact hr m (x4 + 1) h
theorem RM_nights_J127_ok (kr : Mem → Int32 → Option (Int32 × Mem)) (kx : Mem → Option (Int32 × Mem)) (m : Mem) (x1 : Int32) (x3 : Int32) (x4 : Int32) (x5 : Int32) (x6 : Int32) (x7 : Int32) (s0 : Int32) (s1 : Int32) (R : Int32 × Mem) (hr : ∀ (m : Mem) (x4 : Int32), kr m x4 = some R → E M_RM_nights 47 [(0, .ref 133), (1, .int x1), (3, .int x3), (4, .int x4)] [] m (qI R.1 R.2)) (hx : ∀ (m : Mem), kx m = some R → E M_RM_nights 220 [(0, .ref 133), (3, .int x3)] [] m (qI R.1 R.2)) (h : RM_nights_J127 kr kx m x1 x3 x4 x5 x6 x7 s0 s1 = some R) : E M_RM_nights 127 [(0, .ref 133), (1, .int x1), (3, .int x3), (4, .int x4), (5, .int x5), (6, .int x6), (7, .int x7)] [.int s1, .int s0] m (qI R.1 R.2) := by
  unfold RM_nights_J127 at h
  obtain ⟨v1, hv1, h⟩ := letV_ex h
  obtain ⟨hc2, h⟩ := ift h
  refine E_iadd (n := 128) 73 rfl rfl <| E_top hv1 <| E_istore (lv' := [(0, .ref 133), (1, .int x1), (3, .int x3), (4, .int x4), (5, .int x5), (6, .int x6), (7, .int x7), (8, .int v1)]) (n := 130) 74 rfl rfl (Nat.le_of_ble_eq_true rfl) [1, 2, 3, 4, 5, 6, 7, 0] rfl <| E_aload_n (n := 131) 75 rfl rfl rfl 0 rfl <| E_gF (r := 135) (n := 134) 76 rfl rfl fg_12_33 sh_133 rfl <| E_bipush (v := 14) (n := 136) 77 rfl rfl bpz_14 <| E_bipush (v := 24) (n := 138) 78 rfl rfl bpz_24 <| E_iload (n := 140) 79 rfl rfl 4 rfl <| E_imul (n := 141) 80 rfl rfl <| E_iadd (n := 142) 81 rfl rfl <| E_iconst (v := 2) (n := 143) 82 rfl rfl icz_2 <| E_iload (n := 145) 83 rfl rfl 5 rfl <| E_imul (n := 146) 84 rfl rfl <| E_iadd (n := 147) 85 rfl rfl <| E_iconst (v := 1) (n := 148) 86 rfl rfl icz_1 <| E_iadd (n := 149) 87 rfl rfl <| E_iald (n := 150) 88 rfl rfl sh_135 hc2 <| E_iload (n := 152) 89 rfl rfl 6 rfl <| E_iconst (v := 2) (n := 153) 90 rfl rfl icz_2 <| E_icmp_ne (n := 156) (t := 160) 91 rfl rfl rfl (fun hc => ?_) (fun hc => ?_)
  · have h := ifn h hc
    refine E_iload (n := 162) 94 rfl rfl 6 rfl <| E_if_ne (n := 165) (t := 169) 95 rfl rfl rfl (fun hc => ?_) (fun hc => ?_)
    · have h := ifn h hc
      refine E_iconst (v := 0) (n := 170) 98 rfl rfl icz_0 <| ?_
      refine E_sub (lv' := [(0, .ref 133), (1, .int x1), (3, .int x3), (4, .int x4), (5, .int x5), (6, .int x6), (8, .int v1)]) [0, 1, 2, 3, 4, 5, 7] rfl ?_
      exact RM_nights_J170_ok _ _ m x1 x3 x4 x5 x6 v1 (gI m 135 (ixn (((14 + (24 * x5)) + (2 * x6)) + 1))) 0 _ hr hx h
    · have h := ifp h hc
      refine E_iconst (v := (-1)) (n := 166) 96 rfl rfl icz_m1 <| E_goto (t := 170) 97 rfl rfl <| ?_
      refine E_sub (lv' := [(0, .ref 133), (1, .int x1), (3, .int x3), (4, .int x4), (5, .int x5), (6, .int x6), (8, .int v1)]) [0, 1, 2, 3, 4, 5, 7] rfl ?_
      exact RM_nights_J170_ok _ _ m x1 x3 x4 x5 x6 v1 (gI m 135 (ixn (((14 + (24 * x5)) + (2 * x6)) + 1))) (-1) _ hr hx h
  · have h := ifp h hc
    refine E_iconst (v := 1) (n := 157) 92 rfl rfl icz_1 <| E_goto (t := 170) 93 rfl rfl <| ?_
    refine E_sub (lv' := [(0, .ref 133), (1, .int x1), (3, .int x3), (4, .int x4), (5, .int x5), (6, .int x6), (8, .int v1)]) [0, 1, 2, 3, 4, 5, 7] rfl ?_
    exact RM_nights_J170_ok _ _ m x1 x3 x4 x5 x6 v1 (gI m 135 (ixn (((14 + (24 * x5)) + (2 * x6)) + 1))) 1 _ hr hx h
theorem RM_nights_L47_ok (x1 : Int32) (x3 : Int32) (kx : Mem → Option (Int32 × Mem)) (R : Int32 × Mem) (hx : ∀ (m : Mem), kx m = some R → E M_RM_nights 220 [(0, .ref 133), (3, .int x3)] [] m (qI R.1 R.2)) : ∀ (n : Nat) (m : Mem) (x4 : Int32), RM_nights_L47 x1 x3 kx n m x4 = some R → E M_RM_nights 47 [(0, .ref 133), (1, .int x1), (3, .int x3), (4, .int x4)] [] m (qI R.1 R.2) := by
  intro n
  induction n with
  | zero =>
    intro m x4 h
    exact absurd (show none = some R from h) (fun e => Option.some_ne_none R e.symm)
  | succ n ih =>
    intro m x4 h
    rw [RM_nights_L47] at h
    refine E_iload (n := 49) 27 rfl rfl 3 rfl <| E_iload_n (n := 50) 28 rfl rfl rfl 1 rfl <| E_icmp_ge (n := 53) (t := 220) 29 rfl rfl rfl (fun hc => ?_) (fun hc => ?_)
    · have h := ifp h hc
      refine E_sub (lv' := [(0, .ref 133), (3, .int x3)]) [0, 2] rfl ?_
      exact hx m h
    · have h := ifn h hc
      obtain ⟨hc1, h⟩ := ift h
      obtain ⟨v2, m3, hq4, h⟩ := bV_ex h
      obtain ⟨hc5, h⟩ := ift h
      obtain ⟨v6, m7, hq8, h⟩ := bV_ex h
      obtain ⟨v9, m10, hq11, h⟩ := bV_ex h
      obtain ⟨hc12, h⟩ := ift h
      refine E_aload_n (n := 54) 30 rfl rfl rfl 0 rfl <| E_aload_n (n := 55) 31 rfl rfl rfl 0 rfl <| E_gF (r := 135) (n := 58) 32 rfl rfl fg_12_33 sh_133 rfl <| E_iconst (v := 0) (n := 59) 33 rfl rfl icz_0 <| E_iald (n := 60) 34 rfl rfl sh_135 hc1 <| E_cV1r (n := 63) 35 rfl rfl co_12_380 rfl sh_133 rfl (K_RM_draw m (gI m 135 (ixn 0)) _ hq4) <| E_istore (lv' := [(0, .ref 133), (1, .int x1), (3, .int x3), (4, .int x4), (5, .int v2)]) (n := 65) 36 rfl rfl (Nat.le_of_ble_eq_true rfl) [1, 2, 3, 4, 0] rfl <| E_aload_n (n := 66) 37 rfl rfl rfl 0 rfl <| E_aload_n (n := 67) 38 rfl rfl rfl 0 rfl <| E_gF (r := 135) (n := 70) 39 rfl rfl fg_12_33 sh_133 rfl <| E_bipush (v := 11) (n := 72) 40 rfl rfl bpz_11 <| E_iload (n := 74) 41 rfl rfl 4 rfl <| E_iadd (n := 75) 42 rfl rfl <| E_iald (n := 76) 43 rfl rfl sh_135 hc5 <| E_cV1r (n := 79) 44 rfl rfl co_12_380 rfl sh_133 rfl (K_RM_draw m3 (gI m3 135 (ixn (11 + v2))) _ hq8) <| E_istore (lv' := [(0, .ref 133), (1, .int x1), (3, .int x3), (4, .int x4), (5, .int v2), (6, .int v6)]) (n := 81) 45 rfl rfl (Nat.le_of_ble_eq_true rfl) [1, 2, 3, 4, 5, 0] rfl <| E_aload_n (n := 82) 46 rfl rfl rfl 0 rfl <| E_iconst (v := 4) (n := 83) 47 rfl rfl icz_4 <| E_cV1r (n := 86) 48 rfl rfl co_12_380 rfl sh_133 rfl (K_RM_draw m7 4 _ hq11) <| E_istore (lv' := [(0, .ref 133), (1, .int x1), (3, .int x3), (4, .int x4), (5, .int v2), (6, .int v6), (7, .int v9)]) (n := 88) 49 rfl rfl (Nat.le_of_ble_eq_true rfl) [1, 2, 3, 4, 5, 6, 0] rfl <| E_aload_n (n := 89) 50 rfl rfl rfl 0 rfl <| E_gF (r := 135) (n := 92) 51 rfl rfl fg_12_33 sh_133 rfl <| E_bipush (v := 14) (n := 94) 52 rfl rfl bpz_14 <| E_bipush (v := 24) (n := 96) 53 rfl rfl bpz_24 <| E_iload (n := 98) 54 rfl rfl 4 rfl <| E_imul (n := 99) 55 rfl rfl <| E_iadd (n := 100) 56 rfl rfl <| E_iconst (v := 2) (n := 101) 57 rfl rfl icz_2 <| E_iload (n := 103) 58 rfl rfl 5 rfl <| E_imul (n := 104) 59 rfl rfl <| E_iadd (n := 105) 60 rfl rfl <| E_iald (n := 106) 61 rfl rfl sh_135 hc12 <| E_iload (n := 108) 62 rfl rfl 6 rfl <| E_iconst (v := 1) (n := 109) 63 rfl rfl icz_1 <| E_icmp_ne (n := 112) (t := 116) 64 rfl rfl rfl (fun hc => ?_) (fun hc => ?_)
      · have h := ifn h hc
        refine E_iload (n := 118) 67 rfl rfl 6 rfl <| E_iconst (v := 3) (n := 119) 68 rfl rfl icz_3 <| E_icmp_ne (n := 122) (t := 126) 69 rfl rfl rfl (fun hc => ?_) (fun hc => ?_)
        · have h := ifn h hc
          refine E_iconst (v := 0) (n := 127) 72 rfl rfl icz_0 <| ?_
          exact RM_nights_J127_ok _ _ m10 x1 x3 x4 v2 v6 v9 (gI m10 135 (ixn ((14 + (24 * v2)) + (2 * v6)))) 0 _ ih hx h
        · have h := ifp h hc
          refine E_iconst (v := (-1)) (n := 123) 70 rfl rfl icz_m1 <| E_goto (t := 127) 71 rfl rfl <| ?_
          exact RM_nights_J127_ok _ _ m10 x1 x3 x4 v2 v6 v9 (gI m10 135 (ixn ((14 + (24 * v2)) + (2 * v6)))) (-1) _ ih hx h
      · have h := ifp h hc
        refine E_iconst (v := 1) (n := 113) 65 rfl rfl icz_1 <| E_goto (t := 127) 66 rfl rfl <| ?_
        exact RM_nights_J127_ok _ _ m10 x1 x3 x4 v2 v6 v9 (gI m10 135 (ixn ((14 + (24 * v2)) + (2 * v6)))) 1 _ ih hx h
theorem K_RM_nights (m : Mem) (x1 : Int32) (x2 : Int32) (R : Int32 × Mem) (h : RM_nights m x1 x2 = some R) : Mt M_RM_nights [.ref 133, .int x1, .int x2] m (qI R.1 R.2) := by
  refine Mt.of G_RM_nights (Nat.le_of_ble_eq_true rfl) (E_sub (lv' := [(0, .ref 133), (1, .int x1), (2, .int x2)]) [0, 1, 2] rfl ?_)
  unfold RM_nights at h
  obtain ⟨m1, hm1, h⟩ := letM_ex h
  refine E_aload_n (n := 1) 0 rfl rfl rfl 0 rfl <| E_iconst (v := 0) (n := 2) 1 rfl rfl icz_0 <| E_pI (n := 5) 2 rfl rfl fp_12_1 sh_133 <| E_mem hm1 <| E_iload_n (n := 6) 3 rfl rfl rfl 1 rfl <| E_iconst (v := 1) (n := 7) 4 rfl rfl icz_1 <| E_sipush (v := 200) (n := 10) 5 rfl rfl spz_200 <| E_dS3r (n := 13) 6 rfl rfl co_12_203 rfl rfl (K_RM_isIn m1 x1 1 200 _ rfl) <| E_if_eq (n := 16) (t := 25) 7 rfl rfl rfl (fun hc => ?_) (fun hc => ?_)
  · have h := ifp h hc
    refine E_iconst (v := (-1)) (n := 26) 13 rfl rfl icz_m1 <| E_ireturn 14 rfl rfl (eS h)
  · have h := ifn h hc
    obtain ⟨hc2, h⟩ := ift h
    refine E_aload_n (n := 17) 8 rfl rfl rfl 0 rfl <| E_gF (r := 135) (n := 20) 9 rfl rfl fg_12_33 sh_133 rfl <| E_iconst (v := 0) (n := 21) 10 rfl rfl icz_0 <| E_iald (n := 22) 11 rfl rfl sh_135 hc2 <| E_if_ne (n := 25) (t := 27) 12 rfl rfl rfl (fun hc => ?_) (fun hc => ?_)
    · have h := ifn h hc
      obtain ⟨m3, hq4, h⟩ := bM_ex h
      obtain ⟨m5, hm5, h⟩ := letM_ex h
      obtain ⟨hc6, h⟩ := ift h
      obtain ⟨v7, hv7, h⟩ := letV_ex h
      refine E_aload_n (n := 28) 15 rfl rfl rfl 0 rfl <| E_cV0v (n := 31) 16 rfl rfl co_12_369 rfl sh_133 rfl (K_RM_keep m1 _ hq4) <| E_aload_n (n := 32) 17 rfl rfl rfl 0 rfl <| E_iload_n (n := 33) 18 rfl rfl rfl 2 rfl <| E_pI (n := 36) 19 rfl rfl fp_12_376 sh_133 <| E_mem hm5 <| E_aload_n (n := 37) 20 rfl rfl rfl 0 rfl <| E_gF (r := 135) (n := 40) 21 rfl rfl fg_12_33 sh_133 rfl <| E_bipush (v := 6) (n := 42) 22 rfl rfl bpz_6 <| E_iald (n := 43) 23 rfl rfl sh_135 hc6 <| E_top hv7 <| E_istore_n (lv' := [(0, .ref 133), (1, .int x1), (2, .int x2), (3, .int v7)]) (n := 44) 24 rfl rfl rfl (Nat.le_of_ble_eq_true rfl) [1, 2, 3, 0] rfl <| E_iconst (v := 0) (n := 45) 25 rfl rfl icz_0 <| E_istore (lv' := [(0, .ref 133), (1, .int x1), (2, .int x2), (3, .int v7), (4, .int 0)]) (n := 47) 26 rfl rfl (Nat.le_of_ble_eq_true rfl) [1, 2, 3, 4, 0] rfl <| ?_
      refine E_sub (lv' := [(0, .ref 133), (1, .int x1), (3, .int v7), (4, .int 0)]) [0, 1, 3, 4] rfl ?_
      refine RM_nights_L47_ok x1 v7 _ R ?_ FU m5 0 h
      intro m8 h
      obtain ⟨hc9, h⟩ := ift h
      refine E_aload_n (n := 221) 125 rfl rfl rfl 0 rfl <| E_gF (r := 135) (n := 224) 126 rfl rfl fg_12_33 sh_133 rfl <| E_bipush (v := 6) (n := 226) 127 rfl rfl bpz_6 <| E_iald (n := 227) 128 rfl rfl sh_135 hc9 <| E_iload_n (n := 228) 129 rfl rfl rfl 1 rfl <| E_isub (n := 229) 130 rfl rfl <| E_ireturn 131 rfl rfl (eS h)
    · have h := ifp h hc
      refine E_iconst (v := (-1)) (n := 26) 13 rfl rfl icz_m1 <| E_ireturn 14 rfl rfl (eS h)
theorem RM_isTold_J83_ok (kr : Mem → Int32 → Option (Int32 × Mem)) (kx : Mem → Option (Int32 × Mem)) (m : Mem) (x1 : Int32) (s0 : Int32) (s1 : Int32) (R : Int32 × Mem) (hr : ∀ (m : Mem) (x1 : Int32), kr m x1 = some R → E M_RM_isTold 45 [(0, .ref 133), (1, .int x1)] [] m (qI R.1 R.2)) (hx : ∀ (m : Mem), kx m = some R → E M_RM_isTold 94 [] [] m (qI R.1 R.2)) (h : RM_isTold_J83 kr kx m x1 s0 s1 = some R) : E M_RM_isTold 83 [(0, .ref 133), (1, .int x1)] [.int s1, .int s0] m (qI R.1 R.2) := by
  unfold RM_isTold_J83 at h
  refine E_icmp_le (n := 86) (t := 88) 49 rfl rfl rfl (fun hc => ?_) (fun hc => ?_)
  · have h := ifp h hc
    refine E_iinc (v := (x1 + 1)) (lv' := [(0, .ref 133), (1, .int (x1 + 1))]) (n := 91) 52 rfl rfl 1 rfl (by rw [icz_1]) (Nat.le_of_ble_eq_true rfl) [1, 0] rfl <| E_goto (t := 45) 53 rfl rfl <| ?_
    exact hr m (x1 + 1) h
  · have h := ifn h hc
    refine E_iconst (v := 0) (n := 87) 50 rfl rfl icz_0 <| E_zreturn 51 rfl rfl z0 (eS h)
theorem RM_isTold_L45_ok (kx : Mem → Option (Int32 × Mem)) (R : Int32 × Mem) (hx : ∀ (m : Mem), kx m = some R → E M_RM_isTold 94 [] [] m (qI R.1 R.2)) : ∀ (n : Nat) (m : Mem) (x1 : Int32), RM_isTold_L45 kx n m x1 = some R → E M_RM_isTold 45 [(0, .ref 133), (1, .int x1)] [] m (qI R.1 R.2) := by
  intro n
  induction n with
  | zero =>
    intro m x1 h
    exact absurd (show none = some R from h) (fun e => Option.some_ne_none R e.symm)
  | succ n ih =>
    intro m x1 h
    rw [RM_isTold_L45] at h
    refine E_iload_n (n := 46) 26 rfl rfl rfl 1 rfl <| E_aload_n (n := 47) 27 rfl rfl rfl 0 rfl <| E_gI (n := 50) 28 rfl rfl fg_12_18 sh_133 <| E_icmp_ge (n := 53) (t := 94) 29 rfl rfl rfl (fun hc => ?_) (fun hc => ?_)
    · have h := ifp h hc
      refine E_sub (lv' := []) [] rfl ?_
      exact hx m h
    · have h := ifn h hc
      obtain ⟨v1, hq2, h⟩ := bI_ex h
      obtain ⟨hc3, h⟩ := ift h
      obtain ⟨m4, hm4, h⟩ := letM_ex h
      refine E_aload_n (n := 54) 30 rfl rfl rfl 0 rfl <| E_gF (r := 152) (n := 57) 31 rfl rfl fg_12_91 sh_133 rfl <| E_iload_n (n := 58) 32 rfl rfl rfl 1 rfl <| E_aload_n (n := 59) 33 rfl rfl rfl 0 rfl <| E_iload_n (n := 60) 34 rfl rfl rfl 1 rfl <| E_cV1r (n := 63) 35 rfl rfl co_12_386 rfl sh_133 rfl (K_RM_octet m x1 _ hq2) <| E_iast (n := 64) 36 rfl rfl sh_152 hc3 <| E_mem hm4 <| E_aload_n (n := 65) 37 rfl rfl rfl 0 rfl <| E_gF (r := 152) (n := 68) 38 rfl rfl fg_12_91 sh_133 rfl <| E_iload_n (n := 69) 39 rfl rfl rfl 1 rfl <| E_iald (n := 70) 40 rfl rfl sh_152 hc3 <| E_iload_n (n := 71) 41 rfl rfl rfl 1 rfl <| E_iconst (v := 3) (n := 72) 42 rfl rfl icz_3 <| E_irm (n := 73) 43 rfl rfl (by decide) <| E_iconst (v := 2) (n := 74) 44 rfl rfl icz_2 <| E_icmp_ne (n := 77) (t := 81) 45 rfl rfl rfl (fun hc => ?_) (fun hc => ?_)
      · have h := ifn h hc
        refine E_bipush (v := 20) (n := 83) 48 rfl rfl bpz_20 <| ?_
        exact RM_isTold_J83_ok _ _ m4 x1 (gI m4 152 (ixn x1)) 20 _ ih hx h
      · have h := ifp h hc
        refine E_iconst (v := 1) (n := 78) 46 rfl rfl icz_1 <| E_goto (t := 83) 47 rfl rfl <| ?_
        exact RM_isTold_J83_ok _ _ m4 x1 (gI m4 152 (ixn x1)) 1 _ ih hx h
theorem K_RM_isTold (m : Mem) (R : Int32 × Mem) (h : RM_isTold m = some R) : Mt M_RM_isTold [.ref 133] m (qI R.1 R.2) := by
  refine Mt.of G_RM_isTold (Nat.le_of_ble_eq_true rfl) (E_sub (lv' := [(0, .ref 133)]) [0] rfl ?_)
  unfold RM_isTold at h
  obtain ⟨m1, hq2, h⟩ := bM_ex h
  refine E_aload_n (n := 1) 0 rfl rfl rfl 0 rfl <| E_sipush (v := 940) (n := 4) 1 rfl rfl spz_940 <| E_cV1v (n := 7) 2 rfl rfl co_12_241 rfl sh_133 rfl (K_RM_taken m 940 _ hq2) <| E_aload_n (n := 8) 3 rfl rfl rfl 0 rfl <| E_gI (n := 11) 4 rfl rfl fg_12_18 sh_133 <| E_iconst (v := 3) (n := 12) 5 rfl rfl icz_3 <| E_irm (n := 13) 6 rfl rfl (by decide) <| E_if_ne (n := 16) (t := 31) 7 rfl rfl rfl (fun hc => ?_) (fun hc => ?_)
  · have h := ifn h hc
    refine E_iconst (v := 0) (n := 32) 16 rfl rfl icz_0 <| E_zreturn 17 rfl rfl z0 (eS h)
  · have h := ifp h hc
    refine E_aload_n (n := 17) 8 rfl rfl rfl 0 rfl <| E_gI (n := 20) 9 rfl rfl fg_12_18 sh_133 <| E_iconst (v := 3) (n := 21) 10 rfl rfl icz_3 <| E_idiv (n := 22) 11 rfl rfl (by decide) <| E_iconst (v := 1) (n := 23) 12 rfl rfl icz_1 <| E_bipush (v := 8) (n := 25) 13 rfl rfl bpz_8 <| E_dS3r (n := 28) 14 rfl rfl co_12_203 rfl rfl (K_RM_isIn m1 ((gI m1 133 3) / 3) 1 8 _ rfl) <| E_if_ne (n := 31) (t := 33) 15 rfl rfl rfl (fun hc => ?_) (fun hc => ?_)
    · have h := ifn h hc
      obtain ⟨m3, hm3, h⟩ := letM_ex h
      refine E_aload_n (n := 34) 18 rfl rfl rfl 0 rfl <| E_aload_n (n := 35) 19 rfl rfl rfl 0 rfl <| E_gI (n := 38) 20 rfl rfl fg_12_18 sh_133 <| E_iconst (v := 3) (n := 39) 21 rfl rfl icz_3 <| E_idiv (n := 40) 22 rfl rfl (by decide) <| E_pI (n := 43) 23 rfl rfl fp_12_383 sh_133 <| E_mem hm3 <| E_iconst (v := 0) (n := 44) 24 rfl rfl icz_0 <| E_istore_n (lv' := [(0, .ref 133), (1, .int 0)]) (n := 45) 25 rfl rfl rfl (Nat.le_of_ble_eq_true rfl) [1, 0] rfl <| ?_
      refine RM_isTold_L45_ok _ R ?_ FU m3 0 h
      intro m4 h
      refine E_iconst (v := 1) (n := 95) 54 rfl rfl icz_1 <| E_zreturn 55 rfl rfl z1 (eS h)
    · have h := ifp h hc
      refine E_iconst (v := 0) (n := 32) 16 rfl rfl icz_0 <| E_zreturn 17 rfl rfl z0 (eS h)
theorem RM_areSo_J55_ok (kr : Mem → Int32 → Option (Int32 × Mem)) (kx : Mem → Option (Int32 × Mem)) (m : Mem) (x1 : Int32) (s0 : Int32) (s1 : Int32) (R : Int32 × Mem) (hr : ∀ (m : Mem) (x1 : Int32), kr m x1 = some R → E M_RM_areSo 2 [(0, .ref 133), (1, .int x1)] [] m (qI R.1 R.2)) (hx : ∀ (m : Mem), kx m = some R → E M_RM_areSo 66 [] [] m (qI R.1 R.2)) (h : RM_areSo_J55 kr kx m x1 s0 s1 = some R) : E M_RM_areSo 55 [(0, .ref 133), (1, .int x1)] [.int s1, .int s0] m (qI R.1 R.2) := by
  unfold RM_areSo_J55 at h
  refine E_icmp_eq (n := 58) (t := 60) 39 rfl rfl rfl (fun hc => ?_) (fun hc => ?_)
  · have h := ifp h hc
    refine E_iinc (v := (x1 + 1)) (lv' := [(0, .ref 133), (1, .int (x1 + 1))]) (n := 63) 42 rfl rfl 1 rfl (by rw [icz_1]) (Nat.le_of_ble_eq_true rfl) [1, 0] rfl <| E_goto (t := 2) 43 rfl rfl <| ?_
    exact hr m (x1 + 1) h
  · have h := ifn h hc
    refine E_iconst (v := 0) (n := 59) 40 rfl rfl icz_0 <| E_zreturn 41 rfl rfl z0 (eS h)
theorem RM_areSo_L2_ok (kx : Mem → Option (Int32 × Mem)) (R : Int32 × Mem) (hx : ∀ (m : Mem), kx m = some R → E M_RM_areSo 66 [] [] m (qI R.1 R.2)) : ∀ (n : Nat) (m : Mem) (x1 : Int32), RM_areSo_L2 kx n m x1 = some R → E M_RM_areSo 2 [(0, .ref 133), (1, .int x1)] [] m (qI R.1 R.2) := by
  intro n
  induction n with
  | zero =>
    intro m x1 h
    exact absurd (show none = some R from h) (fun e => Option.some_ne_none R e.symm)
  | succ n ih =>
    intro m x1 h
    rw [RM_areSo_L2] at h
    refine E_iload_n (n := 3) 2 rfl rfl rfl 1 rfl <| E_aload_n (n := 4) 3 rfl rfl rfl 0 rfl <| E_gI (n := 7) 4 rfl rfl fg_12_383 sh_133 <| E_icmp_ge (n := 10) (t := 66) 5 rfl rfl rfl (fun hc => ?_) (fun hc => ?_)
    · have h := ifp h hc
      refine E_sub (lv' := []) [] rfl ?_
      exact hx m h
    · have h := ifn h hc
      obtain ⟨hc1, h⟩ := ift h
      obtain ⟨hc2, h⟩ := ift h
      obtain ⟨v3, m4, hq5, h⟩ := bV_ex h
      obtain ⟨hc6, h⟩ := ift h
      refine E_aload_n (n := 11) 6 rfl rfl rfl 0 rfl <| E_iconst (v := 2) (n := 12) 7 rfl rfl icz_2 <| E_aload_n (n := 13) 8 rfl rfl rfl 0 rfl <| E_gF (r := 152) (n := 16) 9 rfl rfl fg_12_91 sh_133 rfl <| E_iconst (v := 3) (n := 17) 10 rfl rfl icz_3 <| E_iload_n (n := 18) 11 rfl rfl rfl 1 rfl <| E_imul (n := 19) 12 rfl rfl <| E_iald (n := 20) 13 rfl rfl sh_152 hc1 <| E_imul (n := 21) 14 rfl rfl <| E_iconst (v := 2) (n := 22) 15 rfl rfl icz_2 <| E_aload_n (n := 23) 16 rfl rfl rfl 0 rfl <| E_gF (r := 152) (n := 26) 17 rfl rfl fg_12_91 sh_133 rfl <| E_iconst (v := 3) (n := 27) 18 rfl rfl icz_3 <| E_iload_n (n := 28) 19 rfl rfl rfl 1 rfl <| E_imul (n := 29) 20 rfl rfl <| E_iconst (v := 1) (n := 30) 21 rfl rfl icz_1 <| E_iadd (n := 31) 22 rfl rfl <| E_iald (n := 32) 23 rfl rfl sh_152 hc2 <| E_imul (n := 33) 24 rfl rfl <| E_cV2r (n := 36) 25 rfl rfl co_12_313 rfl sh_133 rfl (K_RM_isHis m (2 * (gI m 152 (ixn (3 * x1)))) (2 * (gI m 152 (ixn ((3 * x1) + 1)))) _ hq5) <| E_aload_n (n := 37) 26 rfl rfl rfl 0 rfl <| E_gF (r := 152) (n := 40) 27 rfl rfl fg_12_91 sh_133 rfl <| E_iconst (v := 3) (n := 41) 28 rfl rfl icz_3 <| E_iload_n (n := 42) 29 rfl rfl rfl 1 rfl <| E_imul (n := 43) 30 rfl rfl <| E_iconst (v := 2) (n := 44) 31 rfl rfl icz_2 <| E_iadd (n := 45) 32 rfl rfl <| E_iald (n := 46) 33 rfl rfl sh_152 hc6 <| E_iconst (v := 1) (n := 47) 34 rfl rfl icz_1 <| E_icmp_ne (n := 50) (t := 54) 35 rfl rfl rfl (fun hc => ?_) (fun hc => ?_)
      · have h := ifn h hc
        refine E_iconst (v := 0) (n := 55) 38 rfl rfl icz_0 <| ?_
        exact RM_areSo_J55_ok _ _ m4 x1 v3 0 _ ih hx h
      · have h := ifp h hc
        refine E_iconst (v := 1) (n := 51) 36 rfl rfl icz_1 <| E_goto (t := 55) 37 rfl rfl <| ?_
        exact RM_areSo_J55_ok _ _ m4 x1 v3 1 _ ih hx h
theorem K_RM_areSo (m : Mem) (R : Int32 × Mem) (h : RM_areSo m = some R) : Mt M_RM_areSo [.ref 133] m (qI R.1 R.2) := by
  refine Mt.of G_RM_areSo (Nat.le_of_ble_eq_true rfl) (E_sub (lv' := [(0, .ref 133)]) [0] rfl ?_)
  unfold RM_areSo at h
  refine E_iconst (v := 0) (n := 1) 0 rfl rfl icz_0 <| E_istore_n (lv' := [(0, .ref 133), (1, .int 0)]) (n := 2) 1 rfl rfl rfl (Nat.le_of_ble_eq_true rfl) [1, 0] rfl <| ?_
  refine RM_areSo_L2_ok _ R ?_ FU m 0 h
  intro m1 h
  refine E_iconst (v := 1) (n := 67) 44 rfl rfl icz_1 <| E_zreturn 45 rfl rfl z1 (eS h)
theorem K_RM_tries (m : Mem) (x1 : Int32) (x2 : Int32) (x3 : Int32) (x4 : Int32) (R : Int32 × Mem) (h : RM_tries m x1 x2 x3 x4 = some R) : Mt M_RM_tries [.ref 133, .int x1, .int x2, .int x3, .int x4] m (qI R.1 R.2) := by
  refine Mt.of G_RM_tries (Nat.le_of_ble_eq_true rfl) (E_sub (lv' := [(0, .ref 133), (1, .int x1), (2, .int x2), (3, .int x3), (4, .int x4)]) [0, 1, 2, 3, 4] rfl ?_)
  unfold RM_tries at h
  obtain ⟨v1, hv1, h⟩ := letV_ex h
  obtain ⟨hc2, h⟩ := ift h
  obtain ⟨hc3, h⟩ := ift h
  obtain ⟨v4, hv4, h⟩ := letV_ex h
  obtain ⟨hc5, h⟩ := ift h
  obtain ⟨v6, hv6, h⟩ := letV_ex h
  obtain ⟨hc7, h⟩ := ift h
  obtain ⟨m8, hm8, h⟩ := letM_ex h
  obtain ⟨m9, hm9, h⟩ := letM_ex h
  obtain ⟨m10, hq11, h⟩ := bM_ex h
  obtain ⟨hc12, h⟩ := ift h
  refine E_iconst (v := 2) (n := 1) 0 rfl rfl icz_2 <| E_iload (n := 3) 1 rfl rfl 4 rfl <| E_imul (n := 4) 2 rfl rfl <| E_iconst (v := 1) (n := 5) 3 rfl rfl icz_1 <| E_iadd (n := 6) 4 rfl rfl <| E_top hv1 <| E_istore (lv' := [(0, .ref 133), (1, .int x1), (2, .int x2), (3, .int x3), (4, .int x4), (5, .int v1)]) (n := 8) 5 rfl rfl (Nat.le_of_ble_eq_true rfl) [1, 2, 3, 4, 5, 0] rfl <| E_aload_n (n := 9) 6 rfl rfl rfl 0 rfl <| E_gF (r := 135) (n := 12) 7 rfl rfl fg_12_33 sh_133 rfl <| E_bipush (v := 14) (n := 14) 8 rfl rfl bpz_14 <| E_bipush (v := 24) (n := 16) 9 rfl rfl bpz_24 <| E_iload_n (n := 17) 10 rfl rfl rfl 1 rfl <| E_imul (n := 18) 11 rfl rfl <| E_iadd (n := 19) 12 rfl rfl <| E_iconst (v := 2) (n := 20) 13 rfl rfl icz_2 <| E_iload_n (n := 21) 14 rfl rfl rfl 2 rfl <| E_imul (n := 22) 15 rfl rfl <| E_iadd (n := 23) 16 rfl rfl <| E_iald (n := 24) 17 rfl rfl sh_135 hc2 <| E_iload_n (n := 25) 18 rfl rfl rfl 3 rfl <| E_iload (n := 27) 19 rfl rfl 5 rfl <| E_idiv (n := 28) 20 rfl rfl hc3 <| E_iadd (n := 29) 21 rfl rfl <| E_iload (n := 31) 22 rfl rfl 4 rfl <| E_isub (n := 32) 23 rfl rfl <| E_top hv4 <| E_istore (lv' := [(0, .ref 133), (1, .int x1), (2, .int x2), (3, .int x3), (4, .int x4), (5, .int v1), (6, .int v4)]) (n := 34) 24 rfl rfl (Nat.le_of_ble_eq_true rfl) [1, 2, 3, 4, 5, 6, 0] rfl <| E_aload_n (n := 35) 25 rfl rfl rfl 0 rfl <| E_gF (r := 135) (n := 38) 26 rfl rfl fg_12_33 sh_133 rfl <| E_bipush (v := 14) (n := 40) 27 rfl rfl bpz_14 <| E_bipush (v := 24) (n := 42) 28 rfl rfl bpz_24 <| E_iload_n (n := 43) 29 rfl rfl rfl 1 rfl <| E_imul (n := 44) 30 rfl rfl <| E_iadd (n := 45) 31 rfl rfl <| E_iconst (v := 2) (n := 46) 32 rfl rfl icz_2 <| E_iload_n (n := 47) 33 rfl rfl rfl 2 rfl <| E_imul (n := 48) 34 rfl rfl <| E_iadd (n := 49) 35 rfl rfl <| E_iconst (v := 1) (n := 50) 36 rfl rfl icz_1 <| E_iadd (n := 51) 37 rfl rfl <| E_iald (n := 52) 38 rfl rfl sh_135 hc5 <| E_iload_n (n := 53) 39 rfl rfl rfl 3 rfl <| E_iload (n := 55) 40 rfl rfl 5 rfl <| E_irm (n := 56) 41 rfl rfl hc3 <| E_iadd (n := 57) 42 rfl rfl <| E_iload (n := 59) 43 rfl rfl 4 rfl <| E_isub (n := 60) 44 rfl rfl <| E_top hv6 <| E_istore (lv' := [(0, .ref 133), (1, .int x1), (2, .int x2), (3, .int x3), (4, .int x4), (5, .int v1), (6, .int v4), (7, .int v6)]) (n := 62) 45 rfl rfl (Nat.le_of_ble_eq_true rfl) [1, 2, 3, 4, 5, 6, 7, 0] rfl <| E_aload_n (n := 63) 46 rfl rfl rfl 0 rfl <| E_gF (r := 139) (n := 66) 47 rfl rfl fg_12_47 sh_133 rfl <| E_iload_n (n := 67) 48 rfl rfl rfl 2 rfl <| E_iconst (v := 2) (n := 68) 49 rfl rfl icz_2 <| E_iload (n := 70) 50 rfl rfl 6 rfl <| E_imul (n := 71) 51 rfl rfl <| E_iast (n := 72) 52 rfl rfl sh_139 hc7 <| E_mem hm8 <| E_aload_n (n := 73) 53 rfl rfl rfl 0 rfl <| E_gF (r := 140) (n := 76) 54 rfl rfl fg_12_50 sh_133 rfl <| E_iload_n (n := 77) 55 rfl rfl rfl 2 rfl <| E_iconst (v := 2) (n := 78) 56 rfl rfl icz_2 <| E_iload (n := 80) 57 rfl rfl 7 rfl <| E_imul (n := 81) 58 rfl rfl <| E_iast (n := 82) 59 rfl rfl sh_140 hc7 <| E_mem hm9 <| E_aload_n (n := 83) 60 rfl rfl rfl 0 rfl <| E_cV0v (n := 86) 61 rfl rfl co_12_262 rfl sh_133 rfl (K_RM_closes m9 _ hq11) <| E_iload (n := 88) 62 rfl rfl 6 rfl <| E_iload (n := 90) 63 rfl rfl 7 rfl <| E_dS2r (n := 93) 64 rfl rfl co_12_310 rfl rfl (K_RM_isPoint m10 v4 v6 _ rfl) <| E_zreturn 65 rfl rfl hc12 (eS h)
theorem RM_areUnlikeCorners_L2_ok (m : Mem) (kx : Option Int32) (R : Int32) (hx : kx = some R → E M_RM_areUnlikeCorners 52 [] [] m (qI R m)) : ∀ (n : Nat) (x1 : Int32), RM_areUnlikeCorners_L2 m kx n x1 = some R → E M_RM_areUnlikeCorners 2 [(0, .ref 133), (1, .int x1)] [] m (qI R m) := by
  intro n
  induction n with
  | zero =>
    intro x1 h
    exact absurd (show none = some R from h) (fun e => Option.some_ne_none R e.symm)
  | succ n ih =>
    intro x1 h
    rw [RM_areUnlikeCorners_L2] at h
    refine E_iload_n (n := 3) 2 rfl rfl rfl 1 rfl <| E_aload_n (n := 4) 3 rfl rfl rfl 0 rfl <| E_gI (n := 7) 4 rfl rfl fg_12_259 sh_133 <| E_icmp_ge (n := 10) (t := 52) 5 rfl rfl rfl (fun hc => ?_) (fun hc => ?_)
    · have h := ifp h hc
      refine E_sub (lv' := []) [] rfl ?_
      exact hx h
    · have h := ifn h hc
      obtain ⟨hc1, h⟩ := ift h
      obtain ⟨hc2, h⟩ := ift h
      refine E_aload_n (n := 11) 6 rfl rfl rfl 0 rfl <| E_gF (r := 139) (n := 14) 7 rfl rfl fg_12_47 sh_133 rfl <| E_iload_n (n := 15) 8 rfl rfl rfl 1 rfl <| E_iald (n := 16) 9 rfl rfl sh_139 hc1 <| E_aload_n (n := 17) 10 rfl rfl rfl 0 rfl <| E_gF (r := 139) (n := 20) 11 rfl rfl fg_12_47 sh_133 rfl <| E_iload_n (n := 21) 12 rfl rfl rfl 1 rfl <| E_iconst (v := 1) (n := 22) 13 rfl rfl icz_1 <| E_iadd (n := 23) 14 rfl rfl <| E_iald (n := 24) 15 rfl rfl sh_139 hc2 <| E_icmp_ne (n := 27) (t := 46) 16 rfl rfl rfl (fun hc => ?_) (fun hc => ?_)
      · have h := ifn h hc
        refine E_iinc (v := (x1 + 1)) (lv' := [(0, .ref 133), (1, .int (x1 + 1))]) (n := 49) 30 rfl rfl 1 rfl (by rw [icz_1]) (Nat.le_of_ble_eq_true rfl) [1, 0] rfl <| E_goto (t := 2) 31 rfl rfl <| ?_
        exact ih (x1 + 1) h
      · have h := ifp h hc
        refine E_aload_n (n := 28) 17 rfl rfl rfl 0 rfl <| E_gF (r := 140) (n := 31) 18 rfl rfl fg_12_50 sh_133 rfl <| E_iload_n (n := 32) 19 rfl rfl rfl 1 rfl <| E_iald (n := 33) 20 rfl rfl sh_140 hc1 <| E_aload_n (n := 34) 21 rfl rfl rfl 0 rfl <| E_gF (r := 140) (n := 37) 22 rfl rfl fg_12_50 sh_133 rfl <| E_iload_n (n := 38) 23 rfl rfl rfl 1 rfl <| E_iconst (v := 1) (n := 39) 24 rfl rfl icz_1 <| E_iadd (n := 40) 25 rfl rfl <| E_iald (n := 41) 26 rfl rfl sh_140 hc2 <| E_icmp_ne (n := 44) (t := 46) 27 rfl rfl rfl (fun hc => ?_) (fun hc => ?_)
        · have h := ifn h hc
          refine E_iinc (v := (x1 + 1)) (lv' := [(0, .ref 133), (1, .int (x1 + 1))]) (n := 49) 30 rfl rfl 1 rfl (by rw [icz_1]) (Nat.le_of_ble_eq_true rfl) [1, 0] rfl <| E_goto (t := 2) 31 rfl rfl <| ?_
          exact ih (x1 + 1) h
        · have h := ifp h hc
          refine E_iconst (v := 0) (n := 45) 28 rfl rfl icz_0 <| E_zreturn 29 rfl rfl z0 (eP h)
theorem K_RM_areUnlikeCorners (m : Mem) (R : Int32) (h : RM_areUnlikeCorners m = some R) : Mt M_RM_areUnlikeCorners [.ref 133] m (qI R m) := by
  refine Mt.of G_RM_areUnlikeCorners (Nat.le_of_ble_eq_true rfl) (E_sub (lv' := [(0, .ref 133)]) [0] rfl ?_)
  unfold RM_areUnlikeCorners at h
  refine E_iconst (v := 0) (n := 1) 0 rfl rfl icz_0 <| E_istore_n (lv' := [(0, .ref 133), (1, .int 0)]) (n := 2) 1 rfl rfl rfl (Nat.le_of_ble_eq_true rfl) [1, 0] rfl <| ?_
  refine RM_areUnlikeCorners_L2_ok m _ R ?_ FU 0 h
  intro h
  refine E_iconst (v := 1) (n := 53) 32 rfl rfl icz_1 <| E_zreturn 33 rfl rfl z1 (eP h)
theorem RM_found_J17_ok (m : Mem) (x1 : Int32) (x2 : Int32) (s1 : Int32) (R : Mem) (h : RM_found_J17 m x1 x2 s1 = some R) : E M_RM_found 17 [(0, .ref 133), (1, .int x1), (2, .int x2)] [.int s1, .ref 133] m (qV R) := by
  unfold RM_found_J17 at h
  obtain ⟨m1, hm1, h⟩ := letM_ex h
  obtain ⟨hc2, h⟩ := ift h
  obtain ⟨m3, hm3, h⟩ := letM_ex h
  obtain ⟨hc4, h⟩ := ift h
  obtain ⟨hc5, h⟩ := ift h
  obtain ⟨m6, hm6, h⟩ := letM_ex h
  obtain ⟨hc7, h⟩ := ift h
  obtain ⟨m8, hm8, h⟩ := letM_ex h
  refine E_pI (n := 20) 9 rfl rfl fp_12_392 sh_133 <| E_mem hm1 <| E_aload_n (n := 21) 10 rfl rfl rfl 0 rfl <| E_gF (r := 153) (n := 24) 11 rfl rfl fg_12_94 sh_133 rfl <| E_iconst (v := 0) (n := 25) 12 rfl rfl icz_0 <| E_iload_n (n := 26) 13 rfl rfl rfl 1 rfl <| E_iast (n := 27) 14 rfl rfl sh_153 hc2 <| E_mem hm3 <| E_aload_n (n := 28) 15 rfl rfl rfl 0 rfl <| E_gF (r := 153) (n := 31) 16 rfl rfl fg_12_94 sh_133 rfl <| E_iconst (v := 1) (n := 32) 17 rfl rfl icz_1 <| E_aload_n (n := 33) 18 rfl rfl rfl 0 rfl <| E_gF (r := 139) (n := 36) 19 rfl rfl fg_12_47 sh_133 rfl <| E_iload_n (n := 37) 20 rfl rfl rfl 1 rfl <| E_iald (n := 38) 21 rfl rfl sh_139 hc4 <| E_iconst (v := 2) (n := 39) 22 rfl rfl icz_2 <| E_idiv (n := 40) 23 rfl rfl (by decide) <| E_iast (n := 41) 24 rfl rfl sh_153 hc5 <| E_mem hm6 <| E_aload_n (n := 42) 25 rfl rfl rfl 0 rfl <| E_gF (r := 153) (n := 45) 26 rfl rfl fg_12_94 sh_133 rfl <| E_iconst (v := 2) (n := 46) 27 rfl rfl icz_2 <| E_aload_n (n := 47) 28 rfl rfl rfl 0 rfl <| E_gF (r := 140) (n := 50) 29 rfl rfl fg_12_50 sh_133 rfl <| E_iload_n (n := 51) 30 rfl rfl rfl 1 rfl <| E_iald (n := 52) 31 rfl rfl sh_140 hc4 <| E_iconst (v := 2) (n := 53) 32 rfl rfl icz_2 <| E_idiv (n := 54) 33 rfl rfl (by decide) <| E_iast (n := 55) 34 rfl rfl sh_153 hc7 <| E_mem hm8 <| E_iload_n (n := 56) 35 rfl rfl rfl 2 rfl <| E_if_lt (n := 59) (t := 94) 36 rfl rfl rfl (fun hc => ?_) (fun hc => ?_)
  · have h := ifp h hc
    obtain ⟨m9, hm9, h⟩ := letM_ex h
    refine E_aload_n (n := 95) 62 rfl rfl rfl 0 rfl <| E_dup (n := 96) 63 rfl rfl rfl <| E_gI (n := 99) 64 rfl rfl fg_12_389 sh_133 <| E_iconst (v := 1) (n := 100) 65 rfl rfl icz_1 <| E_iadd (n := 101) 66 rfl rfl <| E_pI (n := 104) 67 rfl rfl fp_12_389 sh_133 <| E_mem hm9 <| E_return 68 rfl rfl (eV h)
  · have h := ifn h hc
    obtain ⟨hc10, h⟩ := ift h
    obtain ⟨m11, hm11, h⟩ := letM_ex h
    obtain ⟨hc12, h⟩ := ift h
    obtain ⟨hc13, h⟩ := ift h
    obtain ⟨m14, hm14, h⟩ := letM_ex h
    obtain ⟨hc15, h⟩ := ift h
    obtain ⟨m16, hm16, h⟩ := letM_ex h
    refine E_aload_n (n := 60) 37 rfl rfl rfl 0 rfl <| E_gF (r := 153) (n := 63) 38 rfl rfl fg_12_94 sh_133 rfl <| E_iconst (v := 3) (n := 64) 39 rfl rfl icz_3 <| E_iload_n (n := 65) 40 rfl rfl rfl 2 rfl <| E_iast (n := 66) 41 rfl rfl sh_153 hc10 <| E_mem hm11 <| E_aload_n (n := 67) 42 rfl rfl rfl 0 rfl <| E_gF (r := 153) (n := 70) 43 rfl rfl fg_12_94 sh_133 rfl <| E_iconst (v := 4) (n := 71) 44 rfl rfl icz_4 <| E_aload_n (n := 72) 45 rfl rfl rfl 0 rfl <| E_gF (r := 139) (n := 75) 46 rfl rfl fg_12_47 sh_133 rfl <| E_iload_n (n := 76) 47 rfl rfl rfl 2 rfl <| E_iald (n := 77) 48 rfl rfl sh_139 hc12 <| E_iconst (v := 2) (n := 78) 49 rfl rfl icz_2 <| E_idiv (n := 79) 50 rfl rfl (by decide) <| E_iast (n := 80) 51 rfl rfl sh_153 hc13 <| E_mem hm14 <| E_aload_n (n := 81) 52 rfl rfl rfl 0 rfl <| E_gF (r := 153) (n := 84) 53 rfl rfl fg_12_94 sh_133 rfl <| E_iconst (v := 5) (n := 85) 54 rfl rfl icz_5 <| E_aload_n (n := 86) 55 rfl rfl rfl 0 rfl <| E_gF (r := 140) (n := 89) 56 rfl rfl fg_12_50 sh_133 rfl <| E_iload_n (n := 90) 57 rfl rfl rfl 2 rfl <| E_iald (n := 91) 58 rfl rfl sh_140 hc12 <| E_iconst (v := 2) (n := 92) 59 rfl rfl icz_2 <| E_idiv (n := 93) 60 rfl rfl (by decide) <| E_iast (n := 94) 61 rfl rfl sh_153 hc15 <| E_mem hm16 <| ?_
    obtain ⟨m17, hm17, h⟩ := letM_ex h
    refine E_aload_n (n := 95) 62 rfl rfl rfl 0 rfl <| E_dup (n := 96) 63 rfl rfl rfl <| E_gI (n := 99) 64 rfl rfl fg_12_389 sh_133 <| E_iconst (v := 1) (n := 100) 65 rfl rfl icz_1 <| E_iadd (n := 101) 66 rfl rfl <| E_pI (n := 104) 67 rfl rfl fp_12_389 sh_133 <| E_mem hm17 <| E_return 68 rfl rfl (eV h)
theorem K_RM_found (m : Mem) (x1 : Int32) (x2 : Int32) (R : Mem) (h : RM_found m x1 x2 = some R) : Mt M_RM_found [.ref 133, .int x1, .int x2] m (qV R) := by
  refine Mt.of G_RM_found (Nat.le_of_ble_eq_true rfl) (E_sub (lv' := [(0, .ref 133), (1, .int x1), (2, .int x2)]) [0, 1, 2] rfl ?_)
  unfold RM_found at h
  refine E_aload_n (n := 1) 0 rfl rfl rfl 0 rfl <| E_gI (n := 4) 1 rfl rfl fg_12_389 sh_133 <| E_if_ne (n := 7) (t := 94) 2 rfl rfl rfl (fun hc => ?_) (fun hc => ?_)
  · have h := ifn h hc
    obtain ⟨m1, hm1, h⟩ := letM_ex h
    refine E_aload_n (n := 95) 62 rfl rfl rfl 0 rfl <| E_dup (n := 96) 63 rfl rfl rfl <| E_gI (n := 99) 64 rfl rfl fg_12_389 sh_133 <| E_iconst (v := 1) (n := 100) 65 rfl rfl icz_1 <| E_iadd (n := 101) 66 rfl rfl <| E_pI (n := 104) 67 rfl rfl fp_12_389 sh_133 <| E_mem hm1 <| E_return 68 rfl rfl (eV h)
  · have h := ifp h hc
    refine E_aload_n (n := 8) 3 rfl rfl rfl 0 rfl <| E_iload_n (n := 9) 4 rfl rfl rfl 2 rfl <| E_if_ge (n := 12) (t := 16) 5 rfl rfl rfl (fun hc => ?_) (fun hc => ?_)
    · have h := ifp h hc
      refine E_iconst (v := 2) (n := 17) 8 rfl rfl icz_2 <| ?_
      exact RM_found_J17_ok m x1 x2 2 _ h
    · have h := ifn h hc
      refine E_iconst (v := 1) (n := 13) 6 rfl rfl icz_1 <| E_goto (t := 17) 7 rfl rfl <| ?_
      exact RM_found_J17_ok m x1 x2 1 _ h
theorem RM_byNight_L93_ok (x1 : Int32) (x2 : Int32) (x3 : Int32) (x4 : Int32) (kx : Mem → Option (Int32 × Mem)) (R : Int32 × Mem) (hx : ∀ (m : Mem), kx m = some R → E M_RM_byNight 155 [(0, .ref 133), (1, .int x1), (2, .int x2), (3, .int x3), (4, .int x4)] [] m (qI R.1 R.2)) : ∀ (n : Nat) (m : Mem) (x5 : Int32), RM_byNight_L93 x1 x2 x3 x4 kx n m x5 = some R → E M_RM_byNight 93 [(0, .ref 133), (1, .int x1), (2, .int x2), (3, .int x3), (4, .int x4), (5, .int x5)] [] m (qI R.1 R.2) := by
  intro n
  induction n with
  | zero =>
    intro m x5 h
    exact absurd (show none = some R from h) (fun e => Option.some_ne_none R e.symm)
  | succ n ih =>
    intro m x5 h
    rw [RM_byNight_L93] at h
    refine E_iload (n := 95) 58 rfl rfl 5 rfl <| E_iload_n (n := 96) 59 rfl rfl rfl 3 rfl <| E_icmp_ge (n := 99) (t := 155) 60 rfl rfl rfl (fun hc => ?_) (fun hc => ?_)
    · have h := ifp h hc
      refine E_sub (lv' := [(0, .ref 133), (1, .int x1), (2, .int x2), (3, .int x3), (4, .int x4)]) [0, 1, 2, 3, 4] rfl ?_
      exact hx m h
    · have h := ifn h hc
      refine E_iload (n := 101) 61 rfl rfl 5 rfl <| E_iload_n (n := 102) 62 rfl rfl rfl 3 rfl <| E_iconst (v := 2) (n := 103) 63 rfl rfl icz_2 <| E_idiv (n := 104) 64 rfl rfl (by decide) <| E_icmp_ne (n := 107) (t := 110) 65 rfl rfl rfl (fun hc => ?_) (fun hc => ?_)
      · have h := ifn h hc
        obtain ⟨m1, hq2, h⟩ := bM_ex h
        obtain ⟨v3, m4, hq5, h⟩ := bV_ex h
        refine E_aload_n (n := 111) 67 rfl rfl rfl 0 rfl <| E_iload_n (n := 112) 68 rfl rfl rfl 1 rfl <| E_cV1v (n := 115) 69 rfl rfl co_12_295 rfl sh_133 rfl (K_RM_looks m x1 _ hq2) <| E_aload_n (n := 116) 70 rfl rfl rfl 0 rfl <| E_iload_n (n := 117) 71 rfl rfl rfl 1 rfl <| E_iload (n := 119) 72 rfl rfl 4 rfl <| E_iload (n := 121) 73 rfl rfl 5 rfl <| E_iload_n (n := 122) 74 rfl rfl rfl 2 rfl <| E_cV4r (n := 125) 75 rfl rfl co_12_401 rfl sh_133 rfl (K_RM_tries m1 x1 x4 x5 x2 _ hq5) <| E_if_eq (n := 128) (t := 149) 76 rfl rfl rfl (fun hc => ?_) (fun hc => ?_)
        · have h := ifp h hc
          refine E_iinc (v := (x5 + 1)) (lv' := [(0, .ref 133), (1, .int x1), (2, .int x2), (3, .int x3), (4, .int x4), (5, .int (x5 + 1))]) (n := 152) 87 rfl rfl 5 rfl (by rw [icz_1]) (Nat.le_of_ble_eq_true rfl) [1, 2, 3, 4, 5, 0] rfl <| E_goto (t := 93) 88 rfl rfl <| ?_
          exact ih m4 (x5 + 1) h
        · have h := ifn h hc
          obtain ⟨v6, hq7, h⟩ := bI_ex h
          refine E_aload_n (n := 129) 77 rfl rfl rfl 0 rfl <| E_cV0r (n := 132) 78 rfl rfl co_12_404 rfl sh_133 rfl (K_RM_areUnlikeCorners m4 _ hq7) <| E_if_eq (n := 135) (t := 149) 79 rfl rfl rfl (fun hc => ?_) (fun hc => ?_)
          · have h := ifp h hc
            refine E_iinc (v := (x5 + 1)) (lv' := [(0, .ref 133), (1, .int x1), (2, .int x2), (3, .int x3), (4, .int x4), (5, .int (x5 + 1))]) (n := 152) 87 rfl rfl 5 rfl (by rw [icz_1]) (Nat.le_of_ble_eq_true rfl) [1, 2, 3, 4, 5, 0] rfl <| E_goto (t := 93) 88 rfl rfl <| ?_
            exact ih m4 (x5 + 1) h
          · have h := ifn h hc
            obtain ⟨v8, m9, hq10, h⟩ := bV_ex h
            refine E_aload_n (n := 136) 80 rfl rfl rfl 0 rfl <| E_cV0r (n := 139) 81 rfl rfl co_12_398 rfl sh_133 rfl (K_RM_areSo m4 _ hq10) <| E_if_eq (n := 142) (t := 149) 82 rfl rfl rfl (fun hc => ?_) (fun hc => ?_)
            · have h := ifp h hc
              refine E_iinc (v := (x5 + 1)) (lv' := [(0, .ref 133), (1, .int x1), (2, .int x2), (3, .int x3), (4, .int x4), (5, .int (x5 + 1))]) (n := 152) 87 rfl rfl 5 rfl (by rw [icz_1]) (Nat.le_of_ble_eq_true rfl) [1, 2, 3, 4, 5, 0] rfl <| E_goto (t := 93) 88 rfl rfl <| ?_
              exact ih m9 (x5 + 1) h
            · have h := ifn h hc
              obtain ⟨m11, hq12, h⟩ := bM_ex h
              refine E_aload_n (n := 143) 83 rfl rfl rfl 0 rfl <| E_iload (n := 145) 84 rfl rfl 4 rfl <| E_iconst (v := (-1)) (n := 146) 85 rfl rfl icz_m1 <| E_cV2v (n := 149) 86 rfl rfl co_12_407 rfl sh_133 rfl (K_RM_found m9 x4 (-1) _ hq12) <| ?_
              refine E_iinc (v := (x5 + 1)) (lv' := [(0, .ref 133), (1, .int x1), (2, .int x2), (3, .int x3), (4, .int x4), (5, .int (x5 + 1))]) (n := 152) 87 rfl rfl 5 rfl (by rw [icz_1]) (Nat.le_of_ble_eq_true rfl) [1, 2, 3, 4, 5, 0] rfl <| E_goto (t := 93) 88 rfl rfl <| ?_
              exact ih m11 (x5 + 1) h
      · have h := ifp h hc
        refine E_goto (t := 149) 66 rfl rfl <| ?_
        refine E_iinc (v := (x5 + 1)) (lv' := [(0, .ref 133), (1, .int x1), (2, .int x2), (3, .int x3), (4, .int x4), (5, .int (x5 + 1))]) (n := 152) 87 rfl rfl 5 rfl (by rw [icz_1]) (Nat.le_of_ble_eq_true rfl) [1, 2, 3, 4, 5, 0] rfl <| E_goto (t := 93) 88 rfl rfl <| ?_
        exact ih m (x5 + 1) h
theorem RM_byNight_L76_ok (x1 : Int32) (x2 : Int32) (x3 : Int32) (kx : Mem → Option (Int32 × Mem)) (R : Int32 × Mem) (hx : ∀ (m : Mem), kx m = some R → E M_RM_byNight 161 [(0, .ref 133), (1, .int x1), (2, .int x2), (3, .int x3)] [] m (qI R.1 R.2)) : ∀ (n : Nat) (m : Mem) (x4 : Int32), RM_byNight_L76 x1 x2 x3 kx n m x4 = some R → E M_RM_byNight 76 [(0, .ref 133), (1, .int x1), (2, .int x2), (3, .int x3), (4, .int x4)] [] m (qI R.1 R.2) := by
  intro n
  induction n with
  | zero =>
    intro m x4 h
    exact absurd (show none = some R from h) (fun e => Option.some_ne_none R e.symm)
  | succ n ih =>
    intro m x4 h
    rw [RM_byNight_L76] at h
    obtain ⟨hc1, h⟩ := ift h
    refine E_iload (n := 78) 48 rfl rfl 4 rfl <| E_aload_n (n := 79) 49 rfl rfl rfl 0 rfl <| E_gF (r := 135) (n := 82) 50 rfl rfl fg_12_33 sh_133 rfl <| E_bipush (v := 11) (n := 84) 51 rfl rfl bpz_11 <| E_iload_n (n := 85) 52 rfl rfl rfl 1 rfl <| E_iadd (n := 86) 53 rfl rfl <| E_iald (n := 87) 54 rfl rfl sh_135 hc1 <| E_icmp_ge (n := 90) (t := 161) 55 rfl rfl rfl (fun hc => ?_) (fun hc => ?_)
    · have h := ifp h hc
      refine E_sub (lv' := [(0, .ref 133), (1, .int x1), (2, .int x2), (3, .int x3)]) [0, 1, 2, 3] rfl ?_
      exact hx m h
    · have h := ifn h hc
      refine E_iconst (v := 0) (n := 91) 56 rfl rfl icz_0 <| E_istore (lv' := [(0, .ref 133), (1, .int x1), (2, .int x2), (3, .int x3), (4, .int x4), (5, .int 0)]) (n := 93) 57 rfl rfl (Nat.le_of_ble_eq_true rfl) [1, 2, 3, 4, 5, 0] rfl <| ?_
      refine RM_byNight_L93_ok x1 x2 x3 x4 _ R ?_ FU m 0 h
      intro m2 h
      refine E_iinc (v := (x4 + 1)) (lv' := [(0, .ref 133), (1, .int x1), (2, .int x2), (3, .int x3), (4, .int (x4 + 1))]) (n := 158) 89 rfl rfl 4 rfl (by rw [icz_1]) (Nat.le_of_ble_eq_true rfl) [1, 2, 3, 4, 0] rfl <| E_goto (t := 76) 90 rfl rfl <| ?_
      exact ih m2 (x4 + 1) h
theorem RM_byNight_L256_ok (x1 : Int32) (x2 : Int32) (x3 : Int32) (x4 : Int32) (x5 : Int32) (x6 : Int32) (kx : Mem → Option (Int32 × Mem)) (R : Int32 × Mem) (hx : ∀ (m : Mem), kx m = some R → E M_RM_byNight 311 [(0, .ref 133), (1, .int x1), (2, .int x2), (3, .int x3), (4, .int x4), (5, .int x5), (6, .int x6)] [] m (qI R.1 R.2)) : ∀ (n : Nat) (m : Mem) (x7 : Int32), RM_byNight_L256 x1 x2 x3 x4 x5 x6 kx n m x7 = some R → E M_RM_byNight 256 [(0, .ref 133), (1, .int x1), (2, .int x2), (3, .int x3), (4, .int x4), (5, .int x5), (6, .int x6), (7, .int x7)] [] m (qI R.1 R.2) := by
  intro n
  induction n with
  | zero =>
    intro m x7 h
    exact absurd (show none = some R from h) (fun e => Option.some_ne_none R e.symm)
  | succ n ih =>
    intro m x7 h
    rw [RM_byNight_L256] at h
    refine E_iload (n := 258) 145 rfl rfl 7 rfl <| E_iload_n (n := 259) 146 rfl rfl rfl 3 rfl <| E_icmp_ge (n := 262) (t := 311) 147 rfl rfl rfl (fun hc => ?_) (fun hc => ?_)
    · have h := ifp h hc
      refine E_sub (lv' := [(0, .ref 133), (1, .int x1), (2, .int x2), (3, .int x3), (4, .int x4), (5, .int x5), (6, .int x6)]) [0, 1, 2, 3, 4, 5, 6] rfl ?_
      exact hx m h
    · have h := ifn h hc
      refine E_iload (n := 264) 148 rfl rfl 7 rfl <| E_iload_n (n := 265) 149 rfl rfl rfl 3 rfl <| E_iconst (v := 2) (n := 266) 150 rfl rfl icz_2 <| E_idiv (n := 267) 151 rfl rfl (by decide) <| E_icmp_eq (n := 270) (t := 305) 152 rfl rfl rfl (fun hc => ?_) (fun hc => ?_)
      · have h := ifp h hc
        refine E_iinc (v := (x7 + 1)) (lv' := [(0, .ref 133), (1, .int x1), (2, .int x2), (3, .int x3), (4, .int x4), (5, .int x5), (6, .int x6), (7, .int (x7 + 1))]) (n := 308) 170 rfl rfl 7 rfl (by rw [icz_1]) (Nat.le_of_ble_eq_true rfl) [1, 2, 3, 4, 5, 6, 7, 0] rfl <| E_goto (t := 256) 171 rfl rfl <| ?_
        exact ih m (x7 + 1) h
      · have h := ifn h hc
        obtain ⟨v1, m2, hq3, h⟩ := bV_ex h
        refine E_aload_n (n := 271) 153 rfl rfl rfl 0 rfl <| E_iload_n (n := 272) 154 rfl rfl rfl 1 rfl <| E_iload (n := 274) 155 rfl rfl 5 rfl <| E_iload (n := 276) 156 rfl rfl 7 rfl <| E_iload_n (n := 277) 157 rfl rfl rfl 2 rfl <| E_cV4r (n := 280) 158 rfl rfl co_12_401 rfl sh_133 rfl (K_RM_tries m x1 x5 x7 x2 _ hq3) <| E_if_eq (n := 283) (t := 305) 159 rfl rfl rfl (fun hc => ?_) (fun hc => ?_)
        · have h := ifp h hc
          refine E_iinc (v := (x7 + 1)) (lv' := [(0, .ref 133), (1, .int x1), (2, .int x2), (3, .int x3), (4, .int x4), (5, .int x5), (6, .int x6), (7, .int (x7 + 1))]) (n := 308) 170 rfl rfl 7 rfl (by rw [icz_1]) (Nat.le_of_ble_eq_true rfl) [1, 2, 3, 4, 5, 6, 7, 0] rfl <| E_goto (t := 256) 171 rfl rfl <| ?_
          exact ih m2 (x7 + 1) h
        · have h := ifn h hc
          obtain ⟨v4, hq5, h⟩ := bI_ex h
          refine E_aload_n (n := 284) 160 rfl rfl rfl 0 rfl <| E_cV0r (n := 287) 161 rfl rfl co_12_404 rfl sh_133 rfl (K_RM_areUnlikeCorners m2 _ hq5) <| E_if_eq (n := 290) (t := 305) 162 rfl rfl rfl (fun hc => ?_) (fun hc => ?_)
          · have h := ifp h hc
            refine E_iinc (v := (x7 + 1)) (lv' := [(0, .ref 133), (1, .int x1), (2, .int x2), (3, .int x3), (4, .int x4), (5, .int x5), (6, .int x6), (7, .int (x7 + 1))]) (n := 308) 170 rfl rfl 7 rfl (by rw [icz_1]) (Nat.le_of_ble_eq_true rfl) [1, 2, 3, 4, 5, 6, 7, 0] rfl <| E_goto (t := 256) 171 rfl rfl <| ?_
            exact ih m2 (x7 + 1) h
          · have h := ifn h hc
            obtain ⟨v6, m7, hq8, h⟩ := bV_ex h
            refine E_aload_n (n := 291) 163 rfl rfl rfl 0 rfl <| E_cV0r (n := 294) 164 rfl rfl co_12_398 rfl sh_133 rfl (K_RM_areSo m2 _ hq8) <| E_if_eq (n := 297) (t := 305) 165 rfl rfl rfl (fun hc => ?_) (fun hc => ?_)
            · have h := ifp h hc
              refine E_iinc (v := (x7 + 1)) (lv' := [(0, .ref 133), (1, .int x1), (2, .int x2), (3, .int x3), (4, .int x4), (5, .int x5), (6, .int x6), (7, .int (x7 + 1))]) (n := 308) 170 rfl rfl 7 rfl (by rw [icz_1]) (Nat.le_of_ble_eq_true rfl) [1, 2, 3, 4, 5, 6, 7, 0] rfl <| E_goto (t := 256) 171 rfl rfl <| ?_
              exact ih m7 (x7 + 1) h
            · have h := ifn h hc
              obtain ⟨m9, hq10, h⟩ := bM_ex h
              refine E_aload_n (n := 298) 166 rfl rfl rfl 0 rfl <| E_iload (n := 300) 167 rfl rfl 4 rfl <| E_iload (n := 302) 168 rfl rfl 5 rfl <| E_cV2v (n := 305) 169 rfl rfl co_12_407 rfl sh_133 rfl (K_RM_found m7 x4 x5 _ hq10) <| ?_
              refine E_iinc (v := (x7 + 1)) (lv' := [(0, .ref 133), (1, .int x1), (2, .int x2), (3, .int x3), (4, .int x4), (5, .int x5), (6, .int x6), (7, .int (x7 + 1))]) (n := 308) 170 rfl rfl 7 rfl (by rw [icz_1]) (Nat.le_of_ble_eq_true rfl) [1, 2, 3, 4, 5, 6, 7, 0] rfl <| E_goto (t := 256) 171 rfl rfl <| ?_
              exact ih m9 (x7 + 1) h
theorem RM_byNight_L218_ok (x1 : Int32) (x2 : Int32) (x3 : Int32) (x4 : Int32) (x5 : Int32) (kx : Mem → Option (Int32 × Mem)) (R : Int32 × Mem) (hx : ∀ (m : Mem), kx m = some R → E M_RM_byNight 317 [(0, .ref 133), (1, .int x1), (2, .int x2), (3, .int x3), (4, .int x4), (5, .int x5)] [] m (qI R.1 R.2)) : ∀ (n : Nat) (m : Mem) (x6 : Int32), RM_byNight_L218 x1 x2 x3 x4 x5 kx n m x6 = some R → E M_RM_byNight 218 [(0, .ref 133), (1, .int x1), (2, .int x2), (3, .int x3), (4, .int x4), (5, .int x5), (6, .int x6)] [] m (qI R.1 R.2) := by
  intro n
  induction n with
  | zero =>
    intro m x6 h
    exact absurd (show none = some R from h) (fun e => Option.some_ne_none R e.symm)
  | succ n ih =>
    intro m x6 h
    rw [RM_byNight_L218] at h
    refine E_iload (n := 220) 124 rfl rfl 6 rfl <| E_iload_n (n := 221) 125 rfl rfl rfl 3 rfl <| E_icmp_ge (n := 224) (t := 317) 126 rfl rfl rfl (fun hc => ?_) (fun hc => ?_)
    · have h := ifp h hc
      refine E_sub (lv' := [(0, .ref 133), (1, .int x1), (2, .int x2), (3, .int x3), (4, .int x4), (5, .int x5)]) [0, 1, 2, 3, 4, 5] rfl ?_
      exact hx m h
    · have h := ifn h hc
      obtain ⟨m1, hq2, h⟩ := bM_ex h
      refine E_aload_n (n := 225) 127 rfl rfl rfl 0 rfl <| E_iload_n (n := 226) 128 rfl rfl rfl 1 rfl <| E_cV1v (n := 229) 129 rfl rfl co_12_295 rfl sh_133 rfl (K_RM_looks m x1 _ hq2) <| E_iload (n := 231) 130 rfl rfl 6 rfl <| E_iload_n (n := 232) 131 rfl rfl rfl 3 rfl <| E_iconst (v := 2) (n := 233) 132 rfl rfl icz_2 <| E_idiv (n := 234) 133 rfl rfl (by decide) <| E_icmp_eq (n := 237) (t := 311) 134 rfl rfl rfl (fun hc => ?_) (fun hc => ?_)
      · have h := ifp h hc
        refine E_iinc (v := (x6 + 1)) (lv' := [(0, .ref 133), (1, .int x1), (2, .int x2), (3, .int x3), (4, .int x4), (5, .int x5), (6, .int (x6 + 1))]) (n := 314) 172 rfl rfl 6 rfl (by rw [icz_1]) (Nat.le_of_ble_eq_true rfl) [1, 2, 3, 4, 5, 6, 0] rfl <| E_goto (t := 218) 173 rfl rfl <| ?_
        exact ih m1 (x6 + 1) h
      · have h := ifn h hc
        obtain ⟨v3, m4, hq5, h⟩ := bV_ex h
        refine E_aload_n (n := 238) 135 rfl rfl rfl 0 rfl <| E_iload_n (n := 239) 136 rfl rfl rfl 1 rfl <| E_iload (n := 241) 137 rfl rfl 4 rfl <| E_iload (n := 243) 138 rfl rfl 6 rfl <| E_iload_n (n := 244) 139 rfl rfl rfl 2 rfl <| E_cV4r (n := 247) 140 rfl rfl co_12_401 rfl sh_133 rfl (K_RM_tries m1 x1 x4 x6 x2 _ hq5) <| E_if_ne (n := 250) (t := 253) 141 rfl rfl rfl (fun hc => ?_) (fun hc => ?_)
        · have h := ifn h hc
          refine E_iconst (v := 0) (n := 254) 143 rfl rfl icz_0 <| E_istore (lv' := [(0, .ref 133), (1, .int x1), (2, .int x2), (3, .int x3), (4, .int x4), (5, .int x5), (6, .int x6), (7, .int 0)]) (n := 256) 144 rfl rfl (Nat.le_of_ble_eq_true rfl) [1, 2, 3, 4, 5, 6, 7, 0] rfl <| ?_
          refine RM_byNight_L256_ok x1 x2 x3 x4 x5 x6 _ R ?_ FU m4 0 h
          intro m6 h
          refine E_iinc (v := (x6 + 1)) (lv' := [(0, .ref 133), (1, .int x1), (2, .int x2), (3, .int x3), (4, .int x4), (5, .int x5), (6, .int (x6 + 1))]) (n := 314) 172 rfl rfl 6 rfl (by rw [icz_1]) (Nat.le_of_ble_eq_true rfl) [1, 2, 3, 4, 5, 6, 0] rfl <| E_goto (t := 218) 173 rfl rfl <| ?_
          exact ih m6 (x6 + 1) h
        · have h := ifp h hc
          refine E_goto (t := 311) 142 rfl rfl <| ?_
          refine E_iinc (v := (x6 + 1)) (lv' := [(0, .ref 133), (1, .int x1), (2, .int x2), (3, .int x3), (4, .int x4), (5, .int x5), (6, .int (x6 + 1))]) (n := 314) 172 rfl rfl 6 rfl (by rw [icz_1]) (Nat.le_of_ble_eq_true rfl) [1, 2, 3, 4, 5, 6, 0] rfl <| E_goto (t := 218) 173 rfl rfl <| ?_
          exact ih m4 (x6 + 1) h
theorem RM_byNight_L201_ok (x1 : Int32) (x2 : Int32) (x3 : Int32) (x4 : Int32) (kx : Mem → Option (Int32 × Mem)) (R : Int32 × Mem) (hx : ∀ (m : Mem), kx m = some R → E M_RM_byNight 323 [(0, .ref 133), (1, .int x1), (2, .int x2), (3, .int x3), (4, .int x4)] [] m (qI R.1 R.2)) : ∀ (n : Nat) (m : Mem) (x5 : Int32), RM_byNight_L201 x1 x2 x3 x4 kx n m x5 = some R → E M_RM_byNight 201 [(0, .ref 133), (1, .int x1), (2, .int x2), (3, .int x3), (4, .int x4), (5, .int x5)] [] m (qI R.1 R.2) := by
  intro n
  induction n with
  | zero =>
    intro m x5 h
    exact absurd (show none = some R from h) (fun e => Option.some_ne_none R e.symm)
  | succ n ih =>
    intro m x5 h
    rw [RM_byNight_L201] at h
    obtain ⟨hc1, h⟩ := ift h
    refine E_iload (n := 203) 114 rfl rfl 5 rfl <| E_aload_n (n := 204) 115 rfl rfl rfl 0 rfl <| E_gF (r := 135) (n := 207) 116 rfl rfl fg_12_33 sh_133 rfl <| E_bipush (v := 11) (n := 209) 117 rfl rfl bpz_11 <| E_iload_n (n := 210) 118 rfl rfl rfl 1 rfl <| E_iadd (n := 211) 119 rfl rfl <| E_iald (n := 212) 120 rfl rfl sh_135 hc1 <| E_icmp_ge (n := 215) (t := 323) 121 rfl rfl rfl (fun hc => ?_) (fun hc => ?_)
    · have h := ifp h hc
      refine E_sub (lv' := [(0, .ref 133), (1, .int x1), (2, .int x2), (3, .int x3), (4, .int x4)]) [0, 1, 2, 3, 4] rfl ?_
      exact hx m h
    · have h := ifn h hc
      refine E_iconst (v := 0) (n := 216) 122 rfl rfl icz_0 <| E_istore (lv' := [(0, .ref 133), (1, .int x1), (2, .int x2), (3, .int x3), (4, .int x4), (5, .int x5), (6, .int 0)]) (n := 218) 123 rfl rfl (Nat.le_of_ble_eq_true rfl) [1, 2, 3, 4, 5, 6, 0] rfl <| ?_
      refine RM_byNight_L218_ok x1 x2 x3 x4 x5 _ R ?_ FU m 0 h
      intro m2 h
      refine E_iinc (v := (x5 + 1)) (lv' := [(0, .ref 133), (1, .int x1), (2, .int x2), (3, .int x3), (4, .int x4), (5, .int (x5 + 1))]) (n := 320) 174 rfl rfl 5 rfl (by rw [icz_1]) (Nat.le_of_ble_eq_true rfl) [1, 2, 3, 4, 5, 0] rfl <| E_goto (t := 201) 175 rfl rfl <| ?_
      exact ih m2 (x5 + 1) h
theorem RM_byNight_L181_ok (x1 : Int32) (x2 : Int32) (x3 : Int32) (kx : Mem → Option (Int32 × Mem)) (R : Int32 × Mem) (hx : ∀ (m : Mem), kx m = some R → E M_RM_byNight 329 [(0, .ref 133)] [] m (qI R.1 R.2)) : ∀ (n : Nat) (m : Mem) (x4 : Int32), RM_byNight_L181 x1 x2 x3 kx n m x4 = some R → E M_RM_byNight 181 [(0, .ref 133), (1, .int x1), (2, .int x2), (3, .int x3), (4, .int x4)] [] m (qI R.1 R.2) := by
  intro n
  induction n with
  | zero =>
    intro m x4 h
    exact absurd (show none = some R from h) (fun e => Option.some_ne_none R e.symm)
  | succ n ih =>
    intro m x4 h
    rw [RM_byNight_L181] at h
    obtain ⟨hc1, h⟩ := ift h
    refine E_iload (n := 183) 102 rfl rfl 4 rfl <| E_aload_n (n := 184) 103 rfl rfl rfl 0 rfl <| E_gF (r := 135) (n := 187) 104 rfl rfl fg_12_33 sh_133 rfl <| E_bipush (v := 11) (n := 189) 105 rfl rfl bpz_11 <| E_iload_n (n := 190) 106 rfl rfl rfl 1 rfl <| E_iadd (n := 191) 107 rfl rfl <| E_iald (n := 192) 108 rfl rfl sh_135 hc1 <| E_icmp_ge (n := 195) (t := 329) 109 rfl rfl rfl (fun hc => ?_) (fun hc => ?_)
    · have h := ifp h hc
      refine E_sub (lv' := [(0, .ref 133)]) [0] rfl ?_
      exact hx m h
    · have h := ifn h hc
      obtain ⟨v2, hv2, h⟩ := letV_ex h
      refine E_iload (n := 197) 110 rfl rfl 4 rfl <| E_iconst (v := 1) (n := 198) 111 rfl rfl icz_1 <| E_iadd (n := 199) 112 rfl rfl <| E_top hv2 <| E_istore (lv' := [(0, .ref 133), (1, .int x1), (2, .int x2), (3, .int x3), (4, .int x4), (5, .int v2)]) (n := 201) 113 rfl rfl (Nat.le_of_ble_eq_true rfl) [1, 2, 3, 4, 5, 0] rfl <| ?_
      refine RM_byNight_L201_ok x1 x2 x3 x4 _ R ?_ FU m v2 h
      intro m3 h
      refine E_iinc (v := (x4 + 1)) (lv' := [(0, .ref 133), (1, .int x1), (2, .int x2), (3, .int x3), (4, .int (x4 + 1))]) (n := 326) 176 rfl rfl 4 rfl (by rw [icz_1]) (Nat.le_of_ble_eq_true rfl) [1, 2, 3, 4, 0] rfl <| E_goto (t := 181) 177 rfl rfl <| ?_
      exact ih m3 (x4 + 1) h
theorem K_RM_byNight (m : Mem) (x1 : Int32) (x2 : Int32) (R : Int32 × Mem) (h : RM_byNight m x1 x2 = some R) : Mt M_RM_byNight [.ref 133, .int x1, .int x2] m (qI R.1 R.2) := by
  refine Mt.of G_RM_byNight (Nat.le_of_ble_eq_true rfl) (E_sub (lv' := [(0, .ref 133), (1, .int x1), (2, .int x2)]) [0, 1, 2] rfl ?_)
  unfold RM_byNight at h
  obtain ⟨m1, hm1, h⟩ := letM_ex h
  obtain ⟨v2, m3, hq4, h⟩ := bV_ex h
  refine E_aload_n (n := 1) 0 rfl rfl rfl 0 rfl <| E_iconst (v := 0) (n := 2) 1 rfl rfl icz_0 <| E_pI (n := 5) 2 rfl rfl fp_12_1 sh_133 <| E_mem hm1 <| E_aload_n (n := 6) 3 rfl rfl rfl 0 rfl <| E_cV0r (n := 9) 4 rfl rfl co_12_395 rfl sh_133 rfl (K_RM_isTold m1 _ hq4) <| E_if_eq (n := 12) (t := 29) 5 rfl rfl rfl (fun hc => ?_) (fun hc => ?_)
  · have h := ifp h hc
    refine E_bipush (v := (-2)) (n := 31) 15 rfl rfl bpz_m2 <| E_ireturn 16 rfl rfl (eS h)
  · have h := ifn h hc
    obtain ⟨v5, hq6, h⟩ := bI_ex h
    refine E_aload_n (n := 13) 6 rfl rfl rfl 0 rfl <| E_iload_n (n := 14) 7 rfl rfl rfl 1 rfl <| E_cV1r (n := 17) 8 rfl rfl co_12_256 rfl sh_133 rfl (K_RM_isLine m3 x1 _ hq6) <| E_if_eq (n := 20) (t := 29) 9 rfl rfl rfl (fun hc => ?_) (fun hc => ?_)
    · have h := ifp h hc
      refine E_bipush (v := (-2)) (n := 31) 15 rfl rfl bpz_m2 <| E_ireturn 16 rfl rfl (eS h)
    · have h := ifn h hc
      refine E_iload_n (n := 21) 10 rfl rfl rfl 2 rfl <| E_iconst (v := 1) (n := 22) 11 rfl rfl icz_1 <| E_iconst (v := 3) (n := 23) 12 rfl rfl icz_3 <| E_dS3r (n := 26) 13 rfl rfl co_12_203 rfl rfl (K_RM_isIn m3 x2 1 3 _ rfl) <| E_if_ne (n := 29) (t := 32) 14 rfl rfl rfl (fun hc => ?_) (fun hc => ?_)
      · have h := ifn h hc
        obtain ⟨m7, hq8, h⟩ := bM_ex h
        obtain ⟨v9, m10, hq11, h⟩ := bV_ex h
        refine E_aload_n (n := 33) 17 rfl rfl rfl 0 rfl <| E_iload_n (n := 34) 18 rfl rfl rfl 1 rfl <| E_cV1v (n := 37) 19 rfl rfl co_12_295 rfl sh_133 rfl (K_RM_looks m3 x1 _ hq8) <| E_aload_n (n := 38) 20 rfl rfl rfl 0 rfl <| E_cV0r (n := 41) 21 rfl rfl co_12_398 rfl sh_133 rfl (K_RM_areSo m7 _ hq11) <| E_if_eq (n := 44) (t := 56) 22 rfl rfl rfl (fun hc => ?_) (fun hc => ?_)
        · have h := ifp h hc
          obtain ⟨v12, hv12, h⟩ := letV_ex h
          obtain ⟨m13, hm13, h⟩ := letM_ex h
          refine E_iconst (v := 2) (n := 57) 31 rfl rfl icz_2 <| E_iload_n (n := 58) 32 rfl rfl rfl 2 rfl <| E_imul (n := 59) 33 rfl rfl <| E_iconst (v := 1) (n := 60) 34 rfl rfl icz_1 <| E_iadd (n := 61) 35 rfl rfl <| E_iconst (v := 2) (n := 62) 36 rfl rfl icz_2 <| E_iload_n (n := 63) 37 rfl rfl rfl 2 rfl <| E_imul (n := 64) 38 rfl rfl <| E_iconst (v := 1) (n := 65) 39 rfl rfl icz_1 <| E_iadd (n := 66) 40 rfl rfl <| E_imul (n := 67) 41 rfl rfl <| E_top hv12 <| E_istore_n (lv' := [(0, .ref 133), (1, .int x1), (2, .int x2), (3, .int v12)]) (n := 68) 42 rfl rfl rfl (Nat.le_of_ble_eq_true rfl) [1, 2, 3, 0] rfl <| E_aload_n (n := 69) 43 rfl rfl rfl 0 rfl <| E_iconst (v := 0) (n := 70) 44 rfl rfl icz_0 <| E_pI (n := 73) 45 rfl rfl fp_12_389 sh_133 <| E_mem hm13 <| E_iconst (v := 0) (n := 74) 46 rfl rfl icz_0 <| E_istore (lv' := [(0, .ref 133), (1, .int x1), (2, .int x2), (3, .int v12), (4, .int 0)]) (n := 76) 47 rfl rfl (Nat.le_of_ble_eq_true rfl) [1, 2, 3, 4, 0] rfl <| ?_
          refine RM_byNight_L76_ok x1 x2 v12 _ R ?_ FU m13 0 h
          intro m14 h
          refine E_aload_n (n := 162) 91 rfl rfl rfl 0 rfl <| E_gI (n := 165) 92 rfl rfl fg_12_389 sh_133 <| E_if_le (n := 168) (t := 178) 93 rfl rfl rfl (fun hc => ?_) (fun hc => ?_)
          · have h := ifp h hc
            refine E_iconst (v := 0) (n := 179) 100 rfl rfl icz_0 <| E_istore (lv' := [(0, .ref 133), (1, .int x1), (2, .int x2), (3, .int v12), (4, .int 0)]) (n := 181) 101 rfl rfl (Nat.le_of_ble_eq_true rfl) [1, 2, 3, 4, 0] rfl <| ?_
            refine RM_byNight_L181_ok x1 x2 v12 _ R ?_ FU m14 0 h
            intro m15 h
            refine E_aload_n (n := 330) 178 rfl rfl rfl 0 rfl <| E_gI (n := 333) 179 rfl rfl fg_12_389 sh_133 <| E_if_ne (n := 336) (t := 338) 180 rfl rfl rfl (fun hc => ?_) (fun hc => ?_)
            · have h := ifn h hc
              obtain ⟨m16, hm16, h⟩ := letM_ex h
              refine E_aload_n (n := 339) 183 rfl rfl rfl 0 rfl <| E_aload_n (n := 340) 184 rfl rfl rfl 0 rfl <| E_gI (n := 343) 185 rfl rfl fg_12_389 sh_133 <| E_pI (n := 346) 186 rfl rfl fp_12_97 sh_133 <| E_mem hm16 <| E_iconst (v := 2) (n := 347) 187 rfl rfl icz_2 <| E_ireturn 188 rfl rfl (eS h)
            · have h := ifp h hc
              refine E_iconst (v := (-1)) (n := 337) 181 rfl rfl icz_m1 <| E_ireturn 182 rfl rfl (eS h)
          · have h := ifn h hc
            obtain ⟨m17, hm17, h⟩ := letM_ex h
            refine E_aload_n (n := 169) 94 rfl rfl rfl 0 rfl <| E_aload_n (n := 170) 95 rfl rfl rfl 0 rfl <| E_gI (n := 173) 96 rfl rfl fg_12_389 sh_133 <| E_pI (n := 176) 97 rfl rfl fp_12_97 sh_133 <| E_mem hm17 <| E_iconst (v := 1) (n := 177) 98 rfl rfl icz_1 <| E_ireturn 99 rfl rfl (eS h)
        · have h := ifn h hc
          obtain ⟨m18, hm18, h⟩ := letM_ex h
          obtain ⟨m19, hm19, h⟩ := letM_ex h
          refine E_aload_n (n := 45) 23 rfl rfl rfl 0 rfl <| E_iconst (v := 1) (n := 46) 24 rfl rfl icz_1 <| E_pI (n := 49) 25 rfl rfl fp_12_97 sh_133 <| E_mem hm18 <| E_aload_n (n := 50) 26 rfl rfl rfl 0 rfl <| E_iconst (v := 0) (n := 51) 27 rfl rfl icz_0 <| E_pI (n := 54) 28 rfl rfl fp_12_392 sh_133 <| E_mem hm19 <| E_iconst (v := 0) (n := 55) 29 rfl rfl icz_0 <| E_ireturn 30 rfl rfl (eS h)
      · have h := ifp h hc
        refine E_bipush (v := (-2)) (n := 31) 15 rfl rfl bpz_m2 <| E_ireturn 16 rfl rfl (eS h)
theorem K_RM_ways (m : Mem) (R : Int32 × Mem) (h : RM_ways m = some R) : Mt M_RM_ways [.ref 133] m (qI R.1 R.2) := by
  refine Mt.of G_RM_ways (Nat.le_of_ble_eq_true rfl) (E_sub (lv' := [(0, .ref 133)]) [0] rfl ?_)
  unfold RM_ways at h
  obtain ⟨m1, hm1, h⟩ := letM_ex h
  refine E_aload_n (n := 1) 0 rfl rfl rfl 0 rfl <| E_iconst (v := 0) (n := 2) 1 rfl rfl icz_0 <| E_pI (n := 5) 2 rfl rfl fp_12_1 sh_133 <| E_mem hm1 <| E_aload_n (n := 6) 3 rfl rfl rfl 0 rfl <| E_gI (n := 9) 4 rfl rfl fg_12_97 sh_133 <| E_ireturn 5 rfl rfl (eS h)
theorem K_RM_way (m : Mem) (x1 : Int32) (x2 : Int32) (R : Int32 × Mem) (h : RM_way m x1 x2 = some R) : Mt M_RM_way [.ref 133, .int x1, .int x2] m (qI R.1 R.2) := by
  refine Mt.of G_RM_way (Nat.le_of_ble_eq_true rfl) (E_sub (lv' := [(0, .ref 133), (1, .int x1), (2, .int x2)]) [0, 1, 2] rfl ?_)
  unfold RM_way at h
  obtain ⟨m1, hm1, h⟩ := letM_ex h
  refine E_aload_n (n := 1) 0 rfl rfl rfl 0 rfl <| E_iconst (v := 0) (n := 2) 1 rfl rfl icz_0 <| E_pI (n := 5) 2 rfl rfl fp_12_1 sh_133 <| E_mem hm1 <| E_aload_n (n := 6) 3 rfl rfl rfl 0 rfl <| E_gI (n := 9) 4 rfl rfl fg_12_97 sh_133 <| E_if_le (n := 12) (t := 48) 5 rfl rfl rfl (fun hc => ?_) (fun hc => ?_)
  · have h := ifp h hc
    refine E_iconst (v := (-1)) (n := 49) 28 rfl rfl icz_m1 <| ?_
    refine E_ireturn 29 rfl rfl (eS h)
  · have h := ifn h hc
    refine E_iload_n (n := 13) 6 rfl rfl rfl 1 rfl <| E_iconst (v := 0) (n := 14) 7 rfl rfl icz_0 <| E_aload_n (n := 15) 8 rfl rfl rfl 0 rfl <| E_gI (n := 18) 9 rfl rfl fg_12_392 sh_133 <| E_iconst (v := 1) (n := 19) 10 rfl rfl icz_1 <| E_isub (n := 20) 11 rfl rfl <| E_dS3r (n := 23) 12 rfl rfl co_12_203 rfl rfl (K_RM_isIn m1 x1 0 ((gI m1 133 46) - 1) _ rfl) <| E_if_eq (n := 26) (t := 48) 13 rfl rfl rfl (fun hc => ?_) (fun hc => ?_)
    · have h := ifp h hc
      refine E_iconst (v := (-1)) (n := 49) 28 rfl rfl icz_m1 <| ?_
      refine E_ireturn 29 rfl rfl (eS h)
    · have h := ifn h hc
      refine E_iload_n (n := 27) 14 rfl rfl rfl 2 rfl <| E_iconst (v := 0) (n := 28) 15 rfl rfl icz_0 <| E_iconst (v := 2) (n := 29) 16 rfl rfl icz_2 <| E_dS3r (n := 32) 17 rfl rfl co_12_203 rfl rfl (K_RM_isIn m1 x2 0 2 _ rfl) <| E_if_eq (n := 35) (t := 48) 18 rfl rfl rfl (fun hc => ?_) (fun hc => ?_)
      · have h := ifp h hc
        refine E_iconst (v := (-1)) (n := 49) 28 rfl rfl icz_m1 <| ?_
        refine E_ireturn 29 rfl rfl (eS h)
      · have h := ifn h hc
        obtain ⟨hc2, h⟩ := ift h
        refine E_aload_n (n := 36) 19 rfl rfl rfl 0 rfl <| E_gF (r := 153) (n := 39) 20 rfl rfl fg_12_94 sh_133 rfl <| E_iconst (v := 3) (n := 40) 21 rfl rfl icz_3 <| E_iload_n (n := 41) 22 rfl rfl rfl 1 rfl <| E_imul (n := 42) 23 rfl rfl <| E_iload_n (n := 43) 24 rfl rfl rfl 2 rfl <| E_iadd (n := 44) 25 rfl rfl <| E_iald (n := 45) 26 rfl rfl sh_153 hc2 <| E_goto (t := 49) 27 rfl rfl <| ?_
        refine E_ireturn 29 rfl rfl (eS h)
theorem RM_isBy_J33_ok (kr : Mem → Int32 → Option (Int32 × Mem)) (kx : Mem → Option (Int32 × Mem)) (m : Mem) (x1 : Int32) (x2 : Int32) (x3 : Int32) (x4 : Int32) (x5 : Int32) (s1 : Int32) (s2 : Int32) (s3 : Int32) (R : Int32 × Mem) (hr : ∀ (m : Mem) (x5 : Int32), kr m x5 = some R → E M_RM_isBy 3 [(0, .ref 133), (1, .int x1), (2, .int x2), (3, .int x3), (4, .int x4), (5, .int x5)] [] m (qI R.1 R.2)) (hx : ∀ (m : Mem), kx m = some R → E M_RM_isBy 62 [(0, .ref 133)] [] m (qI R.1 R.2)) (h : RM_isBy_J33 kr kx m x1 x2 x3 x4 x5 s1 s2 s3 = some R) : E M_RM_isBy 33 [(0, .ref 133), (1, .int x1), (2, .int x2), (3, .int x3), (4, .int x4), (5, .int x5)] [.int s3, .int s2, .int s1, .ref 139] m (qI R.1 R.2) := by
  unfold RM_isBy_J33 at h
  obtain ⟨hc1, h⟩ := ift h
  obtain ⟨m2, hm2, h⟩ := letM_ex h
  refine E_imul (n := 34) 18 rfl rfl <| E_iast (n := 35) 19 rfl rfl sh_139 hc1 <| E_mem hm2 <| E_aload_n (n := 36) 20 rfl rfl rfl 0 rfl <| E_gF (r := 140) (n := 39) 21 rfl rfl fg_12_50 sh_133 rfl <| E_iload (n := 41) 22 rfl rfl 5 rfl <| E_iconst (v := 2) (n := 42) 23 rfl rfl icz_2 <| E_iload (n := 44) 24 rfl rfl 5 rfl <| E_iconst (v := 2) (n := 45) 25 rfl rfl icz_2 <| E_icmp_ge (n := 48) (t := 52) 26 rfl rfl rfl (fun hc => ?_) (fun hc => ?_)
  · have h := ifp h hc
    refine E_iload (n := 54) 29 rfl rfl 4 rfl <| ?_
    obtain ⟨hc3, h⟩ := ift h
    obtain ⟨m4, hm4, h⟩ := letM_ex h
    refine E_imul (n := 55) 30 rfl rfl <| E_iast (n := 56) 31 rfl rfl sh_140 hc3 <| E_mem hm4 <| E_iinc (v := (x5 + 1)) (lv' := [(0, .ref 133), (1, .int x1), (2, .int x2), (3, .int x3), (4, .int x4), (5, .int (x5 + 1))]) (n := 59) 32 rfl rfl 5 rfl (by rw [icz_1]) (Nat.le_of_ble_eq_true rfl) [1, 2, 3, 4, 5, 0] rfl <| E_goto (t := 3) 33 rfl rfl <| ?_
    exact hr m4 (x5 + 1) h
  · have h := ifn h hc
    refine E_iload_n (n := 49) 27 rfl rfl rfl 2 rfl <| E_goto (t := 54) 28 rfl rfl <| ?_
    obtain ⟨hc5, h⟩ := ift h
    obtain ⟨m6, hm6, h⟩ := letM_ex h
    refine E_imul (n := 55) 30 rfl rfl <| E_iast (n := 56) 31 rfl rfl sh_140 hc5 <| E_mem hm6 <| E_iinc (v := (x5 + 1)) (lv' := [(0, .ref 133), (1, .int x1), (2, .int x2), (3, .int x3), (4, .int x4), (5, .int (x5 + 1))]) (n := 59) 32 rfl rfl 5 rfl (by rw [icz_1]) (Nat.le_of_ble_eq_true rfl) [1, 2, 3, 4, 5, 0] rfl <| E_goto (t := 3) 33 rfl rfl <| ?_
    exact hr m6 (x5 + 1) h
theorem RM_isBy_L3_ok (x1 : Int32) (x2 : Int32) (x3 : Int32) (x4 : Int32) (kx : Mem → Option (Int32 × Mem)) (R : Int32 × Mem) (hx : ∀ (m : Mem), kx m = some R → E M_RM_isBy 62 [(0, .ref 133)] [] m (qI R.1 R.2)) : ∀ (n : Nat) (m : Mem) (x5 : Int32), RM_isBy_L3 x1 x2 x3 x4 kx n m x5 = some R → E M_RM_isBy 3 [(0, .ref 133), (1, .int x1), (2, .int x2), (3, .int x3), (4, .int x4), (5, .int x5)] [] m (qI R.1 R.2) := by
  intro n
  induction n with
  | zero =>
    intro m x5 h
    exact absurd (show none = some R from h) (fun e => Option.some_ne_none R e.symm)
  | succ n ih =>
    intro m x5 h
    rw [RM_isBy_L3] at h
    refine E_iload (n := 5) 2 rfl rfl 5 rfl <| E_iconst (v := 4) (n := 6) 3 rfl rfl icz_4 <| E_icmp_ge (n := 9) (t := 62) 4 rfl rfl rfl (fun hc => ?_) (fun hc => ?_)
    · have h := ifp h hc
      refine E_sub (lv' := [(0, .ref 133)]) [0] rfl ?_
      exact hx m h
    · have h := ifn h hc
      refine E_aload_n (n := 10) 5 rfl rfl rfl 0 rfl <| E_gF (r := 139) (n := 13) 6 rfl rfl fg_12_47 sh_133 rfl <| E_iload (n := 15) 7 rfl rfl 5 rfl <| E_iconst (v := 2) (n := 16) 8 rfl rfl icz_2 <| E_iload (n := 18) 9 rfl rfl 5 rfl <| E_iconst (v := 1) (n := 19) 10 rfl rfl icz_1 <| E_icmp_eq (n := 22) (t := 28) 11 rfl rfl rfl (fun hc => ?_) (fun hc => ?_)
      · have h := ifp h hc
        refine E_iload_n (n := 29) 15 rfl rfl rfl 3 rfl <| E_goto (t := 33) 16 rfl rfl <| ?_
        exact RM_isBy_J33_ok _ _ m x1 x2 x3 x4 x5 x5 2 x3 _ ih hx h
      · have h := ifn h hc
        refine E_iload (n := 24) 12 rfl rfl 5 rfl <| E_iconst (v := 2) (n := 25) 13 rfl rfl icz_2 <| E_icmp_ne (n := 28) (t := 32) 14 rfl rfl rfl (fun hc => ?_) (fun hc => ?_)
        · have h := ifn h hc
          refine E_iload_n (n := 33) 17 rfl rfl rfl 1 rfl <| ?_
          exact RM_isBy_J33_ok _ _ m x1 x2 x3 x4 x5 x5 2 x1 _ ih hx h
        · have h := ifp h hc
          refine E_iload_n (n := 29) 15 rfl rfl rfl 3 rfl <| E_goto (t := 33) 16 rfl rfl <| ?_
          exact RM_isBy_J33_ok _ _ m x1 x2 x3 x4 x5 x5 2 x3 _ ih hx h
theorem K_RM_isBy (m : Mem) (x1 : Int32) (x2 : Int32) (x3 : Int32) (x4 : Int32) (R : Int32 × Mem) (h : RM_isBy m x1 x2 x3 x4 = some R) : Mt M_RM_isBy [.ref 133, .int x1, .int x2, .int x3, .int x4] m (qI R.1 R.2) := by
  refine Mt.of G_RM_isBy (Nat.le_of_ble_eq_true rfl) (E_sub (lv' := [(0, .ref 133), (1, .int x1), (2, .int x2), (3, .int x3), (4, .int x4)]) [0, 1, 2, 3, 4] rfl ?_)
  unfold RM_isBy at h
  refine E_iconst (v := 0) (n := 1) 0 rfl rfl icz_0 <| E_istore (lv' := [(0, .ref 133), (1, .int x1), (2, .int x2), (3, .int x3), (4, .int x4), (5, .int 0)]) (n := 3) 1 rfl rfl (Nat.le_of_ble_eq_true rfl) [1, 2, 3, 4, 5, 0] rfl <| ?_
  refine RM_isBy_L3_ok x1 x2 x3 x4 _ R ?_ FU m 0 h
  intro m1 h
  obtain ⟨m2, hq3, h⟩ := bM_ex h
  obtain ⟨v4, m5, hq6, h⟩ := bV_ex h
  obtain ⟨hc7, h⟩ := ift h
  refine E_aload_n (n := 63) 34 rfl rfl rfl 0 rfl <| E_cV0v (n := 66) 35 rfl rfl co_12_262 rfl sh_133 rfl (K_RM_closes m1 _ hq3) <| E_aload_n (n := 67) 36 rfl rfl rfl 0 rfl <| E_cV0r (n := 70) 37 rfl rfl co_12_398 rfl sh_133 rfl (K_RM_areSo m2 _ hq6) <| E_zreturn 38 rfl rfl hc7 (eS h)
theorem RM_rectangle_J83_ok (kr : Mem → Int32 → Int32 → Option (Int32 × Mem)) (kx : Mem → Int32 → Option (Int32 × Mem)) (m : Mem) (x1 : Int32) (x2 : Int32) (x3 : Int32) (x4 : Int32) (x5 : Int32) (x6 : Int32) (R : Int32 × Mem) (hr : ∀ (m : Mem) (x1 : Int32) (x5 : Int32), kr m x1 x5 = some R → E M_RM_rectangle 55 [(0, .ref 133), (1, .int x1), (2, .int x2), (3, .int x3), (4, .int x4), (5, .int x5)] [] m (qI R.1 R.2)) (hx : ∀ (m : Mem) (x1 : Int32), kx m x1 = some R → E M_RM_rectangle 143 [(0, .ref 133), (1, .int x1), (2, .int x2), (3, .int x3), (4, .int x4)] [] m (qI R.1 R.2)) (h : RM_rectangle_J83 kr kx m x1 x2 x3 x4 x5 x6 = some R) : E M_RM_rectangle 83 [(0, .ref 133), (1, .int x1), (2, .int x2), (3, .int x3), (4, .int x4), (5, .int x5), (6, .int x6)] [] m (qI R.1 R.2) := by
  unfold RM_rectangle_J83 at h
  obtain ⟨v1, m2, hq3, h⟩ := bV_ex h
  refine E_aload_n (n := 84) 50 rfl rfl rfl 0 rfl <| E_iload_n (n := 85) 51 rfl rfl rfl 2 rfl <| E_iload_n (n := 86) 52 rfl rfl rfl 3 rfl <| E_iload (n := 88) 53 rfl rfl 4 rfl <| E_iload (n := 90) 54 rfl rfl 5 rfl <| E_cV4r (n := 93) 55 rfl rfl co_12_410 rfl sh_133 rfl (K_RM_isBy m x2 x3 x4 x5 _ hq3) <| E_if_ne (n := 96) (t := 99) 56 rfl rfl rfl (fun hc => ?_) (fun hc => ?_)
  · have h := ifn h hc
    obtain ⟨hc4, h⟩ := ift h
    obtain ⟨m5, hm5, h⟩ := letM_ex h
    obtain ⟨hc6, h⟩ := ift h
    obtain ⟨m7, hm7, h⟩ := letM_ex h
    obtain ⟨hc8, h⟩ := ift h
    obtain ⟨m9, hm9, h⟩ := letM_ex h
    obtain ⟨hc10, h⟩ := ift h
    obtain ⟨m11, hm11, h⟩ := letM_ex h
    obtain ⟨m12, hm12, h⟩ := letM_ex h
    refine E_iload (n := 101) 58 rfl rfl 6 rfl <| E_istore_n (lv' := [(0, .ref 133), (1, .int x6), (2, .int x2), (3, .int x3), (4, .int x4), (5, .int x5), (6, .int x6)]) (n := 102) 59 rfl rfl rfl (Nat.le_of_ble_eq_true rfl) [1, 0, 2, 3, 4, 5, 6] rfl <| E_aload_n (n := 103) 60 rfl rfl rfl 0 rfl <| E_gF (r := 154) (n := 106) 61 rfl rfl fg_12_100 sh_133 rfl <| E_iconst (v := 0) (n := 107) 62 rfl rfl icz_0 <| E_iload_n (n := 108) 63 rfl rfl rfl 2 rfl <| E_iast (n := 109) 64 rfl rfl sh_154 hc4 <| E_mem hm5 <| E_aload_n (n := 110) 65 rfl rfl rfl 0 rfl <| E_gF (r := 154) (n := 113) 66 rfl rfl fg_12_100 sh_133 rfl <| E_iconst (v := 1) (n := 114) 67 rfl rfl icz_1 <| E_iload_n (n := 115) 68 rfl rfl rfl 3 rfl <| E_iast (n := 116) 69 rfl rfl sh_154 hc6 <| E_mem hm7 <| E_aload_n (n := 117) 70 rfl rfl rfl 0 rfl <| E_gF (r := 154) (n := 120) 71 rfl rfl fg_12_100 sh_133 rfl <| E_iconst (v := 2) (n := 121) 72 rfl rfl icz_2 <| E_iload (n := 123) 73 rfl rfl 4 rfl <| E_iast (n := 124) 74 rfl rfl sh_154 hc8 <| E_mem hm9 <| E_aload_n (n := 125) 75 rfl rfl rfl 0 rfl <| E_gF (r := 154) (n := 128) 76 rfl rfl fg_12_100 sh_133 rfl <| E_iconst (v := 3) (n := 129) 77 rfl rfl icz_3 <| E_iload (n := 131) 78 rfl rfl 5 rfl <| E_iast (n := 132) 79 rfl rfl sh_154 hc10 <| E_mem hm11 <| E_aload_n (n := 133) 80 rfl rfl rfl 0 rfl <| E_iconst (v := 1) (n := 134) 81 rfl rfl icz_1 <| E_pZ (n := 137) 82 rfl rfl fp_12_413 sh_133 z1 <| E_mem hm12 <| ?_
    refine E_iinc (v := (x5 + 1)) (lv' := [(0, .ref 133), (1, .int x6), (2, .int x2), (3, .int x3), (4, .int x4), (5, .int (x5 + 1)), (6, .int x6)]) (n := 140) 83 rfl rfl 5 rfl (by rw [icz_1]) (Nat.le_of_ble_eq_true rfl) [1, 2, 3, 4, 5, 0, 6] rfl <| E_goto (t := 55) 84 rfl rfl <| ?_
    refine E_sub (lv' := [(0, .ref 133), (1, .int x6), (2, .int x2), (3, .int x3), (4, .int x4), (5, .int (x5 + 1))]) [0, 1, 2, 3, 4, 5] rfl ?_
    exact hr m12 x6 (x5 + 1) h
  · have h := ifp h hc
    refine E_goto (t := 137) 57 rfl rfl <| ?_
    refine E_iinc (v := (x5 + 1)) (lv' := [(0, .ref 133), (1, .int x1), (2, .int x2), (3, .int x3), (4, .int x4), (5, .int (x5 + 1)), (6, .int x6)]) (n := 140) 83 rfl rfl 5 rfl (by rw [icz_1]) (Nat.le_of_ble_eq_true rfl) [1, 2, 3, 4, 5, 0, 6] rfl <| E_goto (t := 55) 84 rfl rfl <| ?_
    refine E_sub (lv' := [(0, .ref 133), (1, .int x1), (2, .int x2), (3, .int x3), (4, .int x4), (5, .int (x5 + 1))]) [0, 1, 2, 3, 4, 5] rfl ?_
    exact hr m2 x1 (x5 + 1) h
theorem RM_rectangle_L55_ok (x2 : Int32) (x3 : Int32) (x4 : Int32) (kx : Mem → Int32 → Option (Int32 × Mem)) (R : Int32 × Mem) (hx : ∀ (m : Mem) (x1 : Int32), kx m x1 = some R → E M_RM_rectangle 143 [(0, .ref 133), (1, .int x1), (2, .int x2), (3, .int x3), (4, .int x4)] [] m (qI R.1 R.2)) : ∀ (n : Nat) (m : Mem) (x1 : Int32) (x5 : Int32), RM_rectangle_L55 x2 x3 x4 kx n m x1 x5 = some R → E M_RM_rectangle 55 [(0, .ref 133), (1, .int x1), (2, .int x2), (3, .int x3), (4, .int x4), (5, .int x5)] [] m (qI R.1 R.2) := by
  intro n
  induction n with
  | zero =>
    intro m x1 x5 h
    exact absurd (show none = some R from h) (fun e => Option.some_ne_none R e.symm)
  | succ n ih =>
    intro m x1 x5 h
    rw [RM_rectangle_L55] at h
    refine E_iload (n := 57) 34 rfl rfl 5 rfl <| E_bipush (v := 20) (n := 59) 35 rfl rfl bpz_20 <| E_icmp_gt (n := 62) (t := 143) 36 rfl rfl rfl (fun hc => ?_) (fun hc => ?_)
    · have h := ifp h hc
      refine E_sub (lv' := [(0, .ref 133), (1, .int x1), (2, .int x2), (3, .int x3), (4, .int x4)]) [0, 1, 2, 3, 4] rfl ?_
      exact hx m x1 h
    · have h := ifn h hc
      obtain ⟨v1, hv1, h⟩ := letV_ex h
      refine E_iload (n := 64) 37 rfl rfl 4 rfl <| E_iload_n (n := 65) 38 rfl rfl rfl 2 rfl <| E_isub (n := 66) 39 rfl rfl <| E_iload (n := 68) 40 rfl rfl 5 rfl <| E_iadd (n := 69) 41 rfl rfl <| E_iload_n (n := 70) 42 rfl rfl rfl 3 rfl <| E_isub (n := 71) 43 rfl rfl <| E_top hv1 <| E_istore (lv' := [(0, .ref 133), (1, .int x1), (2, .int x2), (3, .int x3), (4, .int x4), (5, .int x5), (6, .int v1)]) (n := 73) 44 rfl rfl (Nat.le_of_ble_eq_true rfl) [1, 2, 3, 4, 5, 6, 0] rfl <| E_iload_n (n := 74) 45 rfl rfl rfl 1 rfl <| E_if_lt (n := 77) (t := 83) 46 rfl rfl rfl (fun hc => ?_) (fun hc => ?_)
      · have h := ifp h hc
        exact RM_rectangle_J83_ok _ _ m x1 x2 x3 x4 x5 v1 _ ih hx h
      · have h := ifn h hc
        refine E_iload (n := 79) 47 rfl rfl 6 rfl <| E_iload_n (n := 80) 48 rfl rfl rfl 1 rfl <| E_icmp_ge (n := 83) (t := 137) 49 rfl rfl rfl (fun hc => ?_) (fun hc => ?_)
        · have h := ifp h hc
          refine E_iinc (v := (x5 + 1)) (lv' := [(0, .ref 133), (1, .int x1), (2, .int x2), (3, .int x3), (4, .int x4), (5, .int (x5 + 1)), (6, .int v1)]) (n := 140) 83 rfl rfl 5 rfl (by rw [icz_1]) (Nat.le_of_ble_eq_true rfl) [1, 2, 3, 4, 5, 0, 6] rfl <| E_goto (t := 55) 84 rfl rfl <| ?_
          refine E_sub (lv' := [(0, .ref 133), (1, .int x1), (2, .int x2), (3, .int x3), (4, .int x4), (5, .int (x5 + 1))]) [0, 1, 2, 3, 4, 5] rfl ?_
          exact ih m x1 (x5 + 1) h
        · have h := ifn h hc
          exact RM_rectangle_J83_ok _ _ m x1 x2 x3 x4 x5 v1 _ ih hx h
theorem RM_rectangle_L43_ok (x2 : Int32) (x3 : Int32) (kx : Mem → Int32 → Option (Int32 × Mem)) (R : Int32 × Mem) (hx : ∀ (m : Mem) (x1 : Int32), kx m x1 = some R → E M_RM_rectangle 149 [(0, .ref 133), (1, .int x1), (2, .int x2), (3, .int x3)] [] m (qI R.1 R.2)) : ∀ (n : Nat) (m : Mem) (x1 : Int32) (x4 : Int32), RM_rectangle_L43 x2 x3 kx n m x1 x4 = some R → E M_RM_rectangle 43 [(0, .ref 133), (1, .int x1), (2, .int x2), (3, .int x3), (4, .int x4)] [] m (qI R.1 R.2) := by
  intro n
  induction n with
  | zero =>
    intro m x1 x4 h
    exact absurd (show none = some R from h) (fun e => Option.some_ne_none R e.symm)
  | succ n ih =>
    intro m x1 x4 h
    rw [RM_rectangle_L43] at h
    refine E_iload (n := 45) 27 rfl rfl 4 rfl <| E_bipush (v := 20) (n := 47) 28 rfl rfl bpz_20 <| E_icmp_gt (n := 50) (t := 149) 29 rfl rfl rfl (fun hc => ?_) (fun hc => ?_)
    · have h := ifp h hc
      refine E_sub (lv' := [(0, .ref 133), (1, .int x1), (2, .int x2), (3, .int x3)]) [0, 1, 2, 3] rfl ?_
      exact hx m x1 h
    · have h := ifn h hc
      obtain ⟨v1, hv1, h⟩ := letV_ex h
      refine E_iload_n (n := 51) 30 rfl rfl rfl 3 rfl <| E_iconst (v := 1) (n := 52) 31 rfl rfl icz_1 <| E_iadd (n := 53) 32 rfl rfl <| E_top hv1 <| E_istore (lv' := [(0, .ref 133), (1, .int x1), (2, .int x2), (3, .int x3), (4, .int x4), (5, .int v1)]) (n := 55) 33 rfl rfl (Nat.le_of_ble_eq_true rfl) [1, 2, 3, 4, 5, 0] rfl <| ?_
      refine RM_rectangle_L55_ok x2 x3 x4 _ R ?_ FU m x1 v1 h
      intro m3 y2 h
      refine E_iinc (v := (x4 + 1)) (lv' := [(0, .ref 133), (1, .int y2), (2, .int x2), (3, .int x3), (4, .int (x4 + 1))]) (n := 146) 85 rfl rfl 4 rfl (by rw [icz_1]) (Nat.le_of_ble_eq_true rfl) [1, 2, 3, 4, 0] rfl <| E_goto (t := 43) 86 rfl rfl <| ?_
      exact ih m3 y2 (x4 + 1) h

theorem AC_keep_L52_ok (x1 : Nat) (x2 : Int32) (h_x1 : shp x1 = (5, 0)) (kx : Mem → Option Mem) (R : Mem) (hx : ∀ (m : Mem), kx m = some R → E M_AC_keep 118 [(0, .ref 3)] [] m (qV R)) : ∀ (n : Nat) (m : Mem) (x3 : Int32), AC_keep_L52 x1 x2 kx n m x3 = some R → E M_AC_keep 52 [(0, .ref 3), (1, .ref x1), (2, .int x2), (3, .int x3)] [] m (qV R) := by
  intro n
  induction n with
  | zero =>
    intro m x3 h
    exact absurd (show none = some R from h) (fun e => Option.some_ne_none R e.symm)
  | succ n ih =>
    intro m x3 h
    rw [AC_keep_L52] at h
    refine E_iload_n (n := 53) 28 rfl rfl rfl 3 rfl <| E_iconst (v := 3) (n := 54) 29 rfl rfl icz_3 <| E_icmp_ge (n := 57) (t := 118) 30 rfl rfl rfl (fun hc => ?_) (fun hc => ?_)
    · have h := ifp h hc
      refine E_sub (lv' := [(0, .ref 3)]) [0] rfl ?_
      exact hx m h
    · have h := ifn h hc
      obtain ⟨v1, hv1, h⟩ := letV_ex h
      obtain ⟨hc2, h⟩ := ift h
      obtain ⟨hc3, h⟩ := ift h
      obtain ⟨m4, hm4, h⟩ := letM_ex h
      obtain ⟨hc5, h⟩ := ift h
      obtain ⟨m6, hm6, h⟩ := letM_ex h
      refine E_iload_n (n := 58) 31 rfl rfl rfl 2 rfl <| E_iconst (v := 1) (n := 59) 32 rfl rfl icz_1 <| E_iadd (n := 60) 33 rfl rfl <| E_iload_n (n := 61) 34 rfl rfl rfl 3 rfl <| E_bipush (v := 24) (n := 63) 35 rfl rfl bpz_24 <| E_imul (n := 64) 36 rfl rfl <| E_iadd (n := 65) 37 rfl rfl <| E_top hv1 <| E_istore (lv' := [(0, .ref 3), (1, .ref x1), (2, .int x2), (3, .int x3), (4, .int v1)]) (n := 67) 38 rfl rfl (Nat.le_of_ble_eq_true rfl) [1, 2, 3, 4, 0] rfl <| E_aload_n (n := 68) 39 rfl rfl rfl 1 rfl <| E_gF (r := (x1 + 1)) (n := 71) 40 rfl rfl fg_0_30 h_x1 rfl <| E_iload_n (n := 72) 41 rfl rfl rfl 3 rfl <| E_aL (r := (x1 + 2 + 3 * ixn x3)) (n := 73) 42 rfl rfl (shc_5_0 h_x1) hc2 rfl <| E_gF (r := ((x1 + 2 + 3 * ixn x3) + 1)) (n := 76) 43 rfl rfl fg_0_34 (shln h_x1 hc2) rfl <| E_iconst (v := 0) (n := 77) 44 rfl rfl icz_0 <| E_aload_n (n := 78) 45 rfl rfl rfl 0 rfl <| E_gF (r := 4) (n := 81) 46 rfl rfl fg_0_11 sh_3 rfl <| E_iload (n := 83) 47 rfl rfl 4 rfl <| E_bipush (v := 12) (n := 85) 48 rfl rfl bpz_12 <| E_copyI (n := 88) 49 rfl rfl tw_1156 tw_1158 tw_1157 tw_135 ⟨Nat.le_of_ble_eq_true rfl, Nat.le_of_ble_eq_true rfl⟩ (shc_2_2 (shln h_x1 hc2)) sh_4 hc3 <| E_mem hm4 <| E_aload_n (n := 89) 50 rfl rfl rfl 1 rfl <| E_gF (r := (x1 + 1)) (n := 92) 51 rfl rfl fg_0_30 h_x1 rfl <| E_iload_n (n := 93) 52 rfl rfl rfl 3 rfl <| E_aL (r := (x1 + 2 + 3 * ixn x3)) (n := 94) 53 rfl rfl (shc_5_0 h_x1) hc2 rfl <| E_gF (r := ((x1 + 2 + 3 * ixn x3) + 2)) (n := 97) 54 rfl rfl fg_0_39 (shln h_x1 hc2) rfl <| E_iconst (v := 0) (n := 98) 55 rfl rfl icz_0 <| E_aload_n (n := 99) 56 rfl rfl rfl 0 rfl <| E_gF (r := 4) (n := 102) 57 rfl rfl fg_0_11 sh_3 rfl <| E_iload (n := 104) 58 rfl rfl 4 rfl <| E_bipush (v := 12) (n := 106) 59 rfl rfl bpz_12 <| E_iadd (n := 107) 60 rfl rfl <| E_bipush (v := 12) (n := 109) 61 rfl rfl bpz_12 <| E_copyI (n := 112) 62 rfl rfl tw_1156 tw_1158 tw_1157 tw_135 ⟨Nat.le_of_ble_eq_true rfl, Nat.le_of_ble_eq_true rfl⟩ (shc_2_3 (shln h_x1 hc2)) sh_4 hc5 <| E_mem hm6 <| E_iinc (v := (x3 + 1)) (lv' := [(0, .ref 3), (1, .ref x1), (2, .int x2), (3, .int (x3 + 1)), (4, .int v1)]) (n := 115) 63 rfl rfl 3 rfl (by rw [icz_1]) (Nat.le_of_ble_eq_true rfl) [1, 2, 3, 0, 4] rfl <| E_goto (t := 52) 64 rfl rfl <| ?_
      refine E_sub (lv' := [(0, .ref 3), (1, .ref x1), (2, .int x2), (3, .int (x3 + 1))]) [0, 1, 2, 3] rfl ?_
      exact ih m6 (x3 + 1) h
theorem AC_keep_J32_ok (m : Mem) (x1 : Nat) (h_x1 : shp x1 = (5, 0)) (R : Mem) (h : AC_keep_J32 m x1 = some R) : E M_AC_keep 32 [(0, .ref 3), (1, .ref x1)] [] m (qV R) := by
  unfold AC_keep_J32 at h
  obtain ⟨v1, hv1, h⟩ := letV_ex h
  obtain ⟨hc2, h⟩ := ift h
  obtain ⟨m3, hm3, h⟩ := letM_ex h
  refine E_aload_n (n := 33) 15 rfl rfl rfl 0 rfl <| E_gI (n := 36) 16 rfl rfl fg_0_15 sh_3 <| E_bipush (v := 73) (n := 38) 17 rfl rfl bpz_73 <| E_imul (n := 39) 18 rfl rfl <| E_top hv1 <| E_istore_n (lv' := [(0, .ref 3), (1, .ref x1), (2, .int v1)]) (n := 40) 19 rfl rfl rfl (Nat.le_of_ble_eq_true rfl) [1, 2, 0] rfl <| E_aload_n (n := 41) 20 rfl rfl rfl 0 rfl <| E_gF (r := 4) (n := 44) 21 rfl rfl fg_0_11 sh_3 rfl <| E_iload_n (n := 45) 22 rfl rfl rfl 2 rfl <| E_aload_n (n := 46) 23 rfl rfl rfl 1 rfl <| E_gI (n := 49) 24 rfl rfl fg_0_25 h_x1 <| E_iast (n := 50) 25 rfl rfl sh_4 hc2 <| E_mem hm3 <| E_iconst (v := 0) (n := 51) 26 rfl rfl icz_0 <| E_istore_n (lv' := [(0, .ref 3), (1, .ref x1), (2, .int v1), (3, .int 0)]) (n := 52) 27 rfl rfl rfl (Nat.le_of_ble_eq_true rfl) [1, 2, 3, 0] rfl <| ?_
  refine AC_keep_L52_ok x1 v1 h_x1 _ R ?_ FU m3 0 h
  intro m4 h
  obtain ⟨m5, hm5, h⟩ := letM_ex h
  refine E_aload_n (n := 119) 65 rfl rfl rfl 0 rfl <| E_dup (n := 120) 66 rfl rfl rfl <| E_gI (n := 123) 67 rfl rfl fg_0_15 sh_3 <| E_iconst (v := 1) (n := 124) 68 rfl rfl icz_1 <| E_iadd (n := 125) 69 rfl rfl <| E_pI (n := 128) 70 rfl rfl fp_0_15 sh_3 <| E_mem hm5 <| E_return 71 rfl rfl (eV h)
theorem K_AC_keep (m : Mem) (x1 : Nat) (h_x1 : shp x1 = (5, 0)) (R : Mem) (h : AC_keep m x1 = some R) : Mt M_AC_keep [.ref 3, .ref x1] m (qV R) := by
  refine Mt.of G_AC_keep (Nat.le_of_ble_eq_true rfl) (E_sub (lv' := [(0, .ref 3), (1, .ref x1)]) [0, 1] rfl ?_)
  unfold AC_keep at h
  refine E_aload_n (n := 1) 0 rfl rfl rfl 0 rfl <| E_gI (n := 4) 1 rfl rfl fg_0_15 sh_3 <| E_bipush (v := 8) (n := 6) 2 rfl rfl bpz_8 <| E_icmp_lt (n := 9) (t := 32) 3 rfl rfl rfl (fun hc => ?_) (fun hc => ?_)
  · have h := ifp h hc
    exact AC_keep_J32_ok m x1 h_x1 _ h
  · have h := ifn h hc
    obtain ⟨m1, hm1, h⟩ := letM_ex h
    obtain ⟨m2, hm2, h⟩ := letM_ex h
    refine E_aload_n (n := 10) 4 rfl rfl rfl 0 rfl <| E_gF (r := 4) (n := 13) 5 rfl rfl fg_0_11 sh_3 rfl <| E_bipush (v := 73) (n := 15) 6 rfl rfl bpz_73 <| E_aload_n (n := 16) 7 rfl rfl rfl 0 rfl <| E_gF (r := 4) (n := 19) 8 rfl rfl fg_0_11 sh_3 rfl <| E_iconst (v := 0) (n := 20) 9 rfl rfl icz_0 <| E_sipush (v := 511) (n := 23) 10 rfl rfl spz_511 <| E_copyI (n := 26) 11 rfl rfl tw_1156 tw_1158 tw_1157 tw_135 ⟨Nat.le_of_ble_eq_true rfl, Nat.le_of_ble_eq_true rfl⟩ sh_4 sh_4 (by decide) <| E_mem hm1 <| E_aload_n (n := 27) 12 rfl rfl rfl 0 rfl <| E_bipush (v := 7) (n := 29) 13 rfl rfl bpz_7 <| E_pI (n := 32) 14 rfl rfl fp_0_15 sh_3 <| E_mem hm2 <| ?_
    exact AC_keep_J32_ok m2 x1 h_x1 _ h
theorem K_PH_put (m : Mem) (x0 : Nat) (x1 : Int32) (x2 : Int32) (x3 : Int32) (x4 : Int32) (h_x0 : shp x0 = (5, 0)) (R : Mem) (h : PH_put m x0 x1 x2 x3 x4 = some R) : Mt M_PH_put [.ref x0, .int x1, .int x2, .int x3, .int x4] m (qV R) := by
  refine Mt.of G_PH_put (Nat.le_of_ble_eq_true rfl) (E_sub (lv' := [(0, .ref x0), (1, .int x1), (2, .int x2), (3, .int x3), (4, .int x4)]) [0, 1, 2, 3, 4] rfl ?_)
  unfold PH_put at h
  obtain ⟨hc1, h⟩ := ift h
  obtain ⟨hc2, h⟩ := ift h
  obtain ⟨m3, hm3, h⟩ := letM_ex h
  obtain ⟨m4, hm4, h⟩ := letM_ex h
  obtain ⟨m5, hm5, h⟩ := letM_ex h
  refine E_aload_n (n := 1) 0 rfl rfl rfl 0 rfl <| E_gF (r := (x0 + 1)) (n := 4) 1 rfl rfl fg_5_12 h_x0 rfl <| E_iload_n (n := 5) 2 rfl rfl rfl 1 rfl <| E_aL (r := (x0 + 2 + 3 * ixn x1)) (n := 6) 3 rfl rfl (shc_5_0 h_x0) hc1 rfl <| E_gF (r := ((x0 + 2 + 3 * ixn x1) + 1)) (n := 9) 4 rfl rfl fg_5_72 (shln h_x0 hc1) rfl <| E_iload_n (n := 10) 5 rfl rfl rfl 2 rfl <| E_iload_n (n := 11) 6 rfl rfl rfl 3 rfl <| E_iast (n := 12) 7 rfl rfl (shc_2_2 (shln h_x0 hc1)) hc2 <| E_mem hm3 <| E_aload_n (n := 13) 8 rfl rfl rfl 0 rfl <| E_gF (r := (x0 + 1)) (n := 16) 9 rfl rfl fg_5_12 h_x0 rfl <| E_iload_n (n := 17) 10 rfl rfl rfl 1 rfl <| E_aL (r := (x0 + 2 + 3 * ixn x1)) (n := 18) 11 rfl rfl (shc_5_0 h_x0) hc1 rfl <| E_gF (r := ((x0 + 2 + 3 * ixn x1) + 2)) (n := 21) 12 rfl rfl fg_5_75 (shln h_x0 hc1) rfl <| E_iload_n (n := 22) 13 rfl rfl rfl 2 rfl <| E_iload (n := 24) 14 rfl rfl 4 rfl <| E_iast (n := 25) 15 rfl rfl (shc_2_3 (shln h_x0 hc1)) hc2 <| E_mem hm4 <| E_aload_n (n := 26) 16 rfl rfl rfl 0 rfl <| E_dup (n := 27) 17 rfl rfl rfl <| E_gI (n := 30) 18 rfl rfl fg_5_78 h_x0 <| E_iconst (v := 1) (n := 31) 19 rfl rfl icz_1 <| E_iadd (n := 32) 20 rfl rfl <| E_pI (n := 35) 21 rfl rfl fp_5_78 h_x0 <| E_mem hm5 <| E_return 22 rfl rfl (eV h)
theorem K_OH_move (m : Mem) (x1 : Int32) (x2 : Int32) (x3 : Int32) (x4 : Int32) (R : Int32 × Mem) (h : OH_move m x1 x2 x3 x4 = some R) : Mt M_OH_move [.ref 0, .int x1, .int x2, .int x3, .int x4] m (qI R.1 R.2) := by
  refine Mt.of G_OH_move (Nat.le_of_ble_eq_true rfl) (E_sub (lv' := [(0, .ref 0), (1, .int x1), (2, .int x2), (3, .int x3), (4, .int x4)]) [0, 1, 2, 3, 4] rfl ?_)
  unfold OH_move at h
  obtain ⟨v1, hq2, h⟩ := bI_ex h
  refine E_aload_n (n := 1) 0 rfl rfl rfl 0 rfl <| E_iload_n (n := 2) 1 rfl rfl rfl 1 rfl <| E_iload_n (n := 3) 2 rfl rfl rfl 2 rfl <| E_iload_n (n := 4) 3 rfl rfl rfl 3 rfl <| E_iload (n := 6) 4 rfl rfl 4 rfl <| E_cV4r (n := 9) 5 rfl rfl co_11_280 rfl sh_0 rfl (K_OH_canMove m x1 x2 x3 x4 _ hq2) <| E_if_ne (n := 12) (t := 14) 6 rfl rfl rfl (fun hc => ?_) (fun hc => ?_)
  · have h := ifn h hc
    obtain ⟨m4, hq5, h⟩ := bM_ex h
    obtain ⟨m7, hq8, h⟩ := bM_ex h
    refine E_aload_n (n := 15) 9 rfl rfl rfl 0 rfl <| E_gF (r := 3) (n := 18) 10 rfl rfl fg_11_19 sh_0 rfl <| E_aload_n (n := 19) 11 rfl rfl rfl 0 rfl <| E_gN (n := 22) 12 rfl rfl fg_11_92 sh_0 (Or.inl rfl) fun hN3 => E_cV1v (n := 25) 13 rfl rfl co_11_284 rfl sh_3 rfl (K_AC_keep m (gN m 13) hN3 _ hq5) <| E_aload_n (n := 26) 14 rfl rfl rfl 0 rfl <| E_gN (n := 29) 15 rfl rfl fg_11_92 sh_0 (Or.inl rfl) fun hN6 => E_iload_n (n := 30) 16 rfl rfl rfl 1 rfl <| E_iload_n (n := 31) 17 rfl rfl rfl 2 rfl <| E_iload_n (n := 32) 18 rfl rfl rfl 3 rfl <| E_iload (n := 34) 19 rfl rfl 4 rfl <| E_cV4v (n := 37) 20 rfl rfl co_11_288 rfl hN6 rfl (K_PH_put m4 (gN m4 13) x1 x2 x3 x4 hN6 _ hq8) <| E_iconst (v := 1) (n := 38) 21 rfl rfl icz_1 <| E_zreturn 22 rfl rfl z1 (eS h)
  · have h := ifp h hc
    refine E_iconst (v := 0) (n := 13) 7 rfl rfl icz_0 <| E_zreturn 8 rfl rfl z0 (eS h)
theorem LN_staysBy_L28_ok (m : Mem) (x0 : Nat) (x1 : Int32) (x2 : Int32) (h_x0 : shp x0 = (2, 0)) (kx : Option Int32) (R : Int32) (hx : kx = some R → E M_LN_staysBy 66 [] [] m (qI R m)) : ∀ (n : Nat) (x3 : Int32), LN_staysBy_L28 m x0 x1 x2 kx n x3 = some R → E M_LN_staysBy 28 [(0, .ref x0), (1, .int x1), (2, .int x2), (3, .int x3)] [] m (qI R m) := by
  intro n
  induction n with
  | zero =>
    intro x3 h
    exact absurd (show none = some R from h) (fun e => Option.some_ne_none R e.symm)
  | succ n ih =>
    intro x3 h
    rw [LN_staysBy_L28] at h
    refine E_iload_n (n := 29) 16 rfl rfl rfl 3 rfl <| E_aload_n (n := 30) 17 rfl rfl rfl 0 rfl <| E_gI (n := 33) 18 rfl rfl fg_2_22 h_x0 <| E_icmp_ge (n := 36) (t := 66) 19 rfl rfl rfl (fun hc => ?_) (fun hc => ?_)
    · have h := ifp h hc
      refine E_sub (lv' := []) [] rfl ?_
      exact hx h
    · have h := ifn h hc
      obtain ⟨hc1, h⟩ := ift h
      refine E_aload_n (n := 37) 20 rfl rfl rfl 0 rfl <| E_gF (r := (x0 + 1)) (n := 40) 21 rfl rfl fg_2_9 h_x0 rfl <| E_iload_n (n := 41) 22 rfl rfl rfl 3 rfl <| E_iald (n := 42) 23 rfl rfl (shc_2_2 h_x0) hc1 <| E_iload_n (n := 43) 24 rfl rfl rfl 1 rfl <| E_iadd (n := 44) 25 rfl rfl <| E_aload_n (n := 45) 26 rfl rfl rfl 0 rfl <| E_gF (r := (x0 + 2)) (n := 48) 27 rfl rfl fg_2_15 h_x0 rfl <| E_iload_n (n := 49) 28 rfl rfl rfl 3 rfl <| E_iald (n := 50) 29 rfl rfl (shc_2_3 h_x0) hc1 <| E_iload_n (n := 51) 30 rfl rfl rfl 2 rfl <| E_iadd (n := 52) 31 rfl rfl <| E_dN2r (n := 55) 32 rfl rfl co_2_43 rfl rfl (K_OH_isPoint m ((gI m (x0 + 1) (ixn x3)) + x1) ((gI m (x0 + 2) (ixn x3)) + x2) _ rfl) <| E_if_ne (n := 58) (t := 60) 33 rfl rfl rfl (fun hc => ?_) (fun hc => ?_)
      · have h := ifn h hc
        refine E_iinc (v := (x3 + 1)) (lv' := [(0, .ref x0), (1, .int x1), (2, .int x2), (3, .int (x3 + 1))]) (n := 63) 36 rfl rfl 3 rfl (by rw [icz_1]) (Nat.le_of_ble_eq_true rfl) [1, 2, 3, 0] rfl <| E_goto (t := 28) 37 rfl rfl <| ?_
        exact ih (x3 + 1) h
      · have h := ifp h hc
        refine E_iconst (v := 0) (n := 59) 34 rfl rfl icz_0 <| E_zreturn 35 rfl rfl z0 (eP h)
theorem K_LN_staysBy (m : Mem) (x0 : Nat) (x1 : Int32) (x2 : Int32) (h_x0 : shp x0 = (2, 0)) (R : Int32) (h : LN_staysBy m x0 x1 x2 = some R) : Mt M_LN_staysBy [.ref x0, .int x1, .int x2] m (qI R m) := by
  refine Mt.of G_LN_staysBy (Nat.le_of_ble_eq_true rfl) (E_sub (lv' := [(0, .ref x0), (1, .int x1), (2, .int x2)]) [0, 1, 2] rfl ?_)
  unfold LN_staysBy at h
  refine E_iload_n (n := 1) 0 rfl rfl rfl 1 rfl <| E_bipush (v := (-20)) (n := 3) 1 rfl rfl bpz_m20 <| E_icmp_lt (n := 6) (t := 24) 2 rfl rfl rfl (fun hc => ?_) (fun hc => ?_)
  · have h := ifp h hc
    refine E_iconst (v := 0) (n := 25) 12 rfl rfl icz_0 <| E_zreturn 13 rfl rfl z0 (eP h)
  · have h := ifn h hc
    refine E_iload_n (n := 7) 3 rfl rfl rfl 1 rfl <| E_bipush (v := 20) (n := 9) 4 rfl rfl bpz_20 <| E_icmp_gt (n := 12) (t := 24) 5 rfl rfl rfl (fun hc => ?_) (fun hc => ?_)
    · have h := ifp h hc
      refine E_iconst (v := 0) (n := 25) 12 rfl rfl icz_0 <| E_zreturn 13 rfl rfl z0 (eP h)
    · have h := ifn h hc
      refine E_iload_n (n := 13) 6 rfl rfl rfl 2 rfl <| E_bipush (v := (-20)) (n := 15) 7 rfl rfl bpz_m20 <| E_icmp_lt (n := 18) (t := 24) 8 rfl rfl rfl (fun hc => ?_) (fun hc => ?_)
      · have h := ifp h hc
        refine E_iconst (v := 0) (n := 25) 12 rfl rfl icz_0 <| E_zreturn 13 rfl rfl z0 (eP h)
      · have h := ifn h hc
        refine E_iload_n (n := 19) 9 rfl rfl rfl 2 rfl <| E_bipush (v := 20) (n := 21) 10 rfl rfl bpz_20 <| E_icmp_le (n := 24) (t := 26) 11 rfl rfl rfl (fun hc => ?_) (fun hc => ?_)
        · have h := ifp h hc
          refine E_iconst (v := 0) (n := 27) 14 rfl rfl icz_0 <| E_istore_n (lv' := [(0, .ref x0), (1, .int x1), (2, .int x2), (3, .int 0)]) (n := 28) 15 rfl rfl rfl (Nat.le_of_ble_eq_true rfl) [1, 2, 3, 0] rfl <| ?_
          refine LN_staysBy_L28_ok m x0 x1 x2 h_x0 _ R ?_ FU 0 h
          intro h
          refine E_iconst (v := 1) (n := 67) 38 rfl rfl icz_1 <| E_zreturn 39 rfl rfl z1 (eP h)
        · have h := ifn h hc
          refine E_iconst (v := 0) (n := 25) 12 rfl rfl icz_0 <| E_zreturn 13 rfl rfl z0 (eP h)
theorem OH_shift_L63_ok (x1 : Int32) (x2 : Int32) (x3 : Int32) (x4 : Nat) (h_x4 : shp x4 = (2, 0)) (kx : Mem → Option (Int32 × Mem)) (R : Int32 × Mem) (hx : ∀ (m : Mem), kx m = some R → E M_OH_shift 109 [] [] m (qI R.1 R.2)) : ∀ (n : Nat) (m : Mem) (x5 : Int32), OH_shift_L63 x1 x2 x3 x4 kx n m x5 = some R → E M_OH_shift 63 [(0, .ref 0), (1, .int x1), (2, .int x2), (3, .int x3), (4, .ref x4), (5, .int x5)] [] m (qI R.1 R.2) := by
  intro n
  induction n with
  | zero =>
    intro m x5 h
    exact absurd (show none = some R from h) (fun e => Option.some_ne_none R e.symm)
  | succ n ih =>
    intro m x5 h
    rw [OH_shift_L63] at h
    refine E_iload (n := 65) 33 rfl rfl 5 rfl <| E_aload (n := 67) 34 rfl rfl 4 rfl <| E_gI (n := 70) 35 rfl rfl fg_11_176 h_x4 <| E_icmp_ge (n := 73) (t := 109) 36 rfl rfl rfl (fun hc => ?_) (fun hc => ?_)
    · have h := ifp h hc
      refine E_sub (lv' := []) [] rfl ?_
      exact hx m h
    · have h := ifn h hc
      obtain ⟨hc2, h⟩ := ift h
      obtain ⟨m3, hq4, h⟩ := bM_ex h
      refine E_aload_n (n := 74) 37 rfl rfl rfl 0 rfl <| E_gN (n := 77) 38 rfl rfl fg_11_92 sh_0 (Or.inl rfl) fun hN1 => E_iload_n (n := 78) 39 rfl rfl rfl 1 rfl <| E_iload (n := 80) 40 rfl rfl 5 rfl <| E_aload (n := 82) 41 rfl rfl 4 rfl <| E_gF (r := (x4 + 1)) (n := 85) 42 rfl rfl fg_11_142 h_x4 rfl <| E_iload (n := 87) 43 rfl rfl 5 rfl <| E_iald (n := 88) 44 rfl rfl (shc_2_2 h_x4) hc2 <| E_iload_n (n := 89) 45 rfl rfl rfl 2 rfl <| E_iadd (n := 90) 46 rfl rfl <| E_aload (n := 92) 47 rfl rfl 4 rfl <| E_gF (r := (x4 + 2)) (n := 95) 48 rfl rfl fg_11_145 h_x4 rfl <| E_iload (n := 97) 49 rfl rfl 5 rfl <| E_iald (n := 98) 50 rfl rfl (shc_2_3 h_x4) hc2 <| E_iload_n (n := 99) 51 rfl rfl rfl 3 rfl <| E_iadd (n := 100) 52 rfl rfl <| E_cV4v (n := 103) 53 rfl rfl co_11_288 rfl hN1 rfl (K_PH_put m (gN m 13) x1 x5 ((gI m (x4 + 1) (ixn x5)) + x2) ((gI m (x4 + 2) (ixn x5)) + x3) hN1 _ hq4) <| E_iinc (v := (x5 + 1)) (lv' := [(0, .ref 0), (1, .int x1), (2, .int x2), (3, .int x3), (4, .ref x4), (5, .int (x5 + 1))]) (n := 106) 54 rfl rfl 5 rfl (by rw [icz_1]) (Nat.le_of_ble_eq_true rfl) [1, 2, 3, 4, 5, 0] rfl <| E_goto (t := 63) 55 rfl rfl <| ?_
      exact ih m3 (x5 + 1) h
theorem OH_shift_J19_ok (m : Mem) (x1 : Int32) (x2 : Int32) (x3 : Int32) (R : Int32 × Mem) (h : OH_shift_J19 m x1 x2 x3 = some R) : E M_OH_shift 19 [(0, .ref 0), (1, .int x1), (2, .int x2), (3, .int x3)] [] m (qI R.1 R.2) := by
  unfold OH_shift_J19 at h
  obtain ⟨hc2, h⟩ := ift h
  obtain ⟨v3, hq4, h⟩ := bI_ex h
  refine E_aload_n (n := 20) 9 rfl rfl rfl 0 rfl <| E_gN (n := 23) 10 rfl rfl fg_11_92 sh_0 (Or.inl rfl) fun hN1 => E_gF (r := ((gN m 13) + 1)) (n := 26) 11 rfl rfl fg_11_138 hN1 rfl <| E_iload_n (n := 27) 12 rfl rfl rfl 1 rfl <| E_aL (r := ((gN m 13) + 2 + 3 * ixn x1)) (n := 28) 13 rfl rfl (shc_5_0 hN1) hc2 rfl <| E_iload_n (n := 29) 14 rfl rfl rfl 2 rfl <| E_iload_n (n := 30) 15 rfl rfl rfl 3 rfl <| E_cV2r (n := 33) 16 rfl rfl co_11_291 rfl (shln hN1 hc2) rfl (K_LN_staysBy m ((gN m 13) + 2 + 3 * ixn x1) x2 x3 (shln hN1 hc2) _ hq4) <| E_if_ne (n := 36) (t := 38) 17 rfl rfl rfl (fun hc => ?_) (fun hc => ?_)
  · have h := ifn h hc
    obtain ⟨m6, hq7, h⟩ := bM_ex h
    refine E_aload_n (n := 39) 20 rfl rfl rfl 0 rfl <| E_gF (r := 3) (n := 42) 21 rfl rfl fg_11_19 sh_0 rfl <| E_aload_n (n := 43) 22 rfl rfl rfl 0 rfl <| E_gN (n := 46) 23 rfl rfl fg_11_92 sh_0 (Or.inl rfl) fun hN5 => E_cV1v (n := 49) 24 rfl rfl co_11_284 rfl sh_3 rfl (K_AC_keep m (gN m 13) hN5 _ hq7) <| E_aload_n (n := 50) 25 rfl rfl rfl 0 rfl <| E_gN (n := 53) 26 rfl rfl fg_11_92 sh_0 (Or.inl rfl) fun hN8 => E_gF (r := ((gN m6 13) + 1)) (n := 56) 27 rfl rfl fg_11_138 hN8 rfl <| E_iload_n (n := 57) 28 rfl rfl rfl 1 rfl <| E_aL (r := ((gN m6 13) + 2 + 3 * ixn x1)) (n := 58) 29 rfl rfl (shc_5_0 hN8) hc2 rfl <| E_astore (lv' := [(0, .ref 0), (1, .int x1), (2, .int x2), (3, .int x3), (4, .ref ((gN m6 13) + 2 + 3 * ixn x1))]) (n := 60) 30 rfl rfl (Nat.le_of_ble_eq_true rfl) [1, 2, 3, 4, 0] rfl <| E_iconst (v := 0) (n := 61) 31 rfl rfl icz_0 <| E_istore (lv' := [(0, .ref 0), (1, .int x1), (2, .int x2), (3, .int x3), (4, .ref ((gN m6 13) + 2 + 3 * ixn x1)), (5, .int 0)]) (n := 63) 32 rfl rfl (Nat.le_of_ble_eq_true rfl) [1, 2, 3, 4, 5, 0] rfl <| ?_
    refine OH_shift_L63_ok x1 x2 x3 ((gN m6 13) + 2 + 3 * ixn x1) (shln hN8 hc2) _ R ?_ FU m6 0 h
    intro m9 h
    refine E_iconst (v := 1) (n := 110) 56 rfl rfl icz_1 <| E_zreturn 57 rfl rfl z1 (eS h)
  · have h := ifp h hc
    refine E_iconst (v := 0) (n := 37) 18 rfl rfl icz_0 <| E_zreturn 19 rfl rfl z0 (eS h)
theorem K_OH_shift (m : Mem) (x1 : Int32) (x2 : Int32) (x3 : Int32) (R : Int32 × Mem) (h : OH_shift m x1 x2 x3 = some R) : Mt M_OH_shift [.ref 0, .int x1, .int x2, .int x3] m (qI R.1 R.2) := by
  refine Mt.of G_OH_shift (Nat.le_of_ble_eq_true rfl) (E_sub (lv' := [(0, .ref 0), (1, .int x1), (2, .int x2), (3, .int x3)]) [0, 1, 2, 3] rfl ?_)
  unfold OH_shift at h
  refine E_aload_n (n := 1) 0 rfl rfl rfl 0 rfl <| E_gN (n := 4) 1 rfl rfl fg_11_92 sh_0 (Or.inl rfl) fun hN1 => E_iload_n (n := 5) 2 rfl rfl rfl 1 rfl <| E_cV1r (n := 8) 3 rfl rfl co_11_173 rfl hN1 rfl (K_PH_hasLine m (gN m 13) x1 hN1 _ rfl) <| E_if_eq (n := 11) (t := 36) 4 rfl rfl rfl (fun hc => ?_) (fun hc => ?_)
  · have h := ifp h hc
    refine E_iconst (v := 0) (n := 37) 18 rfl rfl icz_0 <| E_zreturn 19 rfl rfl z0 (eS h)
  · have h := ifn h hc
    refine E_iload_n (n := 12) 5 rfl rfl rfl 2 rfl <| E_if_ne (n := 15) (t := 19) 6 rfl rfl rfl (fun hc => ?_) (fun hc => ?_)
    · have h := ifn h hc
      exact OH_shift_J19_ok m x1 x2 x3 _ h
    · have h := ifp h hc
      refine E_iload_n (n := 16) 7 rfl rfl rfl 3 rfl <| E_if_eq (n := 19) (t := 36) 8 rfl rfl rfl (fun hc => ?_) (fun hc => ?_)
      · have h := ifp h hc
        refine E_iconst (v := 0) (n := 37) 18 rfl rfl icz_0 <| E_zreturn 19 rfl rfl z0 (eS h)
      · have h := ifn h hc
        exact OH_shift_J19_ok m x1 x2 x3 _ h
theorem K_LN_copyFrom (m : Mem) (x0 : Nat) (x1 : Nat) (h_x0 : shp x0 = (2, 0)) (h_x1 : shp x1 = (2, 0)) (R : Mem) (h : LN_copyFrom m x0 x1 = some R) : Mt M_LN_copyFrom [.ref x0, .ref x1] m (qV R) := by
  refine Mt.of G_LN_copyFrom (Nat.le_of_ble_eq_true rfl) (E_sub (lv' := [(0, .ref x0), (1, .ref x1)]) [0, 1] rfl ?_)
  unfold LN_copyFrom at h
  obtain ⟨m1, hm1, h⟩ := letM_ex h
  obtain ⟨m2, hm2, h⟩ := letM_ex h
  obtain ⟨m3, hm3, h⟩ := letM_ex h
  obtain ⟨m4, hm4, h⟩ := letM_ex h
  refine E_aload_n (n := 1) 0 rfl rfl rfl 0 rfl <| E_aload_n (n := 2) 1 rfl rfl rfl 1 rfl <| E_gJ (n := 5) 2 rfl rfl fg_2_18 h_x1 <| E_pJ (n := 8) 3 rfl rfl fp_2_18 h_x0 <| E_mem hm1 <| E_aload_n (n := 9) 4 rfl rfl rfl 0 rfl <| E_aload_n (n := 10) 5 rfl rfl rfl 1 rfl <| E_gI (n := 13) 6 rfl rfl fg_2_22 h_x1 <| E_pI (n := 16) 7 rfl rfl fp_2_22 h_x0 <| E_mem hm2 <| E_aload_n (n := 17) 8 rfl rfl rfl 1 rfl <| E_gF (r := (x1 + 1)) (n := 20) 9 rfl rfl fg_2_9 h_x1 rfl <| E_iconst (v := 0) (n := 21) 10 rfl rfl icz_0 <| E_aload_n (n := 22) 11 rfl rfl rfl 0 rfl <| E_gF (r := (x0 + 1)) (n := 25) 12 rfl rfl fg_2_9 h_x0 rfl <| E_iconst (v := 0) (n := 26) 13 rfl rfl icz_0 <| E_bipush (v := 12) (n := 28) 14 rfl rfl bpz_12 <| E_copyI (n := 31) 15 rfl rfl tw_1180 tw_1158 tw_1157 tw_135 ⟨Nat.le_of_ble_eq_true rfl, Nat.le_of_ble_eq_true rfl⟩ (shc_2_2 h_x1) (shc_2_2 h_x0) (by decide) <| E_mem hm3 <| E_aload_n (n := 32) 16 rfl rfl rfl 1 rfl <| E_gF (r := (x1 + 2)) (n := 35) 17 rfl rfl fg_2_15 h_x1 rfl <| E_iconst (v := 0) (n := 36) 18 rfl rfl icz_0 <| E_aload_n (n := 37) 19 rfl rfl rfl 0 rfl <| E_gF (r := (x0 + 2)) (n := 40) 20 rfl rfl fg_2_15 h_x0 rfl <| E_iconst (v := 0) (n := 41) 21 rfl rfl icz_0 <| E_bipush (v := 12) (n := 43) 22 rfl rfl bpz_12 <| E_copyI (n := 46) 23 rfl rfl tw_1180 tw_1158 tw_1157 tw_135 ⟨Nat.le_of_ble_eq_true rfl, Nat.le_of_ble_eq_true rfl⟩ (shc_2_3 h_x1) (shc_2_3 h_x0) (by decide) <| E_mem hm4 <| E_return 24 rfl rfl (eV h)
theorem OH_moved_L98_ok (x5 : Int32) (kx : Mem → Int32 → Option (Int32 × Mem)) (R : Int32 × Mem) (hx : ∀ (m : Mem) (x6 : Int32), kx m x6 = some R → E M_OH_moved 145 [(6, .int x6)] [] m (qI R.1 R.2)) : ∀ (n : Nat) (m : Mem) (x6 : Int32) (x7 : Int32), OH_moved_L98 x5 kx n m x6 x7 = some R → E M_OH_moved 98 [(0, .ref 0), (5, .int x5), (6, .int x6), (7, .int x7)] [] m (qI R.1 R.2) := by
  intro n
  induction n with
  | zero =>
    intro m x6 x7 h
    exact absurd (show none = some R from h) (fun e => Option.some_ne_none R e.symm)
  | succ n ih =>
    intro m x6 x7 h
    rw [OH_moved_L98] at h
    refine E_iload (n := 100) 52 rfl rfl 3 rfl <| E_sipush (v := 400) (n := 103) 53 rfl rfl spz_400 <| E_icmp_ge (n := 106) (t := 145) 54 rfl rfl rfl (fun hc => ?_) (fun hc => ?_)
    · have h := ifp h hc
      refine E_sub (lv' := [(6, .int x6)]) [2] rfl ?_
      exact hx m x6 h
    · have h := ifn h hc
      obtain ⟨hc1, h⟩ := ift h
      refine E_aload_n (n := 107) 55 rfl rfl rfl 0 rfl <| E_gF (r := 5) (n := 110) 56 rfl rfl fg_11_26 sh_0 rfl <| E_gF (r := 6) (n := 113) 57 rfl rfl fg_11_209 sh_5 rfl <| E_iload (n := 115) 58 rfl rfl 3 rfl <| E_iald (n := 116) 59 rfl rfl sh_6 hc1 <| E_iload (n := 118) 60 rfl rfl 1 rfl <| E_icmp_ne (n := 121) (t := 139) 61 rfl rfl rfl (fun hc => ?_) (fun hc => ?_)
      · have h := ifn h hc
        refine E_iinc (v := (x7 + 1)) (lv' := [(0, .ref 0), (5, .int x5), (6, .int x6), (7, .int (x7 + 1))]) (n := 142) 70 rfl rfl 3 rfl (by rw [icz_1]) (Nat.le_of_ble_eq_true rfl) [1, 2, 3, 0] rfl <| E_goto (t := 98) 71 rfl rfl <| ?_
        exact ih m x6 (x7 + 1) h
      · have h := ifp h hc
        refine E_aload_n (n := 122) 62 rfl rfl rfl 0 rfl <| E_gF (r := 11) (n := 125) 63 rfl rfl fg_11_30 sh_0 rfl <| E_gF (r := 12) (n := 128) 64 rfl rfl fg_11_209 sh_11 rfl <| E_iload (n := 130) 65 rfl rfl 3 rfl <| E_iald (n := 131) 66 rfl rfl sh_12 hc1 <| E_iload (n := 133) 67 rfl rfl 1 rfl <| E_icmp_eq (n := 136) (t := 139) 68 rfl rfl rfl (fun hc => ?_) (fun hc => ?_)
        · have h := ifp h hc
          refine E_iinc (v := (x7 + 1)) (lv' := [(0, .ref 0), (5, .int x5), (6, .int x6), (7, .int (x7 + 1))]) (n := 142) 70 rfl rfl 3 rfl (by rw [icz_1]) (Nat.le_of_ble_eq_true rfl) [1, 2, 3, 0] rfl <| E_goto (t := 98) 71 rfl rfl <| ?_
          exact ih m x6 (x7 + 1) h
        · have h := ifn h hc
          refine E_iinc (v := (x6 + 1)) (lv' := [(0, .ref 0), (5, .int x5), (6, .int (x6 + 1)), (7, .int x7)]) (n := 139) 69 rfl rfl 2 rfl (by rw [icz_1]) (Nat.le_of_ble_eq_true rfl) [1, 2, 0, 3] rfl <| ?_
          refine E_iinc (v := (x7 + 1)) (lv' := [(0, .ref 0), (5, .int x5), (6, .int (x6 + 1)), (7, .int (x7 + 1))]) (n := 142) 70 rfl rfl 3 rfl (by rw [icz_1]) (Nat.le_of_ble_eq_true rfl) [1, 2, 3, 0] rfl <| E_goto (t := 98) 71 rfl rfl <| ?_
          exact ih m (x6 + 1) (x7 + 1) h
theorem K_OH_moved (m : Mem) (x1 : Int32) (x2 : Int32) (x3 : Int32) (x4 : Int32) (x5 : Int32) (R : Int32 × Mem) (h : OH_moved m x1 x2 x3 x4 x5 = some R) : Mt M_OH_moved [.ref 0, .int x1, .int x2, .int x3, .int x4, .int x5] m (qI R.1 R.2) := by
  refine Mt.of G_OH_moved (Nat.le_of_ble_eq_true rfl) (E_sub (lv' := [(0, .ref 0), (1, .int x1), (2, .int x2), (3, .int x3), (4, .int x4), (5, .int x5)]) [0, 1, 2, 3, 4, 5] rfl ?_)
  unfold OH_moved at h
  refine E_iload (n := 2) 0 rfl rfl 5 rfl <| E_if_lt (n := 5) (t := 23) 1 rfl rfl rfl (fun hc => ?_) (fun hc => ?_)
  · have h := ifp h hc
    refine E_iconst (v := (-1)) (n := 24) 12 rfl rfl icz_m1 <| E_ireturn 13 rfl rfl (eS h)
  · have h := ifn h hc
    refine E_iload (n := 7) 2 rfl rfl 5 rfl <| E_iconst (v := 1) (n := 8) 3 rfl rfl icz_1 <| E_icmp_gt (n := 11) (t := 23) 4 rfl rfl rfl (fun hc => ?_) (fun hc => ?_)
    · have h := ifp h hc
      refine E_iconst (v := (-1)) (n := 24) 12 rfl rfl icz_m1 <| E_ireturn 13 rfl rfl (eS h)
    · have h := ifn h hc
      obtain ⟨v1, hq2, h⟩ := bI_ex h
      refine E_aload_n (n := 12) 5 rfl rfl rfl 0 rfl <| E_iload_n (n := 13) 6 rfl rfl rfl 1 rfl <| E_iload_n (n := 14) 7 rfl rfl rfl 2 rfl <| E_iload_n (n := 15) 8 rfl rfl rfl 3 rfl <| E_iload (n := 17) 9 rfl rfl 4 rfl <| E_cV4r (n := 20) 10 rfl rfl co_11_280 rfl sh_0 rfl (K_OH_canMove m x1 x2 x3 x4 _ hq2) <| E_if_ne (n := 23) (t := 25) 11 rfl rfl rfl (fun hc => ?_) (fun hc => ?_)
      · have h := ifn h hc
        obtain ⟨m3, hq4, h⟩ := bM_ex h
        obtain ⟨hc6, h⟩ := ift h
        obtain ⟨m7, hq8, h⟩ := bM_ex h
        obtain ⟨hc9, h⟩ := ift h
        obtain ⟨m10, hm10, h⟩ := letM_ex h
        obtain ⟨m11, hm11, h⟩ := letM_ex h
        obtain ⟨m14, hq15, h⟩ := bM_ex h
        refine E_aload_n (n := 26) 14 rfl rfl rfl 0 rfl <| E_iload_n (n := 27) 15 rfl rfl rfl 1 rfl <| E_cV1v (n := 30) 16 rfl rfl co_11_206 rfl sh_0 rfl (K_OH_survey m x1 _ hq4) <| E_aload_n (n := 31) 17 rfl rfl rfl 0 rfl <| E_gF (r := 63) (n := 34) 18 rfl rfl fg_11_73 sh_0 rfl <| E_aload_n (n := 35) 19 rfl rfl rfl 0 rfl <| E_gN (n := 38) 20 rfl rfl fg_11_92 sh_0 (Or.inl rfl) fun hN5 => E_gF (r := ((gN m3 13) + 1)) (n := 41) 21 rfl rfl fg_11_138 hN5 rfl <| E_iload_n (n := 42) 22 rfl rfl rfl 1 rfl <| E_aL (r := ((gN m3 13) + 2 + 3 * ixn x1)) (n := 43) 23 rfl rfl (shc_5_0 hN5) hc6 rfl <| E_cV1v (n := 46) 24 rfl rfl co_11_294 rfl sh_63 rfl (K_LN_copyFrom m3 63 ((gN m3 13) + 2 + 3 * ixn x1) sh_63 (shln hN5 hc6) _ hq8) <| E_aload_n (n := 47) 25 rfl rfl rfl 0 rfl <| E_gF (r := 63) (n := 50) 26 rfl rfl fg_11_73 sh_0 rfl <| E_gF (r := 64) (n := 53) 27 rfl rfl fg_11_142 sh_63 rfl <| E_iload_n (n := 54) 28 rfl rfl rfl 2 rfl <| E_iload_n (n := 55) 29 rfl rfl rfl 3 rfl <| E_iast (n := 56) 30 rfl rfl sh_64 hc9 <| E_mem hm10 <| E_aload_n (n := 57) 31 rfl rfl rfl 0 rfl <| E_gF (r := 63) (n := 60) 32 rfl rfl fg_11_73 sh_0 rfl <| E_gF (r := 65) (n := 63) 33 rfl rfl fg_11_145 sh_63 rfl <| E_iload_n (n := 64) 34 rfl rfl rfl 2 rfl <| E_iload (n := 66) 35 rfl rfl 4 rfl <| E_iast (n := 67) 36 rfl rfl sh_65 hc9 <| E_mem hm11 <| E_aload_n (n := 68) 37 rfl rfl rfl 0 rfl <| E_gF (r := 11) (n := 71) 38 rfl rfl fg_11_30 sh_0 rfl <| E_aload_n (n := 72) 39 rfl rfl rfl 0 rfl <| E_gF (r := 63) (n := 75) 40 rfl rfl fg_11_73 sh_0 rfl <| E_aload_n (n := 76) 41 rfl rfl rfl 0 rfl <| E_gN (n := 79) 42 rfl rfl fg_11_92 sh_0 (Or.inl rfl) fun hN12 => E_gI (n := 82) 43 rfl rfl fg_11_298 hN12 <| E_aload_n (n := 83) 44 rfl rfl rfl 0 rfl <| E_gN (n := 86) 45 rfl rfl fg_11_92 sh_0 (Or.inl rfl) fun hN13 => E_gI (n := 89) 46 rfl rfl fg_11_301 hN13 <| E_cV3v (n := 92) 47 rfl rfl co_11_304 rfl sh_11 rfl (K_GR_survey m11 11 63 (gI m11 (gN m11 13) 10) (gI m11 (gN m11 13) 11) sh_11 sh_63 _ hq15) <| E_iconst (v := 0) (n := 93) 48 rfl rfl icz_0 <| E_istore (lv' := [(0, .ref 0), (1, .int x1), (2, .int x2), (3, .int x3), (4, .int x4), (5, .int x5), (6, .int 0)]) (n := 95) 49 rfl rfl (Nat.le_of_ble_eq_true rfl) [1, 2, 3, 4, 5, 6, 0] rfl <| E_iconst (v := 0) (n := 96) 50 rfl rfl icz_0 <| E_istore (lv' := [(0, .ref 0), (1, .int x1), (2, .int x2), (3, .int x3), (4, .int x4), (5, .int x5), (6, .int 0), (7, .int 0)]) (n := 98) 51 rfl rfl (Nat.le_of_ble_eq_true rfl) [1, 2, 3, 4, 5, 6, 7, 0] rfl <| ?_
        refine E_sub (lv' := [(0, .ref 0), (5, .int x5), (6, .int 0), (7, .int 0)]) [0, 5, 6, 7] rfl ?_
        refine OH_moved_L98_ok x5 _ R ?_ FU m14 0 0 h
        intro m17 y16 h
        refine E_iload (n := 147) 72 rfl rfl 0 rfl <| E_ireturn 73 rfl rfl (eS h)
      · have h := ifp h hc
        refine E_iconst (v := (-1)) (n := 24) 12 rfl rfl icz_m1 <| E_ireturn 13 rfl rfl (eS h)
theorem K_PH_draw (m : Mem) (x0 : Nat) (x1 : Int32) (h_x0 : shp x0 = (5, 0)) (R : Int32 × Mem) (h : PH_draw m x0 x1 = some R) : Mt M_PH_draw [.ref x0, .int x1] m (qI R.1 R.2) := by
  refine Mt.of G_PH_draw (Nat.le_of_ble_eq_true rfl) (E_sub (lv' := [(0, .ref x0), (1, .int x1)]) [0, 1] rfl ?_)
  unfold PH_draw at h
  obtain ⟨m1, hm1, h⟩ := letM_ex h
  refine E_aload_n (n := 1) 0 rfl rfl rfl 0 rfl <| E_aload_n (n := 2) 1 rfl rfl rfl 0 rfl <| E_gI (n := 5) 2 rfl rfl fg_5_81 h_x0 <| E_ldc (v := 1103515245) (n := 7) 3 rfl rfl tw_1193 <| E_imul (n := 8) 4 rfl rfl <| E_sipush (v := 12345) (n := 11) 5 rfl rfl spz_12345 <| E_iadd (n := 12) 6 rfl rfl <| E_pI (n := 15) 7 rfl rfl fp_5_81 h_x0 <| E_mem hm1 <| E_iload_n (n := 16) 8 rfl rfl rfl 1 rfl <| E_if_le (n := 19) (t := 31) 9 rfl rfl rfl (fun hc => ?_) (fun hc => ?_)
  · have h := ifp h hc
    refine E_iconst (v := 0) (n := 32) 17 rfl rfl icz_0 <| ?_
    refine E_ireturn 18 rfl rfl (eS h)
  · have h := ifn h hc
    obtain ⟨hc2, h⟩ := ift h
    refine E_aload_n (n := 20) 10 rfl rfl rfl 0 rfl <| E_gI (n := 23) 11 rfl rfl fg_5_81 h_x0 <| E_bipush (v := 8) (n := 25) 12 rfl rfl bpz_8 <| E_jushr (n := 26) 13 rfl rfl <| E_iload_n (n := 27) 14 rfl rfl rfl 1 rfl <| E_irm (n := 28) 15 rfl rfl hc2 <| E_goto (t := 32) 16 rfl rfl <| ?_
    refine E_ireturn 18 rfl rfl (eS h)
theorem PH_passNights_J126_ok (kr : Mem → Int32 → Option (Int32 × Mem)) (kx : Mem → Option (Int32 × Mem)) (m : Mem) (x0 : Nat) (x1 : Int32) (x3 : Int32) (x4 : Int32) (x5 : Int32) (x6 : Int32) (x8 : Int32) (s0 : Int32) (s1 : Int32) (h_x0 : shp x0 = (5, 0)) (R : Int32 × Mem) (hr : ∀ (m : Mem) (x4 : Int32), kr m x4 = some R → E M_PH_passNights 13 [(0, .ref x0), (1, .int x1), (3, .int x3), (4, .int x4)] [] m (qI R.1 R.2)) (hx : ∀ (m : Mem), kx m = some R → E M_PH_passNights 176 [(0, .ref x0), (3, .int x3)] [] m (qI R.1 R.2)) (h : PH_passNights_J126 kr kx m x0 x1 x3 x4 x5 x6 x8 s0 s1 = some R) : E M_PH_passNights 126 [(0, .ref x0), (1, .int x1), (3, .int x3), (4, .int x4), (5, .int x5), (6, .int x6), (8, .int x8)] [.int s1, .int s0] m (qI R.1 R.2) := by
  unfold PH_passNights_J126 at h
  obtain ⟨v1, hv1, h⟩ := letV_ex h
  refine E_isub (n := 127) 69 rfl rfl <| E_top hv1 <| E_istore (lv' := [(0, .ref x0), (1, .int x1), (3, .int x3), (4, .int x4), (5, .int x5), (6, .int x6), (8, .int x8), (9, .int v1)]) (n := 129) 70 rfl rfl (Nat.le_of_ble_eq_true rfl) [1, 2, 3, 4, 5, 6, 7, 0] rfl <| E_iload (n := 131) 71 rfl rfl 6 rfl <| E_iload (n := 133) 72 rfl rfl 7 rfl <| E_dN2r (n := 136) 73 rfl rfl co_5_88 rfl rfl (K_OH_isPoint m x8 v1 _ rfl) <| E_if_eq (n := 139) (t := 170) 74 rfl rfl rfl (fun hc => ?_) (fun hc => ?_)
  · have h := ifp h hc
    refine E_iinc (v := (x4 + 1)) (lv' := [(0, .ref x0), (1, .int x1), (3, .int x3), (4, .int (x4 + 1)), (5, .int x5), (6, .int x6), (8, .int x8), (9, .int v1)]) (n := 173) 90 rfl rfl 3 rfl (by rw [icz_1]) (Nat.le_of_ble_eq_true rfl) [1, 2, 3, 0, 4, 5, 6, 7] rfl <| E_goto (t := 13) 91 rfl rfl <| ?_
    refine E_sub (lv' := [(0, .ref x0), (1, .int x1), (3, .int x3), (4, .int (x4 + 1))]) [0, 1, 2, 3] rfl ?_
    exact hr m (x4 + 1) h
  · have h := ifn h hc
    obtain ⟨hc2, h⟩ := ift h
    obtain ⟨v3, hq4, h⟩ := bI_ex h
    refine E_aload_n (n := 140) 75 rfl rfl rfl 0 rfl <| E_gF (r := (x0 + 1)) (n := 143) 76 rfl rfl fg_5_12 h_x0 rfl <| E_iload (n := 145) 77 rfl rfl 4 rfl <| E_aL (r := (x0 + 2 + 3 * ixn x5)) (n := 146) 78 rfl rfl (shc_5_0 h_x0) hc2 rfl <| E_iload (n := 148) 79 rfl rfl 5 rfl <| E_iload (n := 150) 80 rfl rfl 6 rfl <| E_iload (n := 152) 81 rfl rfl 7 rfl <| E_cV3r (n := 155) 82 rfl rfl co_5_91 rfl (shln h_x0 hc2) rfl (K_LN_mayStandAt m (x0 + 2 + 3 * ixn x5) x6 x8 v1 (shln h_x0 hc2) _ hq4) <| E_if_eq (n := 158) (t := 170) 83 rfl rfl rfl (fun hc => ?_) (fun hc => ?_)
    · have h := ifp h hc
      refine E_iinc (v := (x4 + 1)) (lv' := [(0, .ref x0), (1, .int x1), (3, .int x3), (4, .int (x4 + 1)), (5, .int x5), (6, .int x6), (8, .int x8), (9, .int v1)]) (n := 173) 90 rfl rfl 3 rfl (by rw [icz_1]) (Nat.le_of_ble_eq_true rfl) [1, 2, 3, 0, 4, 5, 6, 7] rfl <| E_goto (t := 13) 91 rfl rfl <| ?_
      refine E_sub (lv' := [(0, .ref x0), (1, .int x1), (3, .int x3), (4, .int (x4 + 1))]) [0, 1, 2, 3] rfl ?_
      exact hr m (x4 + 1) h
    · have h := ifn h hc
      obtain ⟨m5, hq6, h⟩ := bM_ex h
      refine E_aload_n (n := 159) 84 rfl rfl rfl 0 rfl <| E_iload (n := 161) 85 rfl rfl 4 rfl <| E_iload (n := 163) 86 rfl rfl 5 rfl <| E_iload (n := 165) 87 rfl rfl 6 rfl <| E_iload (n := 167) 88 rfl rfl 7 rfl <| E_cV4v (n := 170) 89 rfl rfl co_5_95 rfl h_x0 rfl (K_PH_put m x0 x5 x6 x8 v1 h_x0 _ hq6) <| ?_
      refine E_iinc (v := (x4 + 1)) (lv' := [(0, .ref x0), (1, .int x1), (3, .int x3), (4, .int (x4 + 1)), (5, .int x5), (6, .int x6), (8, .int x8), (9, .int v1)]) (n := 173) 90 rfl rfl 3 rfl (by rw [icz_1]) (Nat.le_of_ble_eq_true rfl) [1, 2, 3, 0, 4, 5, 6, 7] rfl <| E_goto (t := 13) 91 rfl rfl <| ?_
      refine E_sub (lv' := [(0, .ref x0), (1, .int x1), (3, .int x3), (4, .int (x4 + 1))]) [0, 1, 2, 3] rfl ?_
      exact hr m5 (x4 + 1) h
theorem PH_passNights_J115_ok (kr : Mem → Int32 → Option (Int32 × Mem)) (kx : Mem → Option (Int32 × Mem)) (m : Mem) (x0 : Nat) (x1 : Int32) (x3 : Int32) (x4 : Int32) (x5 : Int32) (x6 : Int32) (x7 : Int32) (x8 : Int32) (s0 : Int32) (s1 : Int32) (h_x0 : shp x0 = (5, 0)) (R : Int32 × Mem) (hr : ∀ (m : Mem) (x4 : Int32), kr m x4 = some R → E M_PH_passNights 13 [(0, .ref x0), (1, .int x1), (3, .int x3), (4, .int x4)] [] m (qI R.1 R.2)) (hx : ∀ (m : Mem), kx m = some R → E M_PH_passNights 176 [(0, .ref x0), (3, .int x3)] [] m (qI R.1 R.2)) (h : PH_passNights_J115 kr kx m x0 x1 x3 x4 x5 x6 x7 x8 s0 s1 = some R) : E M_PH_passNights 115 [(0, .ref x0), (1, .int x1), (3, .int x3), (4, .int x4), (5, .int x5), (6, .int x6), (7, .int x7), (8, .int x8)] [.int s1, .int s0] m (qI R.1 R.2) := by
  unfold PH_passNights_J115 at h
  refine E_iadd (n := 116) 63 rfl rfl <| E_iload (n := 118) 64 rfl rfl 6 rfl <| E_if_ne (n := 121) (t := 125) 65 rfl rfl rfl (fun hc => ?_) (fun hc => ?_)
  · have h := ifn h hc
    refine E_iconst (v := 0) (n := 126) 68 rfl rfl icz_0 <| ?_
    refine E_sub (lv' := [(0, .ref x0), (1, .int x1), (3, .int x3), (4, .int x4), (5, .int x5), (6, .int x6), (8, .int x8)]) [0, 1, 2, 3, 4, 5, 7] rfl ?_
    exact PH_passNights_J126_ok _ _ m x0 x1 x3 x4 x5 x6 x8 (s0 + s1) 0 h_x0 _ hr hx h
  · have h := ifp h hc
    refine E_iconst (v := 1) (n := 122) 66 rfl rfl icz_1 <| E_goto (t := 126) 67 rfl rfl <| ?_
    refine E_sub (lv' := [(0, .ref x0), (1, .int x1), (3, .int x3), (4, .int x4), (5, .int x5), (6, .int x6), (8, .int x8)]) [0, 1, 2, 3, 4, 5, 7] rfl ?_
    exact PH_passNights_J126_ok _ _ m x0 x1 x3 x4 x5 x6 x8 (s0 + s1) 1 h_x0 _ hr hx h
theorem PH_passNights_J88_ok (kr : Mem → Int32 → Option (Int32 × Mem)) (kx : Mem → Option (Int32 × Mem)) (m : Mem) (x0 : Nat) (x1 : Int32) (x3 : Int32) (x4 : Int32) (x5 : Int32) (x6 : Int32) (x7 : Int32) (s0 : Int32) (s1 : Int32) (h_x0 : shp x0 = (5, 0)) (R : Int32 × Mem) (hr : ∀ (m : Mem) (x4 : Int32), kr m x4 = some R → E M_PH_passNights 13 [(0, .ref x0), (1, .int x1), (3, .int x3), (4, .int x4)] [] m (qI R.1 R.2)) (hx : ∀ (m : Mem), kx m = some R → E M_PH_passNights 176 [(0, .ref x0), (3, .int x3)] [] m (qI R.1 R.2)) (h : PH_passNights_J88 kr kx m x0 x1 x3 x4 x5 x6 x7 s0 s1 = some R) : E M_PH_passNights 88 [(0, .ref x0), (1, .int x1), (3, .int x3), (4, .int x4), (5, .int x5), (6, .int x6), (7, .int x7)] [.int s1, .int s0] m (qI R.1 R.2) := by
  unfold PH_passNights_J88 at h
  obtain ⟨v1, hv1, h⟩ := letV_ex h
  obtain ⟨hc2, h⟩ := ift h
  obtain ⟨hc3, h⟩ := ift h
  refine E_isub (n := 89) 48 rfl rfl <| E_top hv1 <| E_istore (lv' := [(0, .ref x0), (1, .int x1), (3, .int x3), (4, .int x4), (5, .int x5), (6, .int x6), (7, .int x7), (8, .int v1)]) (n := 91) 49 rfl rfl (Nat.le_of_ble_eq_true rfl) [1, 2, 3, 4, 5, 6, 7, 0] rfl <| E_aload_n (n := 92) 50 rfl rfl rfl 0 rfl <| E_gF (r := (x0 + 1)) (n := 95) 51 rfl rfl fg_5_12 h_x0 rfl <| E_iload (n := 97) 52 rfl rfl 4 rfl <| E_aL (r := (x0 + 2 + 3 * ixn x5)) (n := 98) 53 rfl rfl (shc_5_0 h_x0) hc2 rfl <| E_gF (r := ((x0 + 2 + 3 * ixn x5) + 2)) (n := 101) 54 rfl rfl fg_5_75 (shln h_x0 hc2) rfl <| E_iload (n := 103) 55 rfl rfl 5 rfl <| E_iald (n := 104) 56 rfl rfl (shc_2_3 (shln h_x0 hc2)) hc3 <| E_iload (n := 106) 57 rfl rfl 6 rfl <| E_iconst (v := 2) (n := 107) 58 rfl rfl icz_2 <| E_icmp_ne (n := 110) (t := 114) 59 rfl rfl rfl (fun hc => ?_) (fun hc => ?_)
  · have h := ifn h hc
    refine E_iconst (v := 0) (n := 115) 62 rfl rfl icz_0 <| ?_
    exact PH_passNights_J115_ok _ _ m x0 x1 x3 x4 x5 x6 x7 v1 (gI m ((x0 + 2 + 3 * ixn x5) + 2) (ixn x6)) 0 h_x0 _ hr hx h
  · have h := ifp h hc
    refine E_iconst (v := 1) (n := 111) 60 rfl rfl icz_1 <| E_goto (t := 115) 61 rfl rfl <| ?_
    exact PH_passNights_J115_ok _ _ m x0 x1 x3 x4 x5 x6 x7 v1 (gI m ((x0 + 2 + 3 * ixn x5) + 2) (ixn x6)) 1 h_x0 _ hr hx h
theorem PH_passNights_J76_ok (kr : Mem → Int32 → Option (Int32 × Mem)) (kx : Mem → Option (Int32 × Mem)) (m : Mem) (x0 : Nat) (x1 : Int32) (x3 : Int32) (x4 : Int32) (x5 : Int32) (x6 : Int32) (x7 : Int32) (s0 : Int32) (s1 : Int32) (h_x0 : shp x0 = (5, 0)) (R : Int32 × Mem) (hr : ∀ (m : Mem) (x4 : Int32), kr m x4 = some R → E M_PH_passNights 13 [(0, .ref x0), (1, .int x1), (3, .int x3), (4, .int x4)] [] m (qI R.1 R.2)) (hx : ∀ (m : Mem), kx m = some R → E M_PH_passNights 176 [(0, .ref x0), (3, .int x3)] [] m (qI R.1 R.2)) (h : PH_passNights_J76 kr kx m x0 x1 x3 x4 x5 x6 x7 s0 s1 = some R) : E M_PH_passNights 76 [(0, .ref x0), (1, .int x1), (3, .int x3), (4, .int x4), (5, .int x5), (6, .int x6), (7, .int x7)] [.int s1, .int s0] m (qI R.1 R.2) := by
  unfold PH_passNights_J76 at h
  refine E_iadd (n := 77) 41 rfl rfl <| E_iload (n := 79) 42 rfl rfl 6 rfl <| E_iconst (v := 3) (n := 80) 43 rfl rfl icz_3 <| E_icmp_ne (n := 83) (t := 87) 44 rfl rfl rfl (fun hc => ?_) (fun hc => ?_)
  · have h := ifn h hc
    refine E_iconst (v := 0) (n := 88) 47 rfl rfl icz_0 <| ?_
    exact PH_passNights_J88_ok _ _ m x0 x1 x3 x4 x5 x6 x7 (s0 + s1) 0 h_x0 _ hr hx h
  · have h := ifp h hc
    refine E_iconst (v := 1) (n := 84) 45 rfl rfl icz_1 <| E_goto (t := 88) 46 rfl rfl <| ?_
    exact PH_passNights_J88_ok _ _ m x0 x1 x3 x4 x5 x6 x7 (s0 + s1) 1 h_x0 _ hr hx h
theorem PH_passNights_L13_ok (x0 : Nat) (x1 : Int32) (x3 : Int32) (h_x0 : shp x0 = (5, 0)) (kx : Mem → Option (Int32 × Mem)) (R : Int32 × Mem) (hx : ∀ (m : Mem), kx m = some R → E M_PH_passNights 176 [(0, .ref x0), (3, .int x3)] [] m (qI R.1 R.2)) : ∀ (n : Nat) (m : Mem) (x4 : Int32), PH_passNights_L13 x0 x1 x3 kx n m x4 = some R → E M_PH_passNights 13 [(0, .ref x0), (1, .int x1), (3, .int x3), (4, .int x4)] [] m (qI R.1 R.2) := by
  intro n
  induction n with
  | zero =>
    intro m x4 h
    exact absurd (show none = some R from h) (fun e => Option.some_ne_none R e.symm)
  | succ n ih =>
    intro m x4 h
    rw [PH_passNights_L13] at h
    refine E_iload (n := 15) 8 rfl rfl 3 rfl <| E_iload_n (n := 16) 9 rfl rfl rfl 1 rfl <| E_icmp_ge (n := 19) (t := 176) 10 rfl rfl rfl (fun hc => ?_) (fun hc => ?_)
    · have h := ifp h hc
      refine E_sub (lv' := [(0, .ref x0), (3, .int x3)]) [0, 2] rfl ?_
      exact hx m h
    · have h := ifn h hc
      obtain ⟨v1, m2, hq3, h⟩ := bV_ex h
      obtain ⟨hc4, h⟩ := ift h
      obtain ⟨v5, m6, hq7, h⟩ := bV_ex h
      obtain ⟨v8, m9, hq10, h⟩ := bV_ex h
      obtain ⟨hc11, h⟩ := ift h
      refine E_aload_n (n := 20) 11 rfl rfl rfl 0 rfl <| E_aload_n (n := 21) 12 rfl rfl rfl 0 rfl <| E_gI (n := 24) 13 rfl rfl fg_5_35 h_x0 <| E_cV1r (n := 27) 14 rfl rfl co_5_84 rfl h_x0 rfl (K_PH_draw m x0 (gI m x0 6) h_x0 _ hq3) <| E_istore (lv' := [(0, .ref x0), (1, .int x1), (3, .int x3), (4, .int x4), (5, .int v1)]) (n := 29) 15 rfl rfl (Nat.le_of_ble_eq_true rfl) [1, 2, 3, 4, 0] rfl <| E_aload_n (n := 30) 16 rfl rfl rfl 0 rfl <| E_aload_n (n := 31) 17 rfl rfl rfl 0 rfl <| E_gF (r := (x0 + 1)) (n := 34) 18 rfl rfl fg_5_12 h_x0 rfl <| E_iload (n := 36) 19 rfl rfl 4 rfl <| E_aL (r := (x0 + 2 + 3 * ixn v1)) (n := 37) 20 rfl rfl (shc_5_0 h_x0) hc4 rfl <| E_gI (n := 40) 21 rfl rfl fg_5_43 (shln h_x0 hc4) <| E_cV1r (n := 43) 22 rfl rfl co_5_84 rfl h_x0 rfl (K_PH_draw m2 x0 (gI m2 (x0 + 2 + 3 * ixn v1) 1) h_x0 _ hq7) <| E_istore (lv' := [(0, .ref x0), (1, .int x1), (3, .int x3), (4, .int x4), (5, .int v1), (6, .int v5)]) (n := 45) 23 rfl rfl (Nat.le_of_ble_eq_true rfl) [1, 2, 3, 4, 5, 0] rfl <| E_aload_n (n := 46) 24 rfl rfl rfl 0 rfl <| E_iconst (v := 4) (n := 47) 25 rfl rfl icz_4 <| E_cV1r (n := 50) 26 rfl rfl co_5_84 rfl h_x0 rfl (K_PH_draw m6 x0 4 h_x0 _ hq10) <| E_istore (lv' := [(0, .ref x0), (1, .int x1), (3, .int x3), (4, .int x4), (5, .int v1), (6, .int v5), (7, .int v8)]) (n := 52) 27 rfl rfl (Nat.le_of_ble_eq_true rfl) [1, 2, 3, 4, 5, 6, 0] rfl <| E_aload_n (n := 53) 28 rfl rfl rfl 0 rfl <| E_gF (r := (x0 + 1)) (n := 56) 29 rfl rfl fg_5_12 h_x0 rfl <| E_iload (n := 58) 30 rfl rfl 4 rfl <| E_aL (r := (x0 + 2 + 3 * ixn v1)) (n := 59) 31 rfl rfl (shc_5_0 h_x0) hc4 rfl <| E_gF (r := ((x0 + 2 + 3 * ixn v1) + 1)) (n := 62) 32 rfl rfl fg_5_72 (shln h_x0 hc4) rfl <| E_iload (n := 64) 33 rfl rfl 5 rfl <| E_iald (n := 65) 34 rfl rfl (shc_2_2 (shln h_x0 hc4)) hc11 <| E_iload (n := 67) 35 rfl rfl 6 rfl <| E_iconst (v := 1) (n := 68) 36 rfl rfl icz_1 <| E_icmp_ne (n := 71) (t := 75) 37 rfl rfl rfl (fun hc => ?_) (fun hc => ?_)
      · have h := ifn h hc
        refine E_iconst (v := 0) (n := 76) 40 rfl rfl icz_0 <| ?_
        exact PH_passNights_J76_ok _ _ m9 x0 x1 x3 x4 v1 v5 v8 (gI m9 ((x0 + 2 + 3 * ixn v1) + 1) (ixn v5)) 0 h_x0 _ ih hx h
      · have h := ifp h hc
        refine E_iconst (v := 1) (n := 72) 38 rfl rfl icz_1 <| E_goto (t := 76) 39 rfl rfl <| ?_
        exact PH_passNights_J76_ok _ _ m9 x0 x1 x3 x4 v1 v5 v8 (gI m9 ((x0 + 2 + 3 * ixn v1) + 1) (ixn v5)) 1 h_x0 _ ih hx h
theorem K_PH_passNights (m : Mem) (x0 : Nat) (x1 : Int32) (x2 : Int32) (h_x0 : shp x0 = (5, 0)) (R : Int32 × Mem) (h : PH_passNights m x0 x1 x2 = some R) : Mt M_PH_passNights [.ref x0, .int x1, .int x2] m (qI R.1 R.2) := by
  refine Mt.of G_PH_passNights (Nat.le_of_ble_eq_true rfl) (E_sub (lv' := [(0, .ref x0), (1, .int x1), (2, .int x2)]) [0, 1, 2] rfl ?_)
  unfold PH_passNights at h
  obtain ⟨v1, hv1, h⟩ := letV_ex h
  obtain ⟨m2, hm2, h⟩ := letM_ex h
  refine E_aload_n (n := 1) 0 rfl rfl rfl 0 rfl <| E_gI (n := 4) 1 rfl rfl fg_5_78 h_x0 <| E_top hv1 <| E_istore_n (lv' := [(0, .ref x0), (1, .int x1), (2, .int x2), (3, .int v1)]) (n := 5) 2 rfl rfl rfl (Nat.le_of_ble_eq_true rfl) [1, 2, 3, 0] rfl <| E_aload_n (n := 6) 3 rfl rfl rfl 0 rfl <| E_iload_n (n := 7) 4 rfl rfl rfl 2 rfl <| E_pI (n := 10) 5 rfl rfl fp_5_81 h_x0 <| E_mem hm2 <| E_iconst (v := 0) (n := 11) 6 rfl rfl icz_0 <| E_istore (lv' := [(0, .ref x0), (1, .int x1), (2, .int x2), (3, .int v1), (4, .int 0)]) (n := 13) 7 rfl rfl (Nat.le_of_ble_eq_true rfl) [1, 2, 3, 4, 0] rfl <| ?_
  refine E_sub (lv' := [(0, .ref x0), (1, .int x1), (3, .int v1), (4, .int 0)]) [0, 1, 3, 4] rfl ?_
  refine PH_passNights_L13_ok x0 x1 v1 h_x0 _ R ?_ FU m2 0 h
  intro m3 h
  refine E_aload_n (n := 177) 92 rfl rfl rfl 0 rfl <| E_gI (n := 180) 93 rfl rfl fg_5_78 h_x0 <| E_iload_n (n := 181) 94 rfl rfl rfl 1 rfl <| E_isub (n := 182) 95 rfl rfl <| E_ireturn 96 rfl rfl (eS h)
theorem K_OH_nights (m : Mem) (x1 : Int32) (x2 : Int32) (R : Int32 × Mem) (h : OH_nights m x1 x2 = some R) : Mt M_OH_nights [.ref 0, .int x1, .int x2] m (qI R.1 R.2) := by
  refine Mt.of G_OH_nights (Nat.le_of_ble_eq_true rfl) (E_sub (lv' := [(0, .ref 0), (1, .int x1), (2, .int x2)]) [0, 1, 2] rfl ?_)
  unfold OH_nights at h
  refine E_iload_n (n := 1) 0 rfl rfl rfl 1 rfl <| E_iconst (v := 1) (n := 2) 1 rfl rfl icz_1 <| E_icmp_lt (n := 5) (t := 23) 2 rfl rfl rfl (fun hc => ?_) (fun hc => ?_)
  · have h := ifp h hc
    refine E_iconst (v := (-1)) (n := 24) 11 rfl rfl icz_m1 <| E_ireturn 12 rfl rfl (eS h)
  · have h := ifn h hc
    refine E_iload_n (n := 6) 3 rfl rfl rfl 1 rfl <| E_sipush (v := 200) (n := 9) 4 rfl rfl spz_200 <| E_icmp_gt (n := 12) (t := 23) 5 rfl rfl rfl (fun hc => ?_) (fun hc => ?_)
    · have h := ifp h hc
      refine E_iconst (v := (-1)) (n := 24) 11 rfl rfl icz_m1 <| E_ireturn 12 rfl rfl (eS h)
    · have h := ifn h hc
      refine E_aload_n (n := 13) 6 rfl rfl rfl 0 rfl <| E_gN (n := 16) 7 rfl rfl fg_11_92 sh_0 (Or.inl rfl) fun hN1 => E_gI (n := 19) 8 rfl rfl fg_11_307 hN1 <| E_iconst (v := 1) (n := 20) 9 rfl rfl icz_1 <| E_icmp_ge (n := 23) (t := 25) 10 rfl rfl rfl (fun hc => ?_) (fun hc => ?_)
      · have h := ifp h hc
        obtain ⟨m3, hq4, h⟩ := bM_ex h
        obtain ⟨v6, m7, hq8, h⟩ := bV_ex h
        refine E_aload_n (n := 26) 13 rfl rfl rfl 0 rfl <| E_gF (r := 3) (n := 29) 14 rfl rfl fg_11_19 sh_0 rfl <| E_aload_n (n := 30) 15 rfl rfl rfl 0 rfl <| E_gN (n := 33) 16 rfl rfl fg_11_92 sh_0 (Or.inl rfl) fun hN2 => E_cV1v (n := 36) 17 rfl rfl co_11_284 rfl sh_3 rfl (K_AC_keep m (gN m 13) hN2 _ hq4) <| E_aload_n (n := 37) 18 rfl rfl rfl 0 rfl <| E_gN (n := 40) 19 rfl rfl fg_11_92 sh_0 (Or.inl rfl) fun hN5 => E_iload_n (n := 41) 20 rfl rfl rfl 1 rfl <| E_iload_n (n := 42) 21 rfl rfl rfl 2 rfl <| E_cV2r (n := 45) 22 rfl rfl co_11_310 rfl hN5 rfl (K_PH_passNights m3 (gN m3 13) x1 x2 hN5 _ hq8) <| E_ireturn 23 rfl rfl (eS h)
      · have h := ifn h hc
        refine E_iconst (v := (-1)) (n := 24) 11 rfl rfl icz_m1 <| E_ireturn 12 rfl rfl (eS h)
theorem AC_takeBack_L40_ok (x1 : Nat) (x2 : Int32) (h_x1 : shp x1 = (5, 0)) (kx : Mem → Option (Int32 × Mem)) (R : Int32 × Mem) (hx : ∀ (m : Mem), kx m = some R → E M_AC_takeBack 106 [(0, .ref 3)] [] m (qI R.1 R.2)) : ∀ (n : Nat) (m : Mem) (x3 : Int32), AC_takeBack_L40 x1 x2 kx n m x3 = some R → E M_AC_takeBack 40 [(0, .ref 3), (1, .ref x1), (2, .int x2), (3, .int x3)] [] m (qI R.1 R.2) := by
  intro n
  induction n with
  | zero =>
    intro m x3 h
    exact absurd (show none = some R from h) (fun e => Option.some_ne_none R e.symm)
  | succ n ih =>
    intro m x3 h
    rw [AC_takeBack_L40] at h
    refine E_iload_n (n := 41) 25 rfl rfl rfl 3 rfl <| E_iconst (v := 3) (n := 42) 26 rfl rfl icz_3 <| E_icmp_ge (n := 45) (t := 106) 27 rfl rfl rfl (fun hc => ?_) (fun hc => ?_)
    · have h := ifp h hc
      refine E_sub (lv' := [(0, .ref 3)]) [0] rfl ?_
      exact hx m h
    · have h := ifn h hc
      obtain ⟨v1, hv1, h⟩ := letV_ex h
      obtain ⟨hc2, h⟩ := ift h
      obtain ⟨hc3, h⟩ := ift h
      obtain ⟨m4, hm4, h⟩ := letM_ex h
      obtain ⟨hc5, h⟩ := ift h
      obtain ⟨m6, hm6, h⟩ := letM_ex h
      refine E_iload_n (n := 46) 28 rfl rfl rfl 2 rfl <| E_iconst (v := 1) (n := 47) 29 rfl rfl icz_1 <| E_iadd (n := 48) 30 rfl rfl <| E_iload_n (n := 49) 31 rfl rfl rfl 3 rfl <| E_bipush (v := 24) (n := 51) 32 rfl rfl bpz_24 <| E_imul (n := 52) 33 rfl rfl <| E_iadd (n := 53) 34 rfl rfl <| E_top hv1 <| E_istore (lv' := [(0, .ref 3), (1, .ref x1), (2, .int x2), (3, .int x3), (4, .int v1)]) (n := 55) 35 rfl rfl (Nat.le_of_ble_eq_true rfl) [1, 2, 3, 4, 0] rfl <| E_aload_n (n := 56) 36 rfl rfl rfl 0 rfl <| E_gF (r := 4) (n := 59) 37 rfl rfl fg_0_11 sh_3 rfl <| E_iload (n := 61) 38 rfl rfl 4 rfl <| E_aload_n (n := 62) 39 rfl rfl rfl 1 rfl <| E_gF (r := (x1 + 1)) (n := 65) 40 rfl rfl fg_0_30 h_x1 rfl <| E_iload_n (n := 66) 41 rfl rfl rfl 3 rfl <| E_aL (r := (x1 + 2 + 3 * ixn x3)) (n := 67) 42 rfl rfl (shc_5_0 h_x1) hc2 rfl <| E_gF (r := ((x1 + 2 + 3 * ixn x3) + 1)) (n := 70) 43 rfl rfl fg_0_34 (shln h_x1 hc2) rfl <| E_iconst (v := 0) (n := 71) 44 rfl rfl icz_0 <| E_bipush (v := 12) (n := 73) 45 rfl rfl bpz_12 <| E_copyI (n := 76) 46 rfl rfl tw_1156 tw_1158 tw_1157 tw_135 ⟨Nat.le_of_ble_eq_true rfl, Nat.le_of_ble_eq_true rfl⟩ sh_4 (shc_2_2 (shln h_x1 hc2)) hc3 <| E_mem hm4 <| E_aload_n (n := 77) 47 rfl rfl rfl 0 rfl <| E_gF (r := 4) (n := 80) 48 rfl rfl fg_0_11 sh_3 rfl <| E_iload (n := 82) 49 rfl rfl 4 rfl <| E_bipush (v := 12) (n := 84) 50 rfl rfl bpz_12 <| E_iadd (n := 85) 51 rfl rfl <| E_aload_n (n := 86) 52 rfl rfl rfl 1 rfl <| E_gF (r := (x1 + 1)) (n := 89) 53 rfl rfl fg_0_30 h_x1 rfl <| E_iload_n (n := 90) 54 rfl rfl rfl 3 rfl <| E_aL (r := (x1 + 2 + 3 * ixn x3)) (n := 91) 55 rfl rfl (shc_5_0 h_x1) hc2 rfl <| E_gF (r := ((x1 + 2 + 3 * ixn x3) + 2)) (n := 94) 56 rfl rfl fg_0_39 (shln h_x1 hc2) rfl <| E_iconst (v := 0) (n := 95) 57 rfl rfl icz_0 <| E_bipush (v := 12) (n := 97) 58 rfl rfl bpz_12 <| E_copyI (n := 100) 59 rfl rfl tw_1156 tw_1158 tw_1157 tw_135 ⟨Nat.le_of_ble_eq_true rfl, Nat.le_of_ble_eq_true rfl⟩ sh_4 (shc_2_3 (shln h_x1 hc2)) hc5 <| E_mem hm6 <| E_iinc (v := (x3 + 1)) (lv' := [(0, .ref 3), (1, .ref x1), (2, .int x2), (3, .int (x3 + 1)), (4, .int v1)]) (n := 103) 60 rfl rfl 3 rfl (by rw [icz_1]) (Nat.le_of_ble_eq_true rfl) [1, 2, 3, 0, 4] rfl <| E_goto (t := 40) 61 rfl rfl <| ?_
      refine E_sub (lv' := [(0, .ref 3), (1, .ref x1), (2, .int x2), (3, .int (x3 + 1))]) [0, 1, 2, 3] rfl ?_
      exact ih m6 (x3 + 1) h
theorem K_AC_takeBack (m : Mem) (x1 : Nat) (h_x1 : shp x1 = (5, 0)) (R : Int32 × Mem) (h : AC_takeBack m x1 = some R) : Mt M_AC_takeBack [.ref 3, .ref x1] m (qI R.1 R.2) := by
  refine Mt.of G_AC_takeBack (Nat.le_of_ble_eq_true rfl) (E_sub (lv' := [(0, .ref 3), (1, .ref x1)]) [0, 1] rfl ?_)
  unfold AC_takeBack at h
  refine E_aload_n (n := 1) 0 rfl rfl rfl 0 rfl <| E_gI (n := 4) 1 rfl rfl fg_0_15 sh_3 <| E_iconst (v := 1) (n := 5) 2 rfl rfl icz_1 <| E_icmp_ge (n := 8) (t := 10) 3 rfl rfl rfl (fun hc => ?_) (fun hc => ?_)
  · have h := ifp h hc
    obtain ⟨m1, hm1, h⟩ := letM_ex h
    obtain ⟨v2, hv2, h⟩ := letV_ex h
    obtain ⟨hc3, h⟩ := ift h
    obtain ⟨m4, hm4, h⟩ := letM_ex h
    refine E_aload_n (n := 11) 6 rfl rfl rfl 0 rfl <| E_dup (n := 12) 7 rfl rfl rfl <| E_gI (n := 15) 8 rfl rfl fg_0_15 sh_3 <| E_iconst (v := 1) (n := 16) 9 rfl rfl icz_1 <| E_isub (n := 17) 10 rfl rfl <| E_pI (n := 20) 11 rfl rfl fp_0_15 sh_3 <| E_mem hm1 <| E_aload_n (n := 21) 12 rfl rfl rfl 0 rfl <| E_gI (n := 24) 13 rfl rfl fg_0_15 sh_3 <| E_bipush (v := 73) (n := 26) 14 rfl rfl bpz_73 <| E_imul (n := 27) 15 rfl rfl <| E_top hv2 <| E_istore_n (lv' := [(0, .ref 3), (1, .ref x1), (2, .int v2)]) (n := 28) 16 rfl rfl rfl (Nat.le_of_ble_eq_true rfl) [1, 2, 0] rfl <| E_aload_n (n := 29) 17 rfl rfl rfl 1 rfl <| E_aload_n (n := 30) 18 rfl rfl rfl 0 rfl <| E_gF (r := 4) (n := 33) 19 rfl rfl fg_0_11 sh_3 rfl <| E_iload_n (n := 34) 20 rfl rfl rfl 2 rfl <| E_iald (n := 35) 21 rfl rfl sh_4 hc3 <| E_pI (n := 38) 22 rfl rfl fp_0_25 h_x1 <| E_mem hm4 <| E_iconst (v := 0) (n := 39) 23 rfl rfl icz_0 <| E_istore_n (lv' := [(0, .ref 3), (1, .ref x1), (2, .int v2), (3, .int 0)]) (n := 40) 24 rfl rfl rfl (Nat.le_of_ble_eq_true rfl) [1, 2, 3, 0] rfl <| ?_
    refine AC_takeBack_L40_ok x1 v2 h_x1 _ R ?_ FU m4 0 h
    intro m5 h
    refine E_aload_n (n := 107) 62 rfl rfl rfl 0 rfl <| E_gI (n := 110) 63 rfl rfl fg_0_15 sh_3 <| E_ireturn 64 rfl rfl (eS h)
  · have h := ifn h hc
    refine E_iconst (v := (-1)) (n := 9) 4 rfl rfl icz_m1 <| E_ireturn 5 rfl rfl (eS h)
theorem K_OH_undo (m : Mem) (R : Int32 × Mem) (h : OH_undo m = some R) : Mt M_OH_undo [.ref 0] m (qI R.1 R.2) := by
  refine Mt.of G_OH_undo (Nat.le_of_ble_eq_true rfl) (E_sub (lv' := [(0, .ref 0)]) [0] rfl ?_)
  unfold OH_undo at h
  obtain ⟨v2, m3, hq4, h⟩ := bV_ex h
  refine E_aload_n (n := 1) 0 rfl rfl rfl 0 rfl <| E_gF (r := 3) (n := 4) 1 rfl rfl fg_11_19 sh_0 rfl <| E_aload_n (n := 5) 2 rfl rfl rfl 0 rfl <| E_gN (n := 8) 3 rfl rfl fg_11_92 sh_0 (Or.inl rfl) fun hN1 => E_cV1r (n := 11) 4 rfl rfl co_11_313 rfl sh_3 rfl (K_AC_takeBack m (gN m 13) hN1 _ hq4) <| E_ireturn 5 rfl rfl (eS h)
theorem PT_take_L35_ok (kx : Mem → Option (Int32 × Mem)) (R : Int32 × Mem) (hx : ∀ (m : Mem), kx m = some R → E M_PT_take 153 [] [] m (qI R.1 R.2)) : ∀ (n : Nat) (m : Mem) (x2 : Int32), PT_take_L35 kx n m x2 = some R → E M_PT_take 35 [(0, .ref 36), (1, .ref 1), (2, .int x2)] [] m (qI R.1 R.2) := by
  intro n
  induction n with
  | zero =>
    intro m x2 h
    exact absurd (show none = some R from h) (fun e => Option.some_ne_none R e.symm)
  | succ n ih =>
    intro m x2 h
    rw [PT_take_L35] at h
    refine E_iload_n (n := 36) 20 rfl rfl rfl 2 rfl <| E_iconst (v := 2) (n := 37) 21 rfl rfl icz_2 <| E_iadd (n := 38) 22 rfl rfl <| E_aload_n (n := 39) 23 rfl rfl rfl 1 rfl <| E_gI (n := 42) 24 rfl rfl fg_7_25 sh_1 <| E_icmp_ge (n := 45) (t := 153) 25 rfl rfl rfl (fun hc => ?_) (fun hc => ?_)
    · have h := ifp h hc
      refine E_sub (lv' := []) [] rfl ?_
      exact hx m h
    · have h := ifn h hc
      refine E_aload_n (n := 46) 26 rfl rfl rfl 0 rfl <| E_gI (n := 49) 27 rfl rfl fg_7_21 sh_36 <| E_bipush (v := 8) (n := 51) 28 rfl rfl bpz_8 <| E_icmp_ge (n := 54) (t := 153) 29 rfl rfl rfl (fun hc => ?_) (fun hc => ?_)
      · have h := ifp h hc
        refine E_sub (lv' := []) [] rfl ?_
        exact hx m h
      · have h := ifn h hc
        obtain ⟨hc1, h⟩ := ift h
        obtain ⟨hc2, h⟩ := ift h
        refine E_aload_n (n := 55) 30 rfl rfl rfl 1 rfl <| E_gF (r := 2) (n := 58) 31 rfl rfl fg_7_30 sh_1 rfl <| E_iload_n (n := 59) 32 rfl rfl rfl 2 rfl <| E_iald (n := 60) 33 rfl rfl sh_2 hc1 <| E_aload_n (n := 61) 34 rfl rfl rfl 1 rfl <| E_gF (r := 2) (n := 64) 35 rfl rfl fg_7_30 sh_1 rfl <| E_iload_n (n := 65) 36 rfl rfl rfl 2 rfl <| E_iconst (v := 1) (n := 66) 37 rfl rfl icz_1 <| E_iadd (n := 67) 38 rfl rfl <| E_iald (n := 68) 39 rfl rfl sh_2 hc2 <| E_dN2r (n := 71) 40 rfl rfl co_7_33 rfl rfl (K_OH_isPoint m (gI m 2 (ixn x2)) (gI m 2 (ixn (x2 + 1))) _ rfl) <| E_if_eq (n := 74) (t := 86) 41 rfl rfl rfl (fun hc => ?_) (fun hc => ?_)
        · have h := ifp h hc
          refine E_iconst (v := 0) (n := 87) 50 rfl rfl icz_0 <| E_zreturn 51 rfl rfl z0 (eS h)
        · have h := ifn h hc
          obtain ⟨hc3, h⟩ := ift h
          refine E_aload_n (n := 75) 42 rfl rfl rfl 1 rfl <| E_gF (r := 2) (n := 78) 43 rfl rfl fg_7_30 sh_1 rfl <| E_iload_n (n := 79) 44 rfl rfl rfl 2 rfl <| E_iconst (v := 2) (n := 80) 45 rfl rfl icz_2 <| E_iadd (n := 81) 46 rfl rfl <| E_iald (n := 82) 47 rfl rfl sh_2 hc3 <| E_iconst (v := 1) (n := 83) 48 rfl rfl icz_1 <| E_icmp_le (n := 86) (t := 88) 49 rfl rfl rfl (fun hc => ?_) (fun hc => ?_)
          · have h := ifp h hc
            obtain ⟨hc4, h⟩ := ift h
            obtain ⟨m5, hm5, h⟩ := letM_ex h
            obtain ⟨hc6, h⟩ := ift h
            obtain ⟨m7, hm7, h⟩ := letM_ex h
            obtain ⟨hc8, h⟩ := ift h
            obtain ⟨m9, hm9, h⟩ := letM_ex h
            obtain ⟨m10, hm10, h⟩ := letM_ex h
            refine E_aload_n (n := 89) 52 rfl rfl rfl 0 rfl <| E_gF (r := 37) (n := 92) 53 rfl rfl fg_7_11 sh_36 rfl <| E_aload_n (n := 93) 54 rfl rfl rfl 0 rfl <| E_gI (n := 96) 55 rfl rfl fg_7_21 sh_36 <| E_aload_n (n := 97) 56 rfl rfl rfl 1 rfl <| E_gF (r := 2) (n := 100) 57 rfl rfl fg_7_30 sh_1 rfl <| E_iload_n (n := 101) 58 rfl rfl rfl 2 rfl <| E_iald (n := 102) 59 rfl rfl sh_2 hc1 <| E_iast (n := 103) 60 rfl rfl sh_37 hc4 <| E_mem hm5 <| E_aload_n (n := 104) 61 rfl rfl rfl 0 rfl <| E_gF (r := 38) (n := 107) 62 rfl rfl fg_7_15 sh_36 rfl <| E_aload_n (n := 108) 63 rfl rfl rfl 0 rfl <| E_gI (n := 111) 64 rfl rfl fg_7_21 sh_36 <| E_aload_n (n := 112) 65 rfl rfl rfl 1 rfl <| E_gF (r := 2) (n := 115) 66 rfl rfl fg_7_30 sh_1 rfl <| E_iload_n (n := 116) 67 rfl rfl rfl 2 rfl <| E_iconst (v := 1) (n := 117) 68 rfl rfl icz_1 <| E_iadd (n := 118) 69 rfl rfl <| E_iald (n := 119) 70 rfl rfl sh_2 hc2 <| E_iast (n := 120) 71 rfl rfl sh_38 hc6 <| E_mem hm7 <| E_aload_n (n := 121) 72 rfl rfl rfl 0 rfl <| E_gF (r := 39) (n := 124) 73 rfl rfl fg_7_18 sh_36 rfl <| E_aload_n (n := 125) 74 rfl rfl rfl 0 rfl <| E_gI (n := 128) 75 rfl rfl fg_7_21 sh_36 <| E_aload_n (n := 129) 76 rfl rfl rfl 1 rfl <| E_gF (r := 2) (n := 132) 77 rfl rfl fg_7_30 sh_1 rfl <| E_iload_n (n := 133) 78 rfl rfl rfl 2 rfl <| E_iconst (v := 2) (n := 134) 79 rfl rfl icz_2 <| E_iadd (n := 135) 80 rfl rfl <| E_iald (n := 136) 81 rfl rfl sh_2 hc3 <| E_iast (n := 137) 82 rfl rfl sh_39 hc8 <| E_mem hm9 <| E_aload_n (n := 138) 83 rfl rfl rfl 0 rfl <| E_dup (n := 139) 84 rfl rfl rfl <| E_gI (n := 142) 85 rfl rfl fg_7_21 sh_36 <| E_iconst (v := 1) (n := 143) 86 rfl rfl icz_1 <| E_iadd (n := 144) 87 rfl rfl <| E_pI (n := 147) 88 rfl rfl fp_7_21 sh_36 <| E_mem hm10 <| E_iinc (v := (x2 + 3)) (lv' := [(0, .ref 36), (1, .ref 1), (2, .int (x2 + 3))]) (n := 150) 89 rfl rfl 2 rfl (by rw [icz_3]) (Nat.le_of_ble_eq_true rfl) [1, 2, 0] rfl <| E_goto (t := 35) 90 rfl rfl <| ?_
            exact ih m10 (x2 + 3) h
          · have h := ifn h hc
            refine E_iconst (v := 0) (n := 87) 50 rfl rfl icz_0 <| E_zreturn 51 rfl rfl z0 (eS h)
theorem K_PT_take (m : Mem) (R : Int32 × Mem) (h : PT_take m = some R) : Mt M_PT_take [.ref 36, .ref 1] m (qI R.1 R.2) := by
  refine Mt.of G_PT_take (Nat.le_of_ble_eq_true rfl) (E_sub (lv' := [(0, .ref 36), (1, .ref 1)]) [0, 1] rfl ?_)
  unfold PT_take at h
  obtain ⟨m1, hm1, h⟩ := letM_ex h
  refine E_aload_n (n := 1) 0 rfl rfl rfl 0 rfl <| E_iconst (v := 0) (n := 2) 1 rfl rfl icz_0 <| E_pI (n := 5) 2 rfl rfl fp_7_21 sh_36 <| E_mem hm1 <| E_aload_n (n := 6) 3 rfl rfl rfl 1 rfl <| E_gI (n := 9) 4 rfl rfl fg_7_25 sh_1 <| E_iconst (v := 3) (n := 10) 5 rfl rfl icz_3 <| E_icmp_lt (n := 13) (t := 31) 6 rfl rfl rfl (fun hc => ?_) (fun hc => ?_)
  · have h := ifp h hc
    refine E_iconst (v := 0) (n := 32) 16 rfl rfl icz_0 <| E_zreturn 17 rfl rfl z0 (eS h)
  · have h := ifn h hc
    refine E_aload_n (n := 14) 7 rfl rfl rfl 1 rfl <| E_gI (n := 17) 8 rfl rfl fg_7_25 sh_1 <| E_bipush (v := 24) (n := 19) 9 rfl rfl bpz_24 <| E_icmp_gt (n := 22) (t := 31) 10 rfl rfl rfl (fun hc => ?_) (fun hc => ?_)
    · have h := ifp h hc
      refine E_iconst (v := 0) (n := 32) 16 rfl rfl icz_0 <| E_zreturn 17 rfl rfl z0 (eS h)
    · have h := ifn h hc
      refine E_aload_n (n := 23) 11 rfl rfl rfl 1 rfl <| E_gI (n := 26) 12 rfl rfl fg_7_25 sh_1 <| E_iconst (v := 3) (n := 27) 13 rfl rfl icz_3 <| E_irm (n := 28) 14 rfl rfl (by decide) <| E_if_eq (n := 31) (t := 33) 15 rfl rfl rfl (fun hc => ?_) (fun hc => ?_)
      · have h := ifp h hc
        refine E_iconst (v := 0) (n := 34) 18 rfl rfl icz_0 <| E_istore_n (lv' := [(0, .ref 36), (1, .ref 1), (2, .int 0)]) (n := 35) 19 rfl rfl rfl (Nat.le_of_ble_eq_true rfl) [1, 2, 0] rfl <| ?_
        refine PT_take_L35_ok _ R ?_ FU m1 0 h
        intro m2 h
        refine E_iconst (v := 1) (n := 154) 91 rfl rfl icz_1 <| E_zreturn 92 rfl rfl z1 (eS h)
      · have h := ifn h hc
        refine E_iconst (v := 0) (n := 32) 16 rfl rfl icz_0 <| E_zreturn 17 rfl rfl z0 (eS h)
theorem PT_roundsBy_L6_ok (m : Mem) (x1 : Int32) (x2 : Int32) (x3 : Int32) (x4 : Int32) (kx : Int64 → Option Int64) (R : Int64) (hx : ∀ (x5 : Int64), kx x5 = some R → E M_PT_roundsBy 67 [(5, .long x5)] [] m (qL R m)) : ∀ (n : Nat) (x5 : Int64) (x7 : Int32), PT_roundsBy_L6 m x1 x2 x3 x4 kx n x5 x7 = some R → E M_PT_roundsBy 6 [(0, .ref 36), (1, .int x1), (2, .int x2), (3, .int x3), (4, .int x4), (5, .long x5), (7, .int x7)] [] m (qL R m) := by
  intro n
  induction n with
  | zero =>
    intro x5 x7 h
    exact absurd (show none = some R from h) (fun e => Option.some_ne_none R e.symm)
  | succ n ih =>
    intro x5 x7 h
    rw [PT_roundsBy_L6] at h
    refine E_iload (n := 8) 4 rfl rfl 6 rfl <| E_aload_n (n := 9) 5 rfl rfl rfl 0 rfl <| E_gI (n := 12) 6 rfl rfl fg_7_21 sh_36 <| E_icmp_ge (n := 15) (t := 67) 7 rfl rfl rfl (fun hc => ?_) (fun hc => ?_)
    · have h := ifp h hc
      refine E_sub (lv' := [(5, .long x5)]) [5] rfl ?_
      exact hx x5 h
    · have h := ifn h hc
      obtain ⟨hc1, h⟩ := ift h
      obtain ⟨v2, hv2, h⟩ := letV_ex h
      refine E_iload_n (n := 16) 8 rfl rfl rfl 1 rfl <| E_iload_n (n := 17) 9 rfl rfl rfl 2 rfl <| E_iload_n (n := 18) 10 rfl rfl rfl 3 rfl <| E_iload (n := 20) 11 rfl rfl 4 rfl <| E_aload_n (n := 21) 12 rfl rfl rfl 0 rfl <| E_gF (r := 37) (n := 24) 13 rfl rfl fg_7_11 sh_36 rfl <| E_iload (n := 26) 14 rfl rfl 6 rfl <| E_iald (n := 27) 15 rfl rfl sh_37 hc1 <| E_aload_n (n := 28) 16 rfl rfl rfl 0 rfl <| E_gF (r := 38) (n := 31) 17 rfl rfl fg_7_15 sh_36 rfl <| E_iload (n := 33) 18 rfl rfl 6 rfl <| E_iald (n := 34) 19 rfl rfl sh_38 hc1 <| E_dN6r (n := 37) 20 rfl rfl co_7_37 rfl rfl (K_OH_passes m x1 x2 x3 x4 (gI m 37 (ixn x7)) (gI m 38 (ixn x7)) _ rfl) <| E_top hv2 <| E_istore (lv' := [(0, .ref 36), (1, .int x1), (2, .int x2), (3, .int x3), (4, .int x4), (5, .long x5), (7, .int x7), (8, .int v2)]) (n := 39) 21 rfl rfl (Nat.le_of_ble_eq_true rfl) [1, 2, 3, 4, 5, 6, 7, 0] rfl <| E_iload (n := 41) 22 rfl rfl 7 rfl <| E_sipush (v := 1000) (n := 44) 23 rfl rfl spz_1000 <| E_icmp_eq (n := 47) (t := 61) 24 rfl rfl rfl (fun hc => ?_) (fun hc => ?_)
      · have h := ifp h hc
        refine E_iinc (v := (x7 + 1)) (lv' := [(0, .ref 36), (1, .int x1), (2, .int x2), (3, .int x3), (4, .int x4), (5, .long x5), (7, .int (x7 + 1)), (8, .int v2)]) (n := 64) 34 rfl rfl 6 rfl (by rw [icz_1]) (Nat.le_of_ble_eq_true rfl) [1, 2, 3, 4, 5, 6, 0, 7] rfl <| E_goto (t := 6) 35 rfl rfl <| ?_
        refine E_sub (lv' := [(0, .ref 36), (1, .int x1), (2, .int x2), (3, .int x3), (4, .int x4), (5, .long x5), (7, .int (x7 + 1))]) [0, 1, 2, 3, 4, 5, 6] rfl ?_
        exact ih x5 (x7 + 1) h
      · have h := ifn h hc
        obtain ⟨w3, hw3, h⟩ := letL_ex h
        refine E_lload (n := 49) 25 rfl rfl 5 rfl <| E_iload (n := 51) 26 rfl rfl 7 rfl <| E_i2l (n := 52) 27 rfl rfl <| E_bipush (v := 8) (n := 54) 28 rfl rfl bpz_8 <| E_iload (n := 56) 29 rfl rfl 6 rfl <| E_imul (n := 57) 30 rfl rfl <| E_jlshl (n := 58) 31 rfl rfl <| E_ladd (n := 59) 32 rfl rfl <| E_topl hw3 <| E_lstore (lv' := [(0, .ref 36), (1, .int x1), (2, .int x2), (3, .int x3), (4, .int x4), (5, .long w3), (7, .int x7), (8, .int v2)]) (n := 61) 33 rfl rfl (Nat.le_of_ble_eq_true rfl) [1, 2, 3, 4, 5, 0, 6, 7] rfl <| ?_
        refine E_iinc (v := (x7 + 1)) (lv' := [(0, .ref 36), (1, .int x1), (2, .int x2), (3, .int x3), (4, .int x4), (5, .long w3), (7, .int (x7 + 1)), (8, .int v2)]) (n := 64) 34 rfl rfl 6 rfl (by rw [icz_1]) (Nat.le_of_ble_eq_true rfl) [1, 2, 3, 4, 5, 6, 0, 7] rfl <| E_goto (t := 6) 35 rfl rfl <| ?_
        refine E_sub (lv' := [(0, .ref 36), (1, .int x1), (2, .int x2), (3, .int x3), (4, .int x4), (5, .long w3), (7, .int (x7 + 1))]) [0, 1, 2, 3, 4, 5, 6] rfl ?_
        exact ih w3 (x7 + 1) h
theorem K_PT_roundsBy (m : Mem) (x1 : Int32) (x2 : Int32) (x3 : Int32) (x4 : Int32) (R : Int64) (h : PT_roundsBy m x1 x2 x3 x4 = some R) : Mt M_PT_roundsBy [.ref 36, .int x1, .int x2, .int x3, .int x4] m (qL R m) := by
  refine Mt.of G_PT_roundsBy (Nat.le_of_ble_eq_true rfl) (E_sub (lv' := [(0, .ref 36), (1, .int x1), (2, .int x2), (3, .int x3), (4, .int x4)]) [0, 1, 2, 3, 4] rfl ?_)
  unfold PT_roundsBy at h
  refine E_lconst (v := 0) (n := 1) 0 rfl rfl (by decide) <| E_lstore (lv' := [(0, .ref 36), (1, .int x1), (2, .int x2), (3, .int x3), (4, .int x4), (5, .long 0)]) (n := 3) 1 rfl rfl (Nat.le_of_ble_eq_true rfl) [1, 2, 3, 4, 5, 0] rfl <| E_iconst (v := 0) (n := 4) 2 rfl rfl icz_0 <| E_istore (lv' := [(0, .ref 36), (1, .int x1), (2, .int x2), (3, .int x3), (4, .int x4), (5, .long 0), (7, .int 0)]) (n := 6) 3 rfl rfl (Nat.le_of_ble_eq_true rfl) [1, 2, 3, 4, 5, 6, 0] rfl <| ?_
  refine PT_roundsBy_L6_ok m x1 x2 x3 x4 _ R ?_ FU 0 0 h
  intro y1 h
  refine E_lload (n := 69) 36 rfl rfl 0 rfl <| E_lreturn 37 rfl rfl (ePL h)
theorem PT_onBy_L6_ok (m : Mem) (x1 : Int32) (x2 : Int32) (x3 : Int32) (x4 : Int32) (kx : Int32 → Option Int32) (R : Int32) (hx : ∀ (x5 : Int32), kx x5 = some R → E M_PT_onBy 58 [(5, .int x5)] [] m (qI R m)) : ∀ (n : Nat) (x5 : Int32) (x6 : Int32), PT_onBy_L6 m x1 x2 x3 x4 kx n x5 x6 = some R → E M_PT_onBy 6 [(0, .ref 36), (1, .int x1), (2, .int x2), (3, .int x3), (4, .int x4), (5, .int x5), (6, .int x6)] [] m (qI R m) := by
  intro n
  induction n with
  | zero =>
    intro x5 x6 h
    exact absurd (show none = some R from h) (fun e => Option.some_ne_none R e.symm)
  | succ n ih =>
    intro x5 x6 h
    rw [PT_onBy_L6] at h
    refine E_iload (n := 8) 4 rfl rfl 6 rfl <| E_aload_n (n := 9) 5 rfl rfl rfl 0 rfl <| E_gI (n := 12) 6 rfl rfl fg_7_21 sh_36 <| E_icmp_ge (n := 15) (t := 58) 7 rfl rfl rfl (fun hc => ?_) (fun hc => ?_)
    · have h := ifp h hc
      refine E_sub (lv' := [(5, .int x5)]) [5] rfl ?_
      exact hx x5 h
    · have h := ifn h hc
      obtain ⟨hc1, h⟩ := ift h
      refine E_iload_n (n := 16) 8 rfl rfl rfl 1 rfl <| E_iload_n (n := 17) 9 rfl rfl rfl 2 rfl <| E_iload_n (n := 18) 10 rfl rfl rfl 3 rfl <| E_iload (n := 20) 11 rfl rfl 4 rfl <| E_aload_n (n := 21) 12 rfl rfl rfl 0 rfl <| E_gF (r := 37) (n := 24) 13 rfl rfl fg_7_11 sh_36 rfl <| E_iload (n := 26) 14 rfl rfl 6 rfl <| E_iald (n := 27) 15 rfl rfl sh_37 hc1 <| E_aload_n (n := 28) 16 rfl rfl rfl 0 rfl <| E_gF (r := 38) (n := 31) 17 rfl rfl fg_7_15 sh_36 rfl <| E_iload (n := 33) 18 rfl rfl 6 rfl <| E_iald (n := 34) 19 rfl rfl sh_38 hc1 <| E_dN6r (n := 37) 20 rfl rfl co_7_37 rfl rfl (K_OH_passes m x1 x2 x3 x4 (gI m 37 (ixn x6)) (gI m 38 (ixn x6)) _ rfl) <| E_sipush (v := 1000) (n := 40) 21 rfl rfl spz_1000 <| E_icmp_ne (n := 43) (t := 52) 22 rfl rfl rfl (fun hc => ?_) (fun hc => ?_)
      · have h := ifn h hc
        refine E_iinc (v := (x6 + 1)) (lv' := [(0, .ref 36), (1, .int x1), (2, .int x2), (3, .int x3), (4, .int x4), (5, .int x5), (6, .int (x6 + 1))]) (n := 55) 29 rfl rfl 6 rfl (by rw [icz_1]) (Nat.le_of_ble_eq_true rfl) [1, 2, 3, 4, 5, 6, 0] rfl <| E_goto (t := 6) 30 rfl rfl <| ?_
        exact ih x5 (x6 + 1) h
      · have h := ifp h hc
        obtain ⟨v2, hv2, h⟩ := letV_ex h
        refine E_iload (n := 45) 23 rfl rfl 5 rfl <| E_iconst (v := 1) (n := 46) 24 rfl rfl icz_1 <| E_iload (n := 48) 25 rfl rfl 6 rfl <| E_jshl (n := 49) 26 rfl rfl <| E_ior (n := 50) 27 rfl rfl <| E_top hv2 <| E_istore (lv' := [(0, .ref 36), (1, .int x1), (2, .int x2), (3, .int x3), (4, .int x4), (5, .int v2), (6, .int x6)]) (n := 52) 28 rfl rfl (Nat.le_of_ble_eq_true rfl) [1, 2, 3, 4, 5, 0, 6] rfl <| ?_
        refine E_iinc (v := (x6 + 1)) (lv' := [(0, .ref 36), (1, .int x1), (2, .int x2), (3, .int x3), (4, .int x4), (5, .int v2), (6, .int (x6 + 1))]) (n := 55) 29 rfl rfl 6 rfl (by rw [icz_1]) (Nat.le_of_ble_eq_true rfl) [1, 2, 3, 4, 5, 6, 0] rfl <| E_goto (t := 6) 30 rfl rfl <| ?_
        exact ih v2 (x6 + 1) h
theorem K_PT_onBy (m : Mem) (x1 : Int32) (x2 : Int32) (x3 : Int32) (x4 : Int32) (R : Int32) (h : PT_onBy m x1 x2 x3 x4 = some R) : Mt M_PT_onBy [.ref 36, .int x1, .int x2, .int x3, .int x4] m (qI R m) := by
  refine Mt.of G_PT_onBy (Nat.le_of_ble_eq_true rfl) (E_sub (lv' := [(0, .ref 36), (1, .int x1), (2, .int x2), (3, .int x3), (4, .int x4)]) [0, 1, 2, 3, 4] rfl ?_)
  unfold PT_onBy at h
  refine E_iconst (v := 0) (n := 1) 0 rfl rfl icz_0 <| E_istore (lv' := [(0, .ref 36), (1, .int x1), (2, .int x2), (3, .int x3), (4, .int x4), (5, .int 0)]) (n := 3) 1 rfl rfl (Nat.le_of_ble_eq_true rfl) [1, 2, 3, 4, 5, 0] rfl <| E_iconst (v := 0) (n := 4) 2 rfl rfl icz_0 <| E_istore (lv' := [(0, .ref 36), (1, .int x1), (2, .int x2), (3, .int x3), (4, .int x4), (5, .int 0), (6, .int 0)]) (n := 6) 3 rfl rfl (Nat.le_of_ble_eq_true rfl) [1, 2, 3, 4, 5, 6, 0] rfl <| ?_
  refine PT_onBy_L6_ok m x1 x2 x3 x4 _ R ?_ FU 0 0 h
  intro y1 h
  refine E_iload (n := 60) 31 rfl rfl 0 rfl <| E_ireturn 32 rfl rfl (eP h)
theorem NI_seeEdges_L2_ok (kx : Mem → Option Mem) (R : Mem) (hx : ∀ (m : Mem), kx m = some R → E M_NI_seeEdges 132 [] [] m (qV R)) : ∀ (n : Nat) (m : Mem) (x1 : Int32), NI_seeEdges_L2 kx n m x1 = some R → E M_NI_seeEdges 2 [(0, .ref 40), (1, .int x1)] [] m (qV R) := by
  intro n
  induction n with
  | zero =>
    intro m x1 h
    exact absurd (show none = some R from h) (fun e => Option.some_ne_none R e.symm)
  | succ n ih =>
    intro m x1 h
    rw [NI_seeEdges_L2] at h
    refine E_iload_n (n := 3) 2 rfl rfl rfl 1 rfl <| E_aload_n (n := 4) 3 rfl rfl rfl 0 rfl <| E_gF (r := 42) (n := 7) 4 rfl rfl fg_3_22 sh_40 rfl <| E_gI (n := 10) 5 rfl rfl fg_3_97 sh_42 <| E_icmp_ge (n := 13) (t := 132) 6 rfl rfl rfl (fun hc => ?_) (fun hc => ?_)
    · have h := ifp h hc
      refine E_sub (lv' := []) [] rfl ?_
      exact hx m h
    · have h := ifn h hc
      obtain ⟨v1, hv1, h⟩ := letV_ex h
      obtain ⟨hc2, h⟩ := ift h
      obtain ⟨hc3, h⟩ := ift h
      obtain ⟨v4, hq5, h⟩ := bL_ex h
      obtain ⟨m6, hm6, h⟩ := letM_ex h
      obtain ⟨v7, hq8, h⟩ := bI_ex h
      obtain ⟨m9, hm9, h⟩ := letM_ex h
      refine E_aload_n (n := 14) 7 rfl rfl rfl 0 rfl <| E_gF (r := 42) (n := 17) 8 rfl rfl fg_3_22 sh_40 rfl <| E_iload_n (n := 18) 9 rfl rfl rfl 1 rfl <| E_cV1r (n := 21) 10 rfl rfl co_3_115 rfl sh_42 rfl (K_LN_after m 42 x1 sh_42 _ rfl) <| E_top hv1 <| E_istore_n (lv' := [(0, .ref 40), (1, .int x1), (2, .int v1)]) (n := 22) 11 rfl rfl rfl (Nat.le_of_ble_eq_true rfl) [1, 2, 0] rfl <| E_aload_n (n := 23) 12 rfl rfl rfl 0 rfl <| E_gF (r := 45) (n := 26) 13 rfl rfl fg_3_31 sh_40 rfl <| E_gF (r := 46) (n := 29) 14 rfl rfl fg_3_118 sh_45 rfl <| E_iload_n (n := 30) 15 rfl rfl rfl 1 rfl <| E_aload_n (n := 31) 16 rfl rfl rfl 0 rfl <| E_gA (n := 34) 17 rfl rfl fg_3_62 sh_40 <| E_aload_n (n := 35) 18 rfl rfl rfl 0 rfl <| E_gF (r := 42) (n := 38) 19 rfl rfl fg_3_22 sh_40 rfl <| E_gF (r := 43) (n := 41) 20 rfl rfl fg_3_122 sh_42 rfl <| E_iload_n (n := 42) 21 rfl rfl rfl 1 rfl <| E_iald (n := 43) 22 rfl rfl sh_43 hc2 <| E_aload_n (n := 44) 23 rfl rfl rfl 0 rfl <| E_gF (r := 42) (n := 47) 24 rfl rfl fg_3_22 sh_40 rfl <| E_gF (r := 44) (n := 50) 25 rfl rfl fg_3_125 sh_42 rfl <| E_iload_n (n := 51) 26 rfl rfl rfl 1 rfl <| E_iald (n := 52) 27 rfl rfl sh_44 hc2 <| E_aload_n (n := 53) 28 rfl rfl rfl 0 rfl <| E_gF (r := 42) (n := 56) 29 rfl rfl fg_3_22 sh_40 rfl <| E_gF (r := 43) (n := 59) 30 rfl rfl fg_3_122 sh_42 rfl <| E_iload_n (n := 60) 31 rfl rfl rfl 2 rfl <| E_iald (n := 61) 32 rfl rfl sh_43 hc3 <| E_aload_n (n := 62) 33 rfl rfl rfl 0 rfl <| E_gF (r := 42) (n := 65) 34 rfl rfl fg_3_22 sh_40 rfl <| E_gF (r := 44) (n := 68) 35 rfl rfl fg_3_125 sh_42 rfl <| E_iload_n (n := 69) 36 rfl rfl rfl 2 rfl <| E_iald (n := 70) 37 rfl rfl sh_44 hc3 <| E_cV4r (n := 73) 38 rfl rfl co_3_128 rfl sh_36 rfl (K_PT_roundsBy m (gI m 43 (ixn x1)) (gI m 44 (ixn x1)) (gI m 43 (ixn v1)) (gI m 44 (ixn v1)) _ hq5) <| E_last (n := 74) 39 rfl rfl sh_46 hc2 <| E_mem hm6 <| E_aload_n (n := 75) 40 rfl rfl rfl 0 rfl <| E_gF (r := 45) (n := 78) 41 rfl rfl fg_3_31 sh_40 rfl <| E_gF (r := 47) (n := 81) 42 rfl rfl fg_3_132 sh_45 rfl <| E_iload_n (n := 82) 43 rfl rfl rfl 1 rfl <| E_aload_n (n := 83) 44 rfl rfl rfl 0 rfl <| E_gA (n := 86) 45 rfl rfl fg_3_62 sh_40 <| E_aload_n (n := 87) 46 rfl rfl rfl 0 rfl <| E_gF (r := 42) (n := 90) 47 rfl rfl fg_3_22 sh_40 rfl <| E_gF (r := 43) (n := 93) 48 rfl rfl fg_3_122 sh_42 rfl <| E_iload_n (n := 94) 49 rfl rfl rfl 1 rfl <| E_iald (n := 95) 50 rfl rfl sh_43 hc2 <| E_aload_n (n := 96) 51 rfl rfl rfl 0 rfl <| E_gF (r := 42) (n := 99) 52 rfl rfl fg_3_22 sh_40 rfl <| E_gF (r := 44) (n := 102) 53 rfl rfl fg_3_125 sh_42 rfl <| E_iload_n (n := 103) 54 rfl rfl rfl 1 rfl <| E_iald (n := 104) 55 rfl rfl sh_44 hc2 <| E_aload_n (n := 105) 56 rfl rfl rfl 0 rfl <| E_gF (r := 42) (n := 108) 57 rfl rfl fg_3_22 sh_40 rfl <| E_gF (r := 43) (n := 111) 58 rfl rfl fg_3_122 sh_42 rfl <| E_iload_n (n := 112) 59 rfl rfl rfl 2 rfl <| E_iald (n := 113) 60 rfl rfl sh_43 hc3 <| E_aload_n (n := 114) 61 rfl rfl rfl 0 rfl <| E_gF (r := 42) (n := 117) 62 rfl rfl fg_3_22 sh_40 rfl <| E_gF (r := 44) (n := 120) 63 rfl rfl fg_3_125 sh_42 rfl <| E_iload_n (n := 121) 64 rfl rfl rfl 2 rfl <| E_iald (n := 122) 65 rfl rfl sh_44 hc3 <| E_cV4r (n := 125) 66 rfl rfl co_3_135 rfl sh_36 rfl (K_PT_onBy m6 (gI m6 43 (ixn x1)) (gI m6 44 (ixn x1)) (gI m6 43 (ixn v1)) (gI m6 44 (ixn v1)) _ hq8) <| E_iast (n := 126) 67 rfl rfl sh_47 hc2 <| E_mem hm9 <| E_iinc (v := (x1 + 1)) (lv' := [(0, .ref 40), (1, .int (x1 + 1)), (2, .int v1)]) (n := 129) 68 rfl rfl 1 rfl (by rw [icz_1]) (Nat.le_of_ble_eq_true rfl) [1, 0, 2] rfl <| E_goto (t := 2) 69 rfl rfl <| ?_
      refine E_sub (lv' := [(0, .ref 40), (1, .int (x1 + 1))]) [0, 1] rfl ?_
      exact ih m9 (x1 + 1) h
theorem K_NI_seeEdges (m : Mem) (R : Mem) (h : NI_seeEdges m = some R) : Mt M_NI_seeEdges [.ref 40] m (qV R) := by
  refine Mt.of G_NI_seeEdges (Nat.le_of_ble_eq_true rfl) (E_sub (lv' := [(0, .ref 40)]) [0] rfl ?_)
  unfold NI_seeEdges at h
  refine E_iconst (v := 0) (n := 1) 0 rfl rfl icz_0 <| E_istore_n (lv' := [(0, .ref 40), (1, .int 0)]) (n := 2) 1 rfl rfl rfl (Nat.le_of_ble_eq_true rfl) [1, 0] rfl <| ?_
  refine NI_seeEdges_L2_ok _ R ?_ FU m 0 h
  intro m1 h
  refine E_return 70 rfl rfl (eV h)
theorem NI_leaveOut_L14_ok (x1 : Int32) (x2 : Int32) (kx : Mem → Option Mem) (R : Mem) (hx : ∀ (m : Mem), kx m = some R → E M_NI_leaveOut 99 [] [] m (qV R)) : ∀ (n : Nat) (m : Mem) (x3 : Int32), NI_leaveOut_L14 x1 x2 kx n m x3 = some R → E M_NI_leaveOut 14 [(0, .ref 40), (1, .int x1), (2, .int x2), (3, .int x3)] [] m (qV R) := by
  intro n
  induction n with
  | zero =>
    intro m x3 h
    exact absurd (show none = some R from h) (fun e => Option.some_ne_none R e.symm)
  | succ n ih =>
    intro m x3 h
    rw [NI_leaveOut_L14] at h
    refine E_iload_n (n := 15) 8 rfl rfl rfl 3 rfl <| E_aload_n (n := 16) 9 rfl rfl rfl 0 rfl <| E_gF (r := 42) (n := 19) 10 rfl rfl fg_3_22 sh_40 rfl <| E_gI (n := 22) 11 rfl rfl fg_3_97 sh_42 <| E_icmp_ge (n := 25) (t := 99) 12 rfl rfl rfl (fun hc => ?_) (fun hc => ?_)
    · have h := ifp h hc
      refine E_sub (lv' := []) [] rfl ?_
      exact hx m h
    · have h := ifn h hc
      obtain ⟨v1, hv1, h⟩ := letV_ex h
      refine E_aload_n (n := 26) 13 rfl rfl rfl 0 rfl <| E_gF (r := 42) (n := 29) 14 rfl rfl fg_3_22 sh_40 rfl <| E_iload_n (n := 30) 15 rfl rfl rfl 3 rfl <| E_cV1r (n := 33) 16 rfl rfl co_3_115 rfl sh_42 rfl (K_LN_after m 42 x3 sh_42 _ rfl) <| E_top hv1 <| E_istore (lv' := [(0, .ref 40), (1, .int x1), (2, .int x2), (3, .int x3), (4, .int v1)]) (n := 35) 17 rfl rfl (Nat.le_of_ble_eq_true rfl) [1, 2, 3, 4, 0] rfl <| E_iload_n (n := 36) 18 rfl rfl rfl 3 rfl <| E_iload_n (n := 37) 19 rfl rfl rfl 1 rfl <| E_icmp_eq (n := 40) (t := 93) 20 rfl rfl rfl (fun hc => ?_) (fun hc => ?_)
      · have h := ifp h hc
        refine E_iinc (v := (x3 + 1)) (lv' := [(0, .ref 40), (1, .int x1), (2, .int x2), (3, .int (x3 + 1)), (4, .int v1)]) (n := 96) 50 rfl rfl 3 rfl (by rw [icz_1]) (Nat.le_of_ble_eq_true rfl) [1, 2, 3, 0, 4] rfl <| E_goto (t := 14) 51 rfl rfl <| ?_
        refine E_sub (lv' := [(0, .ref 40), (1, .int x1), (2, .int x2), (3, .int (x3 + 1))]) [0, 1, 2, 3] rfl ?_
        exact ih m (x3 + 1) h
      · have h := ifn h hc
        refine E_iload_n (n := 41) 21 rfl rfl rfl 3 rfl <| E_iload_n (n := 42) 22 rfl rfl rfl 2 rfl <| E_icmp_eq (n := 45) (t := 93) 23 rfl rfl rfl (fun hc => ?_) (fun hc => ?_)
        · have h := ifp h hc
          refine E_iinc (v := (x3 + 1)) (lv' := [(0, .ref 40), (1, .int x1), (2, .int x2), (3, .int (x3 + 1)), (4, .int v1)]) (n := 96) 50 rfl rfl 3 rfl (by rw [icz_1]) (Nat.le_of_ble_eq_true rfl) [1, 2, 3, 0, 4] rfl <| E_goto (t := 14) 51 rfl rfl <| ?_
          refine E_sub (lv' := [(0, .ref 40), (1, .int x1), (2, .int x2), (3, .int (x3 + 1))]) [0, 1, 2, 3] rfl ?_
          exact ih m (x3 + 1) h
        · have h := ifn h hc
          refine E_iload (n := 47) 24 rfl rfl 4 rfl <| E_iload_n (n := 48) 25 rfl rfl rfl 1 rfl <| E_icmp_eq (n := 51) (t := 93) 26 rfl rfl rfl (fun hc => ?_) (fun hc => ?_)
          · have h := ifp h hc
            refine E_iinc (v := (x3 + 1)) (lv' := [(0, .ref 40), (1, .int x1), (2, .int x2), (3, .int (x3 + 1)), (4, .int v1)]) (n := 96) 50 rfl rfl 3 rfl (by rw [icz_1]) (Nat.le_of_ble_eq_true rfl) [1, 2, 3, 0, 4] rfl <| E_goto (t := 14) 51 rfl rfl <| ?_
            refine E_sub (lv' := [(0, .ref 40), (1, .int x1), (2, .int x2), (3, .int (x3 + 1))]) [0, 1, 2, 3] rfl ?_
            exact ih m (x3 + 1) h
          · have h := ifn h hc
            refine E_iload (n := 53) 27 rfl rfl 4 rfl <| E_iload_n (n := 54) 28 rfl rfl rfl 2 rfl <| E_icmp_eq (n := 57) (t := 93) 29 rfl rfl rfl (fun hc => ?_) (fun hc => ?_)
            · have h := ifp h hc
              refine E_iinc (v := (x3 + 1)) (lv' := [(0, .ref 40), (1, .int x1), (2, .int x2), (3, .int (x3 + 1)), (4, .int v1)]) (n := 96) 50 rfl rfl 3 rfl (by rw [icz_1]) (Nat.le_of_ble_eq_true rfl) [1, 2, 3, 0, 4] rfl <| E_goto (t := 14) 51 rfl rfl <| ?_
              refine E_sub (lv' := [(0, .ref 40), (1, .int x1), (2, .int x2), (3, .int (x3 + 1))]) [0, 1, 2, 3] rfl ?_
              exact ih m (x3 + 1) h
            · have h := ifn h hc
              obtain ⟨hc2, h⟩ := ift h
              obtain ⟨m3, hm3, h⟩ := letM_ex h
              obtain ⟨m4, hm4, h⟩ := letM_ex h
              refine E_aload_n (n := 58) 30 rfl rfl rfl 0 rfl <| E_dup (n := 59) 31 rfl rfl rfl <| E_gJ (n := 62) 32 rfl rfl fg_3_80 sh_40 <| E_aload_n (n := 63) 33 rfl rfl rfl 0 rfl <| E_gF (r := 45) (n := 66) 34 rfl rfl fg_3_31 sh_40 rfl <| E_gF (r := 46) (n := 69) 35 rfl rfl fg_3_118 sh_45 rfl <| E_iload_n (n := 70) 36 rfl rfl rfl 3 rfl <| E_lald (n := 71) 37 rfl rfl sh_46 hc2 <| E_ladd (n := 72) 38 rfl rfl <| E_pJ (n := 75) 39 rfl rfl fp_3_80 sh_40 <| E_mem hm3 <| E_aload_n (n := 76) 40 rfl rfl rfl 0 rfl <| E_dup (n := 77) 41 rfl rfl rfl <| E_gI (n := 80) 42 rfl rfl fg_3_84 sh_40 <| E_aload_n (n := 81) 43 rfl rfl rfl 0 rfl <| E_gF (r := 45) (n := 84) 44 rfl rfl fg_3_31 sh_40 rfl <| E_gF (r := 47) (n := 87) 45 rfl rfl fg_3_132 sh_45 rfl <| E_iload_n (n := 88) 46 rfl rfl rfl 3 rfl <| E_iald (n := 89) 47 rfl rfl sh_47 hc2 <| E_ior (n := 90) 48 rfl rfl <| E_pI (n := 93) 49 rfl rfl fp_3_84 sh_40 <| E_mem hm4 <| ?_
              refine E_iinc (v := (x3 + 1)) (lv' := [(0, .ref 40), (1, .int x1), (2, .int x2), (3, .int (x3 + 1)), (4, .int v1)]) (n := 96) 50 rfl rfl 3 rfl (by rw [icz_1]) (Nat.le_of_ble_eq_true rfl) [1, 2, 3, 0, 4] rfl <| E_goto (t := 14) 51 rfl rfl <| ?_
              refine E_sub (lv' := [(0, .ref 40), (1, .int x1), (2, .int x2), (3, .int (x3 + 1))]) [0, 1, 2, 3] rfl ?_
              exact ih m4 (x3 + 1) h
theorem K_NI_leaveOut (m : Mem) (x1 : Int32) (x2 : Int32) (R : Mem) (h : NI_leaveOut m x1 x2 = some R) : Mt M_NI_leaveOut [.ref 40, .int x1, .int x2] m (qV R) := by
  refine Mt.of G_NI_leaveOut (Nat.le_of_ble_eq_true rfl) (E_sub (lv' := [(0, .ref 40), (1, .int x1), (2, .int x2)]) [0, 1, 2] rfl ?_)
  unfold NI_leaveOut at h
  obtain ⟨m1, hm1, h⟩ := letM_ex h
  obtain ⟨m2, hm2, h⟩ := letM_ex h
  refine E_aload_n (n := 1) 0 rfl rfl rfl 0 rfl <| E_ldc2 (v := 1157442765409226768) (n := 4) 1 rfl rfl tw_1237 <| E_pJ (n := 7) 2 rfl rfl fp_3_80 sh_40 <| E_mem hm1 <| E_aload_n (n := 8) 3 rfl rfl rfl 0 rfl <| E_iconst (v := 0) (n := 9) 4 rfl rfl icz_0 <| E_pI (n := 12) 5 rfl rfl fp_3_84 sh_40 <| E_mem hm2 <| E_iconst (v := 0) (n := 13) 6 rfl rfl icz_0 <| E_istore_n (lv' := [(0, .ref 40), (1, .int x1), (2, .int x2), (3, .int 0)]) (n := 14) 7 rfl rfl rfl (Nat.le_of_ble_eq_true rfl) [1, 2, 3, 0] rfl <| ?_
  refine NI_leaveOut_L14_ok x1 x2 _ R ?_ FU m2 0 h
  intro m3 h
  refine E_return 52 rfl rfl (eV h)
theorem K_PT_roundOf (m : Mem) (x0 : Int64) (x2 : Int32) (R : Int32) (h : PT_roundOf x0 x2 = R) : Mt M_PT_roundOf [.long x0, .int x2] m (qI R m) := by
  refine Mt.of G_PT_roundOf (Nat.le_of_ble_eq_true rfl) (E_sub (lv' := [(0, .long x0), (2, .int x2)]) [0, 1] rfl ?_)
  unfold PT_roundOf at h
  refine E_lload_n (n := 1) 0 rfl rfl rfl 0 rfl <| E_bipush (v := 8) (n := 3) 1 rfl rfl bpz_8 <| E_iload_n (n := 4) 2 rfl rfl rfl 1 rfl <| E_imul (n := 5) 3 rfl rfl <| E_jlushr (n := 6) 4 rfl rfl <| E_ldc2 (v := 255) (n := 9) 5 rfl rfl tw_1245 <| E_land (n := 10) 6 rfl rfl <| E_l2i (n := 11) 7 rfl rfl <| E_bipush (v := 16) (n := 13) 8 rfl rfl bpz_16 <| E_isub (n := 14) 9 rfl rfl <| E_ireturn 10 rfl rfl (eT h)
theorem PT_fitOne_J46_ok (m : Mem) (s0 : Int32) (s1 : Int32) (R : Int32) (h : PT_fitOne_J46 m s0 s1 = some R) : E M_PT_fitOne 46 [] [.int s1, .int s0] m (qI R m) := by
  unfold PT_fitOne_J46 at h
  refine E_icmp_ne (n := 49) (t := 53) 26 rfl rfl rfl (fun hc => ?_) (fun hc => ?_)
  · have h := ifn h hc
    refine E_iconst (v := 0) (n := 54) 29 rfl rfl icz_0 <| ?_
    refine E_zreturn 30 rfl rfl z0 (eP h)
  · have h := ifp h hc
    refine E_iconst (v := 1) (n := 50) 27 rfl rfl icz_1 <| E_goto (t := 54) 28 rfl rfl <| ?_
    refine E_zreturn 30 rfl rfl z1 (eP h)
theorem K_PT_fitOne (m : Mem) (x1 : Int32) (x2 : Int32) (x3 : Int32) (R : Int32) (h : PT_fitOne m x1 x2 x3 = some R) : Mt M_PT_fitOne [.ref 36, .int x1, .int x2, .int x3] m (qI R m) := by
  refine Mt.of G_PT_fitOne (Nat.le_of_ble_eq_true rfl) (E_sub (lv' := [(0, .ref 36), (1, .int x1), (2, .int x2), (3, .int x3)]) [0, 1, 2, 3] rfl ?_)
  unfold PT_fitOne at h
  refine E_iload_n (n := 1) 0 rfl rfl rfl 3 rfl <| E_if_eq (n := 4) (t := 23) 1 rfl rfl rfl (fun hc => ?_) (fun hc => ?_)
  · have h := ifp h hc
    obtain ⟨hc1, h⟩ := ift h
    refine E_aload_n (n := 24) 13 rfl rfl rfl 0 rfl <| E_gI (n := 27) 14 rfl rfl fg_7_54 sh_36 <| E_iload_n (n := 28) 15 rfl rfl rfl 2 rfl <| E_dN2r (n := 31) 16 rfl rfl co_7_57 rfl rfl (K_OH_isHis m (gI m 36 0) x2 _ rfl) <| E_aload_n (n := 32) 17 rfl rfl rfl 0 rfl <| E_gF (r := 39) (n := 35) 18 rfl rfl fg_7_18 sh_36 rfl <| E_iload_n (n := 36) 19 rfl rfl rfl 1 rfl <| E_iald (n := 37) 20 rfl rfl sh_39 hc1 <| E_iconst (v := 1) (n := 38) 21 rfl rfl icz_1 <| E_icmp_ne (n := 41) (t := 45) 22 rfl rfl rfl (fun hc => ?_) (fun hc => ?_)
    · have h := ifn h hc
      refine E_iconst (v := 0) (n := 46) 25 rfl rfl icz_0 <| ?_
      refine E_sub (lv' := []) [] rfl ?_
      exact PT_fitOne_J46_ok m (OH_isHis (gI m 36 0) x2) 0 _ h
    · have h := ifp h hc
      refine E_iconst (v := 1) (n := 42) 23 rfl rfl icz_1 <| E_goto (t := 46) 24 rfl rfl <| ?_
      refine E_sub (lv' := []) [] rfl ?_
      exact PT_fitOne_J46_ok m (OH_isHis (gI m 36 0) x2) 1 _ h
  · have h := ifn h hc
    obtain ⟨hc2, h⟩ := ift h
    refine E_aload_n (n := 5) 2 rfl rfl rfl 0 rfl <| E_gF (r := 39) (n := 8) 3 rfl rfl fg_7_18 sh_36 rfl <| E_iload_n (n := 9) 4 rfl rfl rfl 1 rfl <| E_iald (n := 10) 5 rfl rfl sh_39 hc2 <| E_aload_n (n := 11) 6 rfl rfl rfl 0 rfl <| E_gI (n := 14) 7 rfl rfl fg_7_51 sh_36 <| E_icmp_ne (n := 17) (t := 21) 8 rfl rfl rfl (fun hc => ?_) (fun hc => ?_)
    · have h := ifn h hc
      refine E_iconst (v := 0) (n := 22) 11 rfl rfl icz_0 <| ?_
      refine E_zreturn 12 rfl rfl z0 (eP h)
    · have h := ifp h hc
      refine E_iconst (v := 1) (n := 18) 9 rfl rfl icz_1 <| E_goto (t := 22) 10 rfl rfl <| ?_
      refine E_zreturn 12 rfl rfl z1 (eP h)
theorem PT_fit_J35_ok (kr : Int32 → Option Int32) (kx : Option Int32) (m : Mem) (x1 : Int64) (x3 : Int32) (x4 : Int32) (s1 : Int32) (s2 : Int32) (s3 : Int32) (R : Int32) (hr : ∀ (x4 : Int32), kr x4 = some R → E M_PT_fit 3 [(0, .ref 36), (1, .long x1), (3, .int x3), (4, .int x4)] [] m (qI R m)) (hx : kx = some R → E M_PT_fit 49 [] [] m (qI R m)) (h : PT_fit_J35 kr kx m x1 x3 x4 s1 s2 s3 = some R) : E M_PT_fit 35 [(0, .ref 36), (1, .long x1), (3, .int x3), (4, .int x4)] [.int s3, .int s2, .int s1, .ref 36] m (qI R m) := by
  unfold PT_fit_J35 at h
  obtain ⟨v1, hq2, h⟩ := bI_ex h
  refine E_cV3r (n := 38) 20 rfl rfl co_7_45 rfl sh_36 rfl (K_PT_fitOne m s1 s2 s3 _ hq2) <| E_if_ne (n := 41) (t := 43) 21 rfl rfl rfl (fun hc => ?_) (fun hc => ?_)
  · have h := ifn h hc
    refine E_iinc (v := (x4 + 1)) (lv' := [(0, .ref 36), (1, .long x1), (3, .int x3), (4, .int (x4 + 1))]) (n := 46) 24 rfl rfl 3 rfl (by rw [icz_1]) (Nat.le_of_ble_eq_true rfl) [1, 2, 3, 0] rfl <| E_goto (t := 3) 25 rfl rfl <| ?_
    exact hr (x4 + 1) h
  · have h := ifp h hc
    refine E_iconst (v := 0) (n := 42) 22 rfl rfl icz_0 <| E_zreturn 23 rfl rfl z0 (eP h)
theorem PT_fit_L3_ok (m : Mem) (x1 : Int64) (x3 : Int32) (kx : Option Int32) (R : Int32) (hx : kx = some R → E M_PT_fit 49 [] [] m (qI R m)) : ∀ (n : Nat) (x4 : Int32), PT_fit_L3 m x1 x3 kx n x4 = some R → E M_PT_fit 3 [(0, .ref 36), (1, .long x1), (3, .int x3), (4, .int x4)] [] m (qI R m) := by
  intro n
  induction n with
  | zero =>
    intro x4 h
    exact absurd (show none = some R from h) (fun e => Option.some_ne_none R e.symm)
  | succ n ih =>
    intro x4 h
    rw [PT_fit_L3] at h
    refine E_iload (n := 5) 2 rfl rfl 3 rfl <| E_aload_n (n := 6) 3 rfl rfl rfl 0 rfl <| E_gI (n := 9) 4 rfl rfl fg_7_21 sh_36 <| E_icmp_ge (n := 12) (t := 49) 5 rfl rfl rfl (fun hc => ?_) (fun hc => ?_)
    · have h := ifp h hc
      refine E_sub (lv' := []) [] rfl ?_
      exact hx h
    · have h := ifn h hc
      refine E_aload_n (n := 13) 6 rfl rfl rfl 0 rfl <| E_iload (n := 15) 7 rfl rfl 3 rfl <| E_lload_n (n := 16) 8 rfl rfl rfl 1 rfl <| E_iload (n := 18) 9 rfl rfl 3 rfl <| E_dS2r (n := 21) 10 rfl rfl co_7_41 rfl rfl (K_PT_roundOf m x1 x4 _ rfl) <| E_iload_n (n := 22) 11 rfl rfl rfl 2 rfl <| E_iload (n := 24) 12 rfl rfl 3 rfl <| E_jshr (n := 25) 13 rfl rfl <| E_iconst (v := 1) (n := 26) 14 rfl rfl icz_1 <| E_iand (n := 27) 15 rfl rfl <| E_if_eq (n := 30) (t := 34) 16 rfl rfl rfl (fun hc => ?_) (fun hc => ?_)
      · have h := ifp h hc
        refine E_iconst (v := 0) (n := 35) 19 rfl rfl icz_0 <| ?_
        exact PT_fit_J35_ok _ _ m x1 x3 x4 x4 (PT_roundOf x1 x4) 0 _ ih hx h
      · have h := ifn h hc
        refine E_iconst (v := 1) (n := 31) 17 rfl rfl icz_1 <| E_goto (t := 35) 18 rfl rfl <| ?_
        exact PT_fit_J35_ok _ _ m x1 x3 x4 x4 (PT_roundOf x1 x4) 1 _ ih hx h
theorem K_PT_fit (m : Mem) (x1 : Int64) (x3 : Int32) (R : Int32) (h : PT_fit m x1 x3 = some R) : Mt M_PT_fit [.ref 36, .long x1, .int x3] m (qI R m) := by
  refine Mt.of G_PT_fit (Nat.le_of_ble_eq_true rfl) (E_sub (lv' := [(0, .ref 36), (1, .long x1), (3, .int x3)]) [0, 1, 2] rfl ?_)
  unfold PT_fit at h
  refine E_iconst (v := 0) (n := 1) 0 rfl rfl icz_0 <| E_istore (lv' := [(0, .ref 36), (1, .long x1), (3, .int x3), (4, .int 0)]) (n := 3) 1 rfl rfl (Nat.le_of_ble_eq_true rfl) [1, 2, 3, 0] rfl <| ?_
  refine PT_fit_L3_ok m x1 x3 _ R ?_ FU 0 h
  intro h
  refine E_iconst (v := 1) (n := 50) 26 rfl rfl icz_1 <| E_zreturn 27 rfl rfl z1 (eP h)
theorem K_NI_conclude (m : Mem) (x1 : Int32) (R : Int32 × Mem) (h : NI_conclude m x1 = some R) : Mt M_NI_conclude [.ref 40, .int x1] m (qI R.1 R.2) := by
  refine Mt.of G_NI_conclude (Nat.le_of_ble_eq_true rfl) (E_sub (lv' := [(0, .ref 40), (1, .int x1)]) [0, 1] rfl ?_)
  unfold NI_conclude at h
  obtain ⟨m1, hm1, h⟩ := letM_ex h
  obtain ⟨m2, hm2, h⟩ := letM_ex h
  refine E_aload_n (n := 1) 0 rfl rfl rfl 0 rfl <| E_iload_n (n := 2) 1 rfl rfl rfl 1 rfl <| E_pI (n := 5) 2 rfl rfl fp_3_112 sh_40 <| E_mem hm1 <| E_aload_n (n := 6) 3 rfl rfl rfl 0 rfl <| E_aload_n (n := 7) 4 rfl rfl rfl 0 rfl <| E_gI (n := 10) 5 rfl rfl fg_3_73 sh_40 <| E_pI (n := 13) 6 rfl rfl fp_3_9 sh_40 <| E_mem hm2 <| E_iload_n (n := 14) 7 rfl rfl rfl 1 rfl <| E_ireturn 8 rfl rfl (eS h)
set_option maxRecDepth 10000 in
theorem K_NI_seePlace (m : Mem) (x1 : Int32) (x2 : Int32) (x3 : Int32) (R : Mem) (h : NI_seePlace m x1 x2 x3 = some R) : Mt M_NI_seePlace [.ref 40, .int x1, .int x2, .int x3] m (qV R) := by
  refine Mt.of G_NI_seePlace (Nat.le_of_ble_eq_true rfl) (E_sub (lv' := [(0, .ref 40), (1, .int x1), (2, .int x2), (3, .int x3)]) [0, 1, 2, 3] rfl ?_)
  unfold NI_seePlace at h
  obtain ⟨hc1, h⟩ := ift h
  obtain ⟨v2, hv2, h⟩ := letV_ex h
  obtain ⟨v3, hv3, h⟩ := letV_ex h
  obtain ⟨v4, hv4, h⟩ := letV_ex h
  obtain ⟨hc5, h⟩ := ift h
  obtain ⟨m6, hm6, h⟩ := letM_ex h
  obtain ⟨m7, hm7, h⟩ := letM_ex h
  obtain ⟨hc8, h⟩ := ift h
  obtain ⟨v9, hq10, h⟩ := bL_ex h
  obtain ⟨m11, hm11, h⟩ := letM_ex h
  obtain ⟨v12, hq13, h⟩ := bI_ex h
  obtain ⟨m14, hm14, h⟩ := letM_ex h
  obtain ⟨hc15, h⟩ := ift h
  obtain ⟨v16, hq17, h⟩ := bL_ex h
  obtain ⟨m18, hm18, h⟩ := letM_ex h
  obtain ⟨v19, hq20, h⟩ := bI_ex h
  obtain ⟨m21, hm21, h⟩ := letM_ex h
  obtain ⟨m22, hm22, h⟩ := letM_ex h
  refine E_iload_n (n := 1) 0 rfl rfl rfl 1 rfl <| E_bipush (v := 48) (n := 3) 1 rfl rfl bpz_48 <| E_imul (n := 4) 2 rfl rfl <| E_aload_n (n := 5) 3 rfl rfl rfl 0 rfl <| E_gF (r := 48) (n := 8) 4 rfl rfl fg_3_35 sh_40 rfl <| E_iload_n (n := 9) 5 rfl rfl rfl 1 rfl <| E_iald (n := 10) 6 rfl rfl sh_48 hc1 <| E_iadd (n := 11) 7 rfl rfl <| E_top hv2 <| E_istore (lv' := [(0, .ref 40), (1, .int x1), (2, .int x2), (3, .int x3), (4, .int v2)]) (n := 13) 8 rfl rfl (Nat.le_of_ble_eq_true rfl) [1, 2, 3, 4, 0] rfl <| E_aload_n (n := 14) 9 rfl rfl rfl 0 rfl <| E_gF (r := 42) (n := 17) 10 rfl rfl fg_3_22 sh_40 rfl <| E_iload_n (n := 18) 11 rfl rfl rfl 1 rfl <| E_cV1r (n := 21) 12 rfl rfl co_3_147 rfl sh_42 rfl (K_LN_before m 42 x1 sh_42 _ rfl) <| E_top hv3 <| E_istore (lv' := [(0, .ref 40), (1, .int x1), (2, .int x2), (3, .int x3), (4, .int v2), (5, .int v3)]) (n := 23) 13 rfl rfl (Nat.le_of_ble_eq_true rfl) [1, 2, 3, 4, 5, 0] rfl <| E_aload_n (n := 24) 14 rfl rfl rfl 0 rfl <| E_gF (r := 42) (n := 27) 15 rfl rfl fg_3_22 sh_40 rfl <| E_iload_n (n := 28) 16 rfl rfl rfl 1 rfl <| E_cV1r (n := 31) 17 rfl rfl co_3_115 rfl sh_42 rfl (K_LN_after m 42 x1 sh_42 _ rfl) <| E_top hv4 <| E_istore (lv' := [(0, .ref 40), (1, .int x1), (2, .int x2), (3, .int x3), (4, .int v2), (5, .int v3), (6, .int v4)]) (n := 33) 18 rfl rfl (Nat.le_of_ble_eq_true rfl) [1, 2, 3, 4, 5, 6, 0] rfl <| E_aload_n (n := 34) 19 rfl rfl rfl 0 rfl <| E_gF (r := 49) (n := 37) 20 rfl rfl fg_3_38 sh_40 rfl <| E_iload (n := 39) 21 rfl rfl 4 rfl <| E_iload_n (n := 40) 22 rfl rfl rfl 2 rfl <| E_iast (n := 41) 23 rfl rfl sh_49 hc5 <| E_mem hm6 <| E_aload_n (n := 42) 24 rfl rfl rfl 0 rfl <| E_gF (r := 50) (n := 45) 25 rfl rfl fg_3_41 sh_40 rfl <| E_iload (n := 47) 26 rfl rfl 4 rfl <| E_iload_n (n := 48) 27 rfl rfl rfl 3 rfl <| E_iast (n := 49) 28 rfl rfl sh_50 hc5 <| E_mem hm7 <| E_aload_n (n := 50) 29 rfl rfl rfl 0 rfl <| E_gF (r := 51) (n := 53) 30 rfl rfl fg_3_44 sh_40 rfl <| E_gF (r := 52) (n := 56) 31 rfl rfl fg_3_118 sh_51 rfl <| E_iload (n := 58) 32 rfl rfl 4 rfl <| E_aload_n (n := 59) 33 rfl rfl rfl 0 rfl <| E_gA (n := 62) 34 rfl rfl fg_3_62 sh_40 <| E_aload_n (n := 63) 35 rfl rfl rfl 0 rfl <| E_gF (r := 42) (n := 66) 36 rfl rfl fg_3_22 sh_40 rfl <| E_gF (r := 43) (n := 69) 37 rfl rfl fg_3_122 sh_42 rfl <| E_iload (n := 71) 38 rfl rfl 5 rfl <| E_iald (n := 72) 39 rfl rfl sh_43 hc8 <| E_aload_n (n := 73) 40 rfl rfl rfl 0 rfl <| E_gF (r := 42) (n := 76) 41 rfl rfl fg_3_22 sh_40 rfl <| E_gF (r := 44) (n := 79) 42 rfl rfl fg_3_125 sh_42 rfl <| E_iload (n := 81) 43 rfl rfl 5 rfl <| E_iald (n := 82) 44 rfl rfl sh_44 hc8 <| E_iload_n (n := 83) 45 rfl rfl rfl 2 rfl <| E_iload_n (n := 84) 46 rfl rfl rfl 3 rfl <| E_cV4r (n := 87) 47 rfl rfl co_3_128 rfl sh_36 rfl (K_PT_roundsBy m7 (gI m7 43 (ixn v3)) (gI m7 44 (ixn v3)) x2 x3 _ hq10) <| E_last (n := 88) 48 rfl rfl sh_52 hc5 <| E_mem hm11 <| E_aload_n (n := 89) 49 rfl rfl rfl 0 rfl <| E_gF (r := 51) (n := 92) 50 rfl rfl fg_3_44 sh_40 rfl <| E_gF (r := 53) (n := 95) 51 rfl rfl fg_3_132 sh_51 rfl <| E_iload (n := 97) 52 rfl rfl 4 rfl <| E_aload_n (n := 98) 53 rfl rfl rfl 0 rfl <| E_gA (n := 101) 54 rfl rfl fg_3_62 sh_40 <| E_aload_n (n := 102) 55 rfl rfl rfl 0 rfl <| E_gF (r := 42) (n := 105) 56 rfl rfl fg_3_22 sh_40 rfl <| E_gF (r := 43) (n := 108) 57 rfl rfl fg_3_122 sh_42 rfl <| E_iload (n := 110) 58 rfl rfl 5 rfl <| E_iald (n := 111) 59 rfl rfl sh_43 hc8 <| E_aload_n (n := 112) 60 rfl rfl rfl 0 rfl <| E_gF (r := 42) (n := 115) 61 rfl rfl fg_3_22 sh_40 rfl <| E_gF (r := 44) (n := 118) 62 rfl rfl fg_3_125 sh_42 rfl <| E_iload (n := 120) 63 rfl rfl 5 rfl <| E_iald (n := 121) 64 rfl rfl sh_44 hc8 <| E_iload_n (n := 122) 65 rfl rfl rfl 2 rfl <| E_iload_n (n := 123) 66 rfl rfl rfl 3 rfl <| E_cV4r (n := 126) 67 rfl rfl co_3_135 rfl sh_36 rfl (K_PT_onBy m11 (gI m11 43 (ixn v3)) (gI m11 44 (ixn v3)) x2 x3 _ hq13) <| E_iast (n := 127) 68 rfl rfl sh_53 hc5 <| E_mem hm14 <| E_aload_n (n := 128) 69 rfl rfl rfl 0 rfl <| E_gF (r := 54) (n := 131) 70 rfl rfl fg_3_47 sh_40 rfl <| E_gF (r := 55) (n := 134) 71 rfl rfl fg_3_118 sh_54 rfl <| E_iload (n := 136) 72 rfl rfl 4 rfl <| E_aload_n (n := 137) 73 rfl rfl rfl 0 rfl <| E_gA (n := 140) 74 rfl rfl fg_3_62 sh_40 <| E_iload_n (n := 141) 75 rfl rfl rfl 2 rfl <| E_iload_n (n := 142) 76 rfl rfl rfl 3 rfl <| E_aload_n (n := 143) 77 rfl rfl rfl 0 rfl <| E_gF (r := 42) (n := 146) 78 rfl rfl fg_3_22 sh_40 rfl <| E_gF (r := 43) (n := 149) 79 rfl rfl fg_3_122 sh_42 rfl <| E_iload (n := 151) 80 rfl rfl 6 rfl <| E_iald (n := 152) 81 rfl rfl sh_43 hc15 <| E_aload_n (n := 153) 82 rfl rfl rfl 0 rfl <| E_gF (r := 42) (n := 156) 83 rfl rfl fg_3_22 sh_40 rfl <| E_gF (r := 44) (n := 159) 84 rfl rfl fg_3_125 sh_42 rfl <| E_iload (n := 161) 85 rfl rfl 6 rfl <| E_iald (n := 162) 86 rfl rfl sh_44 hc15 <| E_cV4r (n := 165) 87 rfl rfl co_3_128 rfl sh_36 rfl (K_PT_roundsBy m14 x2 x3 (gI m14 43 (ixn v4)) (gI m14 44 (ixn v4)) _ hq17) <| E_last (n := 166) 88 rfl rfl sh_55 hc5 <| E_mem hm18 <| E_aload_n (n := 167) 89 rfl rfl rfl 0 rfl <| E_gF (r := 54) (n := 170) 90 rfl rfl fg_3_47 sh_40 rfl <| E_gF (r := 56) (n := 173) 91 rfl rfl fg_3_132 sh_54 rfl <| E_iload (n := 175) 92 rfl rfl 4 rfl <| E_aload_n (n := 176) 93 rfl rfl rfl 0 rfl <| E_gA (n := 179) 94 rfl rfl fg_3_62 sh_40 <| E_iload_n (n := 180) 95 rfl rfl rfl 2 rfl <| E_iload_n (n := 181) 96 rfl rfl rfl 3 rfl <| E_aload_n (n := 182) 97 rfl rfl rfl 0 rfl <| E_gF (r := 42) (n := 185) 98 rfl rfl fg_3_22 sh_40 rfl <| E_gF (r := 43) (n := 188) 99 rfl rfl fg_3_122 sh_42 rfl <| E_iload (n := 190) 100 rfl rfl 6 rfl <| E_iald (n := 191) 101 rfl rfl sh_43 hc15 <| E_aload_n (n := 192) 102 rfl rfl rfl 0 rfl <| E_gF (r := 42) (n := 195) 103 rfl rfl fg_3_22 sh_40 rfl <| E_gF (r := 44) (n := 198) 104 rfl rfl fg_3_125 sh_42 rfl <| E_iload (n := 200) 105 rfl rfl 6 rfl <| E_iald (n := 201) 106 rfl rfl sh_44 hc15 <| E_cV4r (n := 204) 107 rfl rfl co_3_135 rfl sh_36 rfl (K_PT_onBy m18 x2 x3 (gI m18 43 (ixn v4)) (gI m18 44 (ixn v4)) _ hq20) <| E_iast (n := 205) 108 rfl rfl sh_56 hc5 <| E_mem hm21 <| E_aload_n (n := 206) 109 rfl rfl rfl 0 rfl <| E_gF (r := 48) (n := 209) 110 rfl rfl fg_3_35 sh_40 rfl <| E_iload_n (n := 210) 111 rfl rfl rfl 1 rfl <| E_dup2 (n := 211) 112 rfl rfl rfl rfl <| E_iald (n := 212) 113 rfl rfl sh_48 hc1 <| E_iconst (v := 1) (n := 213) 114 rfl rfl icz_1 <| E_iadd (n := 214) 115 rfl rfl <| E_iast (n := 215) 116 rfl rfl sh_48 hc1 <| E_mem hm22 <| E_return 117 rfl rfl (eV h)

theorem RD_put_L3_ok (x1 : Int32) (kx : Mem → Option Mem) (R : Mem) (hx : ∀ (m : Mem), kx m = some R → E M_RD_put 49 [] [] m (qV R)) : ∀ (n : Nat) (m : Mem) (x2 : Int32), RD_put_L3 x1 kx n m x2 = some R → E M_RD_put 3 [(0, .ref 1), (1, .int x1), (2, .int x2)] [] m (qV R) := by
  intro n
  induction n with
  | zero =>
    intro m x2 h
    exact absurd (show none = some R from h) (fun e => Option.some_ne_none R e.symm)
  | succ n ih =>
    intro m x2 h
    rw [RD_put_L3] at h
    refine E_iload_n (n := 4) 2 rfl rfl rfl 2 rfl <| E_if_lt (n := 7) (t := 49) 3 rfl rfl rfl (fun hc => ?_) (fun hc => ?_)
    · have h := ifp h hc
      refine E_sub (lv' := []) [] rfl ?_
      exact hx m h
    · have h := ifn h hc
      refine E_aload_n (n := 8) 4 rfl rfl rfl 0 rfl <| E_gI (n := 11) 5 rfl rfl fg_8_15 sh_1 <| E_sipush (v := 940) (n := 14) 6 rfl rfl spz_940 <| E_icmp_ge (n := 17) (t := 49) 7 rfl rfl rfl (fun hc => ?_) (fun hc => ?_)
      · have h := ifp h hc
        refine E_sub (lv' := []) [] rfl ?_
        exact hx m h
      · have h := ifn h hc
        obtain ⟨hc1, h⟩ := ift h
        obtain ⟨m2, hm2, h⟩ := letM_ex h
        obtain ⟨m3, hm3, h⟩ := letM_ex h
        refine E_aload_n (n := 18) 8 rfl rfl rfl 0 rfl <| E_gF (r := 2) (n := 21) 9 rfl rfl fg_8_9 sh_1 rfl <| E_aload_n (n := 22) 10 rfl rfl rfl 0 rfl <| E_gI (n := 25) 11 rfl rfl fg_8_15 sh_1 <| E_iload_n (n := 26) 12 rfl rfl rfl 1 rfl <| E_iload_n (n := 27) 13 rfl rfl rfl 2 rfl <| E_jushr (n := 28) 14 rfl rfl <| E_sipush (v := 255) (n := 31) 15 rfl rfl spz_255 <| E_iand (n := 32) 16 rfl rfl <| E_iast (n := 33) 17 rfl rfl sh_2 hc1 <| E_mem hm2 <| E_aload_n (n := 34) 18 rfl rfl rfl 0 rfl <| E_dup (n := 35) 19 rfl rfl rfl <| E_gI (n := 38) 20 rfl rfl fg_8_15 sh_1 <| E_iconst (v := 1) (n := 39) 21 rfl rfl icz_1 <| E_iadd (n := 40) 22 rfl rfl <| E_pI (n := 43) 23 rfl rfl fp_8_15 sh_1 <| E_mem hm3 <| E_iinc (v := (x2 + (-8))) (lv' := [(0, .ref 1), (1, .int x1), (2, .int (x2 + (-8)))]) (n := 46) 24 rfl rfl 2 rfl (by rw [icz_m8]) (Nat.le_of_ble_eq_true rfl) [1, 2, 0] rfl <| E_goto (t := 3) 25 rfl rfl <| ?_
        exact ih m3 (x2 + (-8)) h
theorem K_RD_put (m : Mem) (x1 : Int32) (R : Mem) (h : RD_put m x1 = some R) : Mt M_RD_put [.ref 1, .int x1] m (qV R) := by
  refine Mt.of G_RD_put (Nat.le_of_ble_eq_true rfl) (E_sub (lv' := [(0, .ref 1), (1, .int x1)]) [0, 1] rfl ?_)
  unfold RD_put at h
  refine E_bipush (v := 24) (n := 2) 0 rfl rfl bpz_24 <| E_istore_n (lv' := [(0, .ref 1), (1, .int x1), (2, .int 24)]) (n := 3) 1 rfl rfl rfl (Nat.le_of_ble_eq_true rfl) [1, 2, 0] rfl <| ?_
  refine RD_put_L3_ok x1 _ R ?_ FU m 24 h
  intro m1 h
  refine E_return 26 rfl rfl (eV h)
theorem K_OH_feed (m : Mem) (x1 : Int32) (x2 : Int32) (x3 : Int32) (x4 : Int32) (x5 : Int32) (R : Int32 × Mem) (h : OH_feed m x1 x2 x3 x4 x5 = some R) : Mt M_OH_feed [.ref 0, .int x1, .int x2, .int x3, .int x4, .int x5] m (qI R.1 R.2) := by
  refine Mt.of G_OH_feed (Nat.le_of_ble_eq_true rfl) (E_sub (lv' := [(0, .ref 0), (1, .int x1), (2, .int x2), (3, .int x3), (4, .int x4), (5, .int x5)]) [0, 1, 2, 3, 4, 5] rfl ?_)
  unfold OH_feed at h
  refine E_aload_n (n := 1) 0 rfl rfl rfl 0 rfl <| E_gF (r := 1) (n := 4) 1 rfl rfl fg_11_12 sh_0 rfl <| E_gI (n := 7) 2 rfl rfl fg_11_103 sh_1 <| E_bipush (v := 20) (n := 9) 3 rfl rfl bpz_20 <| E_iadd (n := 10) 4 rfl rfl <| E_sipush (v := 940) (n := 13) 5 rfl rfl spz_940 <| E_icmp_le (n := 16) (t := 18) 6 rfl rfl rfl (fun hc => ?_) (fun hc => ?_)
  · have h := ifp h hc
    obtain ⟨m1, hq2, h⟩ := bM_ex h
    obtain ⟨m3, hq4, h⟩ := bM_ex h
    obtain ⟨m5, hq6, h⟩ := bM_ex h
    obtain ⟨m7, hq8, h⟩ := bM_ex h
    obtain ⟨m9, hq10, h⟩ := bM_ex h
    refine E_aload_n (n := 19) 9 rfl rfl rfl 0 rfl <| E_gF (r := 1) (n := 22) 10 rfl rfl fg_11_12 sh_0 rfl <| E_iload_n (n := 23) 11 rfl rfl rfl 1 rfl <| E_cV1v (n := 26) 12 rfl rfl co_11_106 rfl sh_1 rfl (K_RD_put m x1 _ hq2) <| E_aload_n (n := 27) 13 rfl rfl rfl 0 rfl <| E_gF (r := 1) (n := 30) 14 rfl rfl fg_11_12 sh_0 rfl <| E_iload_n (n := 31) 15 rfl rfl rfl 2 rfl <| E_cV1v (n := 34) 16 rfl rfl co_11_106 rfl sh_1 rfl (K_RD_put m1 x2 _ hq4) <| E_aload_n (n := 35) 17 rfl rfl rfl 0 rfl <| E_gF (r := 1) (n := 38) 18 rfl rfl fg_11_12 sh_0 rfl <| E_iload_n (n := 39) 19 rfl rfl rfl 3 rfl <| E_cV1v (n := 42) 20 rfl rfl co_11_106 rfl sh_1 rfl (K_RD_put m3 x3 _ hq6) <| E_aload_n (n := 43) 21 rfl rfl rfl 0 rfl <| E_gF (r := 1) (n := 46) 22 rfl rfl fg_11_12 sh_0 rfl <| E_iload (n := 48) 23 rfl rfl 4 rfl <| E_cV1v (n := 51) 24 rfl rfl co_11_106 rfl sh_1 rfl (K_RD_put m5 x4 _ hq8) <| E_aload_n (n := 52) 25 rfl rfl rfl 0 rfl <| E_gF (r := 1) (n := 55) 26 rfl rfl fg_11_12 sh_0 rfl <| E_iload (n := 57) 27 rfl rfl 5 rfl <| E_cV1v (n := 60) 28 rfl rfl co_11_106 rfl sh_1 rfl (K_RD_put m7 x5 _ hq10) <| E_aload_n (n := 61) 29 rfl rfl rfl 0 rfl <| E_gF (r := 1) (n := 64) 30 rfl rfl fg_11_12 sh_0 rfl <| E_gI (n := 67) 31 rfl rfl fg_11_103 sh_1 <| E_ireturn 32 rfl rfl (eS h)
  · have h := ifn h hc
    refine E_iconst (v := (-1)) (n := 17) 7 rfl rfl icz_m1 <| E_ireturn 8 rfl rfl (eS h)
theorem K_OH_end (m : Mem) (x1 : Int32) (R : Int32 × Mem) (h : OH_end m x1 = some R) : Mt M_OH_end [.ref 0, .int x1] m (qI R.1 R.2) := by
  refine Mt.of G_OH_end (Nat.le_of_ble_eq_true rfl) (E_sub (lv' := [(0, .ref 0), (1, .int x1)]) [0, 1] rfl ?_)
  unfold OH_end at h
  refine E_iload_n (n := 1) 0 rfl rfl rfl 1 rfl <| E_if_lt (n := 4) (t := 15) 1 rfl rfl rfl (fun hc => ?_) (fun hc => ?_)
  · have h := ifp h hc
    refine E_iconst (v := 0) (n := 16) 7 rfl rfl icz_0 <| E_zreturn 8 rfl rfl z0 (eS h)
  · have h := ifn h hc
    refine E_iload_n (n := 5) 2 rfl rfl rfl 1 rfl <| E_aload_n (n := 6) 3 rfl rfl rfl 0 rfl <| E_gF (r := 1) (n := 9) 4 rfl rfl fg_11_12 sh_0 rfl <| E_gI (n := 12) 5 rfl rfl fg_11_103 sh_1 <| E_icmp_le (n := 15) (t := 17) 6 rfl rfl rfl (fun hc => ?_) (fun hc => ?_)
    · have h := ifp h hc
      obtain ⟨m1, hm1, h⟩ := letM_ex h
      refine E_aload_n (n := 18) 9 rfl rfl rfl 0 rfl <| E_gF (r := 1) (n := 21) 10 rfl rfl fg_11_12 sh_0 rfl <| E_iload_n (n := 22) 11 rfl rfl rfl 1 rfl <| E_pI (n := 25) 12 rfl rfl fp_11_103 sh_1 <| E_mem hm1 <| E_iconst (v := 1) (n := 26) 13 rfl rfl icz_1 <| E_zreturn 14 rfl rfl z1 (eS h)
    · have h := ifn h hc
      refine E_iconst (v := 0) (n := 16) 7 rfl rfl icz_0 <| E_zreturn 8 rfl rfl z0 (eS h)
theorem K_RD_begin (m : Mem) (x1 : Int32) (R : Mem) (h : RD_begin m x1 = some R) : Mt M_RD_begin [.ref 1, .int x1] m (qV R) := by
  refine Mt.of G_RD_begin (Nat.le_of_ble_eq_true rfl) (E_sub (lv' := [(0, .ref 1), (1, .int x1)]) [0, 1] rfl ?_)
  unfold RD_begin at h
  obtain ⟨m1, hm1, h⟩ := letM_ex h
  obtain ⟨m2, hm2, h⟩ := letM_ex h
  obtain ⟨m3, hm3, h⟩ := letM_ex h
  obtain ⟨m4, hm4, h⟩ := letM_ex h
  refine E_aload_n (n := 1) 0 rfl rfl rfl 0 rfl <| E_iload_n (n := 2) 1 rfl rfl rfl 1 rfl <| E_pI (n := 5) 2 rfl rfl fp_8_19 sh_1 <| E_mem hm1 <| E_aload_n (n := 6) 3 rfl rfl rfl 0 rfl <| E_iconst (v := 0) (n := 7) 4 rfl rfl icz_0 <| E_pI (n := 10) 5 rfl rfl fp_8_22 sh_1 <| E_mem hm2 <| E_aload_n (n := 11) 6 rfl rfl rfl 0 rfl <| E_iconst (v := 0) (n := 12) 7 rfl rfl icz_0 <| E_pI (n := 15) 8 rfl rfl fp_8_25 sh_1 <| E_mem hm3 <| E_aload_n (n := 16) 9 rfl rfl rfl 0 rfl <| E_iconst (v := 0) (n := 17) 10 rfl rfl icz_0 <| E_pI (n := 20) 11 rfl rfl fp_8_28 sh_1 <| E_mem hm4 <| E_return 12 rfl rfl (eV h)
theorem PH_clear_L2_ok (x0 : Nat) (h_x0 : shp x0 = (5, 0)) (kx : Mem → Option Mem) (R : Mem) (hx : ∀ (m : Mem), kx m = some R → E M_PH_clear 20 [(0, .ref x0)] [] m (qV R)) : ∀ (n : Nat) (m : Mem) (x1 : Int32), PH_clear_L2 x0 kx n m x1 = some R → E M_PH_clear 2 [(0, .ref x0), (1, .int x1)] [] m (qV R) := by
  intro n
  induction n with
  | zero =>
    intro m x1 h
    exact absurd (show none = some R from h) (fun e => Option.some_ne_none R e.symm)
  | succ n ih =>
    intro m x1 h
    rw [PH_clear_L2] at h
    refine E_iload_n (n := 3) 2 rfl rfl rfl 1 rfl <| E_iconst (v := 4) (n := 4) 3 rfl rfl icz_4 <| E_icmp_ge (n := 7) (t := 20) 4 rfl rfl rfl (fun hc => ?_) (fun hc => ?_)
    · have h := ifp h hc
      refine E_sub (lv' := [(0, .ref x0)]) [0] rfl ?_
      exact hx m h
    · have h := ifn h hc
      obtain ⟨hc1, h⟩ := ift h
      obtain ⟨m2, hm2, h⟩ := letM_ex h
      refine E_aload_n (n := 8) 5 rfl rfl rfl 0 rfl <| E_gF (r := (x0 + 15)) (n := 11) 6 rfl rfl fg_5_32 h_x0 rfl <| E_iload_n (n := 12) 7 rfl rfl rfl 1 rfl <| E_iload_n (n := 13) 8 rfl rfl rfl 1 rfl <| E_iast (n := 14) 9 rfl rfl (shc_5_5 h_x0) hc1 <| E_mem hm2 <| E_iinc (v := (x1 + 1)) (lv' := [(0, .ref x0), (1, .int (x1 + 1))]) (n := 17) 10 rfl rfl 1 rfl (by rw [icz_1]) (Nat.le_of_ble_eq_true rfl) [1, 0] rfl <| E_goto (t := 2) 11 rfl rfl <| ?_
      exact ih m2 (x1 + 1) h
theorem K_PH_clear (m : Mem) (x0 : Nat) (h_x0 : shp x0 = (5, 0)) (R : Mem) (h : PH_clear m x0 = some R) : Mt M_PH_clear [.ref x0] m (qV R) := by
  refine Mt.of G_PH_clear (Nat.le_of_ble_eq_true rfl) (E_sub (lv' := [(0, .ref x0)]) [0] rfl ?_)
  unfold PH_clear at h
  refine E_iconst (v := 0) (n := 1) 0 rfl rfl icz_0 <| E_istore_n (lv' := [(0, .ref x0), (1, .int 0)]) (n := 2) 1 rfl rfl rfl (Nat.le_of_ble_eq_true rfl) [1, 0] rfl <| ?_
  refine PH_clear_L2_ok x0 h_x0 _ R ?_ FU m 0 h
  intro m1 h
  obtain ⟨m2, hm2, h⟩ := letM_ex h
  obtain ⟨m3, hm3, h⟩ := letM_ex h
  obtain ⟨m4, hm4, h⟩ := letM_ex h
  obtain ⟨m5, hm5, h⟩ := letM_ex h
  obtain ⟨m6, hm6, h⟩ := letM_ex h
  obtain ⟨m7, hm7, h⟩ := letM_ex h
  obtain ⟨m8, hm8, h⟩ := letM_ex h
  obtain ⟨m9, hm9, h⟩ := letM_ex h
  refine E_aload_n (n := 21) 12 rfl rfl rfl 0 rfl <| E_iconst (v := 0) (n := 22) 13 rfl rfl icz_0 <| E_pI (n := 25) 14 rfl rfl fp_5_35 h_x0 <| E_mem hm2 <| E_aload_n (n := 26) 15 rfl rfl rfl 0 rfl <| E_iconst (v := 0) (n := 27) 16 rfl rfl icz_0 <| E_pI (n := 30) 17 rfl rfl fp_5_46 h_x0 <| E_mem hm3 <| E_aload_n (n := 31) 18 rfl rfl rfl 0 rfl <| E_iconst (v := 0) (n := 32) 19 rfl rfl icz_0 <| E_pI (n := 35) 20 rfl rfl fp_5_53 h_x0 <| E_mem hm4 <| E_aload_n (n := 36) 21 rfl rfl rfl 0 rfl <| E_iconst (v := 0) (n := 37) 22 rfl rfl icz_0 <| E_pI (n := 40) 23 rfl rfl fp_5_56 h_x0 <| E_mem hm5 <| E_aload_n (n := 41) 24 rfl rfl rfl 0 rfl <| E_iconst (v := 0) (n := 42) 25 rfl rfl icz_0 <| E_pI (n := 45) 26 rfl rfl fp_5_65 h_x0 <| E_mem hm6 <| E_aload_n (n := 46) 27 rfl rfl rfl 0 rfl <| E_iconst (v := 0) (n := 47) 28 rfl rfl icz_0 <| E_pI (n := 50) 29 rfl rfl fp_5_62 h_x0 <| E_mem hm7 <| E_aload_n (n := 51) 30 rfl rfl rfl 0 rfl <| E_iconst (v := 0) (n := 52) 31 rfl rfl icz_0 <| E_pI (n := 55) 32 rfl rfl fp_5_78 h_x0 <| E_mem hm8 <| E_aload_n (n := 56) 33 rfl rfl rfl 0 rfl <| E_iconst (v := 0) (n := 57) 34 rfl rfl icz_0 <| E_pI (n := 60) 35 rfl rfl fp_5_110 h_x0 <| E_mem hm9 <| E_return 36 rfl rfl (eV h)
theorem RD_readRun_J98_ok (kr : Mem → Int32 → Int32 → Option Mem) (kx : Mem → Int32 → Int32 → Option Mem) (m : Mem) (x1 : Int32) (x2 : Int32) (R : Mem) (hr : ∀ (m : Mem) (x1 : Int32) (x2 : Int32), kr m x1 x2 = some R → E M_RD_readRun 14 [(0, .ref 1), (1, .int x1), (2, .int x2)] [] m (qV R)) (hx : ∀ (m : Mem) (x1 : Int32) (x2 : Int32), kx m x1 x2 = some R → E M_RD_readRun 111 [(0, .ref 1), (1, .int x1), (2, .int x2)] [] m (qV R)) (h : RD_readRun_J98 kr kx m x1 x2 = some R) : E M_RD_readRun 98 [(0, .ref 1), (1, .int x1), (2, .int x2)] [] m (qV R) := by
  unfold RD_readRun_J98 at h
  obtain ⟨m1, hm1, h⟩ := letM_ex h
  refine E_aload_n (n := 99) 55 rfl rfl rfl 0 rfl <| E_dup (n := 100) 56 rfl rfl rfl <| E_gI (n := 103) 57 rfl rfl fg_8_22 sh_1 <| E_iconst (v := 1) (n := 104) 58 rfl rfl icz_1 <| E_iadd (n := 105) 59 rfl rfl <| E_pI (n := 108) 60 rfl rfl fp_8_22 sh_1 <| E_mem hm1 <| E_goto (t := 14) 61 rfl rfl <| ?_
  exact hr m1 x1 x2 h
theorem RD_readRun_J67_ok (kr : Mem → Int32 → Int32 → Option Mem) (kx : Mem → Int32 → Int32 → Option Mem) (m : Mem) (x1 : Int32) (x2 : Int32) (x3 : Int32) (R : Mem) (hr : ∀ (m : Mem) (x1 : Int32) (x2 : Int32), kr m x1 x2 = some R → E M_RD_readRun 14 [(0, .ref 1), (1, .int x1), (2, .int x2)] [] m (qV R)) (hx : ∀ (m : Mem) (x1 : Int32) (x2 : Int32), kx m x1 x2 = some R → E M_RD_readRun 111 [(0, .ref 1), (1, .int x1), (2, .int x2)] [] m (qV R)) (h : RD_readRun_J67 kr kx m x1 x2 x3 = some R) : E M_RD_readRun 67 [(0, .ref 1), (1, .int x1), (2, .int x2), (3, .int x3)] [] m (qV R) := by
  unfold RD_readRun_J67 at h
  refine E_iload_n (n := 68) 38 rfl rfl rfl 3 rfl <| E_bipush (v := 48) (n := 70) 39 rfl rfl bpz_48 <| E_icmp_lt (n := 73) (t := 111) 40 rfl rfl rfl (fun hc => ?_) (fun hc => ?_)
  · have h := ifp h hc
    refine E_sub (lv' := [(0, .ref 1), (1, .int x1), (2, .int x2)]) [0, 1, 2] rfl ?_
    exact hx m x1 x2 h
  · have h := ifn h hc
    refine E_iload_n (n := 74) 41 rfl rfl rfl 3 rfl <| E_bipush (v := 57) (n := 76) 42 rfl rfl bpz_57 <| E_icmp_gt (n := 79) (t := 111) 43 rfl rfl rfl (fun hc => ?_) (fun hc => ?_)
    · have h := ifp h hc
      refine E_sub (lv' := [(0, .ref 1), (1, .int x1), (2, .int x2)]) [0, 1, 2] rfl ?_
      exact hx m x1 x2 h
    · have h := ifn h hc
      obtain ⟨m1, hm1, h⟩ := letM_ex h
      refine E_iinc (v := (x2 + 1)) (lv' := [(0, .ref 1), (1, .int x1), (2, .int (x2 + 1)), (3, .int x3)]) (n := 82) 44 rfl rfl 2 rfl (by rw [icz_1]) (Nat.le_of_ble_eq_true rfl) [1, 2, 0, 3] rfl <| E_aload_n (n := 83) 45 rfl rfl rfl 0 rfl <| E_aload_n (n := 84) 46 rfl rfl rfl 0 rfl <| E_gI (n := 87) 47 rfl rfl fg_8_57 sh_1 <| E_bipush (v := 10) (n := 89) 48 rfl rfl bpz_10 <| E_imul (n := 90) 49 rfl rfl <| E_iload_n (n := 91) 50 rfl rfl rfl 3 rfl <| E_iadd (n := 92) 51 rfl rfl <| E_bipush (v := 48) (n := 94) 52 rfl rfl bpz_48 <| E_isub (n := 95) 53 rfl rfl <| E_pI (n := 98) 54 rfl rfl fp_8_57 sh_1 <| E_mem hm1 <| ?_
      refine E_sub (lv' := [(0, .ref 1), (1, .int x1), (2, .int (x2 + 1))]) [0, 1, 2] rfl ?_
      exact RD_readRun_J98_ok _ _ m1 x1 (x2 + 1) _ hr hx h
theorem RD_readRun_L14_ok (kx : Mem → Int32 → Int32 → Option Mem) (R : Mem) (hx : ∀ (m : Mem) (x1 : Int32) (x2 : Int32), kx m x1 x2 = some R → E M_RD_readRun 111 [(0, .ref 1), (1, .int x1), (2, .int x2)] [] m (qV R)) : ∀ (n : Nat) (m : Mem) (x1 : Int32) (x2 : Int32), RD_readRun_L14 kx n m x1 x2 = some R → E M_RD_readRun 14 [(0, .ref 1), (1, .int x1), (2, .int x2)] [] m (qV R) := by
  intro n
  induction n with
  | zero =>
    intro m x1 x2 h
    exact absurd (show none = some R from h) (fun e => Option.some_ne_none R e.symm)
  | succ n ih =>
    intro m x1 x2 h
    rw [RD_readRun_L14] at h
    refine E_aload_n (n := 15) 10 rfl rfl rfl 0 rfl <| E_gI (n := 18) 11 rfl rfl fg_8_22 sh_1 <| E_aload_n (n := 19) 12 rfl rfl rfl 0 rfl <| E_gI (n := 22) 13 rfl rfl fg_8_15 sh_1 <| E_icmp_ge (n := 25) (t := 111) 14 rfl rfl rfl (fun hc => ?_) (fun hc => ?_)
    · have h := ifp h hc
      exact hx m x1 x2 h
    · have h := ifn h hc
      obtain ⟨hc1, h⟩ := ift h
      obtain ⟨v2, hv2, h⟩ := letV_ex h
      refine E_aload_n (n := 26) 15 rfl rfl rfl 0 rfl <| E_gF (r := 2) (n := 29) 16 rfl rfl fg_8_9 sh_1 rfl <| E_aload_n (n := 30) 17 rfl rfl rfl 0 rfl <| E_gI (n := 33) 18 rfl rfl fg_8_22 sh_1 <| E_iald (n := 34) 19 rfl rfl sh_2 hc1 <| E_top hv2 <| E_istore_n (lv' := [(0, .ref 1), (1, .int x1), (2, .int x2), (3, .int v2)]) (n := 35) 20 rfl rfl rfl (Nat.le_of_ble_eq_true rfl) [1, 2, 3, 0] rfl <| E_iload_n (n := 36) 21 rfl rfl rfl 3 rfl <| E_bipush (v := 97) (n := 38) 22 rfl rfl bpz_97 <| E_icmp_lt (n := 41) (t := 67) 23 rfl rfl rfl (fun hc => ?_) (fun hc => ?_)
      · have h := ifp h hc
        exact RD_readRun_J67_ok _ _ m x1 x2 v2 _ ih hx h
      · have h := ifn h hc
        refine E_iload_n (n := 42) 24 rfl rfl rfl 3 rfl <| E_bipush (v := 122) (n := 44) 25 rfl rfl bpz_122 <| E_icmp_gt (n := 47) (t := 67) 26 rfl rfl rfl (fun hc => ?_) (fun hc => ?_)
        · have h := ifp h hc
          exact RD_readRun_J67_ok _ _ m x1 x2 v2 _ ih hx h
        · have h := ifn h hc
          obtain ⟨m3, hm3, h⟩ := letM_ex h
          refine E_iinc (v := (x1 + 1)) (lv' := [(0, .ref 1), (1, .int (x1 + 1)), (2, .int x2), (3, .int v2)]) (n := 50) 27 rfl rfl 1 rfl (by rw [icz_1]) (Nat.le_of_ble_eq_true rfl) [1, 0, 2, 3] rfl <| E_aload_n (n := 51) 28 rfl rfl rfl 0 rfl <| E_aload_n (n := 52) 29 rfl rfl rfl 0 rfl <| E_gJ (n := 55) 30 rfl rfl fg_8_46 sh_1 <| E_bipush (v := 8) (n := 57) 31 rfl rfl bpz_8 <| E_jlshl (n := 58) 32 rfl rfl <| E_iload_n (n := 59) 33 rfl rfl rfl 3 rfl <| E_i2l (n := 60) 34 rfl rfl <| E_lor (n := 61) 35 rfl rfl <| E_pJ (n := 64) 36 rfl rfl fp_8_46 sh_1 <| E_mem hm3 <| E_goto (t := 98) 37 rfl rfl <| ?_
          refine E_sub (lv' := [(0, .ref 1), (1, .int (x1 + 1)), (2, .int x2)]) [0, 1, 2] rfl ?_
          exact RD_readRun_J98_ok _ _ m3 (x1 + 1) x2 _ ih hx h
theorem RD_readRun_J139_ok (m : Mem) (x1 : Int32) (x2 : Int32) (R : Mem) (h : RD_readRun_J139 m x1 x2 = some R) : E M_RD_readRun 139 [(0, .ref 1), (1, .int x1), (2, .int x2)] [] m (qV R) := by
  unfold RD_readRun_J139 at h
  refine E_iload_n (n := 140) 77 rfl rfl rfl 1 rfl <| E_if_ne (n := 143) (t := 158) 78 rfl rfl rfl (fun hc => ?_) (fun hc => ?_)
  · have h := ifn h hc
    refine E_return 88 rfl rfl (eV h)
  · have h := ifp h hc
    refine E_iload_n (n := 144) 79 rfl rfl rfl 2 rfl <| E_iconst (v := 1) (n := 145) 80 rfl rfl icz_1 <| E_icmp_lt (n := 148) (t := 158) 81 rfl rfl rfl (fun hc => ?_) (fun hc => ?_)
    · have h := ifp h hc
      refine E_return 88 rfl rfl (eV h)
    · have h := ifn h hc
      refine E_iload_n (n := 149) 82 rfl rfl rfl 2 rfl <| E_iconst (v := 2) (n := 150) 83 rfl rfl icz_2 <| E_icmp_gt (n := 153) (t := 158) 84 rfl rfl rfl (fun hc => ?_) (fun hc => ?_)
      · have h := ifp h hc
        refine E_return 88 rfl rfl (eV h)
      · have h := ifn h hc
        obtain ⟨m1, hm1, h⟩ := letM_ex h
        refine E_aload_n (n := 154) 85 rfl rfl rfl 0 rfl <| E_iconst (v := 2) (n := 155) 86 rfl rfl icz_2 <| E_pI (n := 158) 87 rfl rfl fp_8_40 sh_1 <| E_mem hm1 <| ?_
        refine E_return 88 rfl rfl (eV h)
theorem RD_readRun_J111_ok (m : Mem) (x1 : Int32) (x2 : Int32) (R : Mem) (h : RD_readRun_J111 m x1 x2 = some R) : E M_RD_readRun 111 [(0, .ref 1), (1, .int x1), (2, .int x2)] [] m (qV R) := by
  unfold RD_readRun_J111 at h
  obtain ⟨m1, hm1, h⟩ := letM_ex h
  refine E_aload_n (n := 112) 62 rfl rfl rfl 0 rfl <| E_iconst (v := 4) (n := 113) 63 rfl rfl icz_4 <| E_pI (n := 116) 64 rfl rfl fp_8_40 sh_1 <| E_mem hm1 <| E_iload_n (n := 117) 65 rfl rfl rfl 2 rfl <| E_if_ne (n := 120) (t := 139) 66 rfl rfl rfl (fun hc => ?_) (fun hc => ?_)
  · have h := ifn h hc
    exact RD_readRun_J139_ok m1 x1 x2 _ h
  · have h := ifp h hc
    refine E_iload_n (n := 121) 67 rfl rfl rfl 1 rfl <| E_iconst (v := 1) (n := 122) 68 rfl rfl icz_1 <| E_icmp_lt (n := 125) (t := 139) 69 rfl rfl rfl (fun hc => ?_) (fun hc => ?_)
    · have h := ifp h hc
      exact RD_readRun_J139_ok m1 x1 x2 _ h
    · have h := ifn h hc
      refine E_iload_n (n := 126) 70 rfl rfl rfl 1 rfl <| E_bipush (v := 7) (n := 128) 71 rfl rfl bpz_7 <| E_icmp_gt (n := 131) (t := 139) 72 rfl rfl rfl (fun hc => ?_) (fun hc => ?_)
      · have h := ifp h hc
        exact RD_readRun_J139_ok m1 x1 x2 _ h
      · have h := ifn h hc
        obtain ⟨m2, hm2, h⟩ := letM_ex h
        refine E_aload_n (n := 132) 73 rfl rfl rfl 0 rfl <| E_iconst (v := 1) (n := 133) 74 rfl rfl icz_1 <| E_pI (n := 136) 75 rfl rfl fp_8_40 sh_1 <| E_mem hm2 <| E_goto (t := 158) 76 rfl rfl <| ?_
        refine E_return 88 rfl rfl (eV h)
theorem K_RD_readRun (m : Mem) (R : Mem) (h : RD_readRun m = some R) : Mt M_RD_readRun [.ref 1] m (qV R) := by
  refine Mt.of G_RD_readRun (Nat.le_of_ble_eq_true rfl) (E_sub (lv' := [(0, .ref 1)]) [0] rfl ?_)
  unfold RD_readRun at h
  obtain ⟨m1, hm1, h⟩ := letM_ex h
  obtain ⟨m2, hm2, h⟩ := letM_ex h
  refine E_iconst (v := 0) (n := 1) 0 rfl rfl icz_0 <| E_istore_n (lv' := [(0, .ref 1), (1, .int 0)]) (n := 2) 1 rfl rfl rfl (Nat.le_of_ble_eq_true rfl) [1, 0] rfl <| E_iconst (v := 0) (n := 3) 2 rfl rfl icz_0 <| E_istore_n (lv' := [(0, .ref 1), (1, .int 0), (2, .int 0)]) (n := 4) 3 rfl rfl rfl (Nat.le_of_ble_eq_true rfl) [1, 2, 0] rfl <| E_aload_n (n := 5) 4 rfl rfl rfl 0 rfl <| E_lconst (v := 0) (n := 6) 5 rfl rfl (by decide) <| E_pJ (n := 9) 6 rfl rfl fp_8_46 sh_1 <| E_mem hm1 <| E_aload_n (n := 10) 7 rfl rfl rfl 0 rfl <| E_iconst (v := 0) (n := 11) 8 rfl rfl icz_0 <| E_pI (n := 14) 9 rfl rfl fp_8_57 sh_1 <| E_mem hm2 <| ?_
  refine RD_readRun_L14_ok _ R ?_ FU m2 0 0 h
  intro m5 y3 y4 h
  exact RD_readRun_J111_ok m5 y3 y4 _ h
theorem RD_advance_J48_ok (kr : Mem → Option Mem) (kx : Mem → Option Mem) (m : Mem) (x1 : Int32) (R : Mem) (hr : ∀ (m : Mem), kr m = some R → E M_RD_advance 12 [(0, .ref 1), (1, .int x1)] [] m (qV R)) (hx : ∀ (m : Mem), kx m = some R → E M_RD_advance 61 [(0, .ref 1), (1, .int x1)] [] m (qV R)) (h : RD_advance_J48 kr kx m x1 = some R) : E M_RD_advance 48 [(0, .ref 1), (1, .int x1)] [] m (qV R) := by
  unfold RD_advance_J48 at h
  obtain ⟨m1, hm1, h⟩ := letM_ex h
  refine E_aload_n (n := 49) 24 rfl rfl rfl 0 rfl <| E_dup (n := 50) 25 rfl rfl rfl <| E_gI (n := 53) 26 rfl rfl fg_8_22 sh_1 <| E_iconst (v := 1) (n := 54) 27 rfl rfl icz_1 <| E_iadd (n := 55) 28 rfl rfl <| E_pI (n := 58) 29 rfl rfl fp_8_22 sh_1 <| E_mem hm1 <| E_goto (t := 12) 30 rfl rfl <| ?_
  exact hr m1 h
theorem RD_advance_L12_ok (x1 : Int32) (kx : Mem → Option Mem) (R : Mem) (hx : ∀ (m : Mem), kx m = some R → E M_RD_advance 61 [(0, .ref 1), (1, .int x1)] [] m (qV R)) : ∀ (n : Nat) (m : Mem), RD_advance_L12 x1 kx n m = some R → E M_RD_advance 12 [(0, .ref 1), (1, .int x1)] [] m (qV R) := by
  intro n
  induction n with
  | zero =>
    intro m h
    exact absurd (show none = some R from h) (fun e => Option.some_ne_none R e.symm)
  | succ n ih =>
    intro m h
    rw [RD_advance_L12] at h
    refine E_aload_n (n := 13) 6 rfl rfl rfl 0 rfl <| E_gI (n := 16) 7 rfl rfl fg_8_22 sh_1 <| E_iload_n (n := 17) 8 rfl rfl rfl 1 rfl <| E_icmp_ge (n := 20) (t := 61) 9 rfl rfl rfl (fun hc => ?_) (fun hc => ?_)
    · have h := ifp h hc
      exact hx m h
    · have h := ifn h hc
      obtain ⟨hc1, h⟩ := ift h
      refine E_aload_n (n := 21) 10 rfl rfl rfl 0 rfl <| E_gF (r := 2) (n := 24) 11 rfl rfl fg_8_9 sh_1 rfl <| E_aload_n (n := 25) 12 rfl rfl rfl 0 rfl <| E_gI (n := 28) 13 rfl rfl fg_8_22 sh_1 <| E_iald (n := 29) 14 rfl rfl sh_2 hc1 <| E_bipush (v := 32) (n := 31) 15 rfl rfl bpz_32 <| E_icmp_eq (n := 34) (t := 48) 16 rfl rfl rfl (fun hc => ?_) (fun hc => ?_)
      · have h := ifp h hc
        exact RD_advance_J48_ok _ _ m x1 _ ih hx h
      · have h := ifn h hc
        refine E_aload_n (n := 35) 17 rfl rfl rfl 0 rfl <| E_gF (r := 2) (n := 38) 18 rfl rfl fg_8_9 sh_1 rfl <| E_aload_n (n := 39) 19 rfl rfl rfl 0 rfl <| E_gI (n := 42) 20 rfl rfl fg_8_22 sh_1 <| E_iald (n := 43) 21 rfl rfl sh_2 hc1 <| E_bipush (v := 10) (n := 45) 22 rfl rfl bpz_10 <| E_icmp_ne (n := 48) (t := 61) 23 rfl rfl rfl (fun hc => ?_) (fun hc => ?_)
        · have h := ifn h hc
          exact hx m h
        · have h := ifp h hc
          exact RD_advance_J48_ok _ _ m x1 _ ih hx h
theorem RD_advance_J61_ok (m : Mem) (x1 : Int32) (R : Mem) (h : RD_advance_J61 m x1 = some R) : E M_RD_advance 61 [(0, .ref 1), (1, .int x1)] [] m (qV R) := by
  unfold RD_advance_J61 at h
  refine E_aload_n (n := 62) 31 rfl rfl rfl 0 rfl <| E_gI (n := 65) 32 rfl rfl fg_8_22 sh_1 <| E_iload_n (n := 66) 33 rfl rfl rfl 1 rfl <| E_icmp_lt (n := 69) (t := 80) 34 rfl rfl rfl (fun hc => ?_) (fun hc => ?_)
  · have h := ifp h hc
    obtain ⟨m1, hm1, h⟩ := letM_ex h
    obtain ⟨hc2, h⟩ := ift h
    refine E_aload_n (n := 81) 42 rfl rfl rfl 0 rfl <| E_aload_n (n := 82) 43 rfl rfl rfl 0 rfl <| E_gI (n := 85) 44 rfl rfl fg_8_22 sh_1 <| E_pI (n := 88) 45 rfl rfl fp_8_37 sh_1 <| E_mem hm1 <| E_aload_n (n := 89) 46 rfl rfl rfl 0 rfl <| E_gF (r := 2) (n := 92) 47 rfl rfl fg_8_9 sh_1 rfl <| E_aload_n (n := 93) 48 rfl rfl rfl 0 rfl <| E_gI (n := 96) 49 rfl rfl fg_8_22 sh_1 <| E_iald (n := 97) 50 rfl rfl sh_2 hc2 <| E_bipush (v := 59) (n := 99) 51 rfl rfl bpz_59 <| E_icmp_ne (n := 102) (t := 118) 52 rfl rfl rfl (fun hc => ?_) (fun hc => ?_)
    · have h := ifn h hc
      obtain ⟨m3, hq4, h⟩ := bM_ex h
      refine E_aload_n (n := 119) 63 rfl rfl rfl 0 rfl <| E_cV0v (n := 122) 64 rfl rfl co_8_43 rfl sh_1 rfl (K_RD_readRun m1 _ hq4) <| E_aload_n (n := 123) 65 rfl rfl rfl 0 rfl <| E_gI (n := 126) 66 rfl rfl fg_8_40 sh_1 <| E_iconst (v := 1) (n := 127) 67 rfl rfl icz_1 <| E_icmp_ne (n := 130) (t := 141) 68 rfl rfl rfl (fun hc => ?_) (fun hc => ?_)
      · have h := ifn h hc
        refine E_return 74 rfl rfl (eV h)
      · have h := ifp h hc
        obtain ⟨m5, hm5, h⟩ := letM_ex h
        refine E_aload_n (n := 131) 69 rfl rfl rfl 0 rfl <| E_aload_n (n := 132) 70 rfl rfl rfl 0 rfl <| E_gJ (n := 135) 71 rfl rfl fg_8_46 sh_1 <| E_dS1r (n := 138) 72 rfl rfl co_8_50 rfl rfl (K_RD_wordOf m3 (gJ m3 1 8) _ rfl) <| E_pI (n := 141) 73 rfl rfl fp_8_54 sh_1 <| E_mem hm5 <| ?_
        refine E_return 74 rfl rfl (eV h)
    · have h := ifp h hc
      obtain ⟨m6, hm6, h⟩ := letM_ex h
      obtain ⟨m7, hm7, h⟩ := letM_ex h
      refine E_aload_n (n := 103) 53 rfl rfl rfl 0 rfl <| E_dup (n := 104) 54 rfl rfl rfl <| E_gI (n := 107) 55 rfl rfl fg_8_22 sh_1 <| E_iconst (v := 1) (n := 108) 56 rfl rfl icz_1 <| E_iadd (n := 109) 57 rfl rfl <| E_pI (n := 112) 58 rfl rfl fp_8_22 sh_1 <| E_mem hm6 <| E_aload_n (n := 113) 59 rfl rfl rfl 0 rfl <| E_iconst (v := 3) (n := 114) 60 rfl rfl icz_3 <| E_pI (n := 117) 61 rfl rfl fp_8_40 sh_1 <| E_mem hm7 <| E_return 62 rfl rfl (eV h)
  · have h := ifn h hc
    obtain ⟨m8, hm8, h⟩ := letM_ex h
    obtain ⟨m9, hm9, h⟩ := letM_ex h
    refine E_aload_n (n := 70) 35 rfl rfl rfl 0 rfl <| E_iload_n (n := 71) 36 rfl rfl rfl 1 rfl <| E_pI (n := 74) 37 rfl rfl fp_8_37 sh_1 <| E_mem hm8 <| E_aload_n (n := 75) 38 rfl rfl rfl 0 rfl <| E_iconst (v := 0) (n := 76) 39 rfl rfl icz_0 <| E_pI (n := 79) 40 rfl rfl fp_8_40 sh_1 <| E_mem hm9 <| E_return 41 rfl rfl (eV h)
theorem K_RD_advance (m : Mem) (R : Mem) (h : RD_advance m = some R) : Mt M_RD_advance [.ref 1] m (qV R) := by
  refine Mt.of G_RD_advance (Nat.le_of_ble_eq_true rfl) (E_sub (lv' := [(0, .ref 1)]) [0] rfl ?_)
  unfold RD_advance at h
  obtain ⟨v1, hv1, h⟩ := letV_ex h
  refine E_aload_n (n := 1) 0 rfl rfl rfl 0 rfl <| E_gI (n := 4) 1 rfl rfl fg_8_15 sh_1 <| E_aload_n (n := 5) 2 rfl rfl rfl 0 rfl <| E_gI (n := 8) 3 rfl rfl fg_8_19 sh_1 <| E_jmin (n := 11) 4 rfl rfl tw_641 tw_642 tw_124 tw_643 ⟨Nat.le_of_ble_eq_true rfl, Nat.le_of_ble_eq_true rfl⟩ <| E_top hv1 <| E_istore_n (lv' := [(0, .ref 1), (1, .int v1)]) (n := 12) 5 rfl rfl rfl (Nat.le_of_ble_eq_true rfl) [1, 0] rfl <| ?_
  refine RD_advance_L12_ok v1 _ R ?_ FU m h
  intro m2 h
  exact RD_advance_J61_ok m2 v1 _ h
theorem K_RD_isAtEnd (m : Mem) (R : Int32 × Mem) (h : RD_isAtEnd m = some R) : Mt M_RD_isAtEnd [.ref 1] m (qI R.1 R.2) := by
  refine Mt.of G_RD_isAtEnd (Nat.le_of_ble_eq_true rfl) (E_sub (lv' := [(0, .ref 1)]) [0] rfl ?_)
  unfold RD_isAtEnd at h
  obtain ⟨m1, hq2, h⟩ := bM_ex h
  refine E_aload_n (n := 1) 0 rfl rfl rfl 0 rfl <| E_cV0v (n := 4) 1 rfl rfl co_8_60 rfl sh_1 rfl (K_RD_advance m _ hq2) <| E_aload_n (n := 5) 2 rfl rfl rfl 0 rfl <| E_gI (n := 8) 3 rfl rfl fg_8_40 sh_1 <| E_if_ne (n := 11) (t := 15) 4 rfl rfl rfl (fun hc => ?_) (fun hc => ?_)
  · have h := ifn h hc
    refine E_iconst (v := 0) (n := 16) 7 rfl rfl icz_0 <| ?_
    refine E_zreturn 8 rfl rfl z0 (eS h)
  · have h := ifp h hc
    refine E_iconst (v := 1) (n := 12) 5 rfl rfl icz_1 <| E_goto (t := 16) 6 rfl rfl <| ?_
    refine E_zreturn 8 rfl rfl z1 (eS h)
theorem K_RD_failAt (m : Mem) (x1 : Int32) (x2 : Int32) (R : Int32 × Mem) (h : RD_failAt m x1 x2 = some R) : Mt M_RD_failAt [.ref 1, .int x1, .int x2] m (qI R.1 R.2) := by
  refine Mt.of G_RD_failAt (Nat.le_of_ble_eq_true rfl) (E_sub (lv' := [(0, .ref 1), (1, .int x1), (2, .int x2)]) [0, 1, 2] rfl ?_)
  unfold RD_failAt at h
  obtain ⟨m1, hm1, h⟩ := letM_ex h
  obtain ⟨m2, hm2, h⟩ := letM_ex h
  refine E_aload_n (n := 1) 0 rfl rfl rfl 0 rfl <| E_iload_n (n := 2) 1 rfl rfl rfl 1 rfl <| E_pI (n := 5) 2 rfl rfl fp_8_25 sh_1 <| E_mem hm1 <| E_aload_n (n := 6) 3 rfl rfl rfl 0 rfl <| E_iload_n (n := 7) 4 rfl rfl rfl 2 rfl <| E_pI (n := 10) 5 rfl rfl fp_8_28 sh_1 <| E_mem hm2 <| E_iconst (v := 0) (n := 11) 6 rfl rfl icz_0 <| E_zreturn 7 rfl rfl z0 (eS h)
theorem K_RD_fail (m : Mem) (x1 : Int32) (R : Int32 × Mem) (h : RD_fail m x1 = some R) : Mt M_RD_fail [.ref 1, .int x1] m (qI R.1 R.2) := by
  refine Mt.of G_RD_fail (Nat.le_of_ble_eq_true rfl) (E_sub (lv' := [(0, .ref 1), (1, .int x1)]) [0, 1] rfl ?_)
  unfold RD_fail at h
  obtain ⟨v1, m2, hq3, h⟩ := bV_ex h
  obtain ⟨hc4, h⟩ := ift h
  refine E_aload_n (n := 1) 0 rfl rfl rfl 0 rfl <| E_iload_n (n := 2) 1 rfl rfl rfl 1 rfl <| E_aload_n (n := 3) 2 rfl rfl rfl 0 rfl <| E_gI (n := 6) 3 rfl rfl fg_8_37 sh_1 <| E_cV2r (n := 9) 4 rfl rfl co_8_71 rfl sh_1 rfl (K_RD_failAt m x1 (gI m 1 5) _ hq3) <| E_zreturn 5 rfl rfl hc4 (eS h)
theorem K_RD_closes (m : Mem) (R : Int32 × Mem) (h : RD_closes m = some R) : Mt M_RD_closes [.ref 1] m (qI R.1 R.2) := by
  refine Mt.of G_RD_closes (Nat.le_of_ble_eq_true rfl) (E_sub (lv' := [(0, .ref 1)]) [0] rfl ?_)
  unfold RD_closes at h
  refine E_aload_n (n := 1) 0 rfl rfl rfl 0 rfl <| E_gI (n := 4) 1 rfl rfl fg_8_15 sh_1 <| E_aload_n (n := 5) 2 rfl rfl rfl 0 rfl <| E_gI (n := 8) 3 rfl rfl fg_8_19 sh_1 <| E_icmp_le (n := 11) (t := 19) 4 rfl rfl rfl (fun hc => ?_) (fun hc => ?_)
  · have h := ifp h hc
    refine E_iconst (v := 1) (n := 20) 9 rfl rfl icz_1 <| E_goto (t := 24) 10 rfl rfl <| ?_
    refine E_zreturn 12 rfl rfl z1 (eS h)
  · have h := ifn h hc
    obtain ⟨v1, m2, hq3, h⟩ := bV_ex h
    refine E_aload_n (n := 12) 5 rfl rfl rfl 0 rfl <| E_iconst (v := 1) (n := 13) 6 rfl rfl icz_1 <| E_cV1r (n := 16) 7 rfl rfl co_8_63 rfl sh_1 rfl (K_RD_fail m 1 _ hq3) <| E_if_eq (n := 19) (t := 23) 8 rfl rfl rfl (fun hc => ?_) (fun hc => ?_)
    · have h := ifp h hc
      refine E_iconst (v := 0) (n := 24) 11 rfl rfl icz_0 <| ?_
      refine E_zreturn 12 rfl rfl z0 (eS h)
    · have h := ifn h hc
      refine E_iconst (v := 1) (n := 20) 9 rfl rfl icz_1 <| E_goto (t := 24) 10 rfl rfl <| ?_
      refine E_zreturn 12 rfl rfl z1 (eS h)
theorem K_RD_isWord (m : Mem) (x1 : Int32) (x2 : Int32) (R : Int32) (h : RD_isWord m x1 x2 = R) : Mt M_RD_isWord [.ref 1, .int x1, .int x2] m (qI R m) := by
  refine Mt.of G_RD_isWord (Nat.le_of_ble_eq_true rfl) (E_sub (lv' := [(0, .ref 1), (1, .int x1), (2, .int x2)]) [0, 1, 2] rfl ?_)
  unfold RD_isWord at h
  refine E_aload_n (n := 1) 0 rfl rfl rfl 0 rfl <| E_gI (n := 4) 1 rfl rfl fg_8_40 sh_1 <| E_iconst (v := 1) (n := 5) 2 rfl rfl icz_1 <| E_icmp_ne (n := 8) (t := 28) 3 rfl rfl rfl (fun hc => ?_) (fun hc => ?_)
  · have h := ifn h hc
    refine E_iconst (v := 0) (n := 29) 14 rfl rfl icz_0 <| ?_
    refine E_zreturn 15 rfl rfl z0 (eT h)
  · have h := ifp h hc
    refine E_iload_n (n := 9) 4 rfl rfl rfl 1 rfl <| E_aload_n (n := 10) 5 rfl rfl rfl 0 rfl <| E_gI (n := 13) 6 rfl rfl fg_8_54 sh_1 <| E_icmp_gt (n := 16) (t := 28) 7 rfl rfl rfl (fun hc => ?_) (fun hc => ?_)
    · have h := ifp h hc
      refine E_iconst (v := 0) (n := 29) 14 rfl rfl icz_0 <| ?_
      refine E_zreturn 15 rfl rfl z0 (eT h)
    · have h := ifn h hc
      refine E_aload_n (n := 17) 8 rfl rfl rfl 0 rfl <| E_gI (n := 20) 9 rfl rfl fg_8_54 sh_1 <| E_iload_n (n := 21) 10 rfl rfl rfl 2 rfl <| E_icmp_gt (n := 24) (t := 28) 11 rfl rfl rfl (fun hc => ?_) (fun hc => ?_)
      · have h := ifp h hc
        refine E_iconst (v := 0) (n := 29) 14 rfl rfl icz_0 <| ?_
        refine E_zreturn 15 rfl rfl z0 (eT h)
      · have h := ifn h hc
        refine E_iconst (v := 1) (n := 25) 12 rfl rfl icz_1 <| E_goto (t := 29) 13 rfl rfl <| ?_
        refine E_zreturn 15 rfl rfl z1 (eT h)
theorem PH_isLineNamed_L2_ok (m : Mem) (x0 : Nat) (x1 : Int64) (h_x0 : shp x0 = (5, 0)) (kx : Option Int32) (R : Int32) (hx : kx = some R → E M_PH_isLineNamed 32 [] [] m (qI R m)) : ∀ (n : Nat) (x3 : Int32), PH_isLineNamed_L2 m x0 x1 kx n x3 = some R → E M_PH_isLineNamed 2 [(0, .ref x0), (1, .long x1), (3, .int x3)] [] m (qI R m) := by
  intro n
  induction n with
  | zero =>
    intro x3 h
    exact absurd (show none = some R from h) (fun e => Option.some_ne_none R e.symm)
  | succ n ih =>
    intro x3 h
    rw [PH_isLineNamed_L2] at h
    refine E_iload_n (n := 3) 2 rfl rfl rfl 2 rfl <| E_aload_n (n := 4) 3 rfl rfl rfl 0 rfl <| E_gI (n := 7) 4 rfl rfl fg_5_35 h_x0 <| E_icmp_ge (n := 10) (t := 32) 5 rfl rfl rfl (fun hc => ?_) (fun hc => ?_)
    · have h := ifp h hc
      refine E_sub (lv' := []) [] rfl ?_
      exact hx h
    · have h := ifn h hc
      obtain ⟨hc1, h⟩ := ift h
      refine E_aload_n (n := 11) 6 rfl rfl rfl 0 rfl <| E_gF (r := (x0 + 1)) (n := 14) 7 rfl rfl fg_5_12 h_x0 rfl <| E_iload_n (n := 15) 8 rfl rfl rfl 2 rfl <| E_aL (r := (x0 + 2 + 3 * ixn x3)) (n := 16) 9 rfl rfl (shc_5_0 h_x0) hc1 rfl <| E_gJ (n := 19) 10 rfl rfl fg_5_163 (shln h_x0 hc1) <| E_lload_n (n := 20) 11 rfl rfl rfl 1 rfl <| E_lcmp (n := 21) 12 rfl rfl <| E_if_ne (n := 24) (t := 26) 13 rfl rfl rfl (fun hc => ?_) (fun hc => ?_)
      · have h := ifn h hc
        refine E_iinc (v := (x3 + 1)) (lv' := [(0, .ref x0), (1, .long x1), (3, .int (x3 + 1))]) (n := 29) 16 rfl rfl 2 rfl (by rw [icz_1]) (Nat.le_of_ble_eq_true rfl) [1, 2, 0] rfl <| E_goto (t := 2) 17 rfl rfl <| ?_
        exact ih (x3 + 1) h
      · have h := ifp h hc
        refine E_iconst (v := 1) (n := 25) 14 rfl rfl icz_1 <| E_zreturn 15 rfl rfl z1 (eP h)
theorem K_PH_isLineNamed (m : Mem) (x0 : Nat) (x1 : Int64) (h_x0 : shp x0 = (5, 0)) (R : Int32) (h : PH_isLineNamed m x0 x1 = some R) : Mt M_PH_isLineNamed [.ref x0, .long x1] m (qI R m) := by
  refine Mt.of G_PH_isLineNamed (Nat.le_of_ble_eq_true rfl) (E_sub (lv' := [(0, .ref x0), (1, .long x1)]) [0, 1] rfl ?_)
  unfold PH_isLineNamed at h
  refine E_iconst (v := 0) (n := 1) 0 rfl rfl icz_0 <| E_istore_n (lv' := [(0, .ref x0), (1, .long x1), (3, .int 0)]) (n := 2) 1 rfl rfl rfl (Nat.le_of_ble_eq_true rfl) [1, 2, 0] rfl <| ?_
  refine PH_isLineNamed_L2_ok m x0 x1 h_x0 _ R ?_ FU 0 h
  intro h
  refine E_iconst (v := 0) (n := 33) 18 rfl rfl icz_0 <| E_zreturn 19 rfl rfl z0 (eP h)
theorem PH_hayNamed_L2_ok (m : Mem) (x0 : Nat) (x1 : Int64) (h_x0 : shp x0 = (5, 0)) (kx : Option Int32) (R : Int32) (hx : kx = some R → E M_PH_hayNamed 29 [] [] m (qI R m)) : ∀ (n : Nat) (x3 : Int32), PH_hayNamed_L2 m x0 x1 kx n x3 = some R → E M_PH_hayNamed 2 [(0, .ref x0), (1, .long x1), (3, .int x3)] [] m (qI R m) := by
  intro n
  induction n with
  | zero =>
    intro x3 h
    exact absurd (show none = some R from h) (fun e => Option.some_ne_none R e.symm)
  | succ n ih =>
    intro x3 h
    rw [PH_hayNamed_L2] at h
    refine E_iload_n (n := 3) 2 rfl rfl rfl 2 rfl <| E_aload_n (n := 4) 3 rfl rfl rfl 0 rfl <| E_gI (n := 7) 4 rfl rfl fg_5_46 h_x0 <| E_icmp_ge (n := 10) (t := 29) 5 rfl rfl rfl (fun hc => ?_) (fun hc => ?_)
    · have h := ifp h hc
      refine E_sub (lv' := []) [] rfl ?_
      exact hx h
    · have h := ifn h hc
      obtain ⟨hc1, h⟩ := ift h
      refine E_aload_n (n := 11) 6 rfl rfl rfl 0 rfl <| E_gF (r := (x0 + 14)) (n := 14) 7 rfl rfl fg_5_28 h_x0 rfl <| E_iload_n (n := 15) 8 rfl rfl rfl 2 rfl <| E_lald (n := 16) 9 rfl rfl (shc_5_4 h_x0) hc1 <| E_lload_n (n := 17) 10 rfl rfl rfl 1 rfl <| E_lcmp (n := 18) 11 rfl rfl <| E_if_ne (n := 21) (t := 23) 12 rfl rfl rfl (fun hc => ?_) (fun hc => ?_)
      · have h := ifn h hc
        refine E_iinc (v := (x3 + 1)) (lv' := [(0, .ref x0), (1, .long x1), (3, .int (x3 + 1))]) (n := 26) 15 rfl rfl 2 rfl (by rw [icz_1]) (Nat.le_of_ble_eq_true rfl) [1, 2, 0] rfl <| E_goto (t := 2) 16 rfl rfl <| ?_
        exact ih (x3 + 1) h
      · have h := ifp h hc
        refine E_iload_n (n := 22) 13 rfl rfl rfl 2 rfl <| E_ireturn 14 rfl rfl (eP h)
theorem K_PH_hayNamed (m : Mem) (x0 : Nat) (x1 : Int64) (h_x0 : shp x0 = (5, 0)) (R : Int32) (h : PH_hayNamed m x0 x1 = some R) : Mt M_PH_hayNamed [.ref x0, .long x1] m (qI R m) := by
  refine Mt.of G_PH_hayNamed (Nat.le_of_ble_eq_true rfl) (E_sub (lv' := [(0, .ref x0), (1, .long x1)]) [0, 1] rfl ?_)
  unfold PH_hayNamed at h
  refine E_iconst (v := 0) (n := 1) 0 rfl rfl icz_0 <| E_istore_n (lv' := [(0, .ref x0), (1, .long x1), (3, .int 0)]) (n := 2) 1 rfl rfl rfl (Nat.le_of_ble_eq_true rfl) [1, 2, 0] rfl <| ?_
  refine PH_hayNamed_L2_ok m x0 x1 h_x0 _ R ?_ FU 0 h
  intro h
  refine E_iconst (v := (-1)) (n := 30) 17 rfl rfl icz_m1 <| E_ireturn 18 rfl rfl (eP h)
theorem PH_tellName_J44_ok (m : Mem) (R : Int32 × Mem) (h : PH_tellName_J44 m = some R) : E M_PH_tellName 44 [(1, .ref 1)] [] m (qI R.1 R.2) := by
  unfold PH_tellName_J44 at h
  obtain ⟨v1, m2, hq3, h⟩ := bV_ex h
  refine E_aload_n (n := 45) 22 rfl rfl rfl 0 rfl <| E_iconst (v := 3) (n := 46) 23 rfl rfl icz_3 <| E_cV1r (n := 49) 24 rfl rfl co_5_132 rfl sh_1 rfl (K_RD_fail m 3 _ hq3) <| E_if_eq (n := 52) (t := 56) 25 rfl rfl rfl (fun hc => ?_) (fun hc => ?_)
  · have h := ifp h hc
    refine E_iconst (v := 0) (n := 57) 28 rfl rfl icz_0 <| ?_
    refine E_zreturn 29 rfl rfl z0 (eS h)
  · have h := ifn h hc
    refine E_iconst (v := 1) (n := 53) 26 rfl rfl icz_1 <| E_goto (t := 57) 27 rfl rfl <| ?_
    refine E_zreturn 29 rfl rfl z1 (eS h)
theorem K_PH_tellName (m : Mem) (x0 : Nat) (h_x0 : shp x0 = (5, 0)) (R : Int32 × Mem) (h : PH_tellName m x0 = some R) : Mt M_PH_tellName [.ref x0, .ref 1] m (qI R.1 R.2) := by
  refine Mt.of G_PH_tellName (Nat.le_of_ble_eq_true rfl) (E_sub (lv' := [(0, .ref x0), (1, .ref 1)]) [0, 1] rfl ?_)
  unfold PH_tellName at h
  obtain ⟨m1, hq2, h⟩ := bM_ex h
  refine E_aload_n (n := 1) 0 rfl rfl rfl 1 rfl <| E_cV0v (n := 4) 1 rfl rfl co_5_166 rfl sh_1 rfl (K_RD_advance m _ hq2) <| E_aload_n (n := 5) 2 rfl rfl rfl 1 rfl <| E_bipush (v := 17) (n := 7) 3 rfl rfl bpz_17 <| E_bipush (v := 17) (n := 9) 4 rfl rfl bpz_17 <| E_cV2r (n := 12) 5 rfl rfl co_5_129 rfl sh_1 rfl (K_RD_isWord m1 17 17 _ rfl) <| E_if_ne (n := 15) (t := 21) 6 rfl rfl rfl (fun hc => ?_) (fun hc => ?_)
  · have h := ifn h hc
    obtain ⟨v3, hq4, h⟩ := bI_ex h
    refine E_aload_n (n := 22) 11 rfl rfl rfl 0 rfl <| E_aload_n (n := 23) 12 rfl rfl rfl 1 rfl <| E_gJ (n := 26) 13 rfl rfl fg_5_159 sh_1 <| E_cV1r (n := 29) 14 rfl rfl co_5_205 rfl h_x0 rfl (K_PH_isLineNamed m1 x0 (gJ m1 1 8) h_x0 _ hq4) <| E_if_ne (n := 32) (t := 44) 15 rfl rfl rfl (fun hc => ?_) (fun hc => ?_)
    · have h := ifn h hc
      refine E_sub (lv' := [(1, .ref 1)]) [1] rfl ?_
      exact PH_tellName_J44_ok m1 _ h
    · have h := ifp h hc
      obtain ⟨v5, hq6, h⟩ := bI_ex h
      refine E_aload_n (n := 33) 16 rfl rfl rfl 0 rfl <| E_aload_n (n := 34) 17 rfl rfl rfl 1 rfl <| E_gJ (n := 37) 18 rfl rfl fg_5_159 sh_1 <| E_cV1r (n := 40) 19 rfl rfl co_5_209 rfl h_x0 rfl (K_PH_hayNamed m1 x0 (gJ m1 1 8) h_x0 _ hq6) <| E_iconst (v := (-1)) (n := 41) 20 rfl rfl icz_m1 <| E_icmp_eq (n := 44) (t := 52) 21 rfl rfl rfl (fun hc => ?_) (fun hc => ?_)
      · have h := ifp h hc
        refine E_iconst (v := 1) (n := 53) 26 rfl rfl icz_1 <| E_goto (t := 57) 27 rfl rfl <| ?_
        refine E_zreturn 29 rfl rfl z1 (eS h)
      · have h := ifn h hc
        refine E_sub (lv' := [(1, .ref 1)]) [1] rfl ?_
        exact PH_tellName_J44_ok m1 _ h
  · have h := ifp h hc
    obtain ⟨v7, m8, hq9, h⟩ := bV_ex h
    obtain ⟨hc10, h⟩ := ift h
    refine E_aload_n (n := 16) 7 rfl rfl rfl 1 rfl <| E_iconst (v := 1) (n := 17) 8 rfl rfl icz_1 <| E_cV1r (n := 20) 9 rfl rfl co_5_132 rfl sh_1 rfl (K_RD_fail m1 1 _ hq9) <| E_zreturn 10 rfl rfl hc10 (eS h)
theorem K_LN_isAt (m : Mem) (x0 : Nat) (x1 : Int32) (x2 : Int32) (x3 : Int32) (h_x0 : shp x0 = (2, 0)) (R : Int32) (h : LN_isAt m x0 x1 x2 x3 = some R) : Mt M_LN_isAt [.ref x0, .int x1, .int x2, .int x3] m (qI R m) := by
  refine Mt.of G_LN_isAt (Nat.le_of_ble_eq_true rfl) (E_sub (lv' := [(0, .ref x0), (1, .int x1), (2, .int x2), (3, .int x3)]) [0, 1, 2, 3] rfl ?_)
  unfold LN_isAt at h
  obtain ⟨hc1, h⟩ := ift h
  refine E_aload_n (n := 1) 0 rfl rfl rfl 0 rfl <| E_gF (r := (x0 + 1)) (n := 4) 1 rfl rfl fg_2_9 h_x0 rfl <| E_iload_n (n := 5) 2 rfl rfl rfl 1 rfl <| E_iald (n := 6) 3 rfl rfl (shc_2_2 h_x0) hc1 <| E_iload_n (n := 7) 4 rfl rfl rfl 2 rfl <| E_icmp_ne (n := 10) (t := 24) 5 rfl rfl rfl (fun hc => ?_) (fun hc => ?_)
  · have h := ifn h hc
    refine E_iconst (v := 0) (n := 25) 14 rfl rfl icz_0 <| ?_
    refine E_zreturn 15 rfl rfl z0 (eP h)
  · have h := ifp h hc
    refine E_aload_n (n := 11) 6 rfl rfl rfl 0 rfl <| E_gF (r := (x0 + 2)) (n := 14) 7 rfl rfl fg_2_15 h_x0 rfl <| E_iload_n (n := 15) 8 rfl rfl rfl 1 rfl <| E_iald (n := 16) 9 rfl rfl (shc_2_3 h_x0) hc1 <| E_iload_n (n := 17) 10 rfl rfl rfl 3 rfl <| E_icmp_ne (n := 20) (t := 24) 11 rfl rfl rfl (fun hc => ?_) (fun hc => ?_)
    · have h := ifn h hc
      refine E_iconst (v := 0) (n := 25) 14 rfl rfl icz_0 <| ?_
      refine E_zreturn 15 rfl rfl z0 (eP h)
    · have h := ifp h hc
      refine E_iconst (v := 1) (n := 21) 12 rfl rfl icz_1 <| E_goto (t := 25) 13 rfl rfl <| ?_
      refine E_zreturn 15 rfl rfl z1 (eP h)
theorem K_PH_closeLine (m : Mem) (x0 : Nat) (x2 : Nat) (h_x0 : shp x0 = (5, 0)) (h_x2 : shp x2 = (2, 0)) (R : Int32 × Mem) (h : PH_closeLine m x0 x2 = some R) : Mt M_PH_closeLine [.ref x0, .ref 1, .ref x2] m (qI R.1 R.2) := by
  refine Mt.of G_PH_closeLine (Nat.le_of_ble_eq_true rfl) (E_sub (lv' := [(0, .ref x0), (1, .ref 1), (2, .ref x2)]) [0, 1, 2] rfl ?_)
  unfold PH_closeLine at h
  refine E_aload_n (n := 1) 0 rfl rfl rfl 2 rfl <| E_gI (n := 4) 1 rfl rfl fg_5_43 h_x2 <| E_if_ne (n := 7) (t := 13) 2 rfl rfl rfl (fun hc => ?_) (fun hc => ?_)
  · have h := ifn h hc
    refine E_aload_n (n := 14) 7 rfl rfl rfl 2 rfl <| E_gI (n := 17) 8 rfl rfl fg_5_43 h_x2 <| E_iconst (v := 3) (n := 18) 9 rfl rfl icz_3 <| E_icmp_ge (n := 21) (t := 27) 10 rfl rfl rfl (fun hc => ?_) (fun hc => ?_)
    · have h := ifp h hc
      obtain ⟨hc1, h⟩ := ift h
      obtain ⟨v2, hq3, h⟩ := bI_ex h
      refine E_aload_n (n := 28) 15 rfl rfl rfl 2 rfl <| E_aload_n (n := 29) 16 rfl rfl rfl 2 rfl <| E_gI (n := 32) 17 rfl rfl fg_5_43 h_x2 <| E_iconst (v := 1) (n := 33) 18 rfl rfl icz_1 <| E_isub (n := 34) 19 rfl rfl <| E_aload_n (n := 35) 20 rfl rfl rfl 2 rfl <| E_gF (r := (x2 + 1)) (n := 38) 21 rfl rfl fg_5_72 h_x2 rfl <| E_iconst (v := 0) (n := 39) 22 rfl rfl icz_0 <| E_iald (n := 40) 23 rfl rfl (shc_2_2 h_x2) hc1 <| E_aload_n (n := 41) 24 rfl rfl rfl 2 rfl <| E_gF (r := (x2 + 2)) (n := 44) 25 rfl rfl fg_5_75 h_x2 rfl <| E_iconst (v := 0) (n := 45) 26 rfl rfl icz_0 <| E_iald (n := 46) 27 rfl rfl (shc_2_3 h_x2) hc1 <| E_cV3r (n := 49) 28 rfl rfl co_5_189 rfl h_x2 rfl (K_LN_isAt m x2 ((gI m x2 1) - 1) (gI m (x2 + 1) (ixn 0)) (gI m (x2 + 2) (ixn 0)) h_x2 _ hq3) <| E_if_eq (n := 52) (t := 58) 29 rfl rfl rfl (fun hc => ?_) (fun hc => ?_)
      · have h := ifp h hc
        obtain ⟨m4, hm4, h⟩ := letM_ex h
        refine E_aload_n (n := 59) 34 rfl rfl rfl 0 rfl <| E_dup (n := 60) 35 rfl rfl rfl <| E_gI (n := 63) 36 rfl rfl fg_5_35 h_x0 <| E_iconst (v := 1) (n := 64) 37 rfl rfl icz_1 <| E_iadd (n := 65) 38 rfl rfl <| E_pI (n := 68) 39 rfl rfl fp_5_35 h_x0 <| E_mem hm4 <| E_iconst (v := 1) (n := 69) 40 rfl rfl icz_1 <| E_zreturn 41 rfl rfl z1 (eS h)
      · have h := ifn h hc
        obtain ⟨v5, m6, hq7, h⟩ := bV_ex h
        obtain ⟨hc8, h⟩ := ift h
        refine E_aload_n (n := 53) 30 rfl rfl rfl 1 rfl <| E_iconst (v := 3) (n := 54) 31 rfl rfl icz_3 <| E_cV1r (n := 57) 32 rfl rfl co_5_132 rfl sh_1 rfl (K_RD_fail m 3 _ hq7) <| E_zreturn 33 rfl rfl hc8 (eS h)
    · have h := ifn h hc
      obtain ⟨v9, m10, hq11, h⟩ := bV_ex h
      obtain ⟨hc12, h⟩ := ift h
      refine E_aload_n (n := 22) 11 rfl rfl rfl 1 rfl <| E_iconst (v := 4) (n := 23) 12 rfl rfl icz_4 <| E_cV1r (n := 26) 13 rfl rfl co_5_132 rfl sh_1 rfl (K_RD_fail m 4 _ hq11) <| E_zreturn 14 rfl rfl hc12 (eS h)
  · have h := ifp h hc
    obtain ⟨v13, m14, hq15, h⟩ := bV_ex h
    obtain ⟨hc16, h⟩ := ift h
    refine E_aload_n (n := 8) 3 rfl rfl rfl 1 rfl <| E_iconst (v := 1) (n := 9) 4 rfl rfl icz_1 <| E_cV1r (n := 12) 5 rfl rfl co_5_132 rfl sh_1 rfl (K_RD_fail m 1 _ hq15) <| E_zreturn 6 rfl rfl hc16 (eS h)
theorem K_PH_beginsCorner (m : Mem) (x1 : Nat) (h_x1 : shp x1 = (2, 0)) (R : Int32 × Mem) (h : PH_beginsCorner m x1 = some R) : Mt M_PH_beginsCorner [.ref 1, .ref x1] m (qI R.1 R.2) := by
  refine Mt.of G_PH_beginsCorner (Nat.le_of_ble_eq_true rfl) (E_sub (lv' := [(0, .ref 1), (1, .ref x1)]) [0, 1] rfl ?_)
  unfold PH_beginsCorner at h
  refine E_aload_n (n := 1) 0 rfl rfl rfl 0 rfl <| E_gI (n := 4) 1 rfl rfl fg_5_169 sh_1 <| E_iconst (v := 2) (n := 5) 2 rfl rfl icz_2 <| E_icmp_eq (n := 8) (t := 14) 3 rfl rfl rfl (fun hc => ?_) (fun hc => ?_)
  · have h := ifp h hc
    refine E_aload_n (n := 15) 8 rfl rfl rfl 0 rfl <| E_gI (n := 18) 9 rfl rfl fg_5_176 sh_1 <| E_bipush (v := 20) (n := 20) 10 rfl rfl bpz_20 <| E_icmp_le (n := 23) (t := 29) 11 rfl rfl rfl (fun hc => ?_) (fun hc => ?_)
    · have h := ifp h hc
      refine E_aload_n (n := 30) 16 rfl rfl rfl 1 rfl <| E_gI (n := 33) 17 rfl rfl fg_5_43 h_x1 <| E_bipush (v := 12) (n := 35) 18 rfl rfl bpz_12 <| E_icmp_lt (n := 38) (t := 46) 19 rfl rfl rfl (fun hc => ?_) (fun hc => ?_)
      · have h := ifp h hc
        refine E_iconst (v := 1) (n := 47) 24 rfl rfl icz_1 <| E_goto (t := 51) 25 rfl rfl <| ?_
        refine E_zreturn 27 rfl rfl z1 (eS h)
      · have h := ifn h hc
        obtain ⟨v1, m2, hq3, h⟩ := bV_ex h
        refine E_aload_n (n := 39) 20 rfl rfl rfl 0 rfl <| E_iconst (v := 4) (n := 40) 21 rfl rfl icz_4 <| E_cV1r (n := 43) 22 rfl rfl co_5_132 rfl sh_1 rfl (K_RD_fail m 4 _ hq3) <| E_if_eq (n := 46) (t := 50) 23 rfl rfl rfl (fun hc => ?_) (fun hc => ?_)
        · have h := ifp h hc
          refine E_iconst (v := 0) (n := 51) 26 rfl rfl icz_0 <| ?_
          refine E_zreturn 27 rfl rfl z0 (eS h)
        · have h := ifn h hc
          refine E_iconst (v := 1) (n := 47) 24 rfl rfl icz_1 <| E_goto (t := 51) 25 rfl rfl <| ?_
          refine E_zreturn 27 rfl rfl z1 (eS h)
    · have h := ifn h hc
      obtain ⟨v4, m5, hq6, h⟩ := bV_ex h
      obtain ⟨hc7, h⟩ := ift h
      refine E_aload_n (n := 24) 12 rfl rfl rfl 0 rfl <| E_iconst (v := 2) (n := 25) 13 rfl rfl icz_2 <| E_cV1r (n := 28) 14 rfl rfl co_5_132 rfl sh_1 rfl (K_RD_fail m 2 _ hq6) <| E_zreturn 15 rfl rfl hc7 (eS h)
  · have h := ifn h hc
    obtain ⟨v8, m9, hq10, h⟩ := bV_ex h
    obtain ⟨hc11, h⟩ := ift h
    refine E_aload_n (n := 9) 4 rfl rfl rfl 0 rfl <| E_iconst (v := 1) (n := 10) 5 rfl rfl icz_1 <| E_cV1r (n := 13) 6 rfl rfl co_5_132 rfl sh_1 rfl (K_RD_fail m 1 _ hq10) <| E_zreturn 7 rfl rfl hc11 (eS h)
theorem RD_readNumber_J34_ok (m : Mem) (R : Int32 × Mem) (h : RD_readNumber_J34 m = some R) : E M_RD_readNumber 34 [(0, .ref 1)] [] m (qI R.1 R.2) := by
  unfold RD_readNumber_J34 at h
  obtain ⟨v1, m2, hq3, h⟩ := bV_ex h
  refine E_aload_n (n := 35) 18 rfl rfl rfl 0 rfl <| E_iconst (v := 2) (n := 36) 19 rfl rfl icz_2 <| E_cV1r (n := 39) 20 rfl rfl co_8_63 rfl sh_1 rfl (K_RD_fail m 2 _ hq3) <| E_if_eq (n := 42) (t := 46) 21 rfl rfl rfl (fun hc => ?_) (fun hc => ?_)
  · have h := ifp h hc
    refine E_iconst (v := 0) (n := 47) 24 rfl rfl icz_0 <| ?_
    refine E_zreturn 25 rfl rfl z0 (eS h)
  · have h := ifn h hc
    refine E_iconst (v := 1) (n := 43) 22 rfl rfl icz_1 <| E_goto (t := 47) 23 rfl rfl <| ?_
    refine E_zreturn 25 rfl rfl z1 (eS h)
theorem K_RD_readNumber (m : Mem) (x1 : Int32) (x2 : Int32) (R : Int32 × Mem) (h : RD_readNumber m x1 x2 = some R) : Mt M_RD_readNumber [.ref 1, .int x1, .int x2] m (qI R.1 R.2) := by
  refine Mt.of G_RD_readNumber (Nat.le_of_ble_eq_true rfl) (E_sub (lv' := [(0, .ref 1), (1, .int x1), (2, .int x2)]) [0, 1, 2] rfl ?_)
  unfold RD_readNumber at h
  obtain ⟨m1, hq2, h⟩ := bM_ex h
  refine E_aload_n (n := 1) 0 rfl rfl rfl 0 rfl <| E_cV0v (n := 4) 1 rfl rfl co_8_60 rfl sh_1 rfl (K_RD_advance m _ hq2) <| E_aload_n (n := 5) 2 rfl rfl rfl 0 rfl <| E_gI (n := 8) 3 rfl rfl fg_8_40 sh_1 <| E_iconst (v := 2) (n := 9) 4 rfl rfl icz_2 <| E_icmp_eq (n := 12) (t := 18) 5 rfl rfl rfl (fun hc => ?_) (fun hc => ?_)
  · have h := ifp h hc
    refine E_aload_n (n := 19) 10 rfl rfl rfl 0 rfl <| E_gI (n := 22) 11 rfl rfl fg_8_57 sh_1 <| E_iload_n (n := 23) 12 rfl rfl rfl 1 rfl <| E_icmp_lt (n := 26) (t := 34) 13 rfl rfl rfl (fun hc => ?_) (fun hc => ?_)
    · have h := ifp h hc
      refine E_sub (lv' := [(0, .ref 1)]) [0] rfl ?_
      exact RD_readNumber_J34_ok m1 _ h
    · have h := ifn h hc
      refine E_aload_n (n := 27) 14 rfl rfl rfl 0 rfl <| E_gI (n := 30) 15 rfl rfl fg_8_57 sh_1 <| E_iload_n (n := 31) 16 rfl rfl rfl 2 rfl <| E_icmp_le (n := 34) (t := 42) 17 rfl rfl rfl (fun hc => ?_) (fun hc => ?_)
      · have h := ifp h hc
        refine E_iconst (v := 1) (n := 43) 22 rfl rfl icz_1 <| E_goto (t := 47) 23 rfl rfl <| ?_
        refine E_zreturn 25 rfl rfl z1 (eS h)
      · have h := ifn h hc
        refine E_sub (lv' := [(0, .ref 1)]) [0] rfl ?_
        exact RD_readNumber_J34_ok m1 _ h
  · have h := ifn h hc
    obtain ⟨v3, m4, hq5, h⟩ := bV_ex h
    obtain ⟨hc6, h⟩ := ift h
    refine E_aload_n (n := 13) 6 rfl rfl rfl 0 rfl <| E_iconst (v := 1) (n := 14) 7 rfl rfl icz_1 <| E_cV1r (n := 17) 8 rfl rfl co_8_63 rfl sh_1 rfl (K_RD_fail m1 1 _ hq5) <| E_zreturn 9 rfl rfl hc6 (eS h)
theorem K_LN_add (m : Mem) (x0 : Nat) (x1 : Int32) (x2 : Int32) (h_x0 : shp x0 = (2, 0)) (R : Int32 × Mem) (h : LN_add m x0 x1 x2 = some R) : Mt M_LN_add [.ref x0, .int x1, .int x2] m (qI R.1 R.2) := by
  refine Mt.of G_LN_add (Nat.le_of_ble_eq_true rfl) (E_sub (lv' := [(0, .ref x0), (1, .int x1), (2, .int x2)]) [0, 1, 2] rfl ?_)
  unfold LN_add at h
  refine E_aload_n (n := 1) 0 rfl rfl rfl 0 rfl <| E_gI (n := 4) 1 rfl rfl fg_2_22 h_x0 <| E_bipush (v := 12) (n := 6) 2 rfl rfl bpz_12 <| E_icmp_lt (n := 9) (t := 11) 3 rfl rfl rfl (fun hc => ?_) (fun hc => ?_)
  · have h := ifp h hc
    obtain ⟨hc1, h⟩ := ift h
    obtain ⟨m2, hm2, h⟩ := letM_ex h
    obtain ⟨hc3, h⟩ := ift h
    obtain ⟨m4, hm4, h⟩ := letM_ex h
    obtain ⟨m5, hm5, h⟩ := letM_ex h
    refine E_aload_n (n := 12) 6 rfl rfl rfl 0 rfl <| E_gF (r := (x0 + 1)) (n := 15) 7 rfl rfl fg_2_9 h_x0 rfl <| E_aload_n (n := 16) 8 rfl rfl rfl 0 rfl <| E_gI (n := 19) 9 rfl rfl fg_2_22 h_x0 <| E_iload_n (n := 20) 10 rfl rfl rfl 1 rfl <| E_iast (n := 21) 11 rfl rfl (shc_2_2 h_x0) hc1 <| E_mem hm2 <| E_aload_n (n := 22) 12 rfl rfl rfl 0 rfl <| E_gF (r := (x0 + 2)) (n := 25) 13 rfl rfl fg_2_15 h_x0 rfl <| E_aload_n (n := 26) 14 rfl rfl rfl 0 rfl <| E_gI (n := 29) 15 rfl rfl fg_2_22 h_x0 <| E_iload_n (n := 30) 16 rfl rfl rfl 2 rfl <| E_iast (n := 31) 17 rfl rfl (shc_2_3 h_x0) hc3 <| E_mem hm4 <| E_aload_n (n := 32) 18 rfl rfl rfl 0 rfl <| E_dup (n := 33) 19 rfl rfl rfl <| E_gI (n := 36) 20 rfl rfl fg_2_22 h_x0 <| E_iconst (v := 1) (n := 37) 21 rfl rfl icz_1 <| E_iadd (n := 38) 22 rfl rfl <| E_pI (n := 41) 23 rfl rfl fp_2_22 h_x0 <| E_mem hm5 <| E_iconst (v := 1) (n := 42) 24 rfl rfl icz_1 <| E_zreturn 25 rfl rfl z1 (eS h)
  · have h := ifn h hc
    refine E_iconst (v := 0) (n := 10) 4 rfl rfl icz_0 <| E_zreturn 5 rfl rfl z0 (eS h)
theorem PH_endsCorner_J30_ok (m : Mem) (x1 : Nat) (x2 : Int32) (h_x1 : shp x1 = (2, 0)) (R : Int32 × Mem) (h : PH_endsCorner_J30 m x1 x2 = some R) : E M_PH_endsCorner 30 [(0, .ref 1), (1, .ref x1), (2, .int x2)] [] m (qI R.1 R.2) := by
  unfold PH_endsCorner_J30 at h
  obtain ⟨v1, m2, hq3, h⟩ := bV_ex h
  obtain ⟨hc4, h⟩ := ift h
  refine E_aload_n (n := 31) 18 rfl rfl rfl 1 rfl <| E_iload_n (n := 32) 19 rfl rfl rfl 2 rfl <| E_aload_n (n := 33) 20 rfl rfl rfl 0 rfl <| E_gI (n := 36) 21 rfl rfl fg_5_176 sh_1 <| E_cV2r (n := 39) 22 rfl rfl co_5_192 rfl h_x1 rfl (K_LN_add m x1 x2 (gI m 1 7) h_x1 _ hq3) <| E_zreturn 23 rfl rfl hc4 (eS h)
theorem K_PH_endsCorner (m : Mem) (x1 : Nat) (x2 : Int32) (h_x1 : shp x1 = (2, 0)) (R : Int32 × Mem) (h : PH_endsCorner m x1 x2 = some R) : Mt M_PH_endsCorner [.ref 1, .ref x1, .int x2] m (qI R.1 R.2) := by
  refine Mt.of G_PH_endsCorner (Nat.le_of_ble_eq_true rfl) (E_sub (lv' := [(0, .ref 1), (1, .ref x1), (2, .int x2)]) [0, 1, 2] rfl ?_)
  unfold PH_endsCorner at h
  obtain ⟨v1, hv1, h⟩ := letV_ex h
  refine E_aload_n (n := 1) 0 rfl rfl rfl 1 rfl <| E_gI (n := 4) 1 rfl rfl fg_5_43 h_x1 <| E_top hv1 <| E_istore_n (lv' := [(0, .ref 1), (1, .ref x1), (2, .int x2), (3, .int v1)]) (n := 5) 2 rfl rfl rfl (Nat.le_of_ble_eq_true rfl) [1, 2, 3, 0] rfl <| E_iload_n (n := 6) 3 rfl rfl rfl 3 rfl <| E_if_le (n := 9) (t := 30) 4 rfl rfl rfl (fun hc => ?_) (fun hc => ?_)
  · have h := ifp h hc
    refine E_sub (lv' := [(0, .ref 1), (1, .ref x1), (2, .int x2)]) [0, 1, 2] rfl ?_
    exact PH_endsCorner_J30_ok m x1 x2 h_x1 _ h
  · have h := ifn h hc
    obtain ⟨v2, hq3, h⟩ := bI_ex h
    refine E_aload_n (n := 10) 5 rfl rfl rfl 1 rfl <| E_iload_n (n := 11) 6 rfl rfl rfl 3 rfl <| E_iconst (v := 1) (n := 12) 7 rfl rfl icz_1 <| E_isub (n := 13) 8 rfl rfl <| E_iload_n (n := 14) 9 rfl rfl rfl 2 rfl <| E_aload_n (n := 15) 10 rfl rfl rfl 0 rfl <| E_gI (n := 18) 11 rfl rfl fg_5_176 sh_1 <| E_cV3r (n := 21) 12 rfl rfl co_5_189 rfl h_x1 rfl (K_LN_isAt m x1 (v1 - 1) x2 (gI m 1 7) h_x1 _ hq3) <| E_if_eq (n := 24) (t := 30) 13 rfl rfl rfl (fun hc => ?_) (fun hc => ?_)
    · have h := ifp h hc
      refine E_sub (lv' := [(0, .ref 1), (1, .ref x1), (2, .int x2)]) [0, 1, 2] rfl ?_
      exact PH_endsCorner_J30_ok m x1 x2 h_x1 _ h
    · have h := ifn h hc
      obtain ⟨v4, m5, hq6, h⟩ := bV_ex h
      obtain ⟨hc7, h⟩ := ift h
      refine E_aload_n (n := 25) 14 rfl rfl rfl 0 rfl <| E_iconst (v := 3) (n := 26) 15 rfl rfl icz_3 <| E_cV1r (n := 29) 16 rfl rfl co_5_132 rfl sh_1 rfl (K_RD_fail m 3 _ hq6) <| E_zreturn 17 rfl rfl hc7 (eS h)
theorem PH_tellLine_L49_ok (x0 : Nat) (x2 : Nat) (h_x0 : shp x0 = (5, 0)) (h_x2 : shp x2 = (2, 0)) (kx : Mem → Option (Int32 × Mem)) (R : Int32 × Mem) (hx : ∀ (m : Mem), kx m = some R → E M_PH_tellLine 116 [] [] m (qI R.1 R.2)) : ∀ (n : Nat) (m : Mem) (x3 : Int32), PH_tellLine_L49 x0 x2 kx n m x3 = some R → E M_PH_tellLine 49 [(0, .ref x0), (1, .ref 1), (2, .ref x2), (3, .int x3)] [] m (qI R.1 R.2) := by
  intro n
  induction n with
  | zero =>
    intro m x3 h
    exact absurd (show none = some R from h) (fun e => Option.some_ne_none R e.symm)
  | succ n ih =>
    intro m x3 h
    rw [PH_tellLine_L49] at h
    refine E_iload_n (n := 50) 29 rfl rfl rfl 3 rfl <| E_bipush (v := 12) (n := 52) 30 rfl rfl bpz_12 <| E_icmp_gt (n := 55) (t := 116) 31 rfl rfl rfl (fun hc => ?_) (fun hc => ?_)
    · have h := ifp h hc
      refine E_sub (lv' := []) [] rfl ?_
      exact hx m h
    · have h := ifn h hc
      obtain ⟨m1, hq2, h⟩ := bM_ex h
      refine E_aload_n (n := 56) 32 rfl rfl rfl 1 rfl <| E_cV0v (n := 59) 33 rfl rfl co_5_166 rfl sh_1 rfl (K_RD_advance m _ hq2) <| E_aload_n (n := 60) 34 rfl rfl rfl 1 rfl <| E_gI (n := 63) 35 rfl rfl fg_5_169 sh_1 <| E_iconst (v := 3) (n := 64) 36 rfl rfl icz_3 <| E_icmp_ne (n := 67) (t := 74) 37 rfl rfl rfl (fun hc => ?_) (fun hc => ?_)
      · have h := ifn h hc
        obtain ⟨v3, hv3, h⟩ := letV_ex h
        obtain ⟨v4, m5, hq6, h⟩ := bV_ex h
        refine E_aload_n (n := 75) 43 rfl rfl rfl 1 rfl <| E_gI (n := 78) 44 rfl rfl fg_5_176 sh_1 <| E_top hv3 <| E_istore (lv' := [(0, .ref x0), (1, .ref 1), (2, .ref x2), (3, .int x3), (4, .int v3)]) (n := 80) 45 rfl rfl (Nat.le_of_ble_eq_true rfl) [1, 2, 3, 4, 0] rfl <| E_aload_n (n := 81) 46 rfl rfl rfl 1 rfl <| E_aload_n (n := 82) 47 rfl rfl rfl 2 rfl <| E_dS2r (n := 85) 48 rfl rfl co_5_179 rfl rfl (K_PH_beginsCorner m1 x2 h_x2 _ hq6) <| E_if_eq (n := 88) (t := 108) 49 rfl rfl rfl (fun hc => ?_) (fun hc => ?_)
        · have h := ifp h hc
          refine E_iconst (v := 0) (n := 109) 60 rfl rfl icz_0 <| E_zreturn 61 rfl rfl z0 (eS h)
        · have h := ifn h hc
          obtain ⟨v7, m8, hq9, h⟩ := bV_ex h
          refine E_aload_n (n := 89) 50 rfl rfl rfl 1 rfl <| E_iconst (v := 0) (n := 90) 51 rfl rfl icz_0 <| E_bipush (v := 20) (n := 92) 52 rfl rfl bpz_20 <| E_cV2r (n := 95) 53 rfl rfl co_5_182 rfl sh_1 rfl (K_RD_readNumber m5 0 20 _ hq9) <| E_if_eq (n := 98) (t := 108) 54 rfl rfl rfl (fun hc => ?_) (fun hc => ?_)
          · have h := ifp h hc
            refine E_iconst (v := 0) (n := 109) 60 rfl rfl icz_0 <| E_zreturn 61 rfl rfl z0 (eS h)
          · have h := ifn h hc
            obtain ⟨v10, m11, hq12, h⟩ := bV_ex h
            refine E_aload_n (n := 99) 55 rfl rfl rfl 1 rfl <| E_aload_n (n := 100) 56 rfl rfl rfl 2 rfl <| E_iload (n := 102) 57 rfl rfl 4 rfl <| E_dS3r (n := 105) 58 rfl rfl co_5_185 rfl rfl (K_PH_endsCorner m8 x2 v3 h_x2 _ hq12) <| E_if_ne (n := 108) (t := 110) 59 rfl rfl rfl (fun hc => ?_) (fun hc => ?_)
            · have h := ifn h hc
              refine E_iinc (v := (x3 + 1)) (lv' := [(0, .ref x0), (1, .ref 1), (2, .ref x2), (3, .int (x3 + 1)), (4, .int v3)]) (n := 113) 62 rfl rfl 3 rfl (by rw [icz_1]) (Nat.le_of_ble_eq_true rfl) [1, 2, 3, 0, 4] rfl <| E_goto (t := 49) 63 rfl rfl <| ?_
              refine E_sub (lv' := [(0, .ref x0), (1, .ref 1), (2, .ref x2), (3, .int (x3 + 1))]) [0, 1, 2, 3] rfl ?_
              exact ih m11 (x3 + 1) h
            · have h := ifp h hc
              refine E_iconst (v := 0) (n := 109) 60 rfl rfl icz_0 <| E_zreturn 61 rfl rfl z0 (eS h)
      · have h := ifp h hc
        obtain ⟨v13, m14, hq15, h⟩ := bV_ex h
        obtain ⟨hc16, h⟩ := ift h
        refine E_aload_n (n := 68) 38 rfl rfl rfl 0 rfl <| E_aload_n (n := 69) 39 rfl rfl rfl 1 rfl <| E_aload_n (n := 70) 40 rfl rfl rfl 2 rfl <| E_cV2r (n := 73) 41 rfl rfl co_5_172 rfl h_x0 rfl (K_PH_closeLine m1 x0 x2 h_x0 h_x2 _ hq15) <| E_zreturn 42 rfl rfl hc16 (eS h)
theorem K_PH_tellLine (m : Mem) (x0 : Nat) (h_x0 : shp x0 = (5, 0)) (R : Int32 × Mem) (h : PH_tellLine m x0 = some R) : Mt M_PH_tellLine [.ref x0, .ref 1] m (qI R.1 R.2) := by
  refine Mt.of G_PH_tellLine (Nat.le_of_ble_eq_true rfl) (E_sub (lv' := [(0, .ref x0), (1, .ref 1)]) [0, 1] rfl ?_)
  unfold PH_tellLine at h
  refine E_aload_n (n := 1) 0 rfl rfl rfl 0 rfl <| E_gI (n := 4) 1 rfl rfl fg_5_35 h_x0 <| E_iconst (v := 3) (n := 5) 2 rfl rfl icz_3 <| E_icmp_lt (n := 8) (t := 14) 3 rfl rfl rfl (fun hc => ?_) (fun hc => ?_)
  · have h := ifp h hc
    obtain ⟨v1, m2, hq3, h⟩ := bV_ex h
    refine E_aload_n (n := 15) 8 rfl rfl rfl 0 rfl <| E_aload_n (n := 16) 9 rfl rfl rfl 1 rfl <| E_cV1r (n := 19) 10 rfl rfl co_5_156 rfl h_x0 rfl (K_PH_tellName m x0 h_x0 _ hq3) <| E_if_ne (n := 22) (t := 24) 11 rfl rfl rfl (fun hc => ?_) (fun hc => ?_)
    · have h := ifn h hc
      obtain ⟨hc4, h⟩ := ift h
      obtain ⟨m5, hm5, h⟩ := letM_ex h
      obtain ⟨m6, hm6, h⟩ := letM_ex h
      refine E_aload_n (n := 25) 14 rfl rfl rfl 0 rfl <| E_gF (r := (x0 + 1)) (n := 28) 15 rfl rfl fg_5_12 h_x0 rfl <| E_aload_n (n := 29) 16 rfl rfl rfl 0 rfl <| E_gI (n := 32) 17 rfl rfl fg_5_35 h_x0 <| E_aL (r := (x0 + 2 + 3 * ixn (gI m2 x0 6))) (n := 33) 18 rfl rfl (shc_5_0 h_x0) hc4 rfl <| E_astore_n (lv' := [(0, .ref x0), (1, .ref 1), (2, .ref (x0 + 2 + 3 * ixn (gI m2 x0 6)))]) (n := 34) 19 rfl rfl rfl (Nat.le_of_ble_eq_true rfl) [1, 2, 0] rfl <| E_aload_n (n := 35) 20 rfl rfl rfl 2 rfl <| E_aload_n (n := 36) 21 rfl rfl rfl 1 rfl <| E_gJ (n := 39) 22 rfl rfl fg_5_159 sh_1 <| E_pJ (n := 42) 23 rfl rfl fp_5_163 (shln h_x0 hc4) <| E_mem hm5 <| E_aload_n (n := 43) 24 rfl rfl rfl 2 rfl <| E_iconst (v := 0) (n := 44) 25 rfl rfl icz_0 <| E_pI (n := 47) 26 rfl rfl fp_5_43 (shln h_x0 hc4) <| E_mem hm6 <| E_iconst (v := 0) (n := 48) 27 rfl rfl icz_0 <| E_istore_n (lv' := [(0, .ref x0), (1, .ref 1), (2, .ref (x0 + 2 + 3 * ixn (gI m2 x0 6))), (3, .int 0)]) (n := 49) 28 rfl rfl rfl (Nat.le_of_ble_eq_true rfl) [1, 2, 3, 0] rfl <| ?_
      refine PH_tellLine_L49_ok x0 (x0 + 2 + 3 * ixn (gI m2 x0 6)) h_x0 (shln h_x0 hc4) _ R ?_ FU m6 0 h
      intro m7 h
      refine E_iconst (v := 0) (n := 117) 64 rfl rfl icz_0 <| E_zreturn 65 rfl rfl z0 (eS h)
    · have h := ifp h hc
      refine E_iconst (v := 0) (n := 23) 12 rfl rfl icz_0 <| E_zreturn 13 rfl rfl z0 (eS h)
  · have h := ifn h hc
    obtain ⟨v8, m9, hq10, h⟩ := bV_ex h
    obtain ⟨hc11, h⟩ := ift h
    refine E_aload_n (n := 9) 4 rfl rfl rfl 1 rfl <| E_iconst (v := 4) (n := 10) 5 rfl rfl icz_4 <| E_cV1r (n := 13) 6 rfl rfl co_5_132 rfl sh_1 rfl (K_RD_fail m 4 _ hq10) <| E_zreturn 7 rfl rfl hc11 (eS h)
theorem K_RD_readSemicolon (m : Mem) (R : Int32 × Mem) (h : RD_readSemicolon m = some R) : Mt M_RD_readSemicolon [.ref 1] m (qI R.1 R.2) := by
  refine Mt.of G_RD_readSemicolon (Nat.le_of_ble_eq_true rfl) (E_sub (lv' := [(0, .ref 1)]) [0] rfl ?_)
  unfold RD_readSemicolon at h
  obtain ⟨m1, hq2, h⟩ := bM_ex h
  refine E_aload_n (n := 1) 0 rfl rfl rfl 0 rfl <| E_cV0v (n := 4) 1 rfl rfl co_8_60 rfl sh_1 rfl (K_RD_advance m _ hq2) <| E_aload_n (n := 5) 2 rfl rfl rfl 0 rfl <| E_gI (n := 8) 3 rfl rfl fg_8_40 sh_1 <| E_iconst (v := 3) (n := 9) 4 rfl rfl icz_3 <| E_icmp_eq (n := 12) (t := 20) 5 rfl rfl rfl (fun hc => ?_) (fun hc => ?_)
  · have h := ifp h hc
    refine E_iconst (v := 1) (n := 21) 10 rfl rfl icz_1 <| E_goto (t := 25) 11 rfl rfl <| ?_
    refine E_zreturn 13 rfl rfl z1 (eS h)
  · have h := ifn h hc
    obtain ⟨v3, m4, hq5, h⟩ := bV_ex h
    refine E_aload_n (n := 13) 6 rfl rfl rfl 0 rfl <| E_iconst (v := 1) (n := 14) 7 rfl rfl icz_1 <| E_cV1r (n := 17) 8 rfl rfl co_8_63 rfl sh_1 rfl (K_RD_fail m1 1 _ hq5) <| E_if_eq (n := 20) (t := 24) 9 rfl rfl rfl (fun hc => ?_) (fun hc => ?_)
    · have h := ifp h hc
      refine E_iconst (v := 0) (n := 25) 12 rfl rfl icz_0 <| ?_
      refine E_zreturn 13 rfl rfl z0 (eS h)
    · have h := ifn h hc
      refine E_iconst (v := 1) (n := 21) 10 rfl rfl icz_1 <| E_goto (t := 25) 11 rfl rfl <| ?_
      refine E_zreturn 13 rfl rfl z1 (eS h)
theorem K_PH_tellHay (m : Mem) (x0 : Nat) (h_x0 : shp x0 = (5, 0)) (R : Int32 × Mem) (h : PH_tellHay m x0 = some R) : Mt M_PH_tellHay [.ref x0, .ref 1] m (qI R.1 R.2) := by
  refine Mt.of G_PH_tellHay (Nat.le_of_ble_eq_true rfl) (E_sub (lv' := [(0, .ref x0), (1, .ref 1)]) [0, 1] rfl ?_)
  unfold PH_tellHay at h
  obtain ⟨v1, hv1, h⟩ := letV_ex h
  refine E_aload_n (n := 1) 0 rfl rfl rfl 0 rfl <| E_gI (n := 4) 1 rfl rfl fg_5_46 h_x0 <| E_top hv1 <| E_istore_n (lv' := [(0, .ref x0), (1, .ref 1), (2, .int v1)]) (n := 5) 2 rfl rfl rfl (Nat.le_of_ble_eq_true rfl) [1, 2, 0] rfl <| E_iload_n (n := 6) 3 rfl rfl rfl 2 rfl <| E_bipush (v := 10) (n := 8) 4 rfl rfl bpz_10 <| E_icmp_lt (n := 11) (t := 17) 5 rfl rfl rfl (fun hc => ?_) (fun hc => ?_)
  · have h := ifp h hc
    obtain ⟨v2, m3, hq4, h⟩ := bV_ex h
    refine E_aload_n (n := 18) 10 rfl rfl rfl 0 rfl <| E_aload_n (n := 19) 11 rfl rfl rfl 1 rfl <| E_cV1r (n := 22) 12 rfl rfl co_5_156 rfl h_x0 rfl (K_PH_tellName m x0 h_x0 _ hq4) <| E_if_ne (n := 25) (t := 27) 13 rfl rfl rfl (fun hc => ?_) (fun hc => ?_)
    · have h := ifn h hc
      obtain ⟨hc5, h⟩ := ift h
      obtain ⟨m6, hm6, h⟩ := letM_ex h
      obtain ⟨v7, m8, hq9, h⟩ := bV_ex h
      refine E_aload_n (n := 28) 16 rfl rfl rfl 0 rfl <| E_gF (r := (x0 + 14)) (n := 31) 17 rfl rfl fg_5_28 h_x0 rfl <| E_iload_n (n := 32) 18 rfl rfl rfl 2 rfl <| E_aload_n (n := 33) 19 rfl rfl rfl 1 rfl <| E_gJ (n := 36) 20 rfl rfl fg_5_159 sh_1 <| E_last (n := 37) 21 rfl rfl (shc_5_4 h_x0) hc5 <| E_mem hm6 <| E_aload_n (n := 38) 22 rfl rfl rfl 1 rfl <| E_iconst (v := 0) (n := 39) 23 rfl rfl icz_0 <| E_bipush (v := 19) (n := 41) 24 rfl rfl bpz_19 <| E_cV2r (n := 44) 25 rfl rfl co_5_182 rfl sh_1 rfl (K_RD_readNumber m6 0 19 _ hq9) <| E_if_ne (n := 47) (t := 49) 26 rfl rfl rfl (fun hc => ?_) (fun hc => ?_)
      · have h := ifn h hc
        obtain ⟨m10, hm10, h⟩ := letM_ex h
        obtain ⟨v11, m12, hq13, h⟩ := bV_ex h
        refine E_aload_n (n := 50) 29 rfl rfl rfl 0 rfl <| E_gF (r := (x0 + 11)) (n := 53) 30 rfl rfl fg_5_18 h_x0 rfl <| E_iload_n (n := 54) 31 rfl rfl rfl 2 rfl <| E_aload_n (n := 55) 32 rfl rfl rfl 1 rfl <| E_gI (n := 58) 33 rfl rfl fg_5_176 sh_1 <| E_iast (n := 59) 34 rfl rfl (shc_5_1 h_x0) hc5 <| E_mem hm10 <| E_aload_n (n := 60) 35 rfl rfl rfl 1 rfl <| E_iconst (v := 0) (n := 61) 36 rfl rfl icz_0 <| E_bipush (v := 19) (n := 63) 37 rfl rfl bpz_19 <| E_cV2r (n := 66) 38 rfl rfl co_5_182 rfl sh_1 rfl (K_RD_readNumber m10 0 19 _ hq13) <| E_if_ne (n := 69) (t := 71) 39 rfl rfl rfl (fun hc => ?_) (fun hc => ?_)
        · have h := ifn h hc
          obtain ⟨m14, hm14, h⟩ := letM_ex h
          obtain ⟨v15, m16, hq17, h⟩ := bV_ex h
          refine E_aload_n (n := 72) 42 rfl rfl rfl 0 rfl <| E_gF (r := (x0 + 12)) (n := 75) 43 rfl rfl fg_5_22 h_x0 rfl <| E_iload_n (n := 76) 44 rfl rfl rfl 2 rfl <| E_aload_n (n := 77) 45 rfl rfl rfl 1 rfl <| E_gI (n := 80) 46 rfl rfl fg_5_176 sh_1 <| E_iast (n := 81) 47 rfl rfl (shc_5_2 h_x0) hc5 <| E_mem hm14 <| E_aload_n (n := 82) 48 rfl rfl rfl 1 rfl <| E_iconst (v := 0) (n := 83) 49 rfl rfl icz_0 <| E_bipush (v := 99) (n := 85) 50 rfl rfl bpz_99 <| E_cV2r (n := 88) 51 rfl rfl co_5_182 rfl sh_1 rfl (K_RD_readNumber m14 0 99 _ hq17) <| E_if_ne (n := 91) (t := 93) 52 rfl rfl rfl (fun hc => ?_) (fun hc => ?_)
          · have h := ifn h hc
            obtain ⟨m18, hm18, h⟩ := letM_ex h
            obtain ⟨m19, hm19, h⟩ := letM_ex h
            obtain ⟨v20, m21, hq22, h⟩ := bV_ex h
            obtain ⟨hc23, h⟩ := ift h
            refine E_aload_n (n := 94) 55 rfl rfl rfl 0 rfl <| E_gF (r := (x0 + 13)) (n := 97) 56 rfl rfl fg_5_25 h_x0 rfl <| E_iload_n (n := 98) 57 rfl rfl rfl 2 rfl <| E_aload_n (n := 99) 58 rfl rfl rfl 1 rfl <| E_gI (n := 102) 59 rfl rfl fg_5_176 sh_1 <| E_iast (n := 103) 60 rfl rfl (shc_5_3 h_x0) hc5 <| E_mem hm18 <| E_aload_n (n := 104) 61 rfl rfl rfl 0 rfl <| E_dup (n := 105) 62 rfl rfl rfl <| E_gI (n := 108) 63 rfl rfl fg_5_46 h_x0 <| E_iconst (v := 1) (n := 109) 64 rfl rfl icz_1 <| E_iadd (n := 110) 65 rfl rfl <| E_pI (n := 113) 66 rfl rfl fp_5_46 h_x0 <| E_mem hm19 <| E_aload_n (n := 114) 67 rfl rfl rfl 1 rfl <| E_cV0r (n := 117) 68 rfl rfl co_5_195 rfl sh_1 rfl (K_RD_readSemicolon m19 _ hq22) <| E_zreturn 69 rfl rfl hc23 (eS h)
          · have h := ifp h hc
            refine E_iconst (v := 0) (n := 92) 53 rfl rfl icz_0 <| E_zreturn 54 rfl rfl z0 (eS h)
        · have h := ifp h hc
          refine E_iconst (v := 0) (n := 70) 40 rfl rfl icz_0 <| E_zreturn 41 rfl rfl z0 (eS h)
      · have h := ifp h hc
        refine E_iconst (v := 0) (n := 48) 27 rfl rfl icz_0 <| E_zreturn 28 rfl rfl z0 (eS h)
    · have h := ifp h hc
      refine E_iconst (v := 0) (n := 26) 14 rfl rfl icz_0 <| E_zreturn 15 rfl rfl z0 (eS h)
  · have h := ifn h hc
    obtain ⟨v24, m25, hq26, h⟩ := bV_ex h
    obtain ⟨hc27, h⟩ := ift h
    refine E_aload_n (n := 12) 6 rfl rfl rfl 1 rfl <| E_iconst (v := 4) (n := 13) 7 rfl rfl icz_4 <| E_cV1r (n := 16) 8 rfl rfl co_5_132 rfl sh_1 rfl (K_RD_fail m 4 _ hq26) <| E_zreturn 9 rfl rfl hc27 (eS h)
theorem K_PH_tellsFirst (m : Mem) (x0 : Nat) (x2 : Int32) (h_x0 : shp x0 = (5, 0)) (R : Int32 × Mem) (h : PH_tellsFirst m x0 x2 = some R) : Mt M_PH_tellsFirst [.ref x0, .ref 1, .int x2] m (qI R.1 R.2) := by
  refine Mt.of G_PH_tellsFirst (Nat.le_of_ble_eq_true rfl) (E_sub (lv' := [(0, .ref x0), (1, .ref 1), (2, .int x2)]) [0, 1, 2] rfl ?_)
  unfold PH_tellsFirst at h
  refine E_aload_n (n := 1) 0 rfl rfl rfl 0 rfl <| E_gI (n := 4) 1 rfl rfl fg_5_110 h_x0 <| E_iload_n (n := 5) 2 rfl rfl rfl 2 rfl <| E_iand (n := 6) 3 rfl rfl <| E_if_eq (n := 9) (t := 15) 4 rfl rfl rfl (fun hc => ?_) (fun hc => ?_)
  · have h := ifp h hc
    obtain ⟨m1, hm1, h⟩ := letM_ex h
    refine E_aload_n (n := 16) 9 rfl rfl rfl 0 rfl <| E_dup (n := 17) 10 rfl rfl rfl <| E_gI (n := 20) 11 rfl rfl fg_5_110 h_x0 <| E_iload_n (n := 21) 12 rfl rfl rfl 2 rfl <| E_ior (n := 22) 13 rfl rfl <| E_pI (n := 25) 14 rfl rfl fp_5_110 h_x0 <| E_mem hm1 <| E_iconst (v := 1) (n := 26) 15 rfl rfl icz_1 <| E_zreturn 16 rfl rfl z1 (eS h)
  · have h := ifn h hc
    obtain ⟨v2, m3, hq4, h⟩ := bV_ex h
    obtain ⟨hc5, h⟩ := ift h
    refine E_aload_n (n := 10) 5 rfl rfl rfl 1 rfl <| E_iconst (v := 3) (n := 11) 6 rfl rfl icz_3 <| E_cV1r (n := 14) 7 rfl rfl co_5_132 rfl sh_1 rfl (K_RD_fail m 3 _ hq4) <| E_zreturn 8 rfl rfl hc5 (eS h)
theorem K_PH_tellChurch (m : Mem) (x0 : Nat) (h_x0 : shp x0 = (5, 0)) (R : Int32 × Mem) (h : PH_tellChurch m x0 = some R) : Mt M_PH_tellChurch [.ref x0, .ref 1] m (qI R.1 R.2) := by
  refine Mt.of G_PH_tellChurch (Nat.le_of_ble_eq_true rfl) (E_sub (lv' := [(0, .ref x0), (1, .ref 1)]) [0, 1] rfl ?_)
  unfold PH_tellChurch at h
  obtain ⟨v1, m2, hq3, h⟩ := bV_ex h
  refine E_aload_n (n := 1) 0 rfl rfl rfl 0 rfl <| E_aload_n (n := 2) 1 rfl rfl rfl 1 rfl <| E_iconst (v := 1) (n := 3) 2 rfl rfl icz_1 <| E_cV2r (n := 6) 3 rfl rfl co_5_198 rfl h_x0 rfl (K_PH_tellsFirst m x0 1 h_x0 _ hq3) <| E_if_eq (n := 9) (t := 19) 4 rfl rfl rfl (fun hc => ?_) (fun hc => ?_)
  · have h := ifp h hc
    refine E_iconst (v := 0) (n := 20) 10 rfl rfl icz_0 <| E_zreturn 11 rfl rfl z0 (eS h)
  · have h := ifn h hc
    obtain ⟨v4, m5, hq6, h⟩ := bV_ex h
    refine E_aload_n (n := 10) 5 rfl rfl rfl 1 rfl <| E_iconst (v := 0) (n := 11) 6 rfl rfl icz_0 <| E_bipush (v := 19) (n := 13) 7 rfl rfl bpz_19 <| E_cV2r (n := 16) 8 rfl rfl co_5_182 rfl sh_1 rfl (K_RD_readNumber m2 0 19 _ hq6) <| E_if_ne (n := 19) (t := 21) 9 rfl rfl rfl (fun hc => ?_) (fun hc => ?_)
    · have h := ifn h hc
      obtain ⟨m7, hm7, h⟩ := letM_ex h
      obtain ⟨v8, m9, hq10, h⟩ := bV_ex h
      refine E_aload_n (n := 22) 12 rfl rfl rfl 0 rfl <| E_aload_n (n := 23) 13 rfl rfl rfl 1 rfl <| E_gI (n := 26) 14 rfl rfl fg_5_176 sh_1 <| E_pI (n := 29) 15 rfl rfl fp_5_53 h_x0 <| E_mem hm7 <| E_aload_n (n := 30) 16 rfl rfl rfl 1 rfl <| E_iconst (v := 0) (n := 31) 17 rfl rfl icz_0 <| E_bipush (v := 19) (n := 33) 18 rfl rfl bpz_19 <| E_cV2r (n := 36) 19 rfl rfl co_5_182 rfl sh_1 rfl (K_RD_readNumber m7 0 19 _ hq10) <| E_if_ne (n := 39) (t := 41) 20 rfl rfl rfl (fun hc => ?_) (fun hc => ?_)
      · have h := ifn h hc
        obtain ⟨m11, hm11, h⟩ := letM_ex h
        obtain ⟨v12, m13, hq14, h⟩ := bV_ex h
        obtain ⟨hc15, h⟩ := ift h
        refine E_aload_n (n := 42) 23 rfl rfl rfl 0 rfl <| E_aload_n (n := 43) 24 rfl rfl rfl 1 rfl <| E_gI (n := 46) 25 rfl rfl fg_5_176 sh_1 <| E_pI (n := 49) 26 rfl rfl fp_5_56 h_x0 <| E_mem hm11 <| E_aload_n (n := 50) 27 rfl rfl rfl 1 rfl <| E_cV0r (n := 53) 28 rfl rfl co_5_195 rfl sh_1 rfl (K_RD_readSemicolon m11 _ hq14) <| E_zreturn 29 rfl rfl hc15 (eS h)
      · have h := ifp h hc
        refine E_iconst (v := 0) (n := 40) 21 rfl rfl icz_0 <| E_zreturn 22 rfl rfl z0 (eS h)
    · have h := ifp h hc
      refine E_iconst (v := 0) (n := 20) 10 rfl rfl icz_0 <| E_zreturn 11 rfl rfl z0 (eS h)
theorem K_RD_readWord (m : Mem) (x1 : Int32) (x2 : Int32) (R : Int32 × Mem) (h : RD_readWord m x1 x2 = some R) : Mt M_RD_readWord [.ref 1, .int x1, .int x2] m (qI R.1 R.2) := by
  refine Mt.of G_RD_readWord (Nat.le_of_ble_eq_true rfl) (E_sub (lv' := [(0, .ref 1), (1, .int x1), (2, .int x2)]) [0, 1, 2] rfl ?_)
  unfold RD_readWord at h
  obtain ⟨m1, hq2, h⟩ := bM_ex h
  refine E_aload_n (n := 1) 0 rfl rfl rfl 0 rfl <| E_cV0v (n := 4) 1 rfl rfl co_8_60 rfl sh_1 rfl (K_RD_advance m _ hq2) <| E_aload_n (n := 5) 2 rfl rfl rfl 0 rfl <| E_iload_n (n := 6) 3 rfl rfl rfl 1 rfl <| E_iload_n (n := 7) 4 rfl rfl rfl 2 rfl <| E_cV2r (n := 10) 5 rfl rfl co_8_67 rfl sh_1 rfl (K_RD_isWord m1 x1 x2 _ rfl) <| E_if_ne (n := 13) (t := 21) 6 rfl rfl rfl (fun hc => ?_) (fun hc => ?_)
  · have h := ifn h hc
    refine E_iconst (v := 1) (n := 22) 11 rfl rfl icz_1 <| E_goto (t := 26) 12 rfl rfl <| ?_
    refine E_zreturn 14 rfl rfl z1 (eS h)
  · have h := ifp h hc
    obtain ⟨v3, m4, hq5, h⟩ := bV_ex h
    refine E_aload_n (n := 14) 7 rfl rfl rfl 0 rfl <| E_iconst (v := 1) (n := 15) 8 rfl rfl icz_1 <| E_cV1r (n := 18) 9 rfl rfl co_8_63 rfl sh_1 rfl (K_RD_fail m1 1 _ hq5) <| E_if_eq (n := 21) (t := 25) 10 rfl rfl rfl (fun hc => ?_) (fun hc => ?_)
    · have h := ifp h hc
      refine E_iconst (v := 0) (n := 26) 13 rfl rfl icz_0 <| ?_
      refine E_zreturn 14 rfl rfl z0 (eS h)
    · have h := ifn h hc
      refine E_iconst (v := 1) (n := 22) 11 rfl rfl icz_1 <| E_goto (t := 26) 12 rfl rfl <| ?_
      refine E_zreturn 14 rfl rfl z1 (eS h)
theorem K_PH_tellLaw (m : Mem) (x0 : Nat) (h_x0 : shp x0 = (5, 0)) (R : Int32 × Mem) (h : PH_tellLaw m x0 = some R) : Mt M_PH_tellLaw [.ref x0, .ref 1] m (qI R.1 R.2) := by
  refine Mt.of G_PH_tellLaw (Nat.le_of_ble_eq_true rfl) (E_sub (lv' := [(0, .ref x0), (1, .ref 1)]) [0, 1] rfl ?_)
  unfold PH_tellLaw at h
  obtain ⟨v1, m2, hq3, h⟩ := bV_ex h
  refine E_aload_n (n := 1) 0 rfl rfl rfl 0 rfl <| E_aload_n (n := 2) 1 rfl rfl rfl 1 rfl <| E_iconst (v := 2) (n := 3) 2 rfl rfl icz_2 <| E_cV2r (n := 6) 3 rfl rfl co_5_198 rfl h_x0 rfl (K_PH_tellsFirst m x0 2 h_x0 _ hq3) <| E_if_eq (n := 9) (t := 19) 4 rfl rfl rfl (fun hc => ?_) (fun hc => ?_)
  · have h := ifp h hc
    refine E_iconst (v := 0) (n := 20) 10 rfl rfl icz_0 <| E_zreturn 11 rfl rfl z0 (eS h)
  · have h := ifn h hc
    obtain ⟨v4, m5, hq6, h⟩ := bV_ex h
    refine E_aload_n (n := 10) 5 rfl rfl rfl 1 rfl <| E_iconst (v := 4) (n := 11) 6 rfl rfl icz_4 <| E_bipush (v := 6) (n := 13) 7 rfl rfl bpz_6 <| E_cV2r (n := 16) 8 rfl rfl co_5_202 rfl sh_1 rfl (K_RD_readWord m2 4 6 _ hq6) <| E_if_ne (n := 19) (t := 21) 9 rfl rfl rfl (fun hc => ?_) (fun hc => ?_)
    · have h := ifn h hc
      obtain ⟨m7, hm7, h⟩ := letM_ex h
      obtain ⟨v8, m9, hq10, h⟩ := bV_ex h
      obtain ⟨hc11, h⟩ := ift h
      refine E_aload_n (n := 22) 12 rfl rfl rfl 0 rfl <| E_aload_n (n := 23) 13 rfl rfl rfl 1 rfl <| E_gI (n := 26) 14 rfl rfl fg_5_135 sh_1 <| E_iconst (v := 4) (n := 27) 15 rfl rfl icz_4 <| E_isub (n := 28) 16 rfl rfl <| E_pI (n := 31) 17 rfl rfl fp_5_65 h_x0 <| E_mem hm7 <| E_aload_n (n := 32) 18 rfl rfl rfl 1 rfl <| E_cV0r (n := 35) 19 rfl rfl co_5_195 rfl sh_1 rfl (K_RD_readSemicolon m7 _ hq10) <| E_zreturn 20 rfl rfl hc11 (eS h)
    · have h := ifp h hc
      refine E_iconst (v := 0) (n := 20) 10 rfl rfl icz_0 <| E_zreturn 11 rfl rfl z0 (eS h)
theorem K_PH_tellEdge (m : Mem) (x0 : Nat) (h_x0 : shp x0 = (5, 0)) (R : Int32 × Mem) (h : PH_tellEdge m x0 = some R) : Mt M_PH_tellEdge [.ref x0, .ref 1] m (qI R.1 R.2) := by
  refine Mt.of G_PH_tellEdge (Nat.le_of_ble_eq_true rfl) (E_sub (lv' := [(0, .ref x0), (1, .ref 1)]) [0, 1] rfl ?_)
  unfold PH_tellEdge at h
  obtain ⟨v1, m2, hq3, h⟩ := bV_ex h
  refine E_aload_n (n := 1) 0 rfl rfl rfl 0 rfl <| E_aload_n (n := 2) 1 rfl rfl rfl 1 rfl <| E_iconst (v := 4) (n := 3) 2 rfl rfl icz_4 <| E_cV2r (n := 6) 3 rfl rfl co_5_198 rfl h_x0 rfl (K_PH_tellsFirst m x0 4 h_x0 _ hq3) <| E_if_eq (n := 9) (t := 20) 4 rfl rfl rfl (fun hc => ?_) (fun hc => ?_)
  · have h := ifp h hc
    refine E_iconst (v := 0) (n := 21) 10 rfl rfl icz_0 <| E_zreturn 11 rfl rfl z0 (eS h)
  · have h := ifn h hc
    obtain ⟨v4, m5, hq6, h⟩ := bV_ex h
    refine E_aload_n (n := 10) 5 rfl rfl rfl 1 rfl <| E_bipush (v := 7) (n := 12) 6 rfl rfl bpz_7 <| E_bipush (v := 8) (n := 14) 7 rfl rfl bpz_8 <| E_cV2r (n := 17) 8 rfl rfl co_5_202 rfl sh_1 rfl (K_RD_readWord m2 7 8 _ hq6) <| E_if_ne (n := 20) (t := 22) 9 rfl rfl rfl (fun hc => ?_) (fun hc => ?_)
    · have h := ifn h hc
      obtain ⟨m7, hm7, h⟩ := letM_ex h
      obtain ⟨v8, m9, hq10, h⟩ := bV_ex h
      obtain ⟨hc11, h⟩ := ift h
      refine E_aload_n (n := 23) 12 rfl rfl rfl 0 rfl <| E_aload_n (n := 24) 13 rfl rfl rfl 1 rfl <| E_gI (n := 27) 14 rfl rfl fg_5_135 sh_1 <| E_bipush (v := 7) (n := 29) 15 rfl rfl bpz_7 <| E_isub (n := 30) 16 rfl rfl <| E_pI (n := 33) 17 rfl rfl fp_5_62 h_x0 <| E_mem hm7 <| E_aload_n (n := 34) 18 rfl rfl rfl 1 rfl <| E_cV0r (n := 37) 19 rfl rfl co_5_195 rfl sh_1 rfl (K_RD_readSemicolon m7 _ hq10) <| E_zreturn 20 rfl rfl hc11 (eS h)
    · have h := ifp h hc
      refine E_iconst (v := 0) (n := 21) 10 rfl rfl icz_0 <| E_zreturn 11 rfl rfl z0 (eS h)
theorem PH_tellHeirs_L14_ok (x0 : Nat) (h_x0 : shp x0 = (5, 0)) (kx : Mem → Option (Int32 × Mem)) (R : Int32 × Mem) (hx : ∀ (m : Mem), kx m = some R → E M_PH_tellHeirs 47 [(1, .ref 1)] [] m (qI R.1 R.2)) : ∀ (n : Nat) (m : Mem) (x2 : Int32), PH_tellHeirs_L14 x0 kx n m x2 = some R → E M_PH_tellHeirs 14 [(0, .ref x0), (1, .ref 1), (2, .int x2)] [] m (qI R.1 R.2) := by
  intro n
  induction n with
  | zero =>
    intro m x2 h
    exact absurd (show none = some R from h) (fun e => Option.some_ne_none R e.symm)
  | succ n ih =>
    intro m x2 h
    rw [PH_tellHeirs_L14] at h
    refine E_iload_n (n := 15) 9 rfl rfl rfl 2 rfl <| E_iconst (v := 4) (n := 16) 10 rfl rfl icz_4 <| E_icmp_ge (n := 19) (t := 47) 11 rfl rfl rfl (fun hc => ?_) (fun hc => ?_)
    · have h := ifp h hc
      refine E_sub (lv' := [(1, .ref 1)]) [1] rfl ?_
      exact hx m h
    · have h := ifn h hc
      obtain ⟨v1, m2, hq3, h⟩ := bV_ex h
      refine E_aload_n (n := 20) 12 rfl rfl rfl 1 rfl <| E_iconst (v := 0) (n := 21) 13 rfl rfl icz_0 <| E_bipush (v := 9) (n := 23) 14 rfl rfl bpz_9 <| E_cV2r (n := 26) 15 rfl rfl co_5_182 rfl sh_1 rfl (K_RD_readNumber m 0 9 _ hq3) <| E_if_ne (n := 29) (t := 31) 16 rfl rfl rfl (fun hc => ?_) (fun hc => ?_)
      · have h := ifn h hc
        obtain ⟨hc4, h⟩ := ift h
        obtain ⟨m5, hm5, h⟩ := letM_ex h
        refine E_aload_n (n := 32) 19 rfl rfl rfl 0 rfl <| E_gF (r := (x0 + 15)) (n := 35) 20 rfl rfl fg_5_32 h_x0 rfl <| E_iload_n (n := 36) 21 rfl rfl rfl 2 rfl <| E_aload_n (n := 37) 22 rfl rfl rfl 1 rfl <| E_gI (n := 40) 23 rfl rfl fg_5_176 sh_1 <| E_iast (n := 41) 24 rfl rfl (shc_5_5 h_x0) hc4 <| E_mem hm5 <| E_iinc (v := (x2 + 1)) (lv' := [(0, .ref x0), (1, .ref 1), (2, .int (x2 + 1))]) (n := 44) 25 rfl rfl 2 rfl (by rw [icz_1]) (Nat.le_of_ble_eq_true rfl) [1, 2, 0] rfl <| E_goto (t := 14) 26 rfl rfl <| ?_
        exact ih m5 (x2 + 1) h
      · have h := ifp h hc
        refine E_iconst (v := 0) (n := 30) 17 rfl rfl icz_0 <| E_zreturn 18 rfl rfl z0 (eS h)
theorem K_PH_tellHeirs (m : Mem) (x0 : Nat) (h_x0 : shp x0 = (5, 0)) (R : Int32 × Mem) (h : PH_tellHeirs m x0 = some R) : Mt M_PH_tellHeirs [.ref x0, .ref 1] m (qI R.1 R.2) := by
  refine Mt.of G_PH_tellHeirs (Nat.le_of_ble_eq_true rfl) (E_sub (lv' := [(0, .ref x0), (1, .ref 1)]) [0, 1] rfl ?_)
  unfold PH_tellHeirs at h
  obtain ⟨v1, m2, hq3, h⟩ := bV_ex h
  refine E_aload_n (n := 1) 0 rfl rfl rfl 0 rfl <| E_aload_n (n := 2) 1 rfl rfl rfl 1 rfl <| E_bipush (v := 8) (n := 4) 2 rfl rfl bpz_8 <| E_cV2r (n := 7) 3 rfl rfl co_5_198 rfl h_x0 rfl (K_PH_tellsFirst m x0 8 h_x0 _ hq3) <| E_if_ne (n := 10) (t := 12) 4 rfl rfl rfl (fun hc => ?_) (fun hc => ?_)
  · have h := ifn h hc
    refine E_iconst (v := 0) (n := 13) 7 rfl rfl icz_0 <| E_istore_n (lv' := [(0, .ref x0), (1, .ref 1), (2, .int 0)]) (n := 14) 8 rfl rfl rfl (Nat.le_of_ble_eq_true rfl) [1, 2, 0] rfl <| ?_
    refine PH_tellHeirs_L14_ok x0 h_x0 _ R ?_ FU m2 0 h
    intro m4 h
    obtain ⟨v5, m6, hq7, h⟩ := bV_ex h
    obtain ⟨hc8, h⟩ := ift h
    refine E_aload_n (n := 48) 27 rfl rfl rfl 0 rfl <| E_cV0r (n := 51) 28 rfl rfl co_5_195 rfl sh_1 rfl (K_RD_readSemicolon m4 _ hq7) <| E_zreturn 29 rfl rfl hc8 (eS h)
  · have h := ifp h hc
    refine E_iconst (v := 0) (n := 11) 5 rfl rfl icz_0 <| E_zreturn 6 rfl rfl z0 (eS h)
theorem K_PH_tellRow (m : Mem) (x0 : Nat) (h_x0 : shp x0 = (5, 0)) (R : Int32 × Mem) (h : PH_tellRow m x0 = some R) : Mt M_PH_tellRow [.ref x0, .ref 1] m (qI R.1 R.2) := by
  refine Mt.of G_PH_tellRow (Nat.le_of_ble_eq_true rfl) (E_sub (lv' := [(0, .ref x0), (1, .ref 1)]) [0, 1] rfl ?_)
  unfold PH_tellRow at h
  refine E_aload_n (n := 1) 0 rfl rfl rfl 1 rfl <| E_bipush (v := 10) (n := 3) 1 rfl rfl bpz_10 <| E_bipush (v := 15) (n := 5) 2 rfl rfl bpz_15 <| E_cV2r (n := 8) 3 rfl rfl co_5_129 rfl sh_1 rfl (K_RD_isWord m 10 15 _ rfl) <| E_if_ne (n := 11) (t := 17) 4 rfl rfl rfl (fun hc => ?_) (fun hc => ?_)
  · have h := ifn h hc
    refine E_aload_n (n := 18) 9 rfl rfl rfl 1 rfl <| E_gI (n := 21) 10 rfl rfl fg_5_135 sh_1 <| ?_
    by_cases hc25 : (gI m 1 6) = 10
    · have h := ifp h hc25
      refine E_tabIn (off := 35) (t := 56) 11 rfl (by rw [hc25]; decide) (by rw [hc25]; decide) (by rw [hc25]; rfl) rfl ?_
      obtain ⟨v5, m6, hq7, h⟩ := bV_ex h
      obtain ⟨hc8, h⟩ := ift h
      refine E_aload_n (n := 57) 12 rfl rfl rfl 0 rfl <| E_aload_n (n := 58) 13 rfl rfl rfl 1 rfl <| E_cV1r (n := 61) 14 rfl rfl co_5_138 rfl h_x0 rfl (K_PH_tellLine m x0 h_x0 _ hq7) <| E_zreturn 15 rfl rfl hc8 (eS h)
    have h := ifn h hc25
    by_cases hc26 : (gI m 1 6) = 11
    · have h := ifp h hc26
      refine E_tabIn (off := 41) (t := 62) 11 rfl (by rw [hc26]; decide) (by rw [hc26]; decide) (by rw [hc26]; rfl) rfl ?_
      obtain ⟨v9, m10, hq11, h⟩ := bV_ex h
      obtain ⟨hc12, h⟩ := ift h
      refine E_aload_n (n := 63) 16 rfl rfl rfl 0 rfl <| E_aload_n (n := 64) 17 rfl rfl rfl 1 rfl <| E_cV1r (n := 67) 18 rfl rfl co_5_141 rfl h_x0 rfl (K_PH_tellHay m x0 h_x0 _ hq11) <| E_zreturn 19 rfl rfl hc12 (eS h)
    have h := ifn h hc26
    by_cases hc27 : (gI m 1 6) = 12
    · have h := ifp h hc27
      refine E_tabIn (off := 47) (t := 68) 11 rfl (by rw [hc27]; decide) (by rw [hc27]; decide) (by rw [hc27]; rfl) rfl ?_
      obtain ⟨v13, m14, hq15, h⟩ := bV_ex h
      obtain ⟨hc16, h⟩ := ift h
      refine E_aload_n (n := 69) 20 rfl rfl rfl 0 rfl <| E_aload_n (n := 70) 21 rfl rfl rfl 1 rfl <| E_cV1r (n := 73) 22 rfl rfl co_5_144 rfl h_x0 rfl (K_PH_tellChurch m x0 h_x0 _ hq15) <| E_zreturn 23 rfl rfl hc16 (eS h)
    have h := ifn h hc27
    by_cases hc28 : (gI m 1 6) = 13
    · have h := ifp h hc28
      refine E_tabIn (off := 53) (t := 74) 11 rfl (by rw [hc28]; decide) (by rw [hc28]; decide) (by rw [hc28]; rfl) rfl ?_
      obtain ⟨v17, m18, hq19, h⟩ := bV_ex h
      obtain ⟨hc20, h⟩ := ift h
      refine E_aload_n (n := 75) 24 rfl rfl rfl 0 rfl <| E_aload_n (n := 76) 25 rfl rfl rfl 1 rfl <| E_cV1r (n := 79) 26 rfl rfl co_5_147 rfl h_x0 rfl (K_PH_tellLaw m x0 h_x0 _ hq19) <| E_zreturn 27 rfl rfl hc20 (eS h)
    have h := ifn h hc28
    by_cases hc29 : (gI m 1 6) = 14
    · have h := ifp h hc29
      refine E_tabIn (off := 59) (t := 80) 11 rfl (by rw [hc29]; decide) (by rw [hc29]; decide) (by rw [hc29]; rfl) rfl ?_
      obtain ⟨v21, m22, hq23, h⟩ := bV_ex h
      obtain ⟨hc24, h⟩ := ift h
      refine E_aload_n (n := 81) 28 rfl rfl rfl 0 rfl <| E_aload_n (n := 82) 29 rfl rfl rfl 1 rfl <| E_cV1r (n := 85) 30 rfl rfl co_5_150 rfl h_x0 rfl (K_PH_tellEdge m x0 h_x0 _ hq23) <| E_zreturn 31 rfl rfl hc24 (eS h)
    have h := ifn h hc29
    refine E_tabOut (t := 86) 11 rfl (tabo (by decide) (by decide) (fun z h1 h2 => ?_)) rfl ?_
    · have h3 : z = 10 ∨ z = 11 ∨ z = 12 ∨ z = 13 ∨ z = 14 := by omega
      rcases h3 with rfl | rfl | rfl | rfl | rfl
      · exact hc25
      · exact hc26
      · exact hc27
      · exact hc28
      · exact hc29
    · obtain ⟨v1, m2, hq3, h⟩ := bV_ex h
      obtain ⟨hc4, h⟩ := ift h
      refine E_aload_n (n := 87) 32 rfl rfl rfl 0 rfl <| E_aload_n (n := 88) 33 rfl rfl rfl 1 rfl <| E_cV1r (n := 91) 34 rfl rfl co_5_153 rfl h_x0 rfl (K_PH_tellHeirs m x0 h_x0 _ hq3) <| E_zreturn 35 rfl rfl hc4 (eS h)
  · have h := ifp h hc
    obtain ⟨v30, m31, hq32, h⟩ := bV_ex h
    obtain ⟨hc33, h⟩ := ift h
    refine E_aload_n (n := 12) 5 rfl rfl rfl 1 rfl <| E_iconst (v := 1) (n := 13) 6 rfl rfl icz_1 <| E_cV1r (n := 16) 7 rfl rfl co_5_132 rfl sh_1 rfl (K_RD_fail m 1 _ hq32) <| E_zreturn 8 rfl rfl hc33 (eS h)
theorem PH_tell_L6_ok (x0 : Nat) (h_x0 : shp x0 = (5, 0)) (kx : Mem → Option (Int32 × Mem)) (R : Int32 × Mem) (hx : ∀ (m : Mem), kx m = some R → E M_PH_tell 49 [] [] m (qI R.1 R.2)) : ∀ (n : Nat) (m : Mem) (x2 : Int32), PH_tell_L6 x0 kx n m x2 = some R → E M_PH_tell 6 [(0, .ref x0), (1, .ref 1), (2, .int x2)] [] m (qI R.1 R.2) := by
  intro n
  induction n with
  | zero =>
    intro m x2 h
    exact absurd (show none = some R from h) (fun e => Option.some_ne_none R e.symm)
  | succ n ih =>
    intro m x2 h
    rw [PH_tell_L6] at h
    refine E_iload_n (n := 7) 4 rfl rfl rfl 2 rfl <| E_sipush (v := 900) (n := 10) 5 rfl rfl spz_900 <| E_icmp_gt (n := 13) (t := 49) 6 rfl rfl rfl (fun hc => ?_) (fun hc => ?_)
    · have h := ifp h hc
      refine E_sub (lv' := []) [] rfl ?_
      exact hx m h
    · have h := ifn h hc
      obtain ⟨v1, m2, hq3, h⟩ := bV_ex h
      refine E_aload_n (n := 14) 7 rfl rfl rfl 1 rfl <| E_cV0r (n := 17) 8 rfl rfl co_5_116 rfl sh_1 rfl (K_RD_isAtEnd m _ hq3) <| E_if_eq (n := 20) (t := 33) 9 rfl rfl rfl (fun hc => ?_) (fun hc => ?_)
      · have h := ifp h hc
        obtain ⟨v4, m5, hq6, h⟩ := bV_ex h
        refine E_aload_n (n := 34) 17 rfl rfl rfl 0 rfl <| E_aload_n (n := 35) 18 rfl rfl rfl 1 rfl <| E_cV1r (n := 38) 19 rfl rfl co_5_125 rfl h_x0 rfl (K_PH_tellRow m2 x0 h_x0 _ hq6) <| E_if_ne (n := 41) (t := 43) 20 rfl rfl rfl (fun hc => ?_) (fun hc => ?_)
        · have h := ifn h hc
          refine E_iinc (v := (x2 + 1)) (lv' := [(0, .ref x0), (1, .ref 1), (2, .int (x2 + 1))]) (n := 46) 23 rfl rfl 2 rfl (by rw [icz_1]) (Nat.le_of_ble_eq_true rfl) [1, 2, 0] rfl <| E_goto (t := 6) 24 rfl rfl <| ?_
          exact ih m5 (x2 + 1) h
        · have h := ifp h hc
          refine E_iconst (v := (-1)) (n := 42) 21 rfl rfl icz_m1 <| E_ireturn 22 rfl rfl (eS h)
      · have h := ifn h hc
        obtain ⟨v7, m8, hq9, h⟩ := bV_ex h
        refine E_aload_n (n := 21) 10 rfl rfl rfl 1 rfl <| E_cV0r (n := 24) 11 rfl rfl co_5_122 rfl sh_1 rfl (K_RD_closes m2 _ hq9) <| E_if_eq (n := 27) (t := 31) 12 rfl rfl rfl (fun hc => ?_) (fun hc => ?_)
        · have h := ifp h hc
          refine E_iconst (v := (-1)) (n := 32) 15 rfl rfl icz_m1 <| ?_
          refine E_ireturn 16 rfl rfl (eS h)
        · have h := ifn h hc
          refine E_iload_n (n := 28) 13 rfl rfl rfl 2 rfl <| E_goto (t := 32) 14 rfl rfl <| ?_
          refine E_ireturn 16 rfl rfl (eS h)
theorem K_PH_tell (m : Mem) (x0 : Nat) (h_x0 : shp x0 = (5, 0)) (R : Int32 × Mem) (h : PH_tell m x0 = some R) : Mt M_PH_tell [.ref x0, .ref 1] m (qI R.1 R.2) := by
  refine Mt.of G_PH_tell (Nat.le_of_ble_eq_true rfl) (E_sub (lv' := [(0, .ref x0), (1, .ref 1)]) [0, 1] rfl ?_)
  unfold PH_tell at h
  obtain ⟨m1, hq2, h⟩ := bM_ex h
  refine E_aload_n (n := 1) 0 rfl rfl rfl 0 rfl <| E_cV0v (n := 4) 1 rfl rfl co_5_113 rfl h_x0 rfl (K_PH_clear m x0 h_x0 _ hq2) <| E_iconst (v := 0) (n := 5) 2 rfl rfl icz_0 <| E_istore_n (lv' := [(0, .ref x0), (1, .ref 1), (2, .int 0)]) (n := 6) 3 rfl rfl rfl (Nat.le_of_ble_eq_true rfl) [1, 2, 0] rfl <| ?_
  refine PH_tell_L6_ok x0 h_x0 _ R ?_ FU m1 0 h
  intro m3 h
  refine E_iconst (v := (-1)) (n := 50) 25 rfl rfl icz_m1 <| E_ireturn 26 rfl rfl (eS h)
theorem K_AC_forget (m : Mem) (R : Mem) (h : AC_forget m = some R) : Mt M_AC_forget [.ref 3] m (qV R) := by
  refine Mt.of G_AC_forget (Nat.le_of_ble_eq_true rfl) (E_sub (lv' := [(0, .ref 3)]) [0] rfl ?_)
  unfold AC_forget at h
  obtain ⟨m1, hm1, h⟩ := letM_ex h
  refine E_aload_n (n := 1) 0 rfl rfl rfl 0 rfl <| E_iconst (v := 0) (n := 2) 1 rfl rfl icz_0 <| E_pI (n := 5) 2 rfl rfl fp_0_15 sh_3 <| E_mem hm1 <| E_return 3 rfl rfl (eV h)
theorem K_OH_closeText (m : Mem) (x1 : Int32) (R : Int32 × Mem) (h : OH_closeText m x1 = some R) : Mt M_OH_closeText [.ref 0, .int x1] m (qI R.1 R.2) := by
  refine Mt.of G_OH_closeText (Nat.le_of_ble_eq_true rfl) (E_sub (lv' := [(0, .ref 0), (1, .int x1)]) [0, 1] rfl ?_)
  unfold OH_closeText at h
  obtain ⟨m1, hm1, h⟩ := letM_ex h
  obtain ⟨m2, hm2, h⟩ := letM_ex h
  refine E_aload_n (n := 1) 0 rfl rfl rfl 0 rfl <| E_aload_n (n := 2) 1 rfl rfl rfl 0 rfl <| E_gF (r := 1) (n := 5) 2 rfl rfl fg_11_12 sh_0 rfl <| E_gI (n := 8) 3 rfl rfl fg_11_353 sh_1 <| E_pI (n := 11) 4 rfl rfl fp_11_124 sh_0 <| E_mem hm1 <| E_aload_n (n := 12) 5 rfl rfl rfl 0 rfl <| E_gF (r := 1) (n := 15) 6 rfl rfl fg_11_12 sh_0 rfl <| E_iconst (v := 0) (n := 16) 7 rfl rfl icz_0 <| E_pI (n := 19) 8 rfl rfl fp_11_103 sh_1 <| E_mem hm2 <| E_aload_n (n := 20) 9 rfl rfl rfl 0 rfl <| E_gI (n := 23) 10 rfl rfl fg_11_124 sh_0 <| E_if_ne (n := 26) (t := 30) 11 rfl rfl rfl (fun hc => ?_) (fun hc => ?_)
  · have h := ifn h hc
    refine E_iconst (v := (-1)) (n := 31) 14 rfl rfl icz_m1 <| E_aload_n (n := 32) 15 rfl rfl rfl 0 rfl <| E_gF (r := 1) (n := 35) 16 rfl rfl fg_11_12 sh_0 rfl <| E_gI (n := 38) 17 rfl rfl fg_11_354 sh_1 <| E_isub (n := 39) 18 rfl rfl <| ?_
    refine E_ireturn 19 rfl rfl (eS h)
  · have h := ifp h hc
    refine E_iload_n (n := 27) 12 rfl rfl rfl 1 rfl <| E_goto (t := 39) 13 rfl rfl <| ?_
    refine E_ireturn 19 rfl rfl (eS h)
theorem OH_parish_J51_ok (m : Mem) (x1 : Int32) (R : Int32 × Mem) (h : OH_parish_J51 m x1 = some R) : E M_OH_parish 51 [(0, .ref 0), (1, .int x1)] [] m (qI R.1 R.2) := by
  unfold OH_parish_J51 at h
  obtain ⟨v1, m2, hq3, h⟩ := bV_ex h
  refine E_aload_n (n := 52) 25 rfl rfl rfl 0 rfl <| E_iload_n (n := 53) 26 rfl rfl rfl 1 rfl <| E_cV1r (n := 56) 27 rfl rfl co_11_120 rfl sh_0 rfl (K_OH_closeText m x1 _ hq3) <| E_ireturn 28 rfl rfl (eS h)
theorem K_OH_parish (m : Mem) (R : Int32 × Mem) (h : OH_parish m = some R) : Mt M_OH_parish [.ref 0] m (qI R.1 R.2) := by
  refine Mt.of G_OH_parish (Nat.le_of_ble_eq_true rfl) (E_sub (lv' := [(0, .ref 0)]) [0] rfl ?_)
  unfold OH_parish at h
  obtain ⟨m1, hq2, h⟩ := bM_ex h
  obtain ⟨v4, m5, hq6, h⟩ := bV_ex h
  refine E_aload_n (n := 1) 0 rfl rfl rfl 0 rfl <| E_gF (r := 1) (n := 4) 1 rfl rfl fg_11_12 sh_0 rfl <| E_sipush (v := 900) (n := 7) 2 rfl rfl spz_900 <| E_cV1v (n := 10) 3 rfl rfl co_11_110 rfl sh_1 rfl (K_RD_begin m 900 _ hq2) <| E_aload_n (n := 11) 4 rfl rfl rfl 0 rfl <| E_gN (n := 14) 5 rfl rfl fg_11_96 sh_0 (Or.inr rfl) fun hN3 => E_aload_n (n := 15) 6 rfl rfl rfl 0 rfl <| E_gF (r := 1) (n := 18) 7 rfl rfl fg_11_12 sh_0 rfl <| E_cV1r (n := 21) 8 rfl rfl co_11_113 rfl hN3 rfl (K_PH_tell m1 (gN m1 14) hN3 _ hq6) <| E_istore_n (lv' := [(0, .ref 0), (1, .int v4)]) (n := 22) 9 rfl rfl rfl (Nat.le_of_ble_eq_true rfl) [1, 0] rfl <| E_iload_n (n := 23) 10 rfl rfl rfl 1 rfl <| E_if_lt (n := 26) (t := 51) 11 rfl rfl rfl (fun hc => ?_) (fun hc => ?_)
  · have h := ifp h hc
    exact OH_parish_J51_ok m5 v4 _ h
  · have h := ifn h hc
    obtain ⟨m9, hm9, h⟩ := letM_ex h
    obtain ⟨m10, hm10, h⟩ := letM_ex h
    obtain ⟨m11, hq12, h⟩ := bM_ex h
    refine E_aload_n (n := 27) 12 rfl rfl rfl 0 rfl <| E_gN (n := 30) 13 rfl rfl fg_11_92 sh_0 (Or.inl rfl) fun hN7 => E_astore_n (lv' := [(0, .ref 0), (1, .int v4), (2, .ref (gN m5 13))]) (n := 31) 14 rfl rfl rfl (Nat.le_of_ble_eq_true rfl) [1, 2, 0] rfl <| E_aload_n (n := 32) 15 rfl rfl rfl 0 rfl <| E_aload_n (n := 33) 16 rfl rfl rfl 0 rfl <| E_gN (n := 36) 17 rfl rfl fg_11_96 sh_0 (Or.inr rfl) fun hN8 => E_pN (n := 39) 18 rfl rfl fp_11_92 sh_0 hN8 <| E_mem hm9 <| E_aload_n (n := 40) 19 rfl rfl rfl 0 rfl <| E_aload_n (n := 41) 20 rfl rfl rfl 2 rfl <| E_pN (n := 44) 21 rfl rfl fp_11_96 sh_0 hN7 <| E_mem hm10 <| E_aload_n (n := 45) 22 rfl rfl rfl 0 rfl <| E_gF (r := 3) (n := 48) 23 rfl rfl fg_11_19 sh_0 rfl <| E_cV0v (n := 51) 24 rfl rfl co_11_117 rfl sh_3 rfl (K_AC_forget m10 _ hq12) <| ?_
    refine E_sub (lv' := [(0, .ref 0), (1, .int v4)]) [0, 1] rfl ?_
    exact OH_parish_J51_ok m11 v4 _ h

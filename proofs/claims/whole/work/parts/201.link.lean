theorem K_OH_fault (m : Mem) (R : Int32) (h : OH_fault m = R) : Mt M_OH_fault [.ref 0] m (qI R m) := by
  refine Mt.of G_OH_fault (Nat.le_of_ble_eq_true rfl) (E_sub (lv' := [(0, .ref 0)]) [0] rfl ?_)
  unfold OH_fault at h
  refine E_aload_n (n := 1) 0 rfl rfl rfl 0 rfl <| E_gI (n := 4) 1 rfl rfl fg_11_124 sh_0 <| E_ireturn 2 rfl rfl (eT h)
theorem K_PH_hasLine (m : Mem) (x0 : Nat) (x1 : Int32) (h_x0 : shp x0 = (5, 0)) (R : Int32) (h : PH_hasLine m x0 x1 = R) : Mt M_PH_hasLine [.ref x0, .int x1] m (qI R m) := by
  refine Mt.of G_PH_hasLine (Nat.le_of_ble_eq_true rfl) (E_sub (lv' := [(0, .ref x0), (1, .int x1)]) [0, 1] rfl ?_)
  unfold PH_hasLine at h
  refine E_iload_n (n := 1) 0 rfl rfl rfl 1 rfl <| E_if_lt (n := 4) (t := 16) 1 rfl rfl rfl (fun hc => ?_) (fun hc => ?_)
  · have h := ifp h hc
    refine E_iconst (v := 0) (n := 17) 8 rfl rfl icz_0 <| ?_
    refine E_zreturn 9 rfl rfl z0 (eT h)
  · have h := ifn h hc
    refine E_iload_n (n := 5) 2 rfl rfl rfl 1 rfl <| E_aload_n (n := 6) 3 rfl rfl rfl 0 rfl <| E_gI (n := 9) 4 rfl rfl fg_5_35 h_x0 <| E_icmp_ge (n := 12) (t := 16) 5 rfl rfl rfl (fun hc => ?_) (fun hc => ?_)
    · have h := ifp h hc
      refine E_iconst (v := 0) (n := 17) 8 rfl rfl icz_0 <| ?_
      refine E_zreturn 9 rfl rfl z0 (eT h)
    · have h := ifn h hc
      refine E_iconst (v := 1) (n := 13) 6 rfl rfl icz_1 <| E_goto (t := 17) 7 rfl rfl <| ?_
      refine E_zreturn 9 rfl rfl z1 (eT h)
theorem K_PH_hasCorner (m : Mem) (x0 : Nat) (x1 : Int32) (x2 : Int32) (h_x0 : shp x0 = (5, 0)) (R : Int32) (h : PH_hasCorner m x0 x1 x2 = some R) : Mt M_PH_hasCorner [.ref x0, .int x1, .int x2] m (qI R m) := by
  refine Mt.of G_PH_hasCorner (Nat.le_of_ble_eq_true rfl) (E_sub (lv' := [(0, .ref x0), (1, .int x1), (2, .int x2)]) [0, 1, 2] rfl ?_)
  unfold PH_hasCorner at h
  refine E_aload_n (n := 1) 0 rfl rfl rfl 0 rfl <| E_iload_n (n := 2) 1 rfl rfl rfl 1 rfl <| E_cV1r (n := 5) 2 rfl rfl co_5_39 rfl h_x0 rfl (K_PH_hasLine m x0 x1 h_x0 _ rfl) <| E_if_eq (n := 8) (t := 29) 3 rfl rfl rfl (fun hc => ?_) (fun hc => ?_)
  · have h := ifp h hc
    refine E_iconst (v := 0) (n := 30) 15 rfl rfl icz_0 <| ?_
    refine E_zreturn 16 rfl rfl z0 (eP h)
  · have h := ifn h hc
    refine E_iload_n (n := 9) 4 rfl rfl rfl 2 rfl <| E_if_lt (n := 12) (t := 29) 5 rfl rfl rfl (fun hc => ?_) (fun hc => ?_)
    · have h := ifp h hc
      refine E_iconst (v := 0) (n := 30) 15 rfl rfl icz_0 <| ?_
      refine E_zreturn 16 rfl rfl z0 (eP h)
    · have h := ifn h hc
      obtain ⟨hc1, h⟩ := ift h
      refine E_iload_n (n := 13) 6 rfl rfl rfl 2 rfl <| E_aload_n (n := 14) 7 rfl rfl rfl 0 rfl <| E_gF (r := (x0 + 1)) (n := 17) 8 rfl rfl fg_5_12 h_x0 rfl <| E_iload_n (n := 18) 9 rfl rfl rfl 1 rfl <| E_aL (r := (x0 + 2 + 3 * ixn x1)) (n := 19) 10 rfl rfl (shc_5_0 h_x0) hc1 rfl <| E_gI (n := 22) 11 rfl rfl fg_5_43 (shln h_x0 hc1) <| E_icmp_ge (n := 25) (t := 29) 12 rfl rfl rfl (fun hc => ?_) (fun hc => ?_)
      · have h := ifp h hc
        refine E_iconst (v := 0) (n := 30) 15 rfl rfl icz_0 <| ?_
        refine E_zreturn 16 rfl rfl z0 (eP h)
      · have h := ifn h hc
        refine E_iconst (v := 1) (n := 26) 13 rfl rfl icz_1 <| E_goto (t := 30) 14 rfl rfl <| ?_
        refine E_zreturn 16 rfl rfl z1 (eP h)
theorem K_LN_before (m : Mem) (x0 : Nat) (x1 : Int32) (h_x0 : shp x0 = (2, 0)) (R : Int32) (h : LN_before m x0 x1 = R) : Mt M_LN_before [.ref x0, .int x1] m (qI R m) := by
  refine Mt.of G_LN_before (Nat.le_of_ble_eq_true rfl) (E_sub (lv' := [(0, .ref x0), (1, .int x1)]) [0, 1] rfl ?_)
  unfold LN_before at h
  refine E_iload_n (n := 1) 0 rfl rfl rfl 1 rfl <| E_if_le (n := 4) (t := 10) 1 rfl rfl rfl (fun hc => ?_) (fun hc => ?_)
  · have h := ifp h hc
    refine E_aload_n (n := 11) 6 rfl rfl rfl 0 rfl <| E_gI (n := 14) 7 rfl rfl fg_2_22 h_x0 <| E_iconst (v := 1) (n := 15) 8 rfl rfl icz_1 <| E_isub (n := 16) 9 rfl rfl <| ?_
    refine E_ireturn 10 rfl rfl (eT h)
  · have h := ifn h hc
    refine E_iload_n (n := 5) 2 rfl rfl rfl 1 rfl <| E_iconst (v := 1) (n := 6) 3 rfl rfl icz_1 <| E_isub (n := 7) 4 rfl rfl <| E_goto (t := 16) 5 rfl rfl <| ?_
    refine E_ireturn 10 rfl rfl (eT h)
theorem K_LN_after (m : Mem) (x0 : Nat) (x1 : Int32) (h_x0 : shp x0 = (2, 0)) (R : Int32) (h : LN_after m x0 x1 = R) : Mt M_LN_after [.ref x0, .int x1] m (qI R m) := by
  refine Mt.of G_LN_after (Nat.le_of_ble_eq_true rfl) (E_sub (lv' := [(0, .ref x0), (1, .int x1)]) [0, 1] rfl ?_)
  unfold LN_after at h
  refine E_iload_n (n := 1) 0 rfl rfl rfl 1 rfl <| E_iconst (v := 1) (n := 2) 1 rfl rfl icz_1 <| E_iadd (n := 3) 2 rfl rfl <| E_aload_n (n := 4) 3 rfl rfl rfl 0 rfl <| E_gI (n := 7) 4 rfl rfl fg_2_22 h_x0 <| E_icmp_ge (n := 10) (t := 16) 5 rfl rfl rfl (fun hc => ?_) (fun hc => ?_)
  · have h := ifp h hc
    refine E_iconst (v := 0) (n := 17) 10 rfl rfl icz_0 <| ?_
    refine E_ireturn 11 rfl rfl (eT h)
  · have h := ifn h hc
    refine E_iload_n (n := 11) 6 rfl rfl rfl 1 rfl <| E_iconst (v := 1) (n := 12) 7 rfl rfl icz_1 <| E_iadd (n := 13) 8 rfl rfl <| E_goto (t := 17) 9 rfl rfl <| ?_
    refine E_ireturn 11 rfl rfl (eT h)
theorem K_JI_compare (m : Mem) (x0 : Int32) (x1 : Int32) (R : Int32) (h : JI_compare x0 x1 = R) : Mt M_JI_compare [.int x0, .int x1] m (qI R m) := by
  refine Mt.of G_JI_compare (Nat.le_of_ble_eq_true rfl) (E_sub (lv' := [(0, .int x0), (1, .int x1)]) [0, 1] rfl ?_)
  unfold JI_compare at h
  refine E_iload_n (n := 1) 0 rfl rfl rfl 0 rfl <| E_iload_n (n := 2) 1 rfl rfl rfl 1 rfl <| E_icmp_ge (n := 5) (t := 9) 2 rfl rfl rfl (fun hc => ?_) (fun hc => ?_)
  · have h := ifp h hc
    refine E_iload_n (n := 10) 5 rfl rfl rfl 0 rfl <| E_iload_n (n := 11) 6 rfl rfl rfl 1 rfl <| E_icmp_ne (n := 14) (t := 18) 7 rfl rfl rfl (fun hc => ?_) (fun hc => ?_)
    · have h := ifn h hc
      refine E_iconst (v := 1) (n := 19) 10 rfl rfl icz_1 <| ?_
      refine E_ireturn 11 rfl rfl (eT h)
    · have h := ifp h hc
      refine E_iconst (v := 0) (n := 15) 8 rfl rfl icz_0 <| E_goto (t := 19) 9 rfl rfl <| ?_
      refine E_ireturn 11 rfl rfl (eT h)
  · have h := ifn h hc
    refine E_iconst (v := (-1)) (n := 6) 3 rfl rfl icz_m1 <| E_goto (t := 19) 4 rfl rfl <| ?_
    refine E_ireturn 11 rfl rfl (eT h)
theorem K_LN_bend (m : Mem) (x0 : Nat) (x1 : Int32) (x2 : Int32) (x3 : Int32) (h_x0 : shp x0 = (2, 0)) (R : Int32) (h : LN_bend m x0 x1 x2 x3 = some R) : Mt M_LN_bend [.ref x0, .int x1, .int x2, .int x3] m (qI R m) := by
  refine Mt.of G_LN_bend (Nat.le_of_ble_eq_true rfl) (E_sub (lv' := [(0, .ref x0), (1, .int x1), (2, .int x2), (3, .int x3)]) [0, 1, 2, 3] rfl ?_)
  unfold LN_bend at h
  obtain ⟨hc1, h⟩ := ift h
  obtain ⟨hc2, h⟩ := ift h
  obtain ⟨hc3, h⟩ := ift h
  refine E_aload_n (n := 1) 0 rfl rfl rfl 0 rfl <| E_gF (r := (x0 + 1)) (n := 4) 1 rfl rfl fg_2_9 h_x0 rfl <| E_iload_n (n := 5) 2 rfl rfl rfl 2 rfl <| E_iald (n := 6) 3 rfl rfl (shc_2_2 h_x0) hc1 <| E_aload_n (n := 7) 4 rfl rfl rfl 0 rfl <| E_gF (r := (x0 + 1)) (n := 10) 5 rfl rfl fg_2_9 h_x0 rfl <| E_iload_n (n := 11) 6 rfl rfl rfl 1 rfl <| E_iald (n := 12) 7 rfl rfl (shc_2_2 h_x0) hc2 <| E_isub (n := 13) 8 rfl rfl <| E_aload_n (n := 14) 9 rfl rfl rfl 0 rfl <| E_gF (r := (x0 + 2)) (n := 17) 10 rfl rfl fg_2_15 h_x0 rfl <| E_iload_n (n := 18) 11 rfl rfl rfl 3 rfl <| E_iald (n := 19) 12 rfl rfl (shc_2_3 h_x0) hc3 <| E_aload_n (n := 20) 13 rfl rfl rfl 0 rfl <| E_gF (r := (x0 + 2)) (n := 23) 14 rfl rfl fg_2_15 h_x0 rfl <| E_iload_n (n := 24) 15 rfl rfl rfl 2 rfl <| E_iald (n := 25) 16 rfl rfl (shc_2_3 h_x0) hc1 <| E_isub (n := 26) 17 rfl rfl <| E_imul (n := 27) 18 rfl rfl <| E_aload_n (n := 28) 19 rfl rfl rfl 0 rfl <| E_gF (r := (x0 + 2)) (n := 31) 20 rfl rfl fg_2_15 h_x0 rfl <| E_iload_n (n := 32) 21 rfl rfl rfl 2 rfl <| E_iald (n := 33) 22 rfl rfl (shc_2_3 h_x0) hc1 <| E_aload_n (n := 34) 23 rfl rfl rfl 0 rfl <| E_gF (r := (x0 + 2)) (n := 37) 24 rfl rfl fg_2_15 h_x0 rfl <| E_iload_n (n := 38) 25 rfl rfl rfl 1 rfl <| E_iald (n := 39) 26 rfl rfl (shc_2_3 h_x0) hc2 <| E_isub (n := 40) 27 rfl rfl <| E_aload_n (n := 41) 28 rfl rfl rfl 0 rfl <| E_gF (r := (x0 + 1)) (n := 44) 29 rfl rfl fg_2_9 h_x0 rfl <| E_iload_n (n := 45) 30 rfl rfl rfl 3 rfl <| E_iald (n := 46) 31 rfl rfl (shc_2_2 h_x0) hc3 <| E_aload_n (n := 47) 32 rfl rfl rfl 0 rfl <| E_gF (r := (x0 + 1)) (n := 50) 33 rfl rfl fg_2_9 h_x0 rfl <| E_iload_n (n := 51) 34 rfl rfl rfl 2 rfl <| E_iald (n := 52) 35 rfl rfl (shc_2_2 h_x0) hc1 <| E_isub (n := 53) 36 rfl rfl <| E_imul (n := 54) 37 rfl rfl <| E_dS2r (n := 57) 38 rfl rfl co_2_47 rfl rfl (K_JI_compare m (((gI m (x0 + 1) (ixn x2)) - (gI m (x0 + 1) (ixn x1))) * ((gI m (x0 + 2) (ixn x3)) - (gI m (x0 + 2) (ixn x2)))) (((gI m (x0 + 2) (ixn x2)) - (gI m (x0 + 2) (ixn x1))) * ((gI m (x0 + 1) (ixn x3)) - (gI m (x0 + 1) (ixn x2)))) _ rfl) <| E_ireturn 39 rfl rfl (eP h)
theorem K_PH_hasHay (m : Mem) (x0 : Nat) (x1 : Int32) (h_x0 : shp x0 = (5, 0)) (R : Int32) (h : PH_hasHay m x0 x1 = R) : Mt M_PH_hasHay [.ref x0, .int x1] m (qI R m) := by
  refine Mt.of G_PH_hasHay (Nat.le_of_ble_eq_true rfl) (E_sub (lv' := [(0, .ref x0), (1, .int x1)]) [0, 1] rfl ?_)
  unfold PH_hasHay at h
  refine E_iload_n (n := 1) 0 rfl rfl rfl 1 rfl <| E_if_lt (n := 4) (t := 16) 1 rfl rfl rfl (fun hc => ?_) (fun hc => ?_)
  · have h := ifp h hc
    refine E_iconst (v := 0) (n := 17) 8 rfl rfl icz_0 <| ?_
    refine E_zreturn 9 rfl rfl z0 (eT h)
  · have h := ifn h hc
    refine E_iload_n (n := 5) 2 rfl rfl rfl 1 rfl <| E_aload_n (n := 6) 3 rfl rfl rfl 0 rfl <| E_gI (n := 9) 4 rfl rfl fg_5_46 h_x0 <| E_icmp_ge (n := 12) (t := 16) 5 rfl rfl rfl (fun hc => ?_) (fun hc => ?_)
    · have h := ifp h hc
      refine E_iconst (v := 0) (n := 17) 8 rfl rfl icz_0 <| ?_
      refine E_zreturn 9 rfl rfl z0 (eT h)
    · have h := ifn h hc
      refine E_iconst (v := 1) (n := 13) 6 rfl rfl icz_1 <| E_goto (t := 17) 7 rfl rfl <| ?_
      refine E_zreturn 9 rfl rfl z1 (eT h)
theorem LN_twiceArea_L4_ok (m : Mem) (x0 : Nat) (h_x0 : shp x0 = (2, 0)) (kx : Int32 → Option Int32) (R : Int32) (hx : ∀ (x1 : Int32), kx x1 = some R → E M_LN_twiceArea 54 [(1, .int x1)] [] m (qI R m)) : ∀ (n : Nat) (x1 : Int32) (x2 : Int32), LN_twiceArea_L4 m x0 kx n x1 x2 = some R → E M_LN_twiceArea 4 [(0, .ref x0), (1, .int x1), (2, .int x2)] [] m (qI R m) := by
  intro n
  induction n with
  | zero =>
    intro x1 x2 h
    exact absurd (show none = some R from h) (fun e => Option.some_ne_none R e.symm)
  | succ n ih =>
    intro x1 x2 h
    rw [LN_twiceArea_L4] at h
    refine E_iload_n (n := 5) 4 rfl rfl rfl 2 rfl <| E_aload_n (n := 6) 5 rfl rfl rfl 0 rfl <| E_gI (n := 9) 6 rfl rfl fg_2_22 h_x0 <| E_icmp_ge (n := 12) (t := 54) 7 rfl rfl rfl (fun hc => ?_) (fun hc => ?_)
    · have h := ifp h hc
      refine E_sub (lv' := [(1, .int x1)]) [1] rfl ?_
      exact hx x1 h
    · have h := ifn h hc
      obtain ⟨v1, hv1, h⟩ := letV_ex h
      obtain ⟨hc2, h⟩ := ift h
      obtain ⟨hc3, h⟩ := ift h
      obtain ⟨v4, hv4, h⟩ := letV_ex h
      refine E_aload_n (n := 13) 8 rfl rfl rfl 0 rfl <| E_iload_n (n := 14) 9 rfl rfl rfl 2 rfl <| E_cV1r (n := 17) 10 rfl rfl co_2_40 rfl h_x0 rfl (K_LN_after m x0 x2 h_x0 _ rfl) <| E_top hv1 <| E_istore_n (lv' := [(0, .ref x0), (1, .int x1), (2, .int x2), (3, .int v1)]) (n := 18) 11 rfl rfl rfl (Nat.le_of_ble_eq_true rfl) [1, 2, 3, 0] rfl <| E_iload_n (n := 19) 12 rfl rfl rfl 1 rfl <| E_aload_n (n := 20) 13 rfl rfl rfl 0 rfl <| E_gF (r := (x0 + 1)) (n := 23) 14 rfl rfl fg_2_9 h_x0 rfl <| E_iload_n (n := 24) 15 rfl rfl rfl 2 rfl <| E_iald (n := 25) 16 rfl rfl (shc_2_2 h_x0) hc2 <| E_aload_n (n := 26) 17 rfl rfl rfl 0 rfl <| E_gF (r := (x0 + 2)) (n := 29) 18 rfl rfl fg_2_15 h_x0 rfl <| E_iload_n (n := 30) 19 rfl rfl rfl 3 rfl <| E_iald (n := 31) 20 rfl rfl (shc_2_3 h_x0) hc3 <| E_imul (n := 32) 21 rfl rfl <| E_aload_n (n := 33) 22 rfl rfl rfl 0 rfl <| E_gF (r := (x0 + 1)) (n := 36) 23 rfl rfl fg_2_9 h_x0 rfl <| E_iload_n (n := 37) 24 rfl rfl rfl 3 rfl <| E_iald (n := 38) 25 rfl rfl (shc_2_2 h_x0) hc3 <| E_aload_n (n := 39) 26 rfl rfl rfl 0 rfl <| E_gF (r := (x0 + 2)) (n := 42) 27 rfl rfl fg_2_15 h_x0 rfl <| E_iload_n (n := 43) 28 rfl rfl rfl 2 rfl <| E_iald (n := 44) 29 rfl rfl (shc_2_3 h_x0) hc2 <| E_imul (n := 45) 30 rfl rfl <| E_isub (n := 46) 31 rfl rfl <| E_iadd (n := 47) 32 rfl rfl <| E_top hv4 <| E_istore_n (lv' := [(0, .ref x0), (1, .int v4), (2, .int x2), (3, .int v1)]) (n := 48) 33 rfl rfl rfl (Nat.le_of_ble_eq_true rfl) [1, 0, 2, 3] rfl <| E_iinc (v := (x2 + 1)) (lv' := [(0, .ref x0), (1, .int v4), (2, .int (x2 + 1)), (3, .int v1)]) (n := 51) 34 rfl rfl 2 rfl (by rw [icz_1]) (Nat.le_of_ble_eq_true rfl) [1, 2, 0, 3] rfl <| E_goto (t := 4) 35 rfl rfl <| ?_
      refine E_sub (lv' := [(0, .ref x0), (1, .int v4), (2, .int (x2 + 1))]) [0, 1, 2] rfl ?_
      exact ih v4 (x2 + 1) h
theorem K_LN_twiceArea (m : Mem) (x0 : Nat) (h_x0 : shp x0 = (2, 0)) (R : Int32) (h : LN_twiceArea m x0 = some R) : Mt M_LN_twiceArea [.ref x0] m (qI R m) := by
  refine Mt.of G_LN_twiceArea (Nat.le_of_ble_eq_true rfl) (E_sub (lv' := [(0, .ref x0)]) [0] rfl ?_)
  unfold LN_twiceArea at h
  refine E_iconst (v := 0) (n := 1) 0 rfl rfl icz_0 <| E_istore_n (lv' := [(0, .ref x0), (1, .int 0)]) (n := 2) 1 rfl rfl rfl (Nat.le_of_ble_eq_true rfl) [1, 0] rfl <| E_iconst (v := 0) (n := 3) 2 rfl rfl icz_0 <| E_istore_n (lv' := [(0, .ref x0), (1, .int 0), (2, .int 0)]) (n := 4) 3 rfl rfl rfl (Nat.le_of_ble_eq_true rfl) [1, 2, 0] rfl <| ?_
  refine LN_twiceArea_L4_ok m x0 h_x0 _ R ?_ FU 0 0 h
  intro y1 h
  refine E_iload_n (n := 55) 36 rfl rfl rfl 0 rfl <| E_ireturn 37 rfl rfl (eP h)
theorem K_LN_crossWithin (m : Mem) (x0 : Nat) (x1 : Int32) (x2 : Int32) (h_x0 : shp x0 = (2, 0)) (R : Int32) (h : LN_crossWithin m x0 x1 x2 = some R) : Mt M_LN_crossWithin [.ref x0, .int x1, .int x2] m (qI R m) := by
  refine Mt.of G_LN_crossWithin (Nat.le_of_ble_eq_true rfl) (E_sub (lv' := [(0, .ref x0), (1, .int x1), (2, .int x2)]) [0, 1, 2] rfl ?_)
  unfold LN_crossWithin at h
  obtain ⟨v1, hv1, h⟩ := letV_ex h
  obtain ⟨v2, hv2, h⟩ := letV_ex h
  obtain ⟨v3, hq4, h⟩ := bI_ex h
  obtain ⟨v5, hq6, h⟩ := bI_ex h
  refine E_aload_n (n := 1) 0 rfl rfl rfl 0 rfl <| E_iload_n (n := 2) 1 rfl rfl rfl 1 rfl <| E_cV1r (n := 5) 2 rfl rfl co_2_40 rfl h_x0 rfl (K_LN_after m x0 x1 h_x0 _ rfl) <| E_top hv1 <| E_istore_n (lv' := [(0, .ref x0), (1, .int x1), (2, .int x2), (3, .int v1)]) (n := 6) 3 rfl rfl rfl (Nat.le_of_ble_eq_true rfl) [1, 2, 3, 0] rfl <| E_aload_n (n := 7) 4 rfl rfl rfl 0 rfl <| E_iload_n (n := 8) 5 rfl rfl rfl 2 rfl <| E_cV1r (n := 11) 6 rfl rfl co_2_40 rfl h_x0 rfl (K_LN_after m x0 x2 h_x0 _ rfl) <| E_top hv2 <| E_istore (lv' := [(0, .ref x0), (1, .int x1), (2, .int x2), (3, .int v1), (4, .int v2)]) (n := 13) 7 rfl rfl (Nat.le_of_ble_eq_true rfl) [1, 2, 3, 4, 0] rfl <| E_aload_n (n := 14) 8 rfl rfl rfl 0 rfl <| E_iload_n (n := 15) 9 rfl rfl rfl 1 rfl <| E_iload_n (n := 16) 10 rfl rfl rfl 3 rfl <| E_iload_n (n := 17) 11 rfl rfl rfl 2 rfl <| E_cV3r (n := 20) 12 rfl rfl co_2_59 rfl h_x0 rfl (K_LN_bend m x0 x1 v1 x2 h_x0 _ hq4) <| E_aload_n (n := 21) 13 rfl rfl rfl 0 rfl <| E_iload_n (n := 22) 14 rfl rfl rfl 1 rfl <| E_iload_n (n := 23) 15 rfl rfl rfl 3 rfl <| E_iload (n := 25) 16 rfl rfl 4 rfl <| E_cV3r (n := 28) 17 rfl rfl co_2_59 rfl h_x0 rfl (K_LN_bend m x0 x1 v1 v2 h_x0 _ hq6) <| E_imul (n := 29) 18 rfl rfl <| E_if_ge (n := 32) (t := 56) 19 rfl rfl rfl (fun hc => ?_) (fun hc => ?_)
  · have h := ifp h hc
    refine E_iconst (v := 0) (n := 57) 34 rfl rfl icz_0 <| ?_
    refine E_zreturn 35 rfl rfl z0 (eP h)
  · have h := ifn h hc
    obtain ⟨v7, hq8, h⟩ := bI_ex h
    obtain ⟨v9, hq10, h⟩ := bI_ex h
    refine E_aload_n (n := 33) 20 rfl rfl rfl 0 rfl <| E_iload_n (n := 34) 21 rfl rfl rfl 2 rfl <| E_iload (n := 36) 22 rfl rfl 4 rfl <| E_iload_n (n := 37) 23 rfl rfl rfl 1 rfl <| E_cV3r (n := 40) 24 rfl rfl co_2_59 rfl h_x0 rfl (K_LN_bend m x0 x2 v2 x1 h_x0 _ hq8) <| E_aload_n (n := 41) 25 rfl rfl rfl 0 rfl <| E_iload_n (n := 42) 26 rfl rfl rfl 2 rfl <| E_iload (n := 44) 27 rfl rfl 4 rfl <| E_iload_n (n := 45) 28 rfl rfl rfl 3 rfl <| E_cV3r (n := 48) 29 rfl rfl co_2_59 rfl h_x0 rfl (K_LN_bend m x0 x2 v2 v1 h_x0 _ hq10) <| E_imul (n := 49) 30 rfl rfl <| E_if_ge (n := 52) (t := 56) 31 rfl rfl rfl (fun hc => ?_) (fun hc => ?_)
    · have h := ifp h hc
      refine E_iconst (v := 0) (n := 57) 34 rfl rfl icz_0 <| ?_
      refine E_zreturn 35 rfl rfl z0 (eP h)
    · have h := ifn h hc
      refine E_iconst (v := 1) (n := 53) 32 rfl rfl icz_1 <| E_goto (t := 57) 33 rfl rfl <| ?_
      refine E_zreturn 35 rfl rfl z1 (eP h)
theorem LN_crossings_L16_ok (m : Mem) (x0 : Nat) (x2 : Int32) (h_x0 : shp x0 = (2, 0)) (kx : Int32 → Option Int32) (R : Int32) (hx : ∀ (x1 : Int32), kx x1 = some R → E M_LN_crossings 42 [(0, .ref x0), (1, .int x1), (2, .int x2)] [] m (qI R m)) : ∀ (n : Nat) (x1 : Int32) (x3 : Int32), LN_crossings_L16 m x0 x2 kx n x1 x3 = some R → E M_LN_crossings 16 [(0, .ref x0), (1, .int x1), (2, .int x2), (3, .int x3)] [] m (qI R m) := by
  intro n
  induction n with
  | zero =>
    intro x1 x3 h
    exact absurd (show none = some R from h) (fun e => Option.some_ne_none R e.symm)
  | succ n ih =>
    intro x1 x3 h
    rw [LN_crossings_L16] at h
    refine E_iload_n (n := 17) 12 rfl rfl rfl 3 rfl <| E_aload_n (n := 18) 13 rfl rfl rfl 0 rfl <| E_gI (n := 21) 14 rfl rfl fg_2_22 h_x0 <| E_icmp_ge (n := 24) (t := 42) 15 rfl rfl rfl (fun hc => ?_) (fun hc => ?_)
    · have h := ifp h hc
      refine E_sub (lv' := [(0, .ref x0), (1, .int x1), (2, .int x2)]) [0, 1, 2] rfl ?_
      exact hx x1 h
    · have h := ifn h hc
      obtain ⟨v1, hq2, h⟩ := bI_ex h
      refine E_aload_n (n := 25) 16 rfl rfl rfl 0 rfl <| E_iload_n (n := 26) 17 rfl rfl rfl 2 rfl <| E_iload_n (n := 27) 18 rfl rfl rfl 3 rfl <| E_cV2r (n := 30) 19 rfl rfl co_2_53 rfl h_x0 rfl (K_LN_crossWithin m x0 x2 x3 h_x0 _ hq2) <| E_if_eq (n := 33) (t := 36) 20 rfl rfl rfl (fun hc => ?_) (fun hc => ?_)
      · have h := ifp h hc
        refine E_iinc (v := (x3 + 1)) (lv' := [(0, .ref x0), (1, .int x1), (2, .int x2), (3, .int (x3 + 1))]) (n := 39) 22 rfl rfl 3 rfl (by rw [icz_1]) (Nat.le_of_ble_eq_true rfl) [1, 2, 3, 0] rfl <| E_goto (t := 16) 23 rfl rfl <| ?_
        exact ih x1 (x3 + 1) h
      · have h := ifn h hc
        refine E_iinc (v := (x1 + 1)) (lv' := [(0, .ref x0), (1, .int (x1 + 1)), (2, .int x2), (3, .int x3)]) (n := 36) 21 rfl rfl 1 rfl (by rw [icz_1]) (Nat.le_of_ble_eq_true rfl) [1, 0, 2, 3] rfl <| ?_
        refine E_iinc (v := (x3 + 1)) (lv' := [(0, .ref x0), (1, .int (x1 + 1)), (2, .int x2), (3, .int (x3 + 1))]) (n := 39) 22 rfl rfl 3 rfl (by rw [icz_1]) (Nat.le_of_ble_eq_true rfl) [1, 2, 3, 0] rfl <| E_goto (t := 16) 23 rfl rfl <| ?_
        exact ih (x1 + 1) (x3 + 1) h
theorem LN_crossings_L4_ok (m : Mem) (x0 : Nat) (h_x0 : shp x0 = (2, 0)) (kx : Int32 → Option Int32) (R : Int32) (hx : ∀ (x1 : Int32), kx x1 = some R → E M_LN_crossings 48 [(1, .int x1)] [] m (qI R m)) : ∀ (n : Nat) (x1 : Int32) (x2 : Int32), LN_crossings_L4 m x0 kx n x1 x2 = some R → E M_LN_crossings 4 [(0, .ref x0), (1, .int x1), (2, .int x2)] [] m (qI R m) := by
  intro n
  induction n with
  | zero =>
    intro x1 x2 h
    exact absurd (show none = some R from h) (fun e => Option.some_ne_none R e.symm)
  | succ n ih =>
    intro x1 x2 h
    rw [LN_crossings_L4] at h
    refine E_iload_n (n := 5) 4 rfl rfl rfl 2 rfl <| E_aload_n (n := 6) 5 rfl rfl rfl 0 rfl <| E_gI (n := 9) 6 rfl rfl fg_2_22 h_x0 <| E_icmp_ge (n := 12) (t := 48) 7 rfl rfl rfl (fun hc => ?_) (fun hc => ?_)
    · have h := ifp h hc
      refine E_sub (lv' := [(1, .int x1)]) [1] rfl ?_
      exact hx x1 h
    · have h := ifn h hc
      obtain ⟨v1, hv1, h⟩ := letV_ex h
      refine E_iload_n (n := 13) 8 rfl rfl rfl 2 rfl <| E_iconst (v := 1) (n := 14) 9 rfl rfl icz_1 <| E_iadd (n := 15) 10 rfl rfl <| E_top hv1 <| E_istore_n (lv' := [(0, .ref x0), (1, .int x1), (2, .int x2), (3, .int v1)]) (n := 16) 11 rfl rfl rfl (Nat.le_of_ble_eq_true rfl) [1, 2, 3, 0] rfl <| ?_
      refine LN_crossings_L16_ok m x0 x2 h_x0 _ R ?_ FU x1 v1 h
      intro y2 h
      refine E_iinc (v := (x2 + 1)) (lv' := [(0, .ref x0), (1, .int y2), (2, .int (x2 + 1))]) (n := 45) 24 rfl rfl 2 rfl (by rw [icz_1]) (Nat.le_of_ble_eq_true rfl) [1, 2, 0] rfl <| E_goto (t := 4) 25 rfl rfl <| ?_
      exact ih y2 (x2 + 1) h
theorem K_LN_crossings (m : Mem) (x0 : Nat) (h_x0 : shp x0 = (2, 0)) (R : Int32) (h : LN_crossings m x0 = some R) : Mt M_LN_crossings [.ref x0] m (qI R m) := by
  refine Mt.of G_LN_crossings (Nat.le_of_ble_eq_true rfl) (E_sub (lv' := [(0, .ref x0)]) [0] rfl ?_)
  unfold LN_crossings at h
  refine E_iconst (v := 0) (n := 1) 0 rfl rfl icz_0 <| E_istore_n (lv' := [(0, .ref x0), (1, .int 0)]) (n := 2) 1 rfl rfl rfl (Nat.le_of_ble_eq_true rfl) [1, 0] rfl <| E_iconst (v := 0) (n := 3) 2 rfl rfl icz_0 <| E_istore_n (lv' := [(0, .ref x0), (1, .int 0), (2, .int 0)]) (n := 4) 3 rfl rfl rfl (Nat.le_of_ble_eq_true rfl) [1, 2, 0] rfl <| ?_
  refine LN_crossings_L4_ok m x0 h_x0 _ R ?_ FU 0 0 h
  intro y1 h
  refine E_iload_n (n := 49) 26 rfl rfl rfl 0 rfl <| E_ireturn 27 rfl rfl (eP h)
theorem OH_passes_J75_ok (m : Mem) (x1 : Int32) (x3 : Int32) (x5 : Int32) (x6 : Int32) (R : Int32) (h : OH_passes_J75 x1 x3 x5 x6 = R) : E M_OH_passes 75 [(1, .int x1), (3, .int x3), (5, .int x5), (6, .int x6)] [] m (qI R m) := by
  unfold OH_passes_J75 at h
  refine E_iload_n (n := 76) 48 rfl rfl rfl 1 rfl <| E_iload (n := 78) 49 rfl rfl 2 rfl <| E_icmp_gt (n := 81) (t := 98) 50 rfl rfl rfl (fun hc => ?_) (fun hc => ?_)
  · have h := ifp h hc
    refine E_iconst (v := 0) (n := 99) 60 rfl rfl icz_0 <| E_ireturn 61 rfl rfl (eT h)
  · have h := ifn h hc
    refine E_iload (n := 83) 51 rfl rfl 2 rfl <| E_iload_n (n := 84) 52 rfl rfl rfl 0 rfl <| E_icmp_ge (n := 87) (t := 98) 53 rfl rfl rfl (fun hc => ?_) (fun hc => ?_)
    · have h := ifp h hc
      refine E_iconst (v := 0) (n := 99) 60 rfl rfl icz_0 <| E_ireturn 61 rfl rfl (eT h)
    · have h := ifn h hc
      refine E_iload (n := 89) 54 rfl rfl 3 rfl <| E_if_ge (n := 92) (t := 96) 55 rfl rfl rfl (fun hc => ?_) (fun hc => ?_)
      · have h := ifp h hc
        refine E_iconst (v := 0) (n := 97) 58 rfl rfl icz_0 <| ?_
        refine E_ireturn 59 rfl rfl (eT h)
      · have h := ifn h hc
        refine E_iconst (v := (-1)) (n := 93) 56 rfl rfl icz_m1 <| E_goto (t := 97) 57 rfl rfl <| ?_
        refine E_ireturn 59 rfl rfl (eT h)
theorem OH_passes_J52_ok (m : Mem) (x1 : Int32) (x3 : Int32) (x5 : Int32) (x6 : Int32) (R : Int32) (h : OH_passes_J52 x1 x3 x5 x6 = R) : E M_OH_passes 52 [(1, .int x1), (3, .int x3), (5, .int x5), (6, .int x6)] [] m (qI R m) := by
  unfold OH_passes_J52 at h
  refine E_iload_n (n := 53) 36 rfl rfl rfl 0 rfl <| E_iload (n := 55) 37 rfl rfl 2 rfl <| E_icmp_gt (n := 58) (t := 75) 38 rfl rfl rfl (fun hc => ?_) (fun hc => ?_)
  · have h := ifp h hc
    exact OH_passes_J75_ok m x1 x3 x5 x6 _ h
  · have h := ifn h hc
    refine E_iload (n := 60) 39 rfl rfl 2 rfl <| E_iload_n (n := 61) 40 rfl rfl rfl 1 rfl <| E_icmp_ge (n := 64) (t := 75) 41 rfl rfl rfl (fun hc => ?_) (fun hc => ?_)
    · have h := ifp h hc
      exact OH_passes_J75_ok m x1 x3 x5 x6 _ h
    · have h := ifn h hc
      refine E_iload (n := 66) 42 rfl rfl 3 rfl <| E_if_le (n := 69) (t := 73) 43 rfl rfl rfl (fun hc => ?_) (fun hc => ?_)
      · have h := ifp h hc
        refine E_iconst (v := 0) (n := 74) 46 rfl rfl icz_0 <| ?_
        refine E_ireturn 47 rfl rfl (eT h)
      · have h := ifn h hc
        refine E_iconst (v := 1) (n := 70) 44 rfl rfl icz_1 <| E_goto (t := 74) 45 rfl rfl <| ?_
        refine E_ireturn 47 rfl rfl (eT h)
theorem K_OH_passes (m : Mem) (x0 : Int32) (x1 : Int32) (x2 : Int32) (x3 : Int32) (x4 : Int32) (x5 : Int32) (R : Int32) (h : OH_passes x0 x1 x2 x3 x4 x5 = R) : Mt M_OH_passes [.int x0, .int x1, .int x2, .int x3, .int x4, .int x5] m (qI R m) := by
  refine Mt.of G_OH_passes (Nat.le_of_ble_eq_true rfl) (E_sub (lv' := [(0, .int x0), (1, .int x1), (2, .int x2), (3, .int x3), (4, .int x4), (5, .int x5)]) [0, 1, 2, 3, 4, 5] rfl ?_)
  unfold OH_passes at h
  obtain ⟨v1, hv1, h⟩ := letV_ex h
  refine E_iload_n (n := 1) 0 rfl rfl rfl 2 rfl <| E_iload_n (n := 2) 1 rfl rfl rfl 0 rfl <| E_isub (n := 3) 2 rfl rfl <| E_iload (n := 5) 3 rfl rfl 5 rfl <| E_iload_n (n := 6) 4 rfl rfl rfl 1 rfl <| E_isub (n := 7) 5 rfl rfl <| E_imul (n := 8) 6 rfl rfl <| E_iload_n (n := 9) 7 rfl rfl rfl 3 rfl <| E_iload_n (n := 10) 8 rfl rfl rfl 1 rfl <| E_isub (n := 11) 9 rfl rfl <| E_iload (n := 13) 10 rfl rfl 4 rfl <| E_iload_n (n := 14) 11 rfl rfl rfl 0 rfl <| E_isub (n := 15) 12 rfl rfl <| E_imul (n := 16) 13 rfl rfl <| E_isub (n := 17) 14 rfl rfl <| E_top hv1 <| E_istore (lv' := [(0, .int x0), (1, .int x1), (2, .int x2), (3, .int x3), (4, .int x4), (5, .int x5), (6, .int v1)]) (n := 19) 15 rfl rfl (Nat.le_of_ble_eq_true rfl) [1, 2, 3, 4, 5, 6, 0] rfl <| E_iload (n := 21) 16 rfl rfl 6 rfl <| E_if_ne (n := 24) (t := 52) 17 rfl rfl rfl (fun hc => ?_) (fun hc => ?_)
  · have h := ifn h hc
    refine E_sub (lv' := [(1, .int x1), (3, .int x3), (5, .int x5), (6, .int v1)]) [1, 3, 5, 6] rfl ?_
    exact OH_passes_J52_ok m x1 x3 x5 v1 _ h
  · have h := ifp h hc
    refine E_iload_n (n := 25) 18 rfl rfl rfl 0 rfl <| E_iload (n := 27) 19 rfl rfl 4 rfl <| E_isub (n := 28) 20 rfl rfl <| E_iload_n (n := 29) 21 rfl rfl rfl 2 rfl <| E_iload (n := 31) 22 rfl rfl 4 rfl <| E_isub (n := 32) 23 rfl rfl <| E_imul (n := 33) 24 rfl rfl <| E_if_gt (n := 36) (t := 52) 25 rfl rfl rfl (fun hc => ?_) (fun hc => ?_)
    · have h := ifp h hc
      refine E_sub (lv' := [(1, .int x1), (3, .int x3), (5, .int x5), (6, .int v1)]) [1, 3, 5, 6] rfl ?_
      exact OH_passes_J52_ok m x1 x3 x5 v1 _ h
    · have h := ifn h hc
      refine E_iload_n (n := 37) 26 rfl rfl rfl 1 rfl <| E_iload (n := 39) 27 rfl rfl 5 rfl <| E_isub (n := 40) 28 rfl rfl <| E_iload_n (n := 41) 29 rfl rfl rfl 3 rfl <| E_iload (n := 43) 30 rfl rfl 5 rfl <| E_isub (n := 44) 31 rfl rfl <| E_imul (n := 45) 32 rfl rfl <| E_if_gt (n := 48) (t := 52) 33 rfl rfl rfl (fun hc => ?_) (fun hc => ?_)
      · have h := ifp h hc
        refine E_sub (lv' := [(1, .int x1), (3, .int x3), (5, .int x5), (6, .int v1)]) [1, 3, 5, 6] rfl ?_
        exact OH_passes_J52_ok m x1 x3 x5 v1 _ h
      · have h := ifn h hc
        refine E_sipush (v := 1000) (n := 51) 34 rfl rfl spz_1000 <| E_ireturn 35 rfl rfl (eT h)
theorem K_LN_passesBy (m : Mem) (x0 : Nat) (x1 : Int32) (x2 : Int32) (x3 : Int32) (h_x0 : shp x0 = (2, 0)) (R : Int32) (h : LN_passesBy m x0 x1 x2 x3 = some R) : Mt M_LN_passesBy [.ref x0, .int x1, .int x2, .int x3] m (qI R m) := by
  refine Mt.of G_LN_passesBy (Nat.le_of_ble_eq_true rfl) (E_sub (lv' := [(0, .ref x0), (1, .int x1), (2, .int x2), (3, .int x3)]) [0, 1, 2, 3] rfl ?_)
  unfold LN_passesBy at h
  obtain ⟨v1, hv1, h⟩ := letV_ex h
  obtain ⟨hc2, h⟩ := ift h
  obtain ⟨hc3, h⟩ := ift h
  refine E_aload_n (n := 1) 0 rfl rfl rfl 0 rfl <| E_iload_n (n := 2) 1 rfl rfl rfl 1 rfl <| E_cV1r (n := 5) 2 rfl rfl co_2_40 rfl h_x0 rfl (K_LN_after m x0 x1 h_x0 _ rfl) <| E_top hv1 <| E_istore (lv' := [(0, .ref x0), (1, .int x1), (2, .int x2), (3, .int x3), (4, .int v1)]) (n := 7) 3 rfl rfl (Nat.le_of_ble_eq_true rfl) [1, 2, 3, 4, 0] rfl <| E_aload_n (n := 8) 4 rfl rfl rfl 0 rfl <| E_gF (r := (x0 + 1)) (n := 11) 5 rfl rfl fg_2_9 h_x0 rfl <| E_iload_n (n := 12) 6 rfl rfl rfl 1 rfl <| E_iald (n := 13) 7 rfl rfl (shc_2_2 h_x0) hc2 <| E_aload_n (n := 14) 8 rfl rfl rfl 0 rfl <| E_gF (r := (x0 + 2)) (n := 17) 9 rfl rfl fg_2_15 h_x0 rfl <| E_iload_n (n := 18) 10 rfl rfl rfl 1 rfl <| E_iald (n := 19) 11 rfl rfl (shc_2_3 h_x0) hc2 <| E_aload_n (n := 20) 12 rfl rfl rfl 0 rfl <| E_gF (r := (x0 + 1)) (n := 23) 13 rfl rfl fg_2_9 h_x0 rfl <| E_iload (n := 25) 14 rfl rfl 4 rfl <| E_iald (n := 26) 15 rfl rfl (shc_2_2 h_x0) hc3 <| E_aload_n (n := 27) 16 rfl rfl rfl 0 rfl <| E_gF (r := (x0 + 2)) (n := 30) 17 rfl rfl fg_2_15 h_x0 rfl <| E_iload (n := 32) 18 rfl rfl 4 rfl <| E_iald (n := 33) 19 rfl rfl (shc_2_3 h_x0) hc3 <| E_iload_n (n := 34) 20 rfl rfl rfl 2 rfl <| E_iload_n (n := 35) 21 rfl rfl rfl 3 rfl <| E_dN6r (n := 38) 22 rfl rfl co_2_66 rfl rfl (K_OH_passes m (gI m (x0 + 1) (ixn x1)) (gI m (x0 + 2) (ixn x1)) (gI m (x0 + 1) (ixn v1)) (gI m (x0 + 2) (ixn v1)) x2 x3 _ rfl) <| E_ireturn 23 rfl rfl (eP h)
theorem K_LN_endsMeet (m : Mem) (x0 : Nat) (x1 : Int32) (x2 : Int32) (h_x0 : shp x0 = (2, 0)) (R : Int32) (h : LN_endsMeet m x0 x1 x2 = some R) : Mt M_LN_endsMeet [.ref x0, .int x1, .int x2] m (qI R m) := by
  refine Mt.of G_LN_endsMeet (Nat.le_of_ble_eq_true rfl) (E_sub (lv' := [(0, .ref x0), (1, .int x1), (2, .int x2)]) [0, 1, 2] rfl ?_)
  unfold LN_endsMeet at h
  obtain ⟨v1, hv1, h⟩ := letV_ex h
  obtain ⟨v2, hv2, h⟩ := letV_ex h
  obtain ⟨hc3, h⟩ := ift h
  obtain ⟨v4, hq5, h⟩ := bI_ex h
  refine E_aload_n (n := 1) 0 rfl rfl rfl 0 rfl <| E_iload_n (n := 2) 1 rfl rfl rfl 1 rfl <| E_cV1r (n := 5) 2 rfl rfl co_2_40 rfl h_x0 rfl (K_LN_after m x0 x1 h_x0 _ rfl) <| E_top hv1 <| E_istore_n (lv' := [(0, .ref x0), (1, .int x1), (2, .int x2), (3, .int v1)]) (n := 6) 3 rfl rfl rfl (Nat.le_of_ble_eq_true rfl) [1, 2, 3, 0] rfl <| E_aload_n (n := 7) 4 rfl rfl rfl 0 rfl <| E_iload_n (n := 8) 5 rfl rfl rfl 2 rfl <| E_cV1r (n := 11) 6 rfl rfl co_2_40 rfl h_x0 rfl (K_LN_after m x0 x2 h_x0 _ rfl) <| E_top hv2 <| E_istore (lv' := [(0, .ref x0), (1, .int x1), (2, .int x2), (3, .int v1), (4, .int v2)]) (n := 13) 7 rfl rfl (Nat.le_of_ble_eq_true rfl) [1, 2, 3, 4, 0] rfl <| E_aload_n (n := 14) 8 rfl rfl rfl 0 rfl <| E_iload_n (n := 15) 9 rfl rfl rfl 1 rfl <| E_aload_n (n := 16) 10 rfl rfl rfl 0 rfl <| E_gF (r := (x0 + 1)) (n := 19) 11 rfl rfl fg_2_9 h_x0 rfl <| E_iload_n (n := 20) 12 rfl rfl rfl 2 rfl <| E_iald (n := 21) 13 rfl rfl (shc_2_2 h_x0) hc3 <| E_aload_n (n := 22) 14 rfl rfl rfl 0 rfl <| E_gF (r := (x0 + 2)) (n := 25) 15 rfl rfl fg_2_15 h_x0 rfl <| E_iload_n (n := 26) 16 rfl rfl rfl 2 rfl <| E_iald (n := 27) 17 rfl rfl (shc_2_3 h_x0) hc3 <| E_cV3r (n := 30) 18 rfl rfl co_2_63 rfl h_x0 rfl (K_LN_passesBy m x0 x1 (gI m (x0 + 1) (ixn x2)) (gI m (x0 + 2) (ixn x2)) h_x0 _ hq5) <| E_sipush (v := 1000) (n := 33) 19 rfl rfl spz_1000 <| E_icmp_eq (n := 36) (t := 107) 20 rfl rfl rfl (fun hc => ?_) (fun hc => ?_)
  · have h := ifp h hc
    refine E_iconst (v := 1) (n := 108) 60 rfl rfl icz_1 <| E_goto (t := 112) 61 rfl rfl <| ?_
    refine E_zreturn 63 rfl rfl z1 (eP h)
  · have h := ifn h hc
    obtain ⟨hc6, h⟩ := ift h
    obtain ⟨v7, hq8, h⟩ := bI_ex h
    refine E_aload_n (n := 37) 21 rfl rfl rfl 0 rfl <| E_iload_n (n := 38) 22 rfl rfl rfl 1 rfl <| E_aload_n (n := 39) 23 rfl rfl rfl 0 rfl <| E_gF (r := (x0 + 1)) (n := 42) 24 rfl rfl fg_2_9 h_x0 rfl <| E_iload (n := 44) 25 rfl rfl 4 rfl <| E_iald (n := 45) 26 rfl rfl (shc_2_2 h_x0) hc6 <| E_aload_n (n := 46) 27 rfl rfl rfl 0 rfl <| E_gF (r := (x0 + 2)) (n := 49) 28 rfl rfl fg_2_15 h_x0 rfl <| E_iload (n := 51) 29 rfl rfl 4 rfl <| E_iald (n := 52) 30 rfl rfl (shc_2_3 h_x0) hc6 <| E_cV3r (n := 55) 31 rfl rfl co_2_63 rfl h_x0 rfl (K_LN_passesBy m x0 x1 (gI m (x0 + 1) (ixn v2)) (gI m (x0 + 2) (ixn v2)) h_x0 _ hq8) <| E_sipush (v := 1000) (n := 58) 32 rfl rfl spz_1000 <| E_icmp_eq (n := 61) (t := 107) 33 rfl rfl rfl (fun hc => ?_) (fun hc => ?_)
    · have h := ifp h hc
      refine E_iconst (v := 1) (n := 108) 60 rfl rfl icz_1 <| E_goto (t := 112) 61 rfl rfl <| ?_
      refine E_zreturn 63 rfl rfl z1 (eP h)
    · have h := ifn h hc
      obtain ⟨hc9, h⟩ := ift h
      obtain ⟨v10, hq11, h⟩ := bI_ex h
      refine E_aload_n (n := 62) 34 rfl rfl rfl 0 rfl <| E_iload_n (n := 63) 35 rfl rfl rfl 2 rfl <| E_aload_n (n := 64) 36 rfl rfl rfl 0 rfl <| E_gF (r := (x0 + 1)) (n := 67) 37 rfl rfl fg_2_9 h_x0 rfl <| E_iload_n (n := 68) 38 rfl rfl rfl 1 rfl <| E_iald (n := 69) 39 rfl rfl (shc_2_2 h_x0) hc9 <| E_aload_n (n := 70) 40 rfl rfl rfl 0 rfl <| E_gF (r := (x0 + 2)) (n := 73) 41 rfl rfl fg_2_15 h_x0 rfl <| E_iload_n (n := 74) 42 rfl rfl rfl 1 rfl <| E_iald (n := 75) 43 rfl rfl (shc_2_3 h_x0) hc9 <| E_cV3r (n := 78) 44 rfl rfl co_2_63 rfl h_x0 rfl (K_LN_passesBy m x0 x2 (gI m (x0 + 1) (ixn x1)) (gI m (x0 + 2) (ixn x1)) h_x0 _ hq11) <| E_sipush (v := 1000) (n := 81) 45 rfl rfl spz_1000 <| E_icmp_eq (n := 84) (t := 107) 46 rfl rfl rfl (fun hc => ?_) (fun hc => ?_)
      · have h := ifp h hc
        refine E_iconst (v := 1) (n := 108) 60 rfl rfl icz_1 <| E_goto (t := 112) 61 rfl rfl <| ?_
        refine E_zreturn 63 rfl rfl z1 (eP h)
      · have h := ifn h hc
        obtain ⟨hc12, h⟩ := ift h
        obtain ⟨v13, hq14, h⟩ := bI_ex h
        refine E_aload_n (n := 85) 47 rfl rfl rfl 0 rfl <| E_iload_n (n := 86) 48 rfl rfl rfl 2 rfl <| E_aload_n (n := 87) 49 rfl rfl rfl 0 rfl <| E_gF (r := (x0 + 1)) (n := 90) 50 rfl rfl fg_2_9 h_x0 rfl <| E_iload_n (n := 91) 51 rfl rfl rfl 3 rfl <| E_iald (n := 92) 52 rfl rfl (shc_2_2 h_x0) hc12 <| E_aload_n (n := 93) 53 rfl rfl rfl 0 rfl <| E_gF (r := (x0 + 2)) (n := 96) 54 rfl rfl fg_2_15 h_x0 rfl <| E_iload_n (n := 97) 55 rfl rfl rfl 3 rfl <| E_iald (n := 98) 56 rfl rfl (shc_2_3 h_x0) hc12 <| E_cV3r (n := 101) 57 rfl rfl co_2_63 rfl h_x0 rfl (K_LN_passesBy m x0 x2 (gI m (x0 + 1) (ixn v1)) (gI m (x0 + 2) (ixn v1)) h_x0 _ hq14) <| E_sipush (v := 1000) (n := 104) 58 rfl rfl spz_1000 <| E_icmp_ne (n := 107) (t := 111) 59 rfl rfl rfl (fun hc => ?_) (fun hc => ?_)
        · have h := ifn h hc
          refine E_iconst (v := 0) (n := 112) 62 rfl rfl icz_0 <| ?_
          refine E_zreturn 63 rfl rfl z0 (eP h)
        · have h := ifp h hc
          refine E_iconst (v := 1) (n := 108) 60 rfl rfl icz_1 <| E_goto (t := 112) 61 rfl rfl <| ?_
          refine E_zreturn 63 rfl rfl z1 (eP h)
theorem LN_touches_L16_ok (m : Mem) (x0 : Nat) (x2 : Int32) (h_x0 : shp x0 = (2, 0)) (kx : Int32 → Option Int32) (R : Int32) (hx : ∀ (x1 : Int32), kx x1 = some R → E M_LN_touches 60 [(0, .ref x0), (1, .int x1), (2, .int x2)] [] m (qI R m)) : ∀ (n : Nat) (x1 : Int32) (x3 : Int32), LN_touches_L16 m x0 x2 kx n x1 x3 = some R → E M_LN_touches 16 [(0, .ref x0), (1, .int x1), (2, .int x2), (3, .int x3)] [] m (qI R m) := by
  intro n
  induction n with
  | zero =>
    intro x1 x3 h
    exact absurd (show none = some R from h) (fun e => Option.some_ne_none R e.symm)
  | succ n ih =>
    intro x1 x3 h
    rw [LN_touches_L16] at h
    refine E_iload_n (n := 17) 12 rfl rfl rfl 3 rfl <| E_aload_n (n := 18) 13 rfl rfl rfl 0 rfl <| E_gI (n := 21) 14 rfl rfl fg_2_22 h_x0 <| E_icmp_ge (n := 24) (t := 60) 15 rfl rfl rfl (fun hc => ?_) (fun hc => ?_)
    · have h := ifp h hc
      refine E_sub (lv' := [(0, .ref x0), (1, .int x1), (2, .int x2)]) [0, 1, 2] rfl ?_
      exact hx x1 h
    · have h := ifn h hc
      refine E_aload_n (n := 25) 16 rfl rfl rfl 0 rfl <| E_iload_n (n := 26) 17 rfl rfl rfl 2 rfl <| E_cV1r (n := 29) 18 rfl rfl co_2_40 rfl h_x0 rfl (K_LN_after m x0 x2 h_x0 _ rfl) <| E_iload_n (n := 30) 19 rfl rfl rfl 3 rfl <| E_icmp_eq (n := 33) (t := 54) 20 rfl rfl rfl (fun hc => ?_) (fun hc => ?_)
      · have h := ifp h hc
        refine E_iinc (v := (x3 + 1)) (lv' := [(0, .ref x0), (1, .int x1), (2, .int x2), (3, .int (x3 + 1))]) (n := 57) 32 rfl rfl 3 rfl (by rw [icz_1]) (Nat.le_of_ble_eq_true rfl) [1, 2, 3, 0] rfl <| E_goto (t := 16) 33 rfl rfl <| ?_
        exact ih x1 (x3 + 1) h
      · have h := ifn h hc
        refine E_aload_n (n := 34) 21 rfl rfl rfl 0 rfl <| E_iload_n (n := 35) 22 rfl rfl rfl 3 rfl <| E_cV1r (n := 38) 23 rfl rfl co_2_40 rfl h_x0 rfl (K_LN_after m x0 x3 h_x0 _ rfl) <| E_iload_n (n := 39) 24 rfl rfl rfl 2 rfl <| E_icmp_eq (n := 42) (t := 54) 25 rfl rfl rfl (fun hc => ?_) (fun hc => ?_)
        · have h := ifp h hc
          refine E_iinc (v := (x3 + 1)) (lv' := [(0, .ref x0), (1, .int x1), (2, .int x2), (3, .int (x3 + 1))]) (n := 57) 32 rfl rfl 3 rfl (by rw [icz_1]) (Nat.le_of_ble_eq_true rfl) [1, 2, 3, 0] rfl <| E_goto (t := 16) 33 rfl rfl <| ?_
          exact ih x1 (x3 + 1) h
        · have h := ifn h hc
          obtain ⟨v1, hq2, h⟩ := bI_ex h
          refine E_aload_n (n := 43) 26 rfl rfl rfl 0 rfl <| E_iload_n (n := 44) 27 rfl rfl rfl 2 rfl <| E_iload_n (n := 45) 28 rfl rfl rfl 3 rfl <| E_cV2r (n := 48) 29 rfl rfl co_2_56 rfl h_x0 rfl (K_LN_endsMeet m x0 x2 x3 h_x0 _ hq2) <| E_if_eq (n := 51) (t := 54) 30 rfl rfl rfl (fun hc => ?_) (fun hc => ?_)
          · have h := ifp h hc
            refine E_iinc (v := (x3 + 1)) (lv' := [(0, .ref x0), (1, .int x1), (2, .int x2), (3, .int (x3 + 1))]) (n := 57) 32 rfl rfl 3 rfl (by rw [icz_1]) (Nat.le_of_ble_eq_true rfl) [1, 2, 3, 0] rfl <| E_goto (t := 16) 33 rfl rfl <| ?_
            exact ih x1 (x3 + 1) h
          · have h := ifn h hc
            refine E_iinc (v := (x1 + 1)) (lv' := [(0, .ref x0), (1, .int (x1 + 1)), (2, .int x2), (3, .int x3)]) (n := 54) 31 rfl rfl 1 rfl (by rw [icz_1]) (Nat.le_of_ble_eq_true rfl) [1, 0, 2, 3] rfl <| ?_
            refine E_iinc (v := (x3 + 1)) (lv' := [(0, .ref x0), (1, .int (x1 + 1)), (2, .int x2), (3, .int (x3 + 1))]) (n := 57) 32 rfl rfl 3 rfl (by rw [icz_1]) (Nat.le_of_ble_eq_true rfl) [1, 2, 3, 0] rfl <| E_goto (t := 16) 33 rfl rfl <| ?_
            exact ih (x1 + 1) (x3 + 1) h
theorem LN_touches_L4_ok (m : Mem) (x0 : Nat) (h_x0 : shp x0 = (2, 0)) (kx : Int32 → Option Int32) (R : Int32) (hx : ∀ (x1 : Int32), kx x1 = some R → E M_LN_touches 66 [(1, .int x1)] [] m (qI R m)) : ∀ (n : Nat) (x1 : Int32) (x2 : Int32), LN_touches_L4 m x0 kx n x1 x2 = some R → E M_LN_touches 4 [(0, .ref x0), (1, .int x1), (2, .int x2)] [] m (qI R m) := by
  intro n
  induction n with
  | zero =>
    intro x1 x2 h
    exact absurd (show none = some R from h) (fun e => Option.some_ne_none R e.symm)
  | succ n ih =>
    intro x1 x2 h
    rw [LN_touches_L4] at h
    refine E_iload_n (n := 5) 4 rfl rfl rfl 2 rfl <| E_aload_n (n := 6) 5 rfl rfl rfl 0 rfl <| E_gI (n := 9) 6 rfl rfl fg_2_22 h_x0 <| E_icmp_ge (n := 12) (t := 66) 7 rfl rfl rfl (fun hc => ?_) (fun hc => ?_)
    · have h := ifp h hc
      refine E_sub (lv' := [(1, .int x1)]) [1] rfl ?_
      exact hx x1 h
    · have h := ifn h hc
      obtain ⟨v1, hv1, h⟩ := letV_ex h
      refine E_iload_n (n := 13) 8 rfl rfl rfl 2 rfl <| E_iconst (v := 1) (n := 14) 9 rfl rfl icz_1 <| E_iadd (n := 15) 10 rfl rfl <| E_top hv1 <| E_istore_n (lv' := [(0, .ref x0), (1, .int x1), (2, .int x2), (3, .int v1)]) (n := 16) 11 rfl rfl rfl (Nat.le_of_ble_eq_true rfl) [1, 2, 3, 0] rfl <| ?_
      refine LN_touches_L16_ok m x0 x2 h_x0 _ R ?_ FU x1 v1 h
      intro y2 h
      refine E_iinc (v := (x2 + 1)) (lv' := [(0, .ref x0), (1, .int y2), (2, .int (x2 + 1))]) (n := 63) 34 rfl rfl 2 rfl (by rw [icz_1]) (Nat.le_of_ble_eq_true rfl) [1, 2, 0] rfl <| E_goto (t := 4) 35 rfl rfl <| ?_
      exact ih y2 (x2 + 1) h
theorem K_LN_touches (m : Mem) (x0 : Nat) (h_x0 : shp x0 = (2, 0)) (R : Int32) (h : LN_touches m x0 = some R) : Mt M_LN_touches [.ref x0] m (qI R m) := by
  refine Mt.of G_LN_touches (Nat.le_of_ble_eq_true rfl) (E_sub (lv' := [(0, .ref x0)]) [0] rfl ?_)
  unfold LN_touches at h
  refine E_iconst (v := 0) (n := 1) 0 rfl rfl icz_0 <| E_istore_n (lv' := [(0, .ref x0), (1, .int 0)]) (n := 2) 1 rfl rfl rfl (Nat.le_of_ble_eq_true rfl) [1, 0] rfl <| E_iconst (v := 0) (n := 3) 2 rfl rfl icz_0 <| E_istore_n (lv' := [(0, .ref x0), (1, .int 0), (2, .int 0)]) (n := 4) 3 rfl rfl rfl (Nat.le_of_ble_eq_true rfl) [1, 2, 0] rfl <| ?_
  refine LN_touches_L4_ok m x0 h_x0 _ R ?_ FU 0 0 h
  intro y1 h
  refine E_iload_n (n := 67) 36 rfl rfl rfl 0 rfl <| E_ireturn 37 rfl rfl (eP h)
theorem K_OH_line (m : Mem) (x1 : Int32) (x2 : Int32) (R : Int32) (h : OH_line m x1 x2 = some R) : Mt M_OH_line [.ref 0, .int x1, .int x2] m (qI R m) := by
  refine Mt.of G_OH_line (Nat.le_of_ble_eq_true rfl) (E_sub (lv' := [(0, .ref 0), (1, .int x1), (2, .int x2)]) [0, 1, 2] rfl ?_)
  unfold OH_line at h
  refine E_aload_n (n := 1) 0 rfl rfl rfl 0 rfl <| E_gN (n := 4) 1 rfl rfl fg_11_92 sh_0 (Or.inl rfl) fun hN1 => E_iload_n (n := 5) 2 rfl rfl rfl 1 rfl <| E_cV1r (n := 8) 3 rfl rfl co_11_173 rfl hN1 rfl (K_PH_hasLine m (gN m 13) x1 hN1 _ rfl) <| E_if_ne (n := 11) (t := 13) 4 rfl rfl rfl (fun hc => ?_) (fun hc => ?_)
  · have h := ifn h hc
    obtain ⟨hc3, h⟩ := ift h
    refine E_aload_n (n := 14) 7 rfl rfl rfl 0 rfl <| E_gN (n := 17) 8 rfl rfl fg_11_92 sh_0 (Or.inl rfl) fun hN2 => E_gF (r := ((gN m 13) + 1)) (n := 20) 9 rfl rfl fg_11_138 hN2 rfl <| E_iload_n (n := 21) 10 rfl rfl rfl 1 rfl <| E_aL (r := ((gN m 13) + 2 + 3 * ixn x1)) (n := 22) 11 rfl rfl (shc_5_0 hN2) hc3 rfl <| E_astore_n (lv' := [(0, .ref 0), (1, .int x1), (2, .int x2), (3, .ref ((gN m 13) + 2 + 3 * ixn x1))]) (n := 23) 12 rfl rfl rfl (Nat.le_of_ble_eq_true rfl) [1, 2, 3, 0] rfl <| E_iload_n (n := 24) 13 rfl rfl rfl 2 rfl <| ?_
    by_cases hc10 : x2 = 0
    · have h := ifp h hc10
      refine E_tabIn (off := 32) (t := 56) 14 rfl (by rw [hc10]; decide) (by rw [hc10]; decide) (by rw [hc10]; rfl) rfl ?_
      refine E_aload_n (n := 57) 15 rfl rfl rfl 3 rfl <| E_gI (n := 60) 16 rfl rfl fg_11_176 (shln hN2 hc3) <| E_ireturn 17 rfl rfl (eP h)
    have h := ifn h hc10
    by_cases hc11 : x2 = 1
    · have h := ifp h hc11
      refine E_tabIn (off := 37) (t := 61) 14 rfl (by rw [hc11]; decide) (by rw [hc11]; decide) (by rw [hc11]; rfl) rfl ?_
      obtain ⟨v4, hq5, h⟩ := bI_ex h
      refine E_aload_n (n := 62) 18 rfl rfl rfl 3 rfl <| E_cV0r (n := 65) 19 rfl rfl co_11_179 rfl (shln hN2 hc3) rfl (K_LN_twiceArea m ((gN m 13) + 2 + 3 * ixn x1) (shln hN2 hc3) _ hq5) <| E_ireturn 20 rfl rfl (eP h)
    have h := ifn h hc11
    by_cases hc12 : x2 = 2
    · have h := ifp h hc12
      refine E_tabIn (off := 42) (t := 66) 14 rfl (by rw [hc12]; decide) (by rw [hc12]; decide) (by rw [hc12]; rfl) rfl ?_
      obtain ⟨v6, hq7, h⟩ := bI_ex h
      refine E_aload_n (n := 67) 21 rfl rfl rfl 3 rfl <| E_cV0r (n := 70) 22 rfl rfl co_11_183 rfl (shln hN2 hc3) rfl (K_LN_crossings m ((gN m 13) + 2 + 3 * ixn x1) (shln hN2 hc3) _ hq7) <| E_ireturn 23 rfl rfl (eP h)
    have h := ifn h hc12
    by_cases hc13 : x2 = 3
    · have h := ifp h hc13
      refine E_tabIn (off := 47) (t := 71) 14 rfl (by rw [hc13]; decide) (by rw [hc13]; decide) (by rw [hc13]; rfl) rfl ?_
      obtain ⟨v8, hq9, h⟩ := bI_ex h
      refine E_aload_n (n := 72) 24 rfl rfl rfl 3 rfl <| E_cV0r (n := 75) 25 rfl rfl co_11_186 rfl (shln hN2 hc3) rfl (K_LN_touches m ((gN m 13) + 2 + 3 * ixn x1) (shln hN2 hc3) _ hq9) <| E_ireturn 26 rfl rfl (eP h)
    have h := ifn h hc13
    refine E_tabOut (t := 76) 14 rfl (tabo (by decide) (by decide) (fun z h1 h2 => ?_)) rfl ?_
    · have h3 : z = 0 ∨ z = 1 ∨ z = 2 ∨ z = 3 := by omega
      rcases h3 with rfl | rfl | rfl | rfl
      · exact hc10
      · exact hc11
      · exact hc12
      · exact hc13
    · refine E_iconst (v := (-1)) (n := 77) 27 rfl rfl icz_m1 <| E_ireturn 28 rfl rfl (eP h)
  · have h := ifp h hc
    refine E_iconst (v := (-1)) (n := 12) 5 rfl rfl icz_m1 <| E_ireturn 6 rfl rfl (eP h)
theorem K_OH_isPoint (m : Mem) (x0 : Int32) (x1 : Int32) (R : Int32) (h : OH_isPoint x0 x1 = R) : Mt M_OH_isPoint [.int x0, .int x1] m (qI R m) := by
  refine Mt.of G_OH_isPoint (Nat.le_of_ble_eq_true rfl) (E_sub (lv' := [(0, .int x0), (1, .int x1)]) [0, 1] rfl ?_)
  unfold OH_isPoint at h
  refine E_iload_n (n := 1) 0 rfl rfl rfl 0 rfl <| E_if_lt (n := 4) (t := 24) 1 rfl rfl rfl (fun hc => ?_) (fun hc => ?_)
  · have h := ifp h hc
    refine E_iconst (v := 0) (n := 25) 12 rfl rfl icz_0 <| ?_
    refine E_zreturn 13 rfl rfl z0 (eT h)
  · have h := ifn h hc
    refine E_iload_n (n := 5) 2 rfl rfl rfl 0 rfl <| E_bipush (v := 20) (n := 7) 3 rfl rfl bpz_20 <| E_icmp_gt (n := 10) (t := 24) 4 rfl rfl rfl (fun hc => ?_) (fun hc => ?_)
    · have h := ifp h hc
      refine E_iconst (v := 0) (n := 25) 12 rfl rfl icz_0 <| ?_
      refine E_zreturn 13 rfl rfl z0 (eT h)
    · have h := ifn h hc
      refine E_iload_n (n := 11) 5 rfl rfl rfl 1 rfl <| E_if_lt (n := 14) (t := 24) 6 rfl rfl rfl (fun hc => ?_) (fun hc => ?_)
      · have h := ifp h hc
        refine E_iconst (v := 0) (n := 25) 12 rfl rfl icz_0 <| ?_
        refine E_zreturn 13 rfl rfl z0 (eT h)
      · have h := ifn h hc
        refine E_iload_n (n := 15) 7 rfl rfl rfl 1 rfl <| E_bipush (v := 20) (n := 17) 8 rfl rfl bpz_20 <| E_icmp_gt (n := 20) (t := 24) 9 rfl rfl rfl (fun hc => ?_) (fun hc => ?_)
        · have h := ifp h hc
          refine E_iconst (v := 0) (n := 25) 12 rfl rfl icz_0 <| ?_
          refine E_zreturn 13 rfl rfl z0 (eT h)
        · have h := ifn h hc
          refine E_iconst (v := 1) (n := 21) 10 rfl rfl icz_1 <| E_goto (t := 25) 11 rfl rfl <| ?_
          refine E_zreturn 13 rfl rfl z1 (eT h)
theorem LN_timesRound_L5_ok (m : Mem) (x0 : Nat) (x1 : Int32) (x2 : Int32) (h_x0 : shp x0 = (2, 0)) (kx : Int32 → Option Int32) (R : Int32) (hx : ∀ (x3 : Int32), kx x3 = some R → E M_LN_timesRound 47 [(3, .int x3)] [] m (qI R m)) : ∀ (n : Nat) (x3 : Int32) (x4 : Int32), LN_timesRound_L5 m x0 x1 x2 kx n x3 x4 = some R → E M_LN_timesRound 5 [(0, .ref x0), (1, .int x1), (2, .int x2), (3, .int x3), (4, .int x4)] [] m (qI R m) := by
  intro n
  induction n with
  | zero =>
    intro x3 x4 h
    exact absurd (show none = some R from h) (fun e => Option.some_ne_none R e.symm)
  | succ n ih =>
    intro x3 x4 h
    rw [LN_timesRound_L5] at h
    refine E_iload (n := 7) 4 rfl rfl 4 rfl <| E_aload_n (n := 8) 5 rfl rfl rfl 0 rfl <| E_gI (n := 11) 6 rfl rfl fg_2_22 h_x0 <| E_icmp_ge (n := 14) (t := 47) 7 rfl rfl rfl (fun hc => ?_) (fun hc => ?_)
    · have h := ifp h hc
      refine E_sub (lv' := [(3, .int x3)]) [3] rfl ?_
      exact hx x3 h
    · have h := ifn h hc
      obtain ⟨v1, hq2, h⟩ := bI_ex h
      refine E_aload_n (n := 15) 8 rfl rfl rfl 0 rfl <| E_iload (n := 17) 9 rfl rfl 4 rfl <| E_iload_n (n := 18) 10 rfl rfl rfl 1 rfl <| E_iload_n (n := 19) 11 rfl rfl rfl 2 rfl <| E_cV3r (n := 22) 12 rfl rfl co_2_63 rfl h_x0 rfl (K_LN_passesBy m x0 x4 x1 x2 h_x0 _ hq2) <| E_istore (lv' := [(0, .ref x0), (1, .int x1), (2, .int x2), (3, .int x3), (4, .int x4), (5, .int v1)]) (n := 24) 13 rfl rfl (Nat.le_of_ble_eq_true rfl) [1, 2, 3, 4, 5, 0] rfl <| E_iload (n := 26) 14 rfl rfl 5 rfl <| E_sipush (v := 1000) (n := 29) 15 rfl rfl spz_1000 <| E_icmp_ne (n := 32) (t := 36) 16 rfl rfl rfl (fun hc => ?_) (fun hc => ?_)
      · have h := ifn h hc
        obtain ⟨v3, hv3, h⟩ := letV_ex h
        refine E_iload_n (n := 37) 19 rfl rfl rfl 3 rfl <| E_iload (n := 39) 20 rfl rfl 5 rfl <| E_iadd (n := 40) 21 rfl rfl <| E_top hv3 <| E_istore_n (lv' := [(0, .ref x0), (1, .int x1), (2, .int x2), (3, .int v3), (4, .int x4), (5, .int v1)]) (n := 41) 22 rfl rfl rfl (Nat.le_of_ble_eq_true rfl) [1, 2, 3, 0, 4, 5] rfl <| E_iinc (v := (x4 + 1)) (lv' := [(0, .ref x0), (1, .int x1), (2, .int x2), (3, .int v3), (4, .int (x4 + 1)), (5, .int v1)]) (n := 44) 23 rfl rfl 4 rfl (by rw [icz_1]) (Nat.le_of_ble_eq_true rfl) [1, 2, 3, 4, 0, 5] rfl <| E_goto (t := 5) 24 rfl rfl <| ?_
        refine E_sub (lv' := [(0, .ref x0), (1, .int x1), (2, .int x2), (3, .int v3), (4, .int (x4 + 1))]) [0, 1, 2, 3, 4] rfl ?_
        exact ih v3 (x4 + 1) h
      · have h := ifp h hc
        refine E_sipush (v := 1000) (n := 35) 17 rfl rfl spz_1000 <| E_ireturn 18 rfl rfl (eP h)
theorem K_LN_timesRound (m : Mem) (x0 : Nat) (x1 : Int32) (x2 : Int32) (h_x0 : shp x0 = (2, 0)) (R : Int32) (h : LN_timesRound m x0 x1 x2 = some R) : Mt M_LN_timesRound [.ref x0, .int x1, .int x2] m (qI R m) := by
  refine Mt.of G_LN_timesRound (Nat.le_of_ble_eq_true rfl) (E_sub (lv' := [(0, .ref x0), (1, .int x1), (2, .int x2)]) [0, 1, 2] rfl ?_)
  unfold LN_timesRound at h
  refine E_iconst (v := 0) (n := 1) 0 rfl rfl icz_0 <| E_istore_n (lv' := [(0, .ref x0), (1, .int x1), (2, .int x2), (3, .int 0)]) (n := 2) 1 rfl rfl rfl (Nat.le_of_ble_eq_true rfl) [1, 2, 3, 0] rfl <| E_iconst (v := 0) (n := 3) 2 rfl rfl icz_0 <| E_istore (lv' := [(0, .ref x0), (1, .int x1), (2, .int x2), (3, .int 0), (4, .int 0)]) (n := 5) 3 rfl rfl (Nat.le_of_ble_eq_true rfl) [1, 2, 3, 4, 0] rfl <| ?_
  refine LN_timesRound_L5_ok m x0 x1 x2 h_x0 _ R ?_ FU 0 0 h
  intro y1 h
  refine E_iload_n (n := 48) 25 rfl rfl rfl 0 rfl <| E_ireturn 26 rfl rfl (eP h)
theorem K_OH_isHis (m : Mem) (x0 : Int32) (x1 : Int32) (R : Int32) (h : OH_isHis x0 x1 = R) : Mt M_OH_isHis [.int x0, .int x1] m (qI R m) := by
  refine Mt.of G_OH_isHis (Nat.le_of_ble_eq_true rfl) (E_sub (lv' := [(0, .int x0), (1, .int x1)]) [0, 1] rfl ?_)
  unfold OH_isHis at h
  refine E_iload_n (n := 1) 0 rfl rfl rfl 0 rfl <| E_if_ne (n := 4) (t := 16) 1 rfl rfl rfl (fun hc => ?_) (fun hc => ?_)
  · have h := ifn h hc
    refine E_iload_n (n := 17) 10 rfl rfl rfl 0 rfl <| E_iconst (v := 1) (n := 18) 11 rfl rfl icz_1 <| E_icmp_ne (n := 21) (t := 33) 12 rfl rfl rfl (fun hc => ?_) (fun hc => ?_)
    · have h := ifn h hc
      refine E_iload_n (n := 34) 19 rfl rfl rfl 1 rfl <| E_if_le (n := 37) (t := 41) 20 rfl rfl rfl (fun hc => ?_) (fun hc => ?_)
      · have h := ifp h hc
        refine E_iconst (v := 0) (n := 42) 23 rfl rfl icz_0 <| ?_
        refine E_zreturn 24 rfl rfl z0 (eT h)
      · have h := ifn h hc
        refine E_iconst (v := 1) (n := 38) 21 rfl rfl icz_1 <| E_goto (t := 42) 22 rfl rfl <| ?_
        refine E_zreturn 24 rfl rfl z1 (eT h)
    · have h := ifp h hc
      refine E_iload_n (n := 22) 13 rfl rfl rfl 1 rfl <| E_if_eq (n := 25) (t := 29) 14 rfl rfl rfl (fun hc => ?_) (fun hc => ?_)
      · have h := ifp h hc
        refine E_iconst (v := 0) (n := 30) 17 rfl rfl icz_0 <| E_goto (t := 42) 18 rfl rfl <| ?_
        refine E_zreturn 24 rfl rfl z0 (eT h)
      · have h := ifn h hc
        refine E_iconst (v := 1) (n := 26) 15 rfl rfl icz_1 <| E_goto (t := 42) 16 rfl rfl <| ?_
        refine E_zreturn 24 rfl rfl z1 (eT h)
  · have h := ifp h hc
    refine E_iload_n (n := 5) 2 rfl rfl rfl 1 rfl <| E_iconst (v := 1) (n := 6) 3 rfl rfl icz_1 <| E_iand (n := 7) 4 rfl rfl <| E_if_eq (n := 10) (t := 14) 5 rfl rfl rfl (fun hc => ?_) (fun hc => ?_)
    · have h := ifp h hc
      refine E_iconst (v := 0) (n := 15) 8 rfl rfl icz_0 <| ?_
      refine E_zreturn 9 rfl rfl z0 (eT h)
    · have h := ifn h hc
      refine E_iconst (v := 1) (n := 11) 6 rfl rfl icz_1 <| E_goto (t := 15) 7 rfl rfl <| ?_
      refine E_zreturn 9 rfl rfl z1 (eT h)
theorem K_PH_ownerOf (m : Mem) (x0 : Nat) (x1 : Int32) (x2 : Int32) (x3 : Int32) (h_x0 : shp x0 = (5, 0)) (R : Int32) (h : PH_ownerOf m x0 x1 x2 x3 = some R) : Mt M_PH_ownerOf [.ref x0, .int x1, .int x2, .int x3] m (qI R m) := by
  refine Mt.of G_PH_ownerOf (Nat.le_of_ble_eq_true rfl) (E_sub (lv' := [(0, .ref x0), (1, .int x1), (2, .int x2), (3, .int x3)]) [0, 1, 2, 3] rfl ?_)
  unfold PH_ownerOf at h
  obtain ⟨hc1, h⟩ := ift h
  obtain ⟨v2, hq3, h⟩ := bI_ex h
  refine E_aload_n (n := 1) 0 rfl rfl rfl 0 rfl <| E_gF (r := (x0 + 1)) (n := 4) 1 rfl rfl fg_5_12 h_x0 rfl <| E_iload_n (n := 5) 2 rfl rfl rfl 1 rfl <| E_aL (r := (x0 + 2 + 3 * ixn x1)) (n := 6) 3 rfl rfl (shc_5_0 h_x0) hc1 rfl <| E_iload_n (n := 7) 4 rfl rfl rfl 2 rfl <| E_iload_n (n := 8) 5 rfl rfl rfl 3 rfl <| E_cV2r (n := 11) 6 rfl rfl co_5_59 rfl (shln h_x0 hc1) rfl (K_LN_timesRound m (x0 + 2 + 3 * ixn x1) x2 x3 (shln h_x0 hc1) _ hq3) <| E_istore (lv' := [(0, .ref x0), (1, .int x1), (2, .int x2), (3, .int x3), (4, .int v2)]) (n := 13) 7 rfl rfl (Nat.le_of_ble_eq_true rfl) [1, 2, 3, 4, 0] rfl <| E_iload (n := 15) 8 rfl rfl 4 rfl <| E_sipush (v := 1000) (n := 18) 9 rfl rfl spz_1000 <| E_icmp_ne (n := 21) (t := 28) 10 rfl rfl rfl (fun hc => ?_) (fun hc => ?_)
  · have h := ifn h hc
    refine E_aload_n (n := 29) 16 rfl rfl rfl 0 rfl <| E_gI (n := 32) 17 rfl rfl fg_5_65 h_x0 <| E_iload (n := 34) 18 rfl rfl 4 rfl <| E_dN2r (n := 37) 19 rfl rfl co_5_68 rfl rfl (K_OH_isHis m (gI m x0 10) v2 _ rfl) <| E_if_eq (n := 40) (t := 44) 20 rfl rfl rfl (fun hc => ?_) (fun hc => ?_)
    · have h := ifp h hc
      refine E_iconst (v := 0) (n := 45) 23 rfl rfl icz_0 <| ?_
      refine E_ireturn 24 rfl rfl (eP h)
    · have h := ifn h hc
      refine E_iconst (v := 1) (n := 41) 21 rfl rfl icz_1 <| E_goto (t := 45) 22 rfl rfl <| ?_
      refine E_ireturn 24 rfl rfl (eP h)
  · have h := ifp h hc
    refine E_iconst (v := 2) (n := 22) 11 rfl rfl icz_2 <| E_aload_n (n := 23) 12 rfl rfl rfl 0 rfl <| E_gI (n := 26) 13 rfl rfl fg_5_62 h_x0 <| E_iadd (n := 27) 14 rfl rfl <| E_ireturn 15 rfl rfl (eP h)
theorem K_OH_whose (m : Mem) (x1 : Int32) (x2 : Int32) (x3 : Int32) (R : Int32) (h : OH_whose m x1 x2 x3 = some R) : Mt M_OH_whose [.ref 0, .int x1, .int x2, .int x3] m (qI R m) := by
  refine Mt.of G_OH_whose (Nat.le_of_ble_eq_true rfl) (E_sub (lv' := [(0, .ref 0), (1, .int x1), (2, .int x2), (3, .int x3)]) [0, 1, 2, 3] rfl ?_)
  unfold OH_whose at h
  refine E_aload_n (n := 1) 0 rfl rfl rfl 0 rfl <| E_gN (n := 4) 1 rfl rfl fg_11_92 sh_0 (Or.inl rfl) fun hN1 => E_iload_n (n := 5) 2 rfl rfl rfl 1 rfl <| E_cV1r (n := 8) 3 rfl rfl co_11_173 rfl hN1 rfl (K_PH_hasLine m (gN m 13) x1 hN1 _ rfl) <| E_if_eq (n := 11) (t := 32) 4 rfl rfl rfl (fun hc => ?_) (fun hc => ?_)
  · have h := ifp h hc
    refine E_iconst (v := (-1)) (n := 33) 16 rfl rfl icz_m1 <| ?_
    refine E_ireturn 17 rfl rfl (eP h)
  · have h := ifn h hc
    refine E_iload_n (n := 12) 5 rfl rfl rfl 2 rfl <| E_iload_n (n := 13) 6 rfl rfl rfl 3 rfl <| E_dS2r (n := 16) 7 rfl rfl co_11_189 rfl rfl (K_OH_isPoint m x2 x3 _ rfl) <| E_if_eq (n := 19) (t := 32) 8 rfl rfl rfl (fun hc => ?_) (fun hc => ?_)
    · have h := ifp h hc
      refine E_iconst (v := (-1)) (n := 33) 16 rfl rfl icz_m1 <| ?_
      refine E_ireturn 17 rfl rfl (eP h)
    · have h := ifn h hc
      obtain ⟨v3, hq4, h⟩ := bI_ex h
      refine E_aload_n (n := 20) 9 rfl rfl rfl 0 rfl <| E_gN (n := 23) 10 rfl rfl fg_11_92 sh_0 (Or.inl rfl) fun hN2 => E_iload_n (n := 24) 11 rfl rfl rfl 1 rfl <| E_iload_n (n := 25) 12 rfl rfl rfl 2 rfl <| E_iload_n (n := 26) 13 rfl rfl rfl 3 rfl <| E_cV3r (n := 29) 14 rfl rfl co_11_192 rfl hN2 rfl (K_PH_ownerOf m (gN m 13) x1 x2 x3 hN2 _ hq4) <| E_goto (t := 33) 15 rfl rfl <| ?_
      refine E_ireturn 17 rfl rfl (eP h)
theorem K_OH_isSquare (m : Mem) (x0 : Int32) (x1 : Int32) (R : Int32) (h : OH_isSquare x0 x1 = R) : Mt M_OH_isSquare [.int x0, .int x1] m (qI R m) := by
  refine Mt.of G_OH_isSquare (Nat.le_of_ble_eq_true rfl) (E_sub (lv' := [(0, .int x0), (1, .int x1)]) [0, 1] rfl ?_)
  unfold OH_isSquare at h
  refine E_iload_n (n := 1) 0 rfl rfl rfl 0 rfl <| E_if_lt (n := 4) (t := 24) 1 rfl rfl rfl (fun hc => ?_) (fun hc => ?_)
  · have h := ifp h hc
    refine E_iconst (v := 0) (n := 25) 12 rfl rfl icz_0 <| ?_
    refine E_zreturn 13 rfl rfl z0 (eT h)
  · have h := ifn h hc
    refine E_iload_n (n := 5) 2 rfl rfl rfl 0 rfl <| E_bipush (v := 20) (n := 7) 3 rfl rfl bpz_20 <| E_icmp_ge (n := 10) (t := 24) 4 rfl rfl rfl (fun hc => ?_) (fun hc => ?_)
    · have h := ifp h hc
      refine E_iconst (v := 0) (n := 25) 12 rfl rfl icz_0 <| ?_
      refine E_zreturn 13 rfl rfl z0 (eT h)
    · have h := ifn h hc
      refine E_iload_n (n := 11) 5 rfl rfl rfl 1 rfl <| E_if_lt (n := 14) (t := 24) 6 rfl rfl rfl (fun hc => ?_) (fun hc => ?_)
      · have h := ifp h hc
        refine E_iconst (v := 0) (n := 25) 12 rfl rfl icz_0 <| ?_
        refine E_zreturn 13 rfl rfl z0 (eT h)
      · have h := ifn h hc
        refine E_iload_n (n := 15) 7 rfl rfl rfl 1 rfl <| E_bipush (v := 20) (n := 17) 8 rfl rfl bpz_20 <| E_icmp_ge (n := 20) (t := 24) 9 rfl rfl rfl (fun hc => ?_) (fun hc => ?_)
        · have h := ifp h hc
          refine E_iconst (v := 0) (n := 25) 12 rfl rfl icz_0 <| ?_
          refine E_zreturn 13 rfl rfl z0 (eT h)
        · have h := ifn h hc
          refine E_iconst (v := 1) (n := 21) 10 rfl rfl icz_1 <| E_goto (t := 25) 11 rfl rfl <| ?_
          refine E_zreturn 13 rfl rfl z1 (eT h)
theorem JA_fill_L5_ok (x0 : Nat) (x1 : Int32) (x3 : Int32) (h_x0 : shp x0 = (100, (shp x0).2)) (kx : Mem → Option Mem) (R : Mem) (hx : ∀ (m : Mem), kx m = some R → E M_JA_fill 20 [] [] m (qV R)) : ∀ (n : Nat) (m : Mem) (x2 : Int32), JA_fill_L5 x0 x1 x3 kx n m x2 = some R → E M_JA_fill 5 [(0, .ref x0), (1, .int x1), (2, .int x2), (3, .int x3)] [] m (qV R) := by
  intro n
  induction n with
  | zero =>
    intro m x2 h
    exact absurd (show none = some R from h) (fun e => Option.some_ne_none R e.symm)
  | succ n ih =>
    intro m x2 h
    rw [JA_fill_L5] at h
    refine E_iload_n (n := 6) 5 rfl rfl rfl 2 rfl <| E_iload_n (n := 7) 6 rfl rfl rfl 3 rfl <| E_icmp_ge (n := 10) (t := 20) 7 rfl rfl rfl (fun hc => ?_) (fun hc => ?_)
    · have h := ifp h hc
      refine E_sub (lv' := []) [] rfl ?_
      exact hx m h
    · have h := ifn h hc
      obtain ⟨hc1, h⟩ := ift h
      obtain ⟨m2, hm2, h⟩ := letM_ex h
      refine E_aload_n (n := 11) 8 rfl rfl rfl 0 rfl <| E_iload_n (n := 12) 9 rfl rfl rfl 2 rfl <| E_iload_n (n := 13) 10 rfl rfl rfl 1 rfl <| E_iast (n := 14) 11 rfl rfl h_x0 hc1 <| E_mem hm2 <| E_iinc (v := (x2 + 1)) (lv' := [(0, .ref x0), (1, .int x1), (2, .int (x2 + 1)), (3, .int x3)]) (n := 17) 12 rfl rfl 2 rfl (by rw [icz_1]) (Nat.le_of_ble_eq_true rfl) [1, 2, 0, 3] rfl <| E_goto (t := 5) 13 rfl rfl <| ?_
      exact ih m2 (x2 + 1) h
theorem K_JA_fill (m : Mem) (x0 : Nat) (x1 : Int32) (h_x0 : shp x0 = (100, (shp x0).2)) (R : Mem) (h : JA_fill m x0 x1 = some R) : Mt M_JA_fill [.ref x0, .int x1] m (qV R) := by
  refine Mt.of G_JA_fill (Nat.le_of_ble_eq_true rfl) (E_sub (lv' := [(0, .ref x0), (1, .int x1)]) [0, 1] rfl ?_)
  unfold JA_fill at h
  obtain ⟨v1, hv1, h⟩ := letV_ex h
  refine E_iconst (v := 0) (n := 1) 0 rfl rfl icz_0 <| E_istore_n (lv' := [(0, .ref x0), (1, .int x1), (2, .int 0)]) (n := 2) 1 rfl rfl rfl (Nat.le_of_ble_eq_true rfl) [1, 2, 0] rfl <| E_aload_n (n := 3) 2 rfl rfl rfl 0 rfl <| E_alenI (v := (Int32.ofNat (shp x0).2)) (n := 4) 3 rfl rfl h_x0 rfl <| E_top hv1 <| E_istore_n (lv' := [(0, .ref x0), (1, .int x1), (2, .int 0), (3, .int v1)]) (n := 5) 4 rfl rfl rfl (Nat.le_of_ble_eq_true rfl) [1, 2, 3, 0] rfl <| ?_
  refine JA_fill_L5_ok x0 x1 v1 h_x0 _ R ?_ FU m 0 h
  intro m2 h
  refine E_return 14 rfl rfl (eV h)
theorem K_OH_squareAt (m : Mem) (x0 : Int32) (x1 : Int32) (R : Int32) (h : OH_squareAt x0 x1 = R) : Mt M_OH_squareAt [.int x0, .int x1] m (qI R m) := by
  refine Mt.of G_OH_squareAt (Nat.le_of_ble_eq_true rfl) (E_sub (lv' := [(0, .int x0), (1, .int x1)]) [0, 1] rfl ?_)
  unfold OH_squareAt at h
  refine E_iload_n (n := 1) 0 rfl rfl rfl 1 rfl <| E_bipush (v := 20) (n := 3) 1 rfl rfl bpz_20 <| E_imul (n := 4) 2 rfl rfl <| E_iload_n (n := 5) 3 rfl rfl rfl 0 rfl <| E_iadd (n := 6) 4 rfl rfl <| E_ireturn 5 rfl rfl (eT h)
theorem GR_crossRows_J121_ok (kr : Mem → Int32 → Option Mem) (kx : Mem → Option Mem) (m : Mem) (x0 : Nat) (x1 : Nat) (x2 : Int32) (x3 : Int32) (x4 : Int32) (x5 : Int32) (x6 : Int32) (x7 : Int32) (x8 : Int32) (x9 : Int32) (x10 : Int32) (h_x0 : shp x0 = (1, 0)) (h_x1 : shp x1 = (2, 0)) (R : Mem) (hr : ∀ (m : Mem) (x7 : Int32), kr m x7 = some R → E M_GR_crossRows 22 [(0, .ref x0), (1, .ref x1), (2, .int x2), (3, .int x3), (4, .int x4), (5, .int x5), (6, .int x6), (7, .int x7)] [] m (qV R)) (hx : ∀ (m : Mem), kx m = some R → E M_GR_crossRows 165 [] [] m (qV R)) (h : GR_crossRows_J121 kr kx m x0 x1 x2 x3 x4 x5 x6 x7 x8 x9 x10 = some R) : E M_GR_crossRows 121 [(0, .ref x0), (1, .ref x1), (2, .int x2), (3, .int x3), (4, .int x4), (5, .int x5), (6, .int x6), (7, .int x7), (8, .int x8), (9, .int x9), (10, .int x10)] [] m (qV R) := by
  unfold GR_crossRows_J121 at h
  refine E_iload (n := 123) 75 rfl rfl 9 rfl <| E_iconst (v := 1) (n := 124) 76 rfl rfl icz_1 <| E_iadd (n := 125) 77 rfl rfl <| E_if_lt (n := 128) (t := 159) 78 rfl rfl rfl (fun hc => ?_) (fun hc => ?_)
  · have h := ifp h hc
    refine E_iinc (v := (x7 + 1)) (lv' := [(0, .ref x0), (1, .ref x1), (2, .int x2), (3, .int x3), (4, .int x4), (5, .int x5), (6, .int x6), (7, .int (x7 + 1)), (8, .int x8), (9, .int x9), (10, .int x10)]) (n := 162) 97 rfl rfl 7 rfl (by rw [icz_1]) (Nat.le_of_ble_eq_true rfl) [1, 2, 3, 4, 5, 6, 7, 0, 8, 9, 10] rfl <| E_goto (t := 22) 98 rfl rfl <| ?_
    refine E_sub (lv' := [(0, .ref x0), (1, .ref x1), (2, .int x2), (3, .int x3), (4, .int x4), (5, .int x5), (6, .int x6), (7, .int (x7 + 1))]) [0, 1, 2, 3, 4, 5, 6, 7] rfl ?_
    exact hr m (x7 + 1) h
  · have h := ifn h hc
    refine E_iload (n := 130) 79 rfl rfl 9 rfl <| E_iconst (v := 1) (n := 131) 80 rfl rfl icz_1 <| E_iadd (n := 132) 81 rfl rfl <| E_bipush (v := 20) (n := 134) 82 rfl rfl bpz_20 <| E_icmp_ge (n := 137) (t := 159) 83 rfl rfl rfl (fun hc => ?_) (fun hc => ?_)
    · have h := ifp h hc
      refine E_iinc (v := (x7 + 1)) (lv' := [(0, .ref x0), (1, .ref x1), (2, .int x2), (3, .int x3), (4, .int x4), (5, .int x5), (6, .int x6), (7, .int (x7 + 1)), (8, .int x8), (9, .int x9), (10, .int x10)]) (n := 162) 97 rfl rfl 7 rfl (by rw [icz_1]) (Nat.le_of_ble_eq_true rfl) [1, 2, 3, 4, 5, 6, 7, 0, 8, 9, 10] rfl <| E_goto (t := 22) 98 rfl rfl <| ?_
      refine E_sub (lv' := [(0, .ref x0), (1, .ref x1), (2, .int x2), (3, .int x3), (4, .int x4), (5, .int x5), (6, .int x6), (7, .int (x7 + 1))]) [0, 1, 2, 3, 4, 5, 6, 7] rfl ?_
      exact hr m (x7 + 1) h
    · have h := ifn h hc
      obtain ⟨hc1, h⟩ := ift h
      refine E_iload (n := 139) 84 rfl rfl 8 rfl <| E_iconst (v := 2) (n := 140) 85 rfl rfl icz_2 <| E_iload (n := 142) 86 rfl rfl 6 rfl <| E_imul (n := 143) 87 rfl rfl <| E_jfloorMod (n := 146) 88 rfl rfl tw_899 tw_900 tw_124 tw_901 ⟨Nat.le_of_ble_eq_true rfl, Nat.le_of_ble_eq_true rfl⟩ hc1 <| E_if_ne (n := 149) (t := 159) 89 rfl rfl rfl (fun hc => ?_) (fun hc => ?_)
      · have h := ifn h hc
        refine E_iinc (v := (x7 + 1)) (lv' := [(0, .ref x0), (1, .ref x1), (2, .int x2), (3, .int x3), (4, .int x4), (5, .int x5), (6, .int x6), (7, .int (x7 + 1)), (8, .int x8), (9, .int x9), (10, .int x10)]) (n := 162) 97 rfl rfl 7 rfl (by rw [icz_1]) (Nat.le_of_ble_eq_true rfl) [1, 2, 3, 4, 5, 6, 7, 0, 8, 9, 10] rfl <| E_goto (t := 22) 98 rfl rfl <| ?_
        refine E_sub (lv' := [(0, .ref x0), (1, .ref x1), (2, .int x2), (3, .int x3), (4, .int x4), (5, .int x5), (6, .int x6), (7, .int (x7 + 1))]) [0, 1, 2, 3, 4, 5, 6, 7] rfl ?_
        exact hr m (x7 + 1) h
      · have h := ifp h hc
        obtain ⟨hc2, h⟩ := ift h
        obtain ⟨m3, hm3, h⟩ := letM_ex h
        refine E_aload_n (n := 150) 90 rfl rfl rfl 0 rfl <| E_gF (r := (x0 + 5)) (n := 153) 91 rfl rfl fg_1_24 h_x0 rfl <| E_iload (n := 155) 92 rfl rfl 10 rfl <| E_iconst (v := 1) (n := 156) 93 rfl rfl icz_1 <| E_iadd (n := 157) 94 rfl rfl <| E_iconst (v := 1) (n := 158) 95 rfl rfl icz_1 <| E_iast (n := 159) 96 rfl rfl (shc_1_4 h_x0) hc2 <| E_mem hm3 <| ?_
        refine E_iinc (v := (x7 + 1)) (lv' := [(0, .ref x0), (1, .ref x1), (2, .int x2), (3, .int x3), (4, .int x4), (5, .int x5), (6, .int x6), (7, .int (x7 + 1)), (8, .int x8), (9, .int x9), (10, .int x10)]) (n := 162) 97 rfl rfl 7 rfl (by rw [icz_1]) (Nat.le_of_ble_eq_true rfl) [1, 2, 3, 4, 5, 6, 7, 0, 8, 9, 10] rfl <| E_goto (t := 22) 98 rfl rfl <| ?_
        refine E_sub (lv' := [(0, .ref x0), (1, .ref x1), (2, .int x2), (3, .int x3), (4, .int x4), (5, .int x5), (6, .int x6), (7, .int (x7 + 1))]) [0, 1, 2, 3, 4, 5, 6, 7] rfl ?_
        exact hr m3 (x7 + 1) h
theorem GR_crossRows_L22_ok (x0 : Nat) (x1 : Nat) (x2 : Int32) (x3 : Int32) (x4 : Int32) (x5 : Int32) (x6 : Int32) (h_x0 : shp x0 = (1, 0)) (h_x1 : shp x1 = (2, 0)) (kx : Mem → Option Mem) (R : Mem) (hx : ∀ (m : Mem), kx m = some R → E M_GR_crossRows 165 [] [] m (qV R)) : ∀ (n : Nat) (m : Mem) (x7 : Int32), GR_crossRows_L22 x0 x1 x2 x3 x4 x5 x6 kx n m x7 = some R → E M_GR_crossRows 22 [(0, .ref x0), (1, .ref x1), (2, .int x2), (3, .int x3), (4, .int x4), (5, .int x5), (6, .int x6), (7, .int x7)] [] m (qV R) := by
  intro n
  induction n with
  | zero =>
    intro m x7 h
    exact absurd (show none = some R from h) (fun e => Option.some_ne_none R e.symm)
  | succ n ih =>
    intro m x7 h
    rw [GR_crossRows_L22] at h
    refine E_iload (n := 24) 14 rfl rfl 7 rfl <| E_iload (n := 26) 15 rfl rfl 6 rfl <| E_icmp_ge (n := 29) (t := 165) 16 rfl rfl rfl (fun hc => ?_) (fun hc => ?_)
    · have h := ifp h hc
      refine E_sub (lv' := []) [] rfl ?_
      exact hx m h
    · have h := ifn h hc
      obtain ⟨hc1, h⟩ := ift h
      obtain ⟨hc2, h⟩ := ift h
      obtain ⟨v3, hv3, h⟩ := letV_ex h
      obtain ⟨hc4, h⟩ := ift h
      obtain ⟨v5, hv5, h⟩ := letV_ex h
      obtain ⟨v6, hv6, h⟩ := letV_ex h
      refine E_iconst (v := 2) (n := 30) 17 rfl rfl icz_2 <| E_iload (n := 32) 18 rfl rfl 7 rfl <| E_imul (n := 33) 19 rfl rfl <| E_iconst (v := 1) (n := 34) 20 rfl rfl icz_1 <| E_iadd (n := 35) 21 rfl rfl <| E_aload_n (n := 36) 22 rfl rfl rfl 1 rfl <| E_gF (r := (x1 + 1)) (n := 39) 23 rfl rfl fg_1_50 h_x1 rfl <| E_iload_n (n := 40) 24 rfl rfl rfl 3 rfl <| E_iald (n := 41) 25 rfl rfl (shc_2_2 h_x1) hc1 <| E_aload_n (n := 42) 26 rfl rfl rfl 1 rfl <| E_gF (r := (x1 + 1)) (n := 45) 27 rfl rfl fg_1_50 h_x1 rfl <| E_iload_n (n := 46) 28 rfl rfl rfl 2 rfl <| E_iald (n := 47) 29 rfl rfl (shc_2_2 h_x1) hc2 <| E_isub (n := 48) 30 rfl rfl <| E_imul (n := 49) 31 rfl rfl <| E_iload (n := 51) 32 rfl rfl 6 rfl <| E_isub (n := 52) 33 rfl rfl <| E_top hv3 <| E_istore (lv' := [(0, .ref x0), (1, .ref x1), (2, .int x2), (3, .int x3), (4, .int x4), (5, .int x5), (6, .int x6), (7, .int x7), (8, .int v3)]) (n := 54) 34 rfl rfl (Nat.le_of_ble_eq_true rfl) [1, 2, 3, 4, 5, 6, 7, 8, 0] rfl <| E_aload_n (n := 55) 35 rfl rfl rfl 1 rfl <| E_gF (r := (x1 + 1)) (n := 58) 36 rfl rfl fg_1_50 h_x1 rfl <| E_iload_n (n := 59) 37 rfl rfl rfl 2 rfl <| E_iald (n := 60) 38 rfl rfl (shc_2_2 h_x1) hc2 <| E_iload (n := 62) 39 rfl rfl 8 rfl <| E_iconst (v := 1) (n := 63) 40 rfl rfl icz_1 <| E_isub (n := 64) 41 rfl rfl <| E_iconst (v := 2) (n := 65) 42 rfl rfl icz_2 <| E_iload (n := 67) 43 rfl rfl 6 rfl <| E_imul (n := 68) 44 rfl rfl <| E_jfloorDiv (n := 71) 45 rfl rfl tw_893 tw_894 tw_124 tw_895 ⟨Nat.le_of_ble_eq_true rfl, Nat.le_of_ble_eq_true rfl⟩ hc4 <| E_iadd (n := 72) 46 rfl rfl <| E_top hv5 <| E_istore (lv' := [(0, .ref x0), (1, .ref x1), (2, .int x2), (3, .int x3), (4, .int x4), (5, .int x5), (6, .int x6), (7, .int x7), (8, .int v3), (9, .int v5)]) (n := 74) 47 rfl rfl (Nat.le_of_ble_eq_true rfl) [1, 2, 3, 4, 5, 6, 7, 8, 9, 0] rfl <| E_iload (n := 76) 48 rfl rfl 9 rfl <| E_iload (n := 78) 49 rfl rfl 5 rfl <| E_iload (n := 80) 50 rfl rfl 7 rfl <| E_iadd (n := 81) 51 rfl rfl <| E_dN2r (n := 84) 52 rfl rfl co_1_67 rfl rfl (K_OH_squareAt m v5 (x5 + x7) _ rfl) <| E_top hv6 <| E_istore (lv' := [(0, .ref x0), (1, .ref x1), (2, .int x2), (3, .int x3), (4, .int x4), (5, .int x5), (6, .int x6), (7, .int x7), (8, .int v3), (9, .int v5), (10, .int v6)]) (n := 86) 53 rfl rfl (Nat.le_of_ble_eq_true rfl) [1, 2, 3, 4, 5, 6, 7, 8, 9, 10, 0] rfl <| E_iload (n := 88) 54 rfl rfl 9 rfl <| E_if_lt (n := 91) (t := 121) 55 rfl rfl rfl (fun hc => ?_) (fun hc => ?_)
      · have h := ifp h hc
        exact GR_crossRows_J121_ok _ _ m x0 x1 x2 x3 x4 x5 x6 x7 v3 v5 v6 h_x0 h_x1 _ ih hx h
      · have h := ifn h hc
        refine E_iload (n := 93) 56 rfl rfl 9 rfl <| E_bipush (v := 20) (n := 95) 57 rfl rfl bpz_20 <| E_icmp_ge (n := 98) (t := 121) 58 rfl rfl rfl (fun hc => ?_) (fun hc => ?_)
        · have h := ifp h hc
          exact GR_crossRows_J121_ok _ _ m x0 x1 x2 x3 x4 x5 x6 x7 v3 v5 v6 h_x0 h_x1 _ ih hx h
        · have h := ifn h hc
          obtain ⟨hc7, h⟩ := ift h
          obtain ⟨m8, hm8, h⟩ := letM_ex h
          obtain ⟨m9, hm9, h⟩ := letM_ex h
          refine E_aload_n (n := 99) 59 rfl rfl rfl 0 rfl <| E_gF (r := (x0 + 2)) (n := 102) 60 rfl rfl fg_1_15 h_x0 rfl <| E_iload (n := 104) 61 rfl rfl 10 rfl <| E_dup2 (n := 105) 62 rfl rfl rfl rfl <| E_iald (n := 106) 63 rfl rfl (shc_1_1 h_x0) hc7 <| E_iconst (v := 1) (n := 107) 64 rfl rfl icz_1 <| E_iadd (n := 108) 65 rfl rfl <| E_iast (n := 109) 66 rfl rfl (shc_1_1 h_x0) hc7 <| E_mem hm8 <| E_aload_n (n := 110) 67 rfl rfl rfl 0 rfl <| E_gF (r := (x0 + 4)) (n := 113) 68 rfl rfl fg_1_21 h_x0 rfl <| E_iload (n := 115) 69 rfl rfl 10 rfl <| E_dup2 (n := 116) 70 rfl rfl rfl rfl <| E_iald (n := 117) 71 rfl rfl (shc_1_3 h_x0) hc7 <| E_iload (n := 119) 72 rfl rfl 4 rfl <| E_iadd (n := 120) 73 rfl rfl <| E_iast (n := 121) 74 rfl rfl (shc_1_3 h_x0) hc7 <| E_mem hm9 <| ?_
          exact GR_crossRows_J121_ok _ _ m9 x0 x1 x2 x3 x4 x5 x6 x7 v3 v5 v6 h_x0 h_x1 _ ih hx h
theorem K_GR_crossRows (m : Mem) (x0 : Nat) (x1 : Nat) (x2 : Int32) (x3 : Int32) (x4 : Int32) (h_x0 : shp x0 = (1, 0)) (h_x1 : shp x1 = (2, 0)) (R : Mem) (h : GR_crossRows m x0 x1 x2 x3 x4 = some R) : Mt M_GR_crossRows [.ref x0, .ref x1, .int x2, .int x3, .int x4] m (qV R) := by
  refine Mt.of G_GR_crossRows (Nat.le_of_ble_eq_true rfl) (E_sub (lv' := [(0, .ref x0), (1, .ref x1), (2, .int x2), (3, .int x3), (4, .int x4)]) [0, 1, 2, 3, 4] rfl ?_)
  unfold GR_crossRows at h
  obtain ⟨hc1, h⟩ := ift h
  obtain ⟨v2, hv2, h⟩ := letV_ex h
  obtain ⟨hc3, h⟩ := ift h
  obtain ⟨v4, hv4, h⟩ := letV_ex h
  refine E_aload_n (n := 1) 0 rfl rfl rfl 1 rfl <| E_gF (r := (x1 + 2)) (n := 4) 1 rfl rfl fg_1_43 h_x1 rfl <| E_iload_n (n := 5) 2 rfl rfl rfl 2 rfl <| E_iald (n := 6) 3 rfl rfl (shc_2_3 h_x1) hc1 <| E_top hv2 <| E_istore (lv' := [(0, .ref x0), (1, .ref x1), (2, .int x2), (3, .int x3), (4, .int x4), (5, .int v2)]) (n := 8) 4 rfl rfl (Nat.le_of_ble_eq_true rfl) [1, 2, 3, 4, 5, 0] rfl <| E_aload_n (n := 9) 5 rfl rfl rfl 1 rfl <| E_gF (r := (x1 + 2)) (n := 12) 6 rfl rfl fg_1_43 h_x1 rfl <| E_iload_n (n := 13) 7 rfl rfl rfl 3 rfl <| E_iald (n := 14) 8 rfl rfl (shc_2_3 h_x1) hc3 <| E_iload (n := 16) 9 rfl rfl 5 rfl <| E_isub (n := 17) 10 rfl rfl <| E_top hv4 <| E_istore (lv' := [(0, .ref x0), (1, .ref x1), (2, .int x2), (3, .int x3), (4, .int x4), (5, .int v2), (6, .int v4)]) (n := 19) 11 rfl rfl (Nat.le_of_ble_eq_true rfl) [1, 2, 3, 4, 5, 6, 0] rfl <| E_iconst (v := 0) (n := 20) 12 rfl rfl icz_0 <| E_istore (lv' := [(0, .ref x0), (1, .ref x1), (2, .int x2), (3, .int x3), (4, .int x4), (5, .int v2), (6, .int v4), (7, .int 0)]) (n := 22) 13 rfl rfl (Nat.le_of_ble_eq_true rfl) [1, 2, 3, 4, 5, 6, 7, 0] rfl <| ?_
  refine GR_crossRows_L22_ok x0 x1 x2 x3 x4 v2 v4 h_x0 h_x1 _ R ?_ FU m 0 h
  intro m5 h
  refine E_return 99 rfl rfl (eV h)
theorem GR_crossColumns_L22_ok (x0 : Nat) (x1 : Nat) (x2 : Int32) (x3 : Int32) (x4 : Int32) (x5 : Int32) (h_x0 : shp x0 = (1, 0)) (h_x1 : shp x1 = (2, 0)) (kx : Mem → Option Mem) (R : Mem) (hx : ∀ (m : Mem), kx m = some R → E M_GR_crossColumns 111 [] [] m (qV R)) : ∀ (n : Nat) (m : Mem) (x6 : Int32), GR_crossColumns_L22 x0 x1 x2 x3 x4 x5 kx n m x6 = some R → E M_GR_crossColumns 22 [(0, .ref x0), (1, .ref x1), (2, .int x2), (3, .int x3), (4, .int x4), (5, .int x5), (6, .int x6)] [] m (qV R) := by
  intro n
  induction n with
  | zero =>
    intro m x6 h
    exact absurd (show none = some R from h) (fun e => Option.some_ne_none R e.symm)
  | succ n ih =>
    intro m x6 h
    rw [GR_crossColumns_L22] at h
    refine E_iload (n := 24) 14 rfl rfl 6 rfl <| E_iload (n := 26) 15 rfl rfl 5 rfl <| E_icmp_ge (n := 29) (t := 111) 16 rfl rfl rfl (fun hc => ?_) (fun hc => ?_)
    · have h := ifp h hc
      refine E_sub (lv' := []) [] rfl ?_
      exact hx m h
    · have h := ifn h hc
      obtain ⟨hc1, h⟩ := ift h
      obtain ⟨hc2, h⟩ := ift h
      obtain ⟨v3, hv3, h⟩ := letV_ex h
      obtain ⟨hc4, h⟩ := ift h
      obtain ⟨v5, hv5, h⟩ := letV_ex h
      refine E_iconst (v := 2) (n := 30) 17 rfl rfl icz_2 <| E_iload (n := 32) 18 rfl rfl 6 rfl <| E_imul (n := 33) 19 rfl rfl <| E_iconst (v := 1) (n := 34) 20 rfl rfl icz_1 <| E_iadd (n := 35) 21 rfl rfl <| E_aload_n (n := 36) 22 rfl rfl rfl 1 rfl <| E_gF (r := (x1 + 2)) (n := 39) 23 rfl rfl fg_1_43 h_x1 rfl <| E_iload_n (n := 40) 24 rfl rfl rfl 3 rfl <| E_iald (n := 41) 25 rfl rfl (shc_2_3 h_x1) hc1 <| E_aload_n (n := 42) 26 rfl rfl rfl 1 rfl <| E_gF (r := (x1 + 2)) (n := 45) 27 rfl rfl fg_1_43 h_x1 rfl <| E_iload_n (n := 46) 28 rfl rfl rfl 2 rfl <| E_iald (n := 47) 29 rfl rfl (shc_2_3 h_x1) hc2 <| E_isub (n := 48) 30 rfl rfl <| E_imul (n := 49) 31 rfl rfl <| E_iload (n := 51) 32 rfl rfl 5 rfl <| E_isub (n := 52) 33 rfl rfl <| E_top hv3 <| E_istore (lv' := [(0, .ref x0), (1, .ref x1), (2, .int x2), (3, .int x3), (4, .int x4), (5, .int x5), (6, .int x6), (7, .int v3)]) (n := 54) 34 rfl rfl (Nat.le_of_ble_eq_true rfl) [1, 2, 3, 4, 5, 6, 7, 0] rfl <| E_aload_n (n := 55) 35 rfl rfl rfl 1 rfl <| E_gF (r := (x1 + 2)) (n := 58) 36 rfl rfl fg_1_43 h_x1 rfl <| E_iload_n (n := 59) 37 rfl rfl rfl 2 rfl <| E_iald (n := 60) 38 rfl rfl (shc_2_3 h_x1) hc2 <| E_iload (n := 62) 39 rfl rfl 7 rfl <| E_iconst (v := 1) (n := 63) 40 rfl rfl icz_1 <| E_isub (n := 64) 41 rfl rfl <| E_iconst (v := 2) (n := 65) 42 rfl rfl icz_2 <| E_iload (n := 67) 43 rfl rfl 5 rfl <| E_imul (n := 68) 44 rfl rfl <| E_jfloorDiv (n := 71) 45 rfl rfl tw_893 tw_894 tw_124 tw_895 ⟨Nat.le_of_ble_eq_true rfl, Nat.le_of_ble_eq_true rfl⟩ hc4 <| E_iadd (n := 72) 46 rfl rfl <| E_top hv5 <| E_istore (lv' := [(0, .ref x0), (1, .ref x1), (2, .int x2), (3, .int x3), (4, .int x4), (5, .int x5), (6, .int x6), (7, .int v3), (8, .int v5)]) (n := 74) 47 rfl rfl (Nat.le_of_ble_eq_true rfl) [1, 2, 3, 4, 5, 6, 7, 8, 0] rfl <| E_iload (n := 76) 48 rfl rfl 8 rfl <| E_if_lt (n := 79) (t := 105) 49 rfl rfl rfl (fun hc => ?_) (fun hc => ?_)
      · have h := ifp h hc
        refine E_iinc (v := (x6 + 1)) (lv' := [(0, .ref x0), (1, .ref x1), (2, .int x2), (3, .int x3), (4, .int x4), (5, .int x5), (6, .int (x6 + 1)), (7, .int v3), (8, .int v5)]) (n := 108) 65 rfl rfl 6 rfl (by rw [icz_1]) (Nat.le_of_ble_eq_true rfl) [1, 2, 3, 4, 5, 6, 0, 7, 8] rfl <| E_goto (t := 22) 66 rfl rfl <| ?_
        refine E_sub (lv' := [(0, .ref x0), (1, .ref x1), (2, .int x2), (3, .int x3), (4, .int x4), (5, .int x5), (6, .int (x6 + 1))]) [0, 1, 2, 3, 4, 5, 6] rfl ?_
        exact ih m (x6 + 1) h
      · have h := ifn h hc
        refine E_iload (n := 81) 50 rfl rfl 8 rfl <| E_bipush (v := 20) (n := 83) 51 rfl rfl bpz_20 <| E_icmp_ge (n := 86) (t := 105) 52 rfl rfl rfl (fun hc => ?_) (fun hc => ?_)
        · have h := ifp h hc
          refine E_iinc (v := (x6 + 1)) (lv' := [(0, .ref x0), (1, .ref x1), (2, .int x2), (3, .int x3), (4, .int x4), (5, .int x5), (6, .int (x6 + 1)), (7, .int v3), (8, .int v5)]) (n := 108) 65 rfl rfl 6 rfl (by rw [icz_1]) (Nat.le_of_ble_eq_true rfl) [1, 2, 3, 4, 5, 6, 0, 7, 8] rfl <| E_goto (t := 22) 66 rfl rfl <| ?_
          refine E_sub (lv' := [(0, .ref x0), (1, .ref x1), (2, .int x2), (3, .int x3), (4, .int x4), (5, .int x5), (6, .int (x6 + 1))]) [0, 1, 2, 3, 4, 5, 6] rfl ?_
          exact ih m (x6 + 1) h
        · have h := ifn h hc
          obtain ⟨hc6, h⟩ := ift h
          obtain ⟨m7, hm7, h⟩ := letM_ex h
          refine E_aload_n (n := 87) 53 rfl rfl rfl 0 rfl <| E_gF (r := (x0 + 3)) (n := 90) 54 rfl rfl fg_1_18 h_x0 rfl <| E_iload (n := 92) 55 rfl rfl 4 rfl <| E_iload (n := 94) 56 rfl rfl 6 rfl <| E_iadd (n := 95) 57 rfl rfl <| E_iload (n := 97) 58 rfl rfl 8 rfl <| E_dN2r (n := 100) 59 rfl rfl co_1_67 rfl rfl (K_OH_squareAt m (x4 + x6) v5 _ rfl) <| E_dup2 (n := 101) 60 rfl rfl rfl rfl <| E_iald (n := 102) 61 rfl rfl (shc_1_2 h_x0) hc6 <| E_iconst (v := 1) (n := 103) 62 rfl rfl icz_1 <| E_iadd (n := 104) 63 rfl rfl <| E_iast (n := 105) 64 rfl rfl (shc_1_2 h_x0) hc6 <| E_mem hm7 <| ?_
          refine E_iinc (v := (x6 + 1)) (lv' := [(0, .ref x0), (1, .ref x1), (2, .int x2), (3, .int x3), (4, .int x4), (5, .int x5), (6, .int (x6 + 1)), (7, .int v3), (8, .int v5)]) (n := 108) 65 rfl rfl 6 rfl (by rw [icz_1]) (Nat.le_of_ble_eq_true rfl) [1, 2, 3, 4, 5, 6, 0, 7, 8] rfl <| E_goto (t := 22) 66 rfl rfl <| ?_
          refine E_sub (lv' := [(0, .ref x0), (1, .ref x1), (2, .int x2), (3, .int x3), (4, .int x4), (5, .int x5), (6, .int (x6 + 1))]) [0, 1, 2, 3, 4, 5, 6] rfl ?_
          exact ih m7 (x6 + 1) h
theorem K_GR_crossColumns (m : Mem) (x0 : Nat) (x1 : Nat) (x2 : Int32) (x3 : Int32) (h_x0 : shp x0 = (1, 0)) (h_x1 : shp x1 = (2, 0)) (R : Mem) (h : GR_crossColumns m x0 x1 x2 x3 = some R) : Mt M_GR_crossColumns [.ref x0, .ref x1, .int x2, .int x3] m (qV R) := by
  refine Mt.of G_GR_crossColumns (Nat.le_of_ble_eq_true rfl) (E_sub (lv' := [(0, .ref x0), (1, .ref x1), (2, .int x2), (3, .int x3)]) [0, 1, 2, 3] rfl ?_)
  unfold GR_crossColumns at h
  obtain ⟨hc1, h⟩ := ift h
  obtain ⟨v2, hv2, h⟩ := letV_ex h
  obtain ⟨hc3, h⟩ := ift h
  obtain ⟨v4, hv4, h⟩ := letV_ex h
  refine E_aload_n (n := 1) 0 rfl rfl rfl 1 rfl <| E_gF (r := (x1 + 1)) (n := 4) 1 rfl rfl fg_1_50 h_x1 rfl <| E_iload_n (n := 5) 2 rfl rfl rfl 2 rfl <| E_iald (n := 6) 3 rfl rfl (shc_2_2 h_x1) hc1 <| E_top hv2 <| E_istore (lv' := [(0, .ref x0), (1, .ref x1), (2, .int x2), (3, .int x3), (4, .int v2)]) (n := 8) 4 rfl rfl (Nat.le_of_ble_eq_true rfl) [1, 2, 3, 4, 0] rfl <| E_aload_n (n := 9) 5 rfl rfl rfl 1 rfl <| E_gF (r := (x1 + 1)) (n := 12) 6 rfl rfl fg_1_50 h_x1 rfl <| E_iload_n (n := 13) 7 rfl rfl rfl 3 rfl <| E_iald (n := 14) 8 rfl rfl (shc_2_2 h_x1) hc3 <| E_iload (n := 16) 9 rfl rfl 4 rfl <| E_isub (n := 17) 10 rfl rfl <| E_top hv4 <| E_istore (lv' := [(0, .ref x0), (1, .ref x1), (2, .int x2), (3, .int x3), (4, .int v2), (5, .int v4)]) (n := 19) 11 rfl rfl (Nat.le_of_ble_eq_true rfl) [1, 2, 3, 4, 5, 0] rfl <| E_iconst (v := 0) (n := 20) 12 rfl rfl icz_0 <| E_istore (lv' := [(0, .ref x0), (1, .ref x1), (2, .int x2), (3, .int x3), (4, .int v2), (5, .int v4), (6, .int 0)]) (n := 22) 13 rfl rfl (Nat.le_of_ble_eq_true rfl) [1, 2, 3, 4, 5, 6, 0] rfl <| ?_
  refine GR_crossColumns_L22_ok x0 x1 x2 x3 v2 v4 h_x0 h_x1 _ R ?_ FU m 0 h
  intro m5 h
  refine E_return 67 rfl rfl (eV h)
theorem GR_ownRow_L11_ok (x0 : Nat) (x1 : Int32) (x2 : Int32) (x3 : Int32) (h_x0 : shp x0 = (1, 0)) (kx : Mem → Option Mem) (R : Mem) (hx : ∀ (m : Mem), kx m = some R → E M_GR_ownRow 77 [] [] m (qV R)) : ∀ (n : Nat) (m : Mem) (x4 : Int32) (x5 : Int32), GR_ownRow_L11 x0 x1 x2 x3 kx n m x4 x5 = some R → E M_GR_ownRow 11 [(0, .ref x0), (1, .int x1), (2, .int x2), (3, .int x3), (4, .int x4), (5, .int x5)] [] m (qV R) := by
  intro n
  induction n with
  | zero =>
    intro m x4 x5 h
    exact absurd (show none = some R from h) (fun e => Option.some_ne_none R e.symm)
  | succ n ih =>
    intro m x4 x5 h
    rw [GR_ownRow_L11] at h
    refine E_iload (n := 13) 8 rfl rfl 5 rfl <| E_iload_n (n := 14) 9 rfl rfl rfl 1 rfl <| E_icmp_lt (n := 17) (t := 77) 10 rfl rfl rfl (fun hc => ?_) (fun hc => ?_)
    · have h := ifp h hc
      refine E_sub (lv' := []) [] rfl ?_
      exact hx m h
    · have h := ifn h hc
      obtain ⟨hc1, h⟩ := ift h
      obtain ⟨v2, hv2, h⟩ := letV_ex h
      refine E_iload (n := 19) 11 rfl rfl 4 rfl <| E_aload_n (n := 20) 12 rfl rfl rfl 0 rfl <| E_gF (r := (x0 + 4)) (n := 23) 13 rfl rfl fg_1_21 h_x0 rfl <| E_iload (n := 25) 14 rfl rfl 5 rfl <| E_iald (n := 26) 15 rfl rfl (shc_1_3 h_x0) hc1 <| E_iadd (n := 27) 16 rfl rfl <| E_top hv2 <| E_istore (lv' := [(0, .ref x0), (1, .int x1), (2, .int x2), (3, .int x3), (4, .int v2), (5, .int x5)]) (n := 29) 17 rfl rfl (Nat.le_of_ble_eq_true rfl) [1, 2, 3, 4, 0, 5] rfl <| E_aload_n (n := 30) 18 rfl rfl rfl 0 rfl <| E_gF (r := (x0 + 5)) (n := 33) 19 rfl rfl fg_1_24 h_x0 rfl <| E_iload (n := 35) 20 rfl rfl 5 rfl <| E_iald (n := 36) 21 rfl rfl (shc_1_4 h_x0) hc1 <| E_if_eq (n := 39) (t := 50) 22 rfl rfl rfl (fun hc => ?_) (fun hc => ?_)
      · have h := ifp h hc
        refine E_aload_n (n := 51) 29 rfl rfl rfl 0 rfl <| E_gF (r := (x0 + 1)) (n := 54) 30 rfl rfl fg_1_9 h_x0 rfl <| E_iload (n := 56) 31 rfl rfl 5 rfl <| E_iload_n (n := 57) 32 rfl rfl rfl 2 rfl <| E_iload (n := 59) 33 rfl rfl 4 rfl <| E_dN2r (n := 62) 34 rfl rfl co_1_73 rfl rfl (K_OH_isHis m x2 v2 _ rfl) <| E_if_eq (n := 65) (t := 69) 35 rfl rfl rfl (fun hc => ?_) (fun hc => ?_)
        · have h := ifp h hc
          refine E_iconst (v := 0) (n := 70) 38 rfl rfl icz_0 <| ?_
          obtain ⟨m3, hm3, h⟩ := letM_ex h
          refine E_iast (n := 71) 39 rfl rfl (shc_1_0 h_x0) hc1 <| E_mem hm3 <| ?_
          refine E_iinc (v := (x5 + (-1))) (lv' := [(0, .ref x0), (1, .int x1), (2, .int x2), (3, .int x3), (4, .int v2), (5, .int (x5 + (-1)))]) (n := 74) 40 rfl rfl 5 rfl (by rw [icz_m1]) (Nat.le_of_ble_eq_true rfl) [1, 2, 3, 4, 5, 0] rfl <| E_goto (t := 11) 41 rfl rfl <| ?_
          exact ih m3 v2 (x5 + (-1)) h
        · have h := ifn h hc
          refine E_iconst (v := 1) (n := 66) 36 rfl rfl icz_1 <| E_goto (t := 70) 37 rfl rfl <| ?_
          obtain ⟨m4, hm4, h⟩ := letM_ex h
          refine E_iast (n := 71) 39 rfl rfl (shc_1_0 h_x0) hc1 <| E_mem hm4 <| ?_
          refine E_iinc (v := (x5 + (-1))) (lv' := [(0, .ref x0), (1, .int x1), (2, .int x2), (3, .int x3), (4, .int v2), (5, .int (x5 + (-1)))]) (n := 74) 40 rfl rfl 5 rfl (by rw [icz_m1]) (Nat.le_of_ble_eq_true rfl) [1, 2, 3, 4, 5, 0] rfl <| E_goto (t := 11) 41 rfl rfl <| ?_
          exact ih m4 v2 (x5 + (-1)) h
      · have h := ifn h hc
        obtain ⟨m5, hm5, h⟩ := letM_ex h
        refine E_aload_n (n := 40) 23 rfl rfl rfl 0 rfl <| E_gF (r := (x0 + 1)) (n := 43) 24 rfl rfl fg_1_9 h_x0 rfl <| E_iload (n := 45) 25 rfl rfl 5 rfl <| E_iload_n (n := 46) 26 rfl rfl rfl 3 rfl <| E_iast (n := 47) 27 rfl rfl (shc_1_0 h_x0) hc1 <| E_mem hm5 <| E_goto (t := 71) 28 rfl rfl <| ?_
        refine E_iinc (v := (x5 + (-1))) (lv' := [(0, .ref x0), (1, .int x1), (2, .int x2), (3, .int x3), (4, .int v2), (5, .int (x5 + (-1)))]) (n := 74) 40 rfl rfl 5 rfl (by rw [icz_m1]) (Nat.le_of_ble_eq_true rfl) [1, 2, 3, 4, 5, 0] rfl <| E_goto (t := 11) 41 rfl rfl <| ?_
        exact ih m5 v2 (x5 + (-1)) h
theorem K_GR_ownRow (m : Mem) (x0 : Nat) (x1 : Int32) (x2 : Int32) (x3 : Int32) (h_x0 : shp x0 = (1, 0)) (R : Mem) (h : GR_ownRow m x0 x1 x2 x3 = some R) : Mt M_GR_ownRow [.ref x0, .int x1, .int x2, .int x3] m (qV R) := by
  refine Mt.of G_GR_ownRow (Nat.le_of_ble_eq_true rfl) (E_sub (lv' := [(0, .ref x0), (1, .int x1), (2, .int x2), (3, .int x3)]) [0, 1, 2, 3] rfl ?_)
  unfold GR_ownRow at h
  obtain ⟨v1, hv1, h⟩ := letV_ex h
  refine E_iconst (v := 0) (n := 1) 0 rfl rfl icz_0 <| E_istore (lv' := [(0, .ref x0), (1, .int x1), (2, .int x2), (3, .int x3), (4, .int 0)]) (n := 3) 1 rfl rfl (Nat.le_of_ble_eq_true rfl) [1, 2, 3, 4, 0] rfl <| E_iload_n (n := 4) 2 rfl rfl rfl 1 rfl <| E_bipush (v := 20) (n := 6) 3 rfl rfl bpz_20 <| E_iadd (n := 7) 4 rfl rfl <| E_iconst (v := 1) (n := 8) 5 rfl rfl icz_1 <| E_isub (n := 9) 6 rfl rfl <| E_top hv1 <| E_istore (lv' := [(0, .ref x0), (1, .int x1), (2, .int x2), (3, .int x3), (4, .int 0), (5, .int v1)]) (n := 11) 7 rfl rfl (Nat.le_of_ble_eq_true rfl) [1, 2, 3, 4, 5, 0] rfl <| ?_
  refine GR_ownRow_L11_ok x0 x1 x2 x3 h_x0 _ R ?_ FU m 0 v1 h
  intro m2 h
  refine E_return 42 rfl rfl (eV h)
theorem GR_survey_J92_ok (kr : Mem → Int32 → Option Mem) (kx : Mem → Option Mem) (m : Mem) (x0 : Nat) (x1 : Nat) (x2 : Int32) (x3 : Int32) (x4 : Int32) (x5 : Int32) (h_x0 : shp x0 = (1, 0)) (h_x1 : shp x1 = (2, 0)) (R : Mem) (hr : ∀ (m : Mem) (x4 : Int32), kr m x4 = some R → E M_GR_survey 35 [(0, .ref x0), (1, .ref x1), (2, .int x2), (3, .int x3), (4, .int x4)] [] m (qV R)) (hx : ∀ (m : Mem), kx m = some R → E M_GR_survey 136 [(0, .ref x0), (2, .int x2), (3, .int x3)] [] m (qV R)) (h : GR_survey_J92 kr kx m x0 x1 x2 x3 x4 x5 = some R) : E M_GR_survey 92 [(0, .ref x0), (1, .ref x1), (2, .int x2), (3, .int x3), (4, .int x4), (5, .int x5)] [] m (qV R) := by
  unfold GR_survey_J92 at h
  obtain ⟨hc1, h⟩ := ift h
  obtain ⟨hc2, h⟩ := ift h
  refine E_aload_n (n := 93) 48 rfl rfl rfl 1 rfl <| E_gF (r := (x1 + 1)) (n := 96) 49 rfl rfl fg_1_50 h_x1 rfl <| E_iload (n := 98) 50 rfl rfl 4 rfl <| E_iald (n := 99) 51 rfl rfl (shc_2_2 h_x1) hc1 <| E_aload_n (n := 100) 52 rfl rfl rfl 1 rfl <| E_gF (r := (x1 + 1)) (n := 103) 53 rfl rfl fg_1_50 h_x1 rfl <| E_iload (n := 105) 54 rfl rfl 5 rfl <| E_iald (n := 106) 55 rfl rfl (shc_2_2 h_x1) hc2 <| E_icmp_ge (n := 109) (t := 121) 56 rfl rfl rfl (fun hc => ?_) (fun hc => ?_)
  · have h := ifp h hc
    obtain ⟨m3, hq4, h⟩ := bM_ex h
    refine E_aload_n (n := 122) 63 rfl rfl rfl 0 rfl <| E_aload_n (n := 123) 64 rfl rfl rfl 1 rfl <| E_iload (n := 125) 65 rfl rfl 5 rfl <| E_iload (n := 127) 66 rfl rfl 4 rfl <| E_cV3v (n := 130) 67 rfl rfl co_1_53 rfl h_x0 rfl (K_GR_crossColumns m x0 x1 x5 x4 h_x0 h_x1 _ hq4) <| ?_
    refine E_iinc (v := (x4 + 1)) (lv' := [(0, .ref x0), (1, .ref x1), (2, .int x2), (3, .int x3), (4, .int (x4 + 1)), (5, .int x5)]) (n := 133) 68 rfl rfl 4 rfl (by rw [icz_1]) (Nat.le_of_ble_eq_true rfl) [1, 2, 3, 4, 0, 5] rfl <| E_goto (t := 35) 69 rfl rfl <| ?_
    refine E_sub (lv' := [(0, .ref x0), (1, .ref x1), (2, .int x2), (3, .int x3), (4, .int (x4 + 1))]) [0, 1, 2, 3, 4] rfl ?_
    exact hr m3 (x4 + 1) h
  · have h := ifn h hc
    obtain ⟨m5, hq6, h⟩ := bM_ex h
    refine E_aload_n (n := 110) 57 rfl rfl rfl 0 rfl <| E_aload_n (n := 111) 58 rfl rfl rfl 1 rfl <| E_iload (n := 113) 59 rfl rfl 4 rfl <| E_iload (n := 115) 60 rfl rfl 5 rfl <| E_cV3v (n := 118) 61 rfl rfl co_1_53 rfl h_x0 rfl (K_GR_crossColumns m x0 x1 x4 x5 h_x0 h_x1 _ hq6) <| E_goto (t := 130) 62 rfl rfl <| ?_
    refine E_iinc (v := (x4 + 1)) (lv' := [(0, .ref x0), (1, .ref x1), (2, .int x2), (3, .int x3), (4, .int (x4 + 1)), (5, .int x5)]) (n := 133) 68 rfl rfl 4 rfl (by rw [icz_1]) (Nat.le_of_ble_eq_true rfl) [1, 2, 3, 4, 0, 5] rfl <| E_goto (t := 35) 69 rfl rfl <| ?_
    refine E_sub (lv' := [(0, .ref x0), (1, .ref x1), (2, .int x2), (3, .int x3), (4, .int (x4 + 1))]) [0, 1, 2, 3, 4] rfl ?_
    exact hr m5 (x4 + 1) h
theorem GR_survey_L35_ok (x0 : Nat) (x1 : Nat) (x2 : Int32) (x3 : Int32) (h_x0 : shp x0 = (1, 0)) (h_x1 : shp x1 = (2, 0)) (kx : Mem → Option Mem) (R : Mem) (hx : ∀ (m : Mem), kx m = some R → E M_GR_survey 136 [(0, .ref x0), (2, .int x2), (3, .int x3)] [] m (qV R)) : ∀ (n : Nat) (m : Mem) (x4 : Int32), GR_survey_L35 x0 x1 x2 x3 kx n m x4 = some R → E M_GR_survey 35 [(0, .ref x0), (1, .ref x1), (2, .int x2), (3, .int x3), (4, .int x4)] [] m (qV R) := by
  intro n
  induction n with
  | zero =>
    intro m x4 h
    exact absurd (show none = some R from h) (fun e => Option.some_ne_none R e.symm)
  | succ n ih =>
    intro m x4 h
    rw [GR_survey_L35] at h
    refine E_iload (n := 37) 18 rfl rfl 4 rfl <| E_aload_n (n := 38) 19 rfl rfl rfl 1 rfl <| E_gI (n := 41) 20 rfl rfl fg_1_33 h_x1 <| E_icmp_ge (n := 44) (t := 136) 21 rfl rfl rfl (fun hc => ?_) (fun hc => ?_)
    · have h := ifp h hc
      refine E_sub (lv' := [(0, .ref x0), (2, .int x2), (3, .int x3)]) [0, 2, 3] rfl ?_
      exact hx m h
    · have h := ifn h hc
      obtain ⟨v1, hv1, h⟩ := letV_ex h
      obtain ⟨hc2, h⟩ := ift h
      obtain ⟨hc3, h⟩ := ift h
      refine E_aload_n (n := 45) 22 rfl rfl rfl 1 rfl <| E_iload (n := 47) 23 rfl rfl 4 rfl <| E_cV1r (n := 50) 24 rfl rfl co_1_39 rfl h_x1 rfl (K_LN_after m x1 x4 h_x1 _ rfl) <| E_top hv1 <| E_istore (lv' := [(0, .ref x0), (1, .ref x1), (2, .int x2), (3, .int x3), (4, .int x4), (5, .int v1)]) (n := 52) 25 rfl rfl (Nat.le_of_ble_eq_true rfl) [1, 2, 3, 4, 5, 0] rfl <| E_aload_n (n := 53) 26 rfl rfl rfl 1 rfl <| E_gF (r := (x1 + 2)) (n := 56) 27 rfl rfl fg_1_43 h_x1 rfl <| E_iload (n := 58) 28 rfl rfl 4 rfl <| E_iald (n := 59) 29 rfl rfl (shc_2_3 h_x1) hc2 <| E_aload_n (n := 60) 30 rfl rfl rfl 1 rfl <| E_gF (r := (x1 + 2)) (n := 63) 31 rfl rfl fg_1_43 h_x1 rfl <| E_iload (n := 65) 32 rfl rfl 5 rfl <| E_iald (n := 66) 33 rfl rfl (shc_2_3 h_x1) hc3 <| E_icmp_ge (n := 69) (t := 82) 34 rfl rfl rfl (fun hc => ?_) (fun hc => ?_)
      · have h := ifp h hc
        obtain ⟨m4, hq5, h⟩ := bM_ex h
        refine E_aload_n (n := 83) 42 rfl rfl rfl 0 rfl <| E_aload_n (n := 84) 43 rfl rfl rfl 1 rfl <| E_iload (n := 86) 44 rfl rfl 5 rfl <| E_iload (n := 88) 45 rfl rfl 4 rfl <| E_iconst (v := (-1)) (n := 89) 46 rfl rfl icz_m1 <| E_cV4v (n := 92) 47 rfl rfl co_1_46 rfl h_x0 rfl (K_GR_crossRows m x0 x1 v1 x4 (-1) h_x0 h_x1 _ hq5) <| ?_
        exact GR_survey_J92_ok _ _ m4 x0 x1 x2 x3 x4 v1 h_x0 h_x1 _ ih hx h
      · have h := ifn h hc
        obtain ⟨m6, hq7, h⟩ := bM_ex h
        refine E_aload_n (n := 70) 35 rfl rfl rfl 0 rfl <| E_aload_n (n := 71) 36 rfl rfl rfl 1 rfl <| E_iload (n := 73) 37 rfl rfl 4 rfl <| E_iload (n := 75) 38 rfl rfl 5 rfl <| E_iconst (v := 1) (n := 76) 39 rfl rfl icz_1 <| E_cV4v (n := 79) 40 rfl rfl co_1_46 rfl h_x0 rfl (K_GR_crossRows m x0 x1 x4 v1 1 h_x0 h_x1 _ hq7) <| E_goto (t := 92) 41 rfl rfl <| ?_
        exact GR_survey_J92_ok _ _ m6 x0 x1 x2 x3 x4 v1 h_x0 h_x1 _ ih hx h
theorem GR_survey_L139_ok (x0 : Nat) (x2 : Int32) (x3 : Int32) (h_x0 : shp x0 = (1, 0)) (kx : Mem → Option Mem) (R : Mem) (hx : ∀ (m : Mem), kx m = some R → E M_GR_survey 163 [] [] m (qV R)) : ∀ (n : Nat) (m : Mem) (x4 : Int32), GR_survey_L139 x0 x2 x3 kx n m x4 = some R → E M_GR_survey 139 [(0, .ref x0), (2, .int x2), (3, .int x3), (4, .int x4)] [] m (qV R) := by
  intro n
  induction n with
  | zero =>
    intro m x4 h
    exact absurd (show none = some R from h) (fun e => Option.some_ne_none R e.symm)
  | succ n ih =>
    intro m x4 h
    rw [GR_survey_L139] at h
    refine E_iload (n := 141) 72 rfl rfl 3 rfl <| E_bipush (v := 20) (n := 143) 73 rfl rfl bpz_20 <| E_icmp_ge (n := 146) (t := 163) 74 rfl rfl rfl (fun hc => ?_) (fun hc => ?_)
    · have h := ifp h hc
      refine E_sub (lv' := []) [] rfl ?_
      exact hx m h
    · have h := ifn h hc
      obtain ⟨m1, hq2, h⟩ := bM_ex h
      refine E_aload_n (n := 147) 75 rfl rfl rfl 0 rfl <| E_iload (n := 149) 76 rfl rfl 3 rfl <| E_bipush (v := 20) (n := 151) 77 rfl rfl bpz_20 <| E_imul (n := 152) 78 rfl rfl <| E_iload_n (n := 153) 79 rfl rfl rfl 1 rfl <| E_iload_n (n := 154) 80 rfl rfl rfl 2 rfl <| E_cV3v (n := 157) 81 rfl rfl co_1_57 rfl h_x0 rfl (K_GR_ownRow m x0 (x4 * 20) x2 x3 h_x0 _ hq2) <| E_iinc (v := (x4 + 1)) (lv' := [(0, .ref x0), (2, .int x2), (3, .int x3), (4, .int (x4 + 1))]) (n := 160) 82 rfl rfl 3 rfl (by rw [icz_1]) (Nat.le_of_ble_eq_true rfl) [1, 2, 3, 0] rfl <| E_goto (t := 139) 83 rfl rfl <| ?_
      exact ih m1 (x4 + 1) h
theorem K_GR_survey (m : Mem) (x0 : Nat) (x1 : Nat) (x2 : Int32) (x3 : Int32) (h_x0 : shp x0 = (1, 0)) (h_x1 : shp x1 = (2, 0)) (R : Mem) (h : GR_survey m x0 x1 x2 x3 = some R) : Mt M_GR_survey [.ref x0, .ref x1, .int x2, .int x3] m (qV R) := by
  refine Mt.of G_GR_survey (Nat.le_of_ble_eq_true rfl) (E_sub (lv' := [(0, .ref x0), (1, .ref x1), (2, .int x2), (3, .int x3)]) [0, 1, 2, 3] rfl ?_)
  unfold GR_survey at h
  obtain ⟨m1, hq2, h⟩ := bM_ex h
  obtain ⟨m3, hq4, h⟩ := bM_ex h
  obtain ⟨m5, hq6, h⟩ := bM_ex h
  obtain ⟨m7, hq8, h⟩ := bM_ex h
  refine E_aload_n (n := 1) 0 rfl rfl rfl 0 rfl <| E_gF (r := (x0 + 2)) (n := 4) 1 rfl rfl fg_1_15 h_x0 rfl <| E_iconst (v := 0) (n := 5) 2 rfl rfl icz_0 <| E_dS2v (n := 8) 3 rfl rfl co_1_27 rfl rfl (K_JA_fill m (x0 + 2) 0 (shq (shc_1_1 h_x0)) _ hq2) <| E_aload_n (n := 9) 4 rfl rfl rfl 0 rfl <| E_gF (r := (x0 + 3)) (n := 12) 5 rfl rfl fg_1_18 h_x0 rfl <| E_iconst (v := 0) (n := 13) 6 rfl rfl icz_0 <| E_dS2v (n := 16) 7 rfl rfl co_1_27 rfl rfl (K_JA_fill m1 (x0 + 3) 0 (shq (shc_1_2 h_x0)) _ hq4) <| E_aload_n (n := 17) 8 rfl rfl rfl 0 rfl <| E_gF (r := (x0 + 4)) (n := 20) 9 rfl rfl fg_1_21 h_x0 rfl <| E_iconst (v := 0) (n := 21) 10 rfl rfl icz_0 <| E_dS2v (n := 24) 11 rfl rfl co_1_27 rfl rfl (K_JA_fill m3 (x0 + 4) 0 (shq (shc_1_3 h_x0)) _ hq6) <| E_aload_n (n := 25) 12 rfl rfl rfl 0 rfl <| E_gF (r := (x0 + 5)) (n := 28) 13 rfl rfl fg_1_24 h_x0 rfl <| E_iconst (v := 0) (n := 29) 14 rfl rfl icz_0 <| E_dS2v (n := 32) 15 rfl rfl co_1_27 rfl rfl (K_JA_fill m5 (x0 + 5) 0 (shq (shc_1_4 h_x0)) _ hq8) <| E_iconst (v := 0) (n := 33) 16 rfl rfl icz_0 <| E_istore (lv' := [(0, .ref x0), (1, .ref x1), (2, .int x2), (3, .int x3), (4, .int 0)]) (n := 35) 17 rfl rfl (Nat.le_of_ble_eq_true rfl) [1, 2, 3, 4, 0] rfl <| ?_
  refine GR_survey_L35_ok x0 x1 x2 x3 h_x0 h_x1 _ R ?_ FU m7 0 h
  intro m9 h
  refine E_iconst (v := 0) (n := 137) 70 rfl rfl icz_0 <| E_istore (lv' := [(0, .ref x0), (2, .int x2), (3, .int x3), (4, .int 0)]) (n := 139) 71 rfl rfl (Nat.le_of_ble_eq_true rfl) [1, 2, 3, 0] rfl <| ?_
  refine GR_survey_L139_ok x0 x2 x3 h_x0 _ R ?_ FU m9 0 h
  intro m10 h
  refine E_return 84 rfl rfl (eV h)

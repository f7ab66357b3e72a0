theorem K_OH_survey (m : Mem) (x1 : Int32) (R : Mem) (h : OH_survey m x1 = some R) : Mt M_OH_survey [.ref 0, .int x1] m (qV R) := by
  refine Mt.of G_OH_survey (Nat.le_of_ble_eq_true rfl) (E_sub (lv' := [(0, .ref 0), (1, .int x1)]) [0, 1] rfl ?_)
  unfold OH_survey at h
  obtain ⟨hc2, h⟩ := ift h
  obtain ⟨m5, hq6, h⟩ := bM_ex h
  refine E_aload_n (n := 1) 0 rfl rfl rfl 0 rfl <| E_gF (r := 5) (n := 4) 1 rfl rfl fg_11_26 sh_0 rfl <| E_aload_n (n := 5) 2 rfl rfl rfl 0 rfl <| E_gN (n := 8) 3 rfl rfl fg_11_92 sh_0 (Or.inl rfl) fun hN1 => E_gF (r := ((gN m 13) + 1)) (n := 11) 4 rfl rfl fg_11_138 hN1 rfl <| E_iload_n (n := 12) 5 rfl rfl rfl 1 rfl <| E_aL (r := ((gN m 13) + 2 + 3 * ixn x1)) (n := 13) 6 rfl rfl (shc_5_0 hN1) hc2 rfl <| E_aload_n (n := 14) 7 rfl rfl rfl 0 rfl <| E_gN (n := 17) 8 rfl rfl fg_11_92 sh_0 (Or.inl rfl) fun hN3 => E_gI (n := 20) 9 rfl rfl fg_11_298 hN3 <| E_aload_n (n := 21) 10 rfl rfl rfl 0 rfl <| E_gN (n := 24) 11 rfl rfl fg_11_92 sh_0 (Or.inl rfl) fun hN4 => E_gI (n := 27) 12 rfl rfl fg_11_301 hN4 <| E_cV3v (n := 30) 13 rfl rfl co_11_304 rfl sh_5 rfl (K_GR_survey m 5 ((gN m 13) + 2 + 3 * ixn x1) (gI m (gN m 13) 10) (gI m (gN m 13) 11) sh_5 (shln hN1 hc2) _ hq6) <| E_return 14 rfl rfl (eV h)
theorem K_OH_square (m : Mem) (x1 : Int32) (x2 : Int32) (x3 : Int32) (R : Int32 × Mem) (h : OH_square m x1 x2 x3 = some R) : Mt M_OH_square [.ref 0, .int x1, .int x2, .int x3] m (qI R.1 R.2) := by
  refine Mt.of G_OH_square (Nat.le_of_ble_eq_true rfl) (E_sub (lv' := [(0, .ref 0), (1, .int x1), (2, .int x2), (3, .int x3)]) [0, 1, 2, 3] rfl ?_)
  unfold OH_square at h
  refine E_aload_n (n := 1) 0 rfl rfl rfl 0 rfl <| E_gN (n := 4) 1 rfl rfl fg_11_92 sh_0 (Or.inl rfl) fun hN1 => E_iload_n (n := 5) 2 rfl rfl rfl 1 rfl <| E_cV1r (n := 8) 3 rfl rfl co_11_173 rfl hN1 rfl (K_PH_hasLine m (gN m 13) x1 hN1 _ rfl) <| E_if_eq (n := 11) (t := 19) 4 rfl rfl rfl (fun hc => ?_) (fun hc => ?_)
  · have h := ifp h hc
    refine E_iconst (v := (-1)) (n := 20) 9 rfl rfl icz_m1 <| E_ireturn 10 rfl rfl (eS h)
  · have h := ifn h hc
    refine E_iload_n (n := 12) 5 rfl rfl rfl 2 rfl <| E_iload_n (n := 13) 6 rfl rfl rfl 3 rfl <| E_dS2r (n := 16) 7 rfl rfl co_11_203 rfl rfl (K_OH_isSquare m x2 x3 _ rfl) <| E_if_ne (n := 19) (t := 21) 8 rfl rfl rfl (fun hc => ?_) (fun hc => ?_)
    · have h := ifn h hc
      obtain ⟨m2, hq3, h⟩ := bM_ex h
      obtain ⟨hc4, h⟩ := ift h
      refine E_aload_n (n := 22) 11 rfl rfl rfl 0 rfl <| E_iload_n (n := 23) 12 rfl rfl rfl 1 rfl <| E_cV1v (n := 26) 13 rfl rfl co_11_206 rfl sh_0 rfl (K_OH_survey m x1 _ hq3) <| E_aload_n (n := 27) 14 rfl rfl rfl 0 rfl <| E_gF (r := 5) (n := 30) 15 rfl rfl fg_11_26 sh_0 rfl <| E_gF (r := 6) (n := 33) 16 rfl rfl fg_11_209 sh_5 rfl <| E_iload_n (n := 34) 17 rfl rfl rfl 2 rfl <| E_iload_n (n := 35) 18 rfl rfl rfl 3 rfl <| E_dS2r (n := 38) 19 rfl rfl co_11_212 rfl rfl (K_OH_squareAt m2 x2 x3 _ rfl) <| E_iald (n := 39) 20 rfl rfl sh_6 hc4 <| E_ireturn 21 rfl rfl (eS h)
    · have h := ifp h hc
      refine E_iconst (v := (-1)) (n := 20) 9 rfl rfl icz_m1 <| E_ireturn 10 rfl rfl (eS h)
theorem GR_area_L4_ok (m : Mem) (x0 : Nat) (h_x0 : shp x0 = (1, 0)) (kx : Int32 → Option Int32) (R : Int32) (hx : ∀ (x1 : Int32), kx x1 = some R → E M_GR_area 26 [(1, .int x1)] [] m (qI R m)) : ∀ (n : Nat) (x1 : Int32) (x2 : Int32), GR_area_L4 m x0 kx n x1 x2 = some R → E M_GR_area 4 [(0, .ref x0), (1, .int x1), (2, .int x2)] [] m (qI R m) := by
  intro n
  induction n with
  | zero =>
    intro x1 x2 h
    exact absurd (show none = some R from h) (fun e => Option.some_ne_none R e.symm)
  | succ n ih =>
    intro x1 x2 h
    rw [GR_area_L4] at h
    refine E_iload_n (n := 5) 4 rfl rfl rfl 2 rfl <| E_sipush (v := 400) (n := 8) 5 rfl rfl spz_400 <| E_icmp_ge (n := 11) (t := 26) 6 rfl rfl rfl (fun hc => ?_) (fun hc => ?_)
    · have h := ifp h hc
      refine E_sub (lv' := [(1, .int x1)]) [1] rfl ?_
      exact hx x1 h
    · have h := ifn h hc
      obtain ⟨hc1, h⟩ := ift h
      obtain ⟨v2, hv2, h⟩ := letV_ex h
      refine E_iload_n (n := 12) 7 rfl rfl rfl 1 rfl <| E_aload_n (n := 13) 8 rfl rfl rfl 0 rfl <| E_gF (r := (x0 + 1)) (n := 16) 9 rfl rfl fg_1_9 h_x0 rfl <| E_iload_n (n := 17) 10 rfl rfl rfl 2 rfl <| E_iald (n := 18) 11 rfl rfl (shc_1_0 h_x0) hc1 <| E_iadd (n := 19) 12 rfl rfl <| E_top hv2 <| E_istore_n (lv' := [(0, .ref x0), (1, .int v2), (2, .int x2)]) (n := 20) 13 rfl rfl rfl (Nat.le_of_ble_eq_true rfl) [1, 0, 2] rfl <| E_iinc (v := (x2 + 1)) (lv' := [(0, .ref x0), (1, .int v2), (2, .int (x2 + 1))]) (n := 23) 14 rfl rfl 2 rfl (by rw [icz_1]) (Nat.le_of_ble_eq_true rfl) [1, 2, 0] rfl <| E_goto (t := 4) 15 rfl rfl <| ?_
      exact ih v2 (x2 + 1) h
theorem K_GR_area (m : Mem) (x0 : Nat) (h_x0 : shp x0 = (1, 0)) (R : Int32) (h : GR_area m x0 = some R) : Mt M_GR_area [.ref x0] m (qI R m) := by
  refine Mt.of G_GR_area (Nat.le_of_ble_eq_true rfl) (E_sub (lv' := [(0, .ref x0)]) [0] rfl ?_)
  unfold GR_area at h
  refine E_iconst (v := 0) (n := 1) 0 rfl rfl icz_0 <| E_istore_n (lv' := [(0, .ref x0), (1, .int 0)]) (n := 2) 1 rfl rfl rfl (Nat.le_of_ble_eq_true rfl) [1, 0] rfl <| E_iconst (v := 0) (n := 3) 2 rfl rfl icz_0 <| E_istore_n (lv' := [(0, .ref x0), (1, .int 0), (2, .int 0)]) (n := 4) 3 rfl rfl rfl (Nat.le_of_ble_eq_true rfl) [1, 2, 0] rfl <| ?_
  refine GR_area_L4_ok m x0 h_x0 _ R ?_ FU 0 0 h
  intro y1 h
  refine E_iload_n (n := 27) 16 rfl rfl rfl 0 rfl <| E_ireturn 17 rfl rfl (eP h)
theorem K_OH_acres (m : Mem) (x1 : Int32) (R : Int32 × Mem) (h : OH_acres m x1 = some R) : Mt M_OH_acres [.ref 0, .int x1] m (qI R.1 R.2) := by
  refine Mt.of G_OH_acres (Nat.le_of_ble_eq_true rfl) (E_sub (lv' := [(0, .ref 0), (1, .int x1)]) [0, 1] rfl ?_)
  unfold OH_acres at h
  refine E_aload_n (n := 1) 0 rfl rfl rfl 0 rfl <| E_gN (n := 4) 1 rfl rfl fg_11_92 sh_0 (Or.inl rfl) fun hN1 => E_iload_n (n := 5) 2 rfl rfl rfl 1 rfl <| E_cV1r (n := 8) 3 rfl rfl co_11_173 rfl hN1 rfl (K_PH_hasLine m (gN m 13) x1 hN1 _ rfl) <| E_if_ne (n := 11) (t := 13) 4 rfl rfl rfl (fun hc => ?_) (fun hc => ?_)
  · have h := ifn h hc
    obtain ⟨m2, hq3, h⟩ := bM_ex h
    obtain ⟨v4, hq5, h⟩ := bI_ex h
    refine E_aload_n (n := 14) 7 rfl rfl rfl 0 rfl <| E_iload_n (n := 15) 8 rfl rfl rfl 1 rfl <| E_cV1v (n := 18) 9 rfl rfl co_11_206 rfl sh_0 rfl (K_OH_survey m x1 _ hq3) <| E_aload_n (n := 19) 10 rfl rfl rfl 0 rfl <| E_gF (r := 5) (n := 22) 11 rfl rfl fg_11_26 sh_0 rfl <| E_cV0r (n := 25) 12 rfl rfl co_11_215 rfl sh_5 rfl (K_GR_area m2 5 sh_5 _ hq5) <| E_ireturn 13 rfl rfl (eS h)
  · have h := ifp h hc
    refine E_iconst (v := (-1)) (n := 12) 5 rfl rfl icz_m1 <| E_ireturn 6 rfl rfl (eS h)
theorem K_OH_stepFrom (m : Mem) (x0 : Int32) (x1 : Int32) (R : Int32) (h : OH_stepFrom x0 x1 = R) : Mt M_OH_stepFrom [.int x0, .int x1] m (qI R m) := by
  refine Mt.of G_OH_stepFrom (Nat.le_of_ble_eq_true rfl) (E_sub (lv' := [(0, .int x0), (1, .int x1)]) [0, 1] rfl ?_)
  unfold OH_stepFrom at h
  refine E_iload_n (n := 1) 0 rfl rfl rfl 1 rfl <| ?_
  by_cases hc1 : x1 = 0
  · have h := ifp h hc1
    refine E_tabIn (off := 31) (t := 32) 1 rfl (by rw [hc1]; decide) (by rw [hc1]; decide) (by rw [hc1]; rfl) rfl ?_
    refine E_iload_n (n := 33) 2 rfl rfl rfl 0 rfl <| E_bipush (v := 20) (n := 35) 3 rfl rfl bpz_20 <| E_icmp_lt (n := 38) (t := 45) 4 rfl rfl rfl (fun hc => ?_) (fun hc => ?_)
    · have h := ifp h hc
      refine E_iconst (v := (-1)) (n := 46) 9 rfl rfl icz_m1 <| ?_
      refine E_ireturn 10 rfl rfl (eT h)
    · have h := ifn h hc
      refine E_iload_n (n := 39) 5 rfl rfl rfl 0 rfl <| E_bipush (v := 20) (n := 41) 6 rfl rfl bpz_20 <| E_isub (n := 42) 7 rfl rfl <| E_goto (t := 46) 8 rfl rfl <| ?_
      refine E_ireturn 10 rfl rfl (eT h)
  have h := ifn h hc1
  by_cases hc2 : x1 = 1
  · have h := ifp h hc2
    refine E_tabIn (off := 46) (t := 47) 1 rfl (by rw [hc2]; decide) (by rw [hc2]; decide) (by rw [hc2]; rfl) rfl ?_
    refine E_iload_n (n := 48) 11 rfl rfl rfl 0 rfl <| E_bipush (v := 20) (n := 50) 12 rfl rfl bpz_20 <| E_irm (n := 51) 13 rfl rfl (by decide) <| E_bipush (v := 19) (n := 53) 14 rfl rfl bpz_19 <| E_icmp_ge (n := 56) (t := 62) 15 rfl rfl rfl (fun hc => ?_) (fun hc => ?_)
    · have h := ifp h hc
      refine E_iconst (v := (-1)) (n := 63) 20 rfl rfl icz_m1 <| ?_
      refine E_ireturn 21 rfl rfl (eT h)
    · have h := ifn h hc
      refine E_iload_n (n := 57) 16 rfl rfl rfl 0 rfl <| E_iconst (v := 1) (n := 58) 17 rfl rfl icz_1 <| E_iadd (n := 59) 18 rfl rfl <| E_goto (t := 63) 19 rfl rfl <| ?_
      refine E_ireturn 21 rfl rfl (eT h)
  have h := ifn h hc2
  by_cases hc3 : x1 = 2
  · have h := ifp h hc3
    refine E_tabIn (off := 63) (t := 64) 1 rfl (by rw [hc3]; decide) (by rw [hc3]; decide) (by rw [hc3]; rfl) rfl ?_
    refine E_iload_n (n := 65) 22 rfl rfl rfl 0 rfl <| E_sipush (v := 380) (n := 68) 23 rfl rfl spz_380 <| E_icmp_ge (n := 71) (t := 78) 24 rfl rfl rfl (fun hc => ?_) (fun hc => ?_)
    · have h := ifp h hc
      refine E_iconst (v := (-1)) (n := 79) 29 rfl rfl icz_m1 <| ?_
      refine E_ireturn 30 rfl rfl (eT h)
    · have h := ifn h hc
      refine E_iload_n (n := 72) 25 rfl rfl rfl 0 rfl <| E_bipush (v := 20) (n := 74) 26 rfl rfl bpz_20 <| E_iadd (n := 75) 27 rfl rfl <| E_goto (t := 79) 28 rfl rfl <| ?_
      refine E_ireturn 30 rfl rfl (eT h)
  have h := ifn h hc3
  by_cases hc4 : x1 = 3
  · have h := ifp h hc4
    refine E_tabIn (off := 79) (t := 80) 1 rfl (by rw [hc4]; decide) (by rw [hc4]; decide) (by rw [hc4]; rfl) rfl ?_
    refine E_iload_n (n := 81) 31 rfl rfl rfl 0 rfl <| E_bipush (v := 20) (n := 83) 32 rfl rfl bpz_20 <| E_irm (n := 84) 33 rfl rfl (by decide) <| E_if_le (n := 87) (t := 93) 34 rfl rfl rfl (fun hc => ?_) (fun hc => ?_)
    · have h := ifp h hc
      refine E_iconst (v := (-1)) (n := 94) 39 rfl rfl icz_m1 <| ?_
      refine E_ireturn 40 rfl rfl (eT h)
    · have h := ifn h hc
      refine E_iload_n (n := 88) 35 rfl rfl rfl 0 rfl <| E_iconst (v := 1) (n := 89) 36 rfl rfl icz_1 <| E_isub (n := 90) 37 rfl rfl <| E_goto (t := 94) 38 rfl rfl <| ?_
      refine E_ireturn 40 rfl rfl (eT h)
  have h := ifn h hc4
  refine E_tabOut (t := 95) 1 rfl (tabo (by decide) (by decide) (fun z h1 h2 => ?_)) rfl ?_
  · have h3 : z = 0 ∨ z = 1 ∨ z = 2 ∨ z = 3 := by omega
    rcases h3 with rfl | rfl | rfl | rfl
    · exact hc1
    · exact hc2
    · exact hc3
    · exact hc4
  · refine E_iconst (v := (-1)) (n := 96) 41 rfl rfl icz_m1 <| E_ireturn 42 rfl rfl (eT h)
theorem GR_fences_L13_ok (m : Mem) (x0 : Nat) (x2 : Int32) (h_x0 : shp x0 = (1, 0)) (kx : Int32 → Option Int32) (R : Int32) (hx : ∀ (x1 : Int32), kx x1 = some R → E M_GR_fences 58 [(0, .ref x0), (1, .int x1), (2, .int x2)] [] m (qI R m)) : ∀ (n : Nat) (x1 : Int32) (x3 : Int32), GR_fences_L13 m x0 x2 kx n x1 x3 = some R → E M_GR_fences 13 [(0, .ref x0), (1, .int x1), (2, .int x2), (3, .int x3)] [] m (qI R m) := by
  intro n
  induction n with
  | zero =>
    intro x1 x3 h
    exact absurd (show none = some R from h) (fun e => Option.some_ne_none R e.symm)
  | succ n ih =>
    intro x1 x3 h
    rw [GR_fences_L13] at h
    refine E_iload_n (n := 14) 9 rfl rfl rfl 3 rfl <| E_iconst (v := 3) (n := 15) 10 rfl rfl icz_3 <| E_icmp_gt (n := 18) (t := 58) 11 rfl rfl rfl (fun hc => ?_) (fun hc => ?_)
    · have h := ifp h hc
      refine E_sub (lv' := [(0, .ref x0), (1, .int x1), (2, .int x2)]) [0, 1, 2] rfl ?_
      exact hx x1 h
    · have h := ifn h hc
      obtain ⟨hc1, h⟩ := ift h
      refine E_aload_n (n := 19) 12 rfl rfl rfl 0 rfl <| E_gF (r := (x0 + 1)) (n := 22) 13 rfl rfl fg_1_9 h_x0 rfl <| E_iload_n (n := 23) 14 rfl rfl rfl 2 rfl <| E_iald (n := 24) 15 rfl rfl (shc_1_0 h_x0) hc1 <| E_if_eq (n := 27) (t := 58) 16 rfl rfl rfl (fun hc => ?_) (fun hc => ?_)
      · have h := ifp h hc
        refine E_sub (lv' := [(0, .ref x0), (1, .int x1), (2, .int x2)]) [0, 1, 2] rfl ?_
        exact hx x1 h
      · have h := ifn h hc
        obtain ⟨v2, hv2, h⟩ := letV_ex h
        refine E_iload_n (n := 28) 17 rfl rfl rfl 2 rfl <| E_iload_n (n := 29) 18 rfl rfl rfl 3 rfl <| E_dN2r (n := 32) 19 rfl rfl co_1_77 rfl rfl (K_OH_stepFrom m x2 x3 _ rfl) <| E_top hv2 <| E_istore (lv' := [(0, .ref x0), (1, .int x1), (2, .int x2), (3, .int x3), (4, .int v2)]) (n := 34) 20 rfl rfl (Nat.le_of_ble_eq_true rfl) [1, 2, 3, 4, 0] rfl <| E_iload (n := 36) 21 rfl rfl 4 rfl <| E_if_lt (n := 39) (t := 49) 22 rfl rfl rfl (fun hc => ?_) (fun hc => ?_)
        · have h := ifp h hc
          refine E_iinc (v := (x1 + 1)) (lv' := [(0, .ref x0), (1, .int (x1 + 1)), (2, .int x2), (3, .int x3), (4, .int v2)]) (n := 52) 28 rfl rfl 1 rfl (by rw [icz_1]) (Nat.le_of_ble_eq_true rfl) [1, 0, 2, 3, 4] rfl <| ?_
          refine E_iinc (v := (x3 + 1)) (lv' := [(0, .ref x0), (1, .int (x1 + 1)), (2, .int x2), (3, .int (x3 + 1)), (4, .int v2)]) (n := 55) 29 rfl rfl 3 rfl (by rw [icz_1]) (Nat.le_of_ble_eq_true rfl) [1, 2, 3, 0, 4] rfl <| E_goto (t := 13) 30 rfl rfl <| ?_
          refine E_sub (lv' := [(0, .ref x0), (1, .int (x1 + 1)), (2, .int x2), (3, .int (x3 + 1))]) [0, 1, 2, 3] rfl ?_
          exact ih (x1 + 1) (x3 + 1) h
        · have h := ifn h hc
          obtain ⟨hc3, h⟩ := ift h
          refine E_aload_n (n := 40) 23 rfl rfl rfl 0 rfl <| E_gF (r := (x0 + 1)) (n := 43) 24 rfl rfl fg_1_9 h_x0 rfl <| E_iload (n := 45) 25 rfl rfl 4 rfl <| E_iald (n := 46) 26 rfl rfl (shc_1_0 h_x0) hc3 <| E_if_ne (n := 49) (t := 52) 27 rfl rfl rfl (fun hc => ?_) (fun hc => ?_)
          · have h := ifn h hc
            refine E_iinc (v := (x3 + 1)) (lv' := [(0, .ref x0), (1, .int x1), (2, .int x2), (3, .int (x3 + 1)), (4, .int v2)]) (n := 55) 29 rfl rfl 3 rfl (by rw [icz_1]) (Nat.le_of_ble_eq_true rfl) [1, 2, 3, 0, 4] rfl <| E_goto (t := 13) 30 rfl rfl <| ?_
            refine E_sub (lv' := [(0, .ref x0), (1, .int x1), (2, .int x2), (3, .int (x3 + 1))]) [0, 1, 2, 3] rfl ?_
            exact ih x1 (x3 + 1) h
          · have h := ifp h hc
            refine E_iinc (v := (x1 + 1)) (lv' := [(0, .ref x0), (1, .int (x1 + 1)), (2, .int x2), (3, .int x3), (4, .int v2)]) (n := 52) 28 rfl rfl 1 rfl (by rw [icz_1]) (Nat.le_of_ble_eq_true rfl) [1, 0, 2, 3, 4] rfl <| ?_
            refine E_iinc (v := (x3 + 1)) (lv' := [(0, .ref x0), (1, .int (x1 + 1)), (2, .int x2), (3, .int (x3 + 1)), (4, .int v2)]) (n := 55) 29 rfl rfl 3 rfl (by rw [icz_1]) (Nat.le_of_ble_eq_true rfl) [1, 2, 3, 0, 4] rfl <| E_goto (t := 13) 30 rfl rfl <| ?_
            refine E_sub (lv' := [(0, .ref x0), (1, .int (x1 + 1)), (2, .int x2), (3, .int (x3 + 1))]) [0, 1, 2, 3] rfl ?_
            exact ih (x1 + 1) (x3 + 1) h
theorem GR_fences_L4_ok (m : Mem) (x0 : Nat) (h_x0 : shp x0 = (1, 0)) (kx : Int32 → Option Int32) (R : Int32) (hx : ∀ (x1 : Int32), kx x1 = some R → E M_GR_fences 64 [(1, .int x1)] [] m (qI R m)) : ∀ (n : Nat) (x1 : Int32) (x2 : Int32), GR_fences_L4 m x0 kx n x1 x2 = some R → E M_GR_fences 4 [(0, .ref x0), (1, .int x1), (2, .int x2)] [] m (qI R m) := by
  intro n
  induction n with
  | zero =>
    intro x1 x2 h
    exact absurd (show none = some R from h) (fun e => Option.some_ne_none R e.symm)
  | succ n ih =>
    intro x1 x2 h
    rw [GR_fences_L4] at h
    refine E_iload_n (n := 5) 4 rfl rfl rfl 2 rfl <| E_sipush (v := 400) (n := 8) 5 rfl rfl spz_400 <| E_icmp_ge (n := 11) (t := 64) 6 rfl rfl rfl (fun hc => ?_) (fun hc => ?_)
    · have h := ifp h hc
      refine E_sub (lv' := [(1, .int x1)]) [1] rfl ?_
      exact hx x1 h
    · have h := ifn h hc
      refine E_iconst (v := 0) (n := 12) 7 rfl rfl icz_0 <| E_istore_n (lv' := [(0, .ref x0), (1, .int x1), (2, .int x2), (3, .int 0)]) (n := 13) 8 rfl rfl rfl (Nat.le_of_ble_eq_true rfl) [1, 2, 3, 0] rfl <| ?_
      refine GR_fences_L13_ok m x0 x2 h_x0 _ R ?_ FU x1 0 h
      intro y1 h
      refine E_iinc (v := (x2 + 1)) (lv' := [(0, .ref x0), (1, .int y1), (2, .int (x2 + 1))]) (n := 61) 31 rfl rfl 2 rfl (by rw [icz_1]) (Nat.le_of_ble_eq_true rfl) [1, 2, 0] rfl <| E_goto (t := 4) 32 rfl rfl <| ?_
      exact ih y1 (x2 + 1) h
theorem K_GR_fences (m : Mem) (x0 : Nat) (h_x0 : shp x0 = (1, 0)) (R : Int32) (h : GR_fences m x0 = some R) : Mt M_GR_fences [.ref x0] m (qI R m) := by
  refine Mt.of G_GR_fences (Nat.le_of_ble_eq_true rfl) (E_sub (lv' := [(0, .ref x0)]) [0] rfl ?_)
  unfold GR_fences at h
  refine E_iconst (v := 0) (n := 1) 0 rfl rfl icz_0 <| E_istore_n (lv' := [(0, .ref x0), (1, .int 0)]) (n := 2) 1 rfl rfl rfl (Nat.le_of_ble_eq_true rfl) [1, 0] rfl <| E_iconst (v := 0) (n := 3) 2 rfl rfl icz_0 <| E_istore_n (lv' := [(0, .ref x0), (1, .int 0), (2, .int 0)]) (n := 4) 3 rfl rfl rfl (Nat.le_of_ble_eq_true rfl) [1, 2, 0] rfl <| ?_
  refine GR_fences_L4_ok m x0 h_x0 _ R ?_ FU 0 0 h
  intro y1 h
  refine E_iload_n (n := 65) 33 rfl rfl rfl 0 rfl <| E_ireturn 34 rfl rfl (eP h)
theorem K_OH_border (m : Mem) (x1 : Int32) (R : Int32 × Mem) (h : OH_border m x1 = some R) : Mt M_OH_border [.ref 0, .int x1] m (qI R.1 R.2) := by
  refine Mt.of G_OH_border (Nat.le_of_ble_eq_true rfl) (E_sub (lv' := [(0, .ref 0), (1, .int x1)]) [0, 1] rfl ?_)
  unfold OH_border at h
  refine E_aload_n (n := 1) 0 rfl rfl rfl 0 rfl <| E_gN (n := 4) 1 rfl rfl fg_11_92 sh_0 (Or.inl rfl) fun hN1 => E_iload_n (n := 5) 2 rfl rfl rfl 1 rfl <| E_cV1r (n := 8) 3 rfl rfl co_11_173 rfl hN1 rfl (K_PH_hasLine m (gN m 13) x1 hN1 _ rfl) <| E_if_ne (n := 11) (t := 13) 4 rfl rfl rfl (fun hc => ?_) (fun hc => ?_)
  · have h := ifn h hc
    obtain ⟨m2, hq3, h⟩ := bM_ex h
    obtain ⟨v4, hq5, h⟩ := bI_ex h
    refine E_aload_n (n := 14) 7 rfl rfl rfl 0 rfl <| E_iload_n (n := 15) 8 rfl rfl rfl 1 rfl <| E_cV1v (n := 18) 9 rfl rfl co_11_206 rfl sh_0 rfl (K_OH_survey m x1 _ hq3) <| E_aload_n (n := 19) 10 rfl rfl rfl 0 rfl <| E_gF (r := 5) (n := 22) 11 rfl rfl fg_11_26 sh_0 rfl <| E_cV0r (n := 25) 12 rfl rfl co_11_218 rfl sh_5 rfl (K_GR_fences m2 5 sh_5 _ hq5) <| E_ireturn 13 rfl rfl (eS h)
  · have h := ifp h hc
    refine E_iconst (v := (-1)) (n := 12) 5 rfl rfl icz_m1 <| E_ireturn 6 rfl rfl (eS h)
theorem OH_within_L40_ok (m : Mem) (x2 : Int32) (x3 : Nat) (h_x3 : shp x3 = (2, 0)) (kx : Int32 → Option Int32) (R : Int32) (hx : ∀ (x4 : Int32), kx x4 = some R → E M_OH_within 84 [(4, .int x4)] [] m (qI R m)) : ∀ (n : Nat) (x4 : Int32) (x5 : Int32), OH_within_L40 m x2 x3 kx n x4 x5 = some R → E M_OH_within 40 [(0, .ref 0), (2, .int x2), (3, .ref x3), (4, .int x4), (5, .int x5)] [] m (qI R m) := by
  intro n
  induction n with
  | zero =>
    intro x4 x5 h
    exact absurd (show none = some R from h) (fun e => Option.some_ne_none R e.symm)
  | succ n ih =>
    intro x4 x5 h
    rw [OH_within_L40] at h
    refine E_iload (n := 42) 22 rfl rfl 4 rfl <| E_aload_n (n := 43) 23 rfl rfl rfl 2 rfl <| E_gI (n := 46) 24 rfl rfl fg_11_176 h_x3 <| E_icmp_ge (n := 49) (t := 84) 25 rfl rfl rfl (fun hc => ?_) (fun hc => ?_)
    · have h := ifp h hc
      refine E_sub (lv' := [(4, .int x4)]) [3] rfl ?_
      exact hx x4 h
    · have h := ifn h hc
      obtain ⟨hc2, h⟩ := ift h
      obtain ⟨v3, hq4, h⟩ := bI_ex h
      obtain ⟨v5, hv5, h⟩ := letV_ex h
      refine E_iload (n := 51) 26 rfl rfl 3 rfl <| E_aload_n (n := 52) 27 rfl rfl rfl 0 rfl <| E_gN (n := 55) 28 rfl rfl fg_11_92 sh_0 (Or.inl rfl) fun hN1 => E_iload_n (n := 56) 29 rfl rfl rfl 1 rfl <| E_aload_n (n := 57) 30 rfl rfl rfl 2 rfl <| E_gF (r := (x3 + 1)) (n := 60) 31 rfl rfl fg_11_142 h_x3 rfl <| E_iload (n := 62) 32 rfl rfl 4 rfl <| E_iald (n := 63) 33 rfl rfl (shc_2_2 h_x3) hc2 <| E_aload_n (n := 64) 34 rfl rfl rfl 2 rfl <| E_gF (r := (x3 + 2)) (n := 67) 35 rfl rfl fg_11_145 h_x3 rfl <| E_iload (n := 69) 36 rfl rfl 4 rfl <| E_iald (n := 70) 37 rfl rfl (shc_2_3 h_x3) hc2 <| E_cV3r (n := 73) 38 rfl rfl co_11_192 rfl hN1 rfl (K_PH_ownerOf m (gN m 13) x2 (gI m (x3 + 1) (ixn x5)) (gI m (x3 + 2) (ixn x5)) hN1 _ hq4) <| E_iconst (v := 1) (n := 74) 39 rfl rfl icz_1 <| E_iand (n := 75) 40 rfl rfl <| E_iadd (n := 76) 41 rfl rfl <| E_top hv5 <| E_istore (lv' := [(0, .ref 0), (2, .int x2), (3, .ref x3), (4, .int v5), (5, .int x5)]) (n := 78) 42 rfl rfl (Nat.le_of_ble_eq_true rfl) [1, 2, 3, 0, 4] rfl <| E_iinc (v := (x5 + 1)) (lv' := [(0, .ref 0), (2, .int x2), (3, .ref x3), (4, .int v5), (5, .int (x5 + 1))]) (n := 81) 43 rfl rfl 4 rfl (by rw [icz_1]) (Nat.le_of_ble_eq_true rfl) [1, 2, 3, 4, 0] rfl <| E_goto (t := 40) 44 rfl rfl <| ?_
      exact ih v5 (x5 + 1) h
theorem K_OH_within (m : Mem) (x1 : Int32) (x2 : Int32) (R : Int32) (h : OH_within m x1 x2 = some R) : Mt M_OH_within [.ref 0, .int x1, .int x2] m (qI R m) := by
  refine Mt.of G_OH_within (Nat.le_of_ble_eq_true rfl) (E_sub (lv' := [(0, .ref 0), (1, .int x1), (2, .int x2)]) [0, 1, 2] rfl ?_)
  unfold OH_within at h
  refine E_aload_n (n := 1) 0 rfl rfl rfl 0 rfl <| E_gN (n := 4) 1 rfl rfl fg_11_92 sh_0 (Or.inl rfl) fun hN1 => E_iload_n (n := 5) 2 rfl rfl rfl 1 rfl <| E_cV1r (n := 8) 3 rfl rfl co_11_173 rfl hN1 rfl (K_PH_hasLine m (gN m 13) x1 hN1 _ rfl) <| E_if_eq (n := 11) (t := 22) 4 rfl rfl rfl (fun hc => ?_) (fun hc => ?_)
  · have h := ifp h hc
    refine E_iconst (v := (-1)) (n := 23) 10 rfl rfl icz_m1 <| E_ireturn 11 rfl rfl (eP h)
  · have h := ifn h hc
    refine E_aload_n (n := 12) 5 rfl rfl rfl 0 rfl <| E_gN (n := 15) 6 rfl rfl fg_11_92 sh_0 (Or.inl rfl) fun hN2 => E_iload_n (n := 16) 7 rfl rfl rfl 2 rfl <| E_cV1r (n := 19) 8 rfl rfl co_11_173 rfl hN2 rfl (K_PH_hasLine m (gN m 13) x2 hN2 _ rfl) <| E_if_ne (n := 22) (t := 24) 9 rfl rfl rfl (fun hc => ?_) (fun hc => ?_)
    · have h := ifn h hc
      obtain ⟨hc4, h⟩ := ift h
      refine E_aload_n (n := 25) 12 rfl rfl rfl 0 rfl <| E_gN (n := 28) 13 rfl rfl fg_11_92 sh_0 (Or.inl rfl) fun hN3 => E_gF (r := ((gN m 13) + 1)) (n := 31) 14 rfl rfl fg_11_138 hN3 rfl <| E_iload_n (n := 32) 15 rfl rfl rfl 1 rfl <| E_aL (r := ((gN m 13) + 2 + 3 * ixn x1)) (n := 33) 16 rfl rfl (shc_5_0 hN3) hc4 rfl <| E_astore_n (lv' := [(0, .ref 0), (1, .int x1), (2, .int x2), (3, .ref ((gN m 13) + 2 + 3 * ixn x1))]) (n := 34) 17 rfl rfl rfl (Nat.le_of_ble_eq_true rfl) [1, 2, 3, 0] rfl <| E_iconst (v := 0) (n := 35) 18 rfl rfl icz_0 <| E_istore (lv' := [(0, .ref 0), (1, .int x1), (2, .int x2), (3, .ref ((gN m 13) + 2 + 3 * ixn x1)), (4, .int 0)]) (n := 37) 19 rfl rfl (Nat.le_of_ble_eq_true rfl) [1, 2, 3, 4, 0] rfl <| E_iconst (v := 0) (n := 38) 20 rfl rfl icz_0 <| E_istore (lv' := [(0, .ref 0), (1, .int x1), (2, .int x2), (3, .ref ((gN m 13) + 2 + 3 * ixn x1)), (4, .int 0), (5, .int 0)]) (n := 40) 21 rfl rfl (Nat.le_of_ble_eq_true rfl) [1, 2, 3, 4, 5, 0] rfl <| ?_
      refine E_sub (lv' := [(0, .ref 0), (2, .int x2), (3, .ref ((gN m 13) + 2 + 3 * ixn x1)), (4, .int 0), (5, .int 0)]) [0, 2, 3, 4, 5] rfl ?_
      refine OH_within_L40_ok m x2 ((gN m 13) + 2 + 3 * ixn x1) (shln hN3 hc4) _ R ?_ FU 0 0 h
      intro y5 h
      refine E_iload (n := 86) 45 rfl rfl 0 rfl <| E_ireturn 46 rfl rfl (eP h)
    · have h := ifp h hc
      refine E_iconst (v := (-1)) (n := 23) 10 rfl rfl icz_m1 <| E_ireturn 11 rfl rfl (eP h)
theorem K_OH_hearPoint (m : Mem) (x1 : Int32) (x2 : Int32) (R : Int32 × Mem) (h : OH_hearPoint m x1 x2 = some R) : Mt M_OH_hearPoint [.ref 0, .int x1, .int x2] m (qI R.1 R.2) := by
  refine Mt.of G_OH_hearPoint (Nat.le_of_ble_eq_true rfl) (E_sub (lv' := [(0, .ref 0), (1, .int x1), (2, .int x2)]) [0, 1, 2] rfl ?_)
  unfold OH_hearPoint at h
  refine E_iload_n (n := 1) 0 rfl rfl rfl 2 rfl <| E_bipush (v := 30) (n := 3) 1 rfl rfl bpz_30 <| E_icmp_lt (n := 6) (t := 15) 2 rfl rfl rfl (fun hc => ?_) (fun hc => ?_)
  · have h := ifp h hc
    obtain ⟨v1, m2, hq3, h⟩ := bV_ex h
    refine E_aload_n (n := 16) 8 rfl rfl rfl 0 rfl <| E_gF (r := 1) (n := 19) 9 rfl rfl fg_11_12 sh_0 rfl <| E_iconst (v := 0) (n := 20) 10 rfl rfl icz_0 <| E_bipush (v := 20) (n := 22) 11 rfl rfl bpz_20 <| E_cV2r (n := 25) 12 rfl rfl co_11_393 rfl sh_1 rfl (K_RD_readNumber m 0 20 _ hq3) <| E_if_ne (n := 28) (t := 30) 13 rfl rfl rfl (fun hc => ?_) (fun hc => ?_)
    · have h := ifn h hc
      obtain ⟨v4, hv4, h⟩ := letV_ex h
      obtain ⟨v5, m6, hq7, h⟩ := bV_ex h
      refine E_aload_n (n := 31) 16 rfl rfl rfl 0 rfl <| E_gF (r := 1) (n := 34) 17 rfl rfl fg_11_12 sh_0 rfl <| E_gI (n := 37) 18 rfl rfl fg_11_396 sh_1 <| E_top hv4 <| E_istore_n (lv' := [(0, .ref 0), (1, .int x1), (2, .int x2), (3, .int v4)]) (n := 38) 19 rfl rfl rfl (Nat.le_of_ble_eq_true rfl) [1, 2, 3, 0] rfl <| E_aload_n (n := 39) 20 rfl rfl rfl 0 rfl <| E_gF (r := 1) (n := 42) 21 rfl rfl fg_11_12 sh_0 rfl <| E_iconst (v := 0) (n := 43) 22 rfl rfl icz_0 <| E_bipush (v := 20) (n := 45) 23 rfl rfl bpz_20 <| E_cV2r (n := 48) 24 rfl rfl co_11_393 rfl sh_1 rfl (K_RD_readNumber m2 0 20 _ hq7) <| E_if_ne (n := 51) (t := 53) 25 rfl rfl rfl (fun hc => ?_) (fun hc => ?_)
      · have h := ifn h hc
        obtain ⟨v9, hq10, h⟩ := bI_ex h
        obtain ⟨v11, m12, hq13, h⟩ := bV_ex h
        refine E_aload_n (n := 54) 28 rfl rfl rfl 0 rfl <| E_gN (n := 57) 29 rfl rfl fg_11_92 sh_0 (Or.inl rfl) fun hN8 => E_iload_n (n := 58) 30 rfl rfl rfl 1 rfl <| E_iload_n (n := 59) 31 rfl rfl rfl 3 rfl <| E_aload_n (n := 60) 32 rfl rfl rfl 0 rfl <| E_gF (r := 1) (n := 63) 33 rfl rfl fg_11_12 sh_0 rfl <| E_gI (n := 66) 34 rfl rfl fg_11_396 sh_1 <| E_cV3r (n := 69) 35 rfl rfl co_11_192 rfl hN8 rfl (K_PH_ownerOf m6 (gN m6 13) x1 v4 (gI m6 1 7) hN8 _ hq10) <| E_istore (lv' := [(0, .ref 0), (1, .int x1), (2, .int x2), (3, .int v4), (4, .int v9)]) (n := 71) 36 rfl rfl (Nat.le_of_ble_eq_true rfl) [1, 2, 3, 4, 0] rfl <| E_aload_n (n := 72) 37 rfl rfl rfl 0 rfl <| E_gF (r := 1) (n := 75) 38 rfl rfl fg_11_12 sh_0 rfl <| E_bipush (v := 7) (n := 77) 39 rfl rfl bpz_7 <| E_bipush (v := 9) (n := 79) 40 rfl rfl bpz_9 <| E_cV2r (n := 82) 41 rfl rfl co_11_399 rfl sh_1 rfl (K_RD_readWord m6 7 9 _ hq13) <| E_if_ne (n := 85) (t := 87) 42 rfl rfl rfl (fun hc => ?_) (fun hc => ?_)
        · have h := ifn h hc
          refine E_aload_n (n := 88) 45 rfl rfl rfl 0 rfl <| E_gF (r := 1) (n := 91) 46 rfl rfl fg_11_12 sh_0 rfl <| E_gI (n := 94) 47 rfl rfl fg_11_402 sh_1 <| E_bipush (v := 9) (n := 96) 48 rfl rfl bpz_9 <| E_icmp_ne (n := 99) (t := 113) 49 rfl rfl rfl (fun hc => ?_) (fun hc => ?_)
          · have h := ifn h hc
            refine E_iload (n := 115) 57 rfl rfl 4 rfl <| E_iconst (v := 1) (n := 116) 58 rfl rfl icz_1 <| E_iand (n := 117) 59 rfl rfl <| E_aload_n (n := 118) 60 rfl rfl rfl 0 rfl <| E_gF (r := 1) (n := 121) 61 rfl rfl fg_11_12 sh_0 rfl <| E_gI (n := 124) 62 rfl rfl fg_11_402 sh_1 <| E_bipush (v := 7) (n := 126) 63 rfl rfl bpz_7 <| E_isub (n := 127) 64 rfl rfl <| E_icmp_ne (n := 130) (t := 134) 65 rfl rfl rfl (fun hc => ?_) (fun hc => ?_)
            · have h := ifn h hc
              refine E_iconst (v := 0) (n := 135) 68 rfl rfl icz_0 <| ?_
              refine E_zreturn 69 rfl rfl z0 (eS h)
            · have h := ifp h hc
              refine E_iconst (v := 1) (n := 131) 66 rfl rfl icz_1 <| E_goto (t := 135) 67 rfl rfl <| ?_
              refine E_zreturn 69 rfl rfl z1 (eS h)
          · have h := ifp h hc
            refine E_iload (n := 101) 50 rfl rfl 4 rfl <| E_iconst (v := 2) (n := 102) 51 rfl rfl icz_2 <| E_icmp_lt (n := 105) (t := 109) 52 rfl rfl rfl (fun hc => ?_) (fun hc => ?_)
            · have h := ifp h hc
              refine E_iconst (v := 0) (n := 110) 55 rfl rfl icz_0 <| E_goto (t := 135) 56 rfl rfl <| ?_
              refine E_zreturn 69 rfl rfl z0 (eS h)
            · have h := ifn h hc
              refine E_iconst (v := 1) (n := 106) 53 rfl rfl icz_1 <| E_goto (t := 135) 54 rfl rfl <| ?_
              refine E_zreturn 69 rfl rfl z1 (eS h)
        · have h := ifp h hc
          refine E_iconst (v := 0) (n := 86) 43 rfl rfl icz_0 <| E_zreturn 44 rfl rfl z0 (eS h)
      · have h := ifp h hc
        refine E_iconst (v := 0) (n := 52) 26 rfl rfl icz_0 <| E_zreturn 27 rfl rfl z0 (eS h)
    · have h := ifp h hc
      refine E_iconst (v := 0) (n := 29) 14 rfl rfl icz_0 <| E_zreturn 15 rfl rfl z0 (eS h)
  · have h := ifn h hc
    obtain ⟨v14, m15, hq16, h⟩ := bV_ex h
    obtain ⟨hc17, h⟩ := ift h
    refine E_aload_n (n := 7) 3 rfl rfl rfl 0 rfl <| E_gF (r := 1) (n := 10) 4 rfl rfl fg_11_12 sh_0 rfl <| E_iconst (v := 4) (n := 11) 5 rfl rfl icz_4 <| E_cV1r (n := 14) 6 rfl rfl co_11_390 rfl sh_1 rfl (K_RD_fail m 4 _ hq16) <| E_zreturn 7 rfl rfl hc17 (eS h)
theorem K_PH_haySquare (m : Mem) (x0 : Nat) (x1 : Int32) (h_x0 : shp x0 = (5, 0)) (R : Int32) (h : PH_haySquare m x0 x1 = some R) : Mt M_PH_haySquare [.ref x0, .int x1] m (qI R m) := by
  refine Mt.of G_PH_haySquare (Nat.le_of_ble_eq_true rfl) (E_sub (lv' := [(0, .ref x0), (1, .int x1)]) [0, 1] rfl ?_)
  unfold PH_haySquare at h
  obtain ⟨hc1, h⟩ := ift h
  refine E_aload_n (n := 1) 0 rfl rfl rfl 0 rfl <| E_gF (r := (x0 + 11)) (n := 4) 1 rfl rfl fg_5_18 h_x0 rfl <| E_iload_n (n := 5) 2 rfl rfl rfl 1 rfl <| E_iald (n := 6) 3 rfl rfl (shc_5_1 h_x0) hc1 <| E_aload_n (n := 7) 4 rfl rfl rfl 0 rfl <| E_gF (r := (x0 + 12)) (n := 10) 5 rfl rfl fg_5_22 h_x0 rfl <| E_iload_n (n := 11) 6 rfl rfl rfl 1 rfl <| E_iald (n := 12) 7 rfl rfl (shc_5_2 h_x0) hc1 <| E_dN2r (n := 15) 8 rfl rfl co_5_49 rfl rfl (K_OH_squareAt m (gI m (x0 + 11) (ixn x1)) (gI m (x0 + 12) (ixn x1)) _ rfl) <| E_ireturn 9 rfl rfl (eP h)
theorem K_OH_hearHay (m : Mem) (x1 : Int32) (R : Int32 × Mem) (h : OH_hearHay m x1 = some R) : Mt M_OH_hearHay [.ref 0, .int x1] m (qI R.1 R.2) := by
  refine Mt.of G_OH_hearHay (Nat.le_of_ble_eq_true rfl) (E_sub (lv' := [(0, .ref 0), (1, .int x1)]) [0, 1] rfl ?_)
  unfold OH_hearHay at h
  refine E_aload_n (n := 1) 0 rfl rfl rfl 0 rfl <| E_gF (r := 1) (n := 4) 1 rfl rfl fg_11_12 sh_0 rfl <| E_bipush (v := 17) (n := 6) 2 rfl rfl bpz_17 <| E_bipush (v := 17) (n := 8) 3 rfl rfl bpz_17 <| E_cV2r (n := 11) 4 rfl rfl co_11_378 rfl sh_1 rfl (K_RD_isWord m 17 17 _ rfl) <| E_if_ne (n := 14) (t := 23) 5 rfl rfl rfl (fun hc => ?_) (fun hc => ?_)
  · have h := ifn h hc
    obtain ⟨v2, hq3, h⟩ := bI_ex h
    refine E_aload_n (n := 24) 11 rfl rfl rfl 0 rfl <| E_gN (n := 27) 12 rfl rfl fg_11_92 sh_0 (Or.inl rfl) fun hN1 => E_aload_n (n := 28) 13 rfl rfl rfl 0 rfl <| E_gF (r := 1) (n := 31) 14 rfl rfl fg_11_12 sh_0 rfl <| E_gJ (n := 34) 15 rfl rfl fg_11_405 sh_1 <| E_cV1r (n := 37) 16 rfl rfl co_11_409 rfl hN1 rfl (K_PH_hayNamed m (gN m 13) (gJ m 1 8) hN1 _ hq3) <| E_istore_n (lv' := [(0, .ref 0), (1, .int x1), (2, .int v2)]) (n := 38) 17 rfl rfl rfl (Nat.le_of_ble_eq_true rfl) [1, 2, 0] rfl <| E_aload_n (n := 39) 18 rfl rfl rfl 0 rfl <| E_gN (n := 42) 19 rfl rfl fg_11_92 sh_0 (Or.inl rfl) fun hN4 => E_iload_n (n := 43) 20 rfl rfl rfl 2 rfl <| E_cV1r (n := 46) 21 rfl rfl co_11_158 rfl hN4 rfl (K_PH_hasHay m (gN m 13) v2 hN4 _ rfl) <| E_if_ne (n := 49) (t := 58) 22 rfl rfl rfl (fun hc => ?_) (fun hc => ?_)
    · have h := ifn h hc
      refine E_iload_n (n := 59) 28 rfl rfl rfl 1 rfl <| E_bipush (v := 30) (n := 61) 29 rfl rfl bpz_30 <| E_icmp_lt (n := 64) (t := 73) 30 rfl rfl rfl (fun hc => ?_) (fun hc => ?_)
      · have h := ifp h hc
        obtain ⟨v5, m6, hq7, h⟩ := bV_ex h
        refine E_aload_n (n := 74) 36 rfl rfl rfl 0 rfl <| E_gF (r := 1) (n := 77) 37 rfl rfl fg_11_12 sh_0 rfl <| E_bipush (v := 7) (n := 79) 38 rfl rfl bpz_7 <| E_bipush (v := 8) (n := 81) 39 rfl rfl bpz_8 <| E_cV2r (n := 84) 40 rfl rfl co_11_399 rfl sh_1 rfl (K_RD_readWord m 7 8 _ hq7) <| E_if_eq (n := 87) (t := 120) 41 rfl rfl rfl (fun hc => ?_) (fun hc => ?_)
        · have h := ifp h hc
          refine E_iconst (v := 0) (n := 121) 58 rfl rfl icz_0 <| ?_
          refine E_zreturn 59 rfl rfl z0 (eS h)
        · have h := ifn h hc
          obtain ⟨v9, hq10, h⟩ := bI_ex h
          obtain ⟨hc11, h⟩ := ift h
          refine E_aload_n (n := 88) 42 rfl rfl rfl 0 rfl <| E_gF (r := 5) (n := 91) 43 rfl rfl fg_11_26 sh_0 rfl <| E_gF (r := 6) (n := 94) 44 rfl rfl fg_11_209 sh_5 rfl <| E_aload_n (n := 95) 45 rfl rfl rfl 0 rfl <| E_gN (n := 98) 46 rfl rfl fg_11_92 sh_0 (Or.inl rfl) fun hN8 => E_iload_n (n := 99) 47 rfl rfl rfl 2 rfl <| E_cV1r (n := 102) 48 rfl rfl co_11_227 rfl hN8 rfl (K_PH_haySquare m6 (gN m6 13) v2 hN8 _ hq10) <| E_iald (n := 103) 49 rfl rfl sh_6 hc11 <| E_aload_n (n := 104) 50 rfl rfl rfl 0 rfl <| E_gF (r := 1) (n := 107) 51 rfl rfl fg_11_12 sh_0 rfl <| E_gI (n := 110) 52 rfl rfl fg_11_402 sh_1 <| E_bipush (v := 7) (n := 112) 53 rfl rfl bpz_7 <| E_isub (n := 113) 54 rfl rfl <| E_icmp_ne (n := 116) (t := 120) 55 rfl rfl rfl (fun hc => ?_) (fun hc => ?_)
          · have h := ifn h hc
            refine E_iconst (v := 0) (n := 121) 58 rfl rfl icz_0 <| ?_
            refine E_zreturn 59 rfl rfl z0 (eS h)
          · have h := ifp h hc
            refine E_iconst (v := 1) (n := 117) 56 rfl rfl icz_1 <| E_goto (t := 121) 57 rfl rfl <| ?_
            refine E_zreturn 59 rfl rfl z1 (eS h)
      · have h := ifn h hc
        obtain ⟨v12, m13, hq14, h⟩ := bV_ex h
        obtain ⟨hc15, h⟩ := ift h
        refine E_aload_n (n := 65) 31 rfl rfl rfl 0 rfl <| E_gF (r := 1) (n := 68) 32 rfl rfl fg_11_12 sh_0 rfl <| E_iconst (v := 4) (n := 69) 33 rfl rfl icz_4 <| E_cV1r (n := 72) 34 rfl rfl co_11_390 rfl sh_1 rfl (K_RD_fail m 4 _ hq14) <| E_zreturn 35 rfl rfl hc15 (eS h)
    · have h := ifp h hc
      obtain ⟨v16, m17, hq18, h⟩ := bV_ex h
      obtain ⟨hc19, h⟩ := ift h
      refine E_aload_n (n := 50) 23 rfl rfl rfl 0 rfl <| E_gF (r := 1) (n := 53) 24 rfl rfl fg_11_12 sh_0 rfl <| E_iconst (v := 3) (n := 54) 25 rfl rfl icz_3 <| E_cV1r (n := 57) 26 rfl rfl co_11_390 rfl sh_1 rfl (K_RD_fail m 3 _ hq18) <| E_zreturn 27 rfl rfl hc19 (eS h)
  · have h := ifp h hc
    obtain ⟨v20, m21, hq22, h⟩ := bV_ex h
    obtain ⟨hc23, h⟩ := ift h
    refine E_aload_n (n := 15) 6 rfl rfl rfl 0 rfl <| E_gF (r := 1) (n := 18) 7 rfl rfl fg_11_12 sh_0 rfl <| E_iconst (v := 1) (n := 19) 8 rfl rfl icz_1 <| E_cV1r (n := 22) 9 rfl rfl co_11_390 rfl sh_1 rfl (K_RD_fail m 1 _ hq22) <| E_zreturn 10 rfl rfl hc23 (eS h)
theorem OH_hearClaims_J72_ok (kr : Mem → Int32 → Int32 → Int32 → Option (Int32 × Mem)) (kx : Mem → Option (Int32 × Mem)) (m : Mem) (x1 : Int32) (x2 : Int32) (x3 : Int32) (x4 : Int32) (s0 : Int32) (R : Int32 × Mem) (hr : ∀ (m : Mem) (x2 : Int32) (x3 : Int32) (x4 : Int32), kr m x2 x3 x4 = some R → E M_OH_hearClaims 7 [(0, .ref 0), (1, .int x1), (2, .int x2), (3, .int x3), (4, .int x4)] [] m (qI R.1 R.2)) (hx : ∀ (m : Mem), kx m = some R → E M_OH_hearClaims 122 [] [] m (qI R.1 R.2)) (h : OH_hearClaims_J72 kr kx m x1 x2 x3 x4 s0 = some R) : E M_OH_hearClaims 72 [(0, .ref 0), (1, .int x1), (2, .int x2), (3, .int x3), (4, .int x4)] [.int s0] m (qI R.1 R.2) := by
  unfold OH_hearClaims_J72 at h
  refine E_istore (lv' := [(0, .ref 0), (1, .int x1), (2, .int x2), (3, .int x3), (4, .int x4), (5, .int s0)]) (n := 74) 36 rfl rfl (Nat.le_of_ble_eq_true rfl) [1, 2, 3, 4, 5, 0] rfl <| E_aload_n (n := 75) 37 rfl rfl rfl 0 rfl <| E_gF (r := 1) (n := 78) 38 rfl rfl fg_11_12 sh_0 rfl <| E_gI (n := 81) 39 rfl rfl fg_11_353 sh_1 <| E_if_ne (n := 84) (t := 94) 40 rfl rfl rfl (fun hc => ?_) (fun hc => ?_)
  · have h := ifn h hc
    refine E_iconst (v := (-1)) (n := 95) 45 rfl rfl icz_m1 <| E_ireturn 46 rfl rfl (eS h)
  · have h := ifp h hc
    obtain ⟨v1, m2, hq3, h⟩ := bV_ex h
    refine E_aload_n (n := 85) 41 rfl rfl rfl 0 rfl <| E_gF (r := 1) (n := 88) 42 rfl rfl fg_11_12 sh_0 rfl <| E_cV0r (n := 91) 43 rfl rfl co_11_387 rfl sh_1 rfl (K_RD_readSemicolon m _ hq3) <| E_if_ne (n := 94) (t := 96) 44 rfl rfl rfl (fun hc => ?_) (fun hc => ?_)
    · have h := ifn h hc
      refine E_iload (n := 98) 47 rfl rfl 5 rfl <| E_if_ne (n := 101) (t := 116) 48 rfl rfl rfl (fun hc => ?_) (fun hc => ?_)
      · have h := ifn h hc
        refine E_iinc (v := (x4 + 1)) (lv' := [(0, .ref 0), (1, .int x1), (2, .int x2), (3, .int x3), (4, .int (x4 + 1)), (5, .int s0)]) (n := 119) 57 rfl rfl 4 rfl (by rw [icz_1]) (Nat.le_of_ble_eq_true rfl) [1, 2, 3, 4, 0, 5] rfl <| E_goto (t := 7) 58 rfl rfl <| ?_
        refine E_sub (lv' := [(0, .ref 0), (1, .int x1), (2, .int x2), (3, .int x3), (4, .int (x4 + 1))]) [0, 1, 2, 3, 4] rfl ?_
        exact hr m2 x2 x3 (x4 + 1) h
      · have h := ifp h hc
        refine E_iinc (v := (x2 + 1)) (lv' := [(0, .ref 0), (1, .int x1), (2, .int (x2 + 1)), (3, .int x3), (4, .int x4), (5, .int s0)]) (n := 104) 49 rfl rfl 2 rfl (by rw [icz_1]) (Nat.le_of_ble_eq_true rfl) [1, 2, 0, 3, 4, 5] rfl <| E_iload_n (n := 105) 50 rfl rfl rfl 3 rfl <| E_iconst (v := (-1)) (n := 106) 51 rfl rfl icz_m1 <| E_icmp_ne (n := 109) (t := 114) 52 rfl rfl rfl (fun hc => ?_) (fun hc => ?_)
        · have h := ifn h hc
          refine E_iload_n (n := 115) 55 rfl rfl rfl 3 rfl <| ?_
          refine E_istore_n (lv' := [(0, .ref 0), (1, .int x1), (2, .int (x2 + 1)), (3, .int x3), (4, .int x4), (5, .int s0)]) (n := 116) 56 rfl rfl rfl (Nat.le_of_ble_eq_true rfl) [1, 2, 3, 0, 4, 5] rfl <| ?_
          refine E_iinc (v := (x4 + 1)) (lv' := [(0, .ref 0), (1, .int x1), (2, .int (x2 + 1)), (3, .int x3), (4, .int (x4 + 1)), (5, .int s0)]) (n := 119) 57 rfl rfl 4 rfl (by rw [icz_1]) (Nat.le_of_ble_eq_true rfl) [1, 2, 3, 4, 0, 5] rfl <| E_goto (t := 7) 58 rfl rfl <| ?_
          refine E_sub (lv' := [(0, .ref 0), (1, .int x1), (2, .int (x2 + 1)), (3, .int x3), (4, .int (x4 + 1))]) [0, 1, 2, 3, 4] rfl ?_
          exact hr m2 (x2 + 1) x3 (x4 + 1) h
        · have h := ifp h hc
          refine E_iload (n := 111) 53 rfl rfl 4 rfl <| E_goto (t := 115) 54 rfl rfl <| ?_
          refine E_istore_n (lv' := [(0, .ref 0), (1, .int x1), (2, .int (x2 + 1)), (3, .int x4), (4, .int x4), (5, .int s0)]) (n := 116) 56 rfl rfl rfl (Nat.le_of_ble_eq_true rfl) [1, 2, 3, 0, 4, 5] rfl <| ?_
          refine E_iinc (v := (x4 + 1)) (lv' := [(0, .ref 0), (1, .int x1), (2, .int (x2 + 1)), (3, .int x4), (4, .int (x4 + 1)), (5, .int s0)]) (n := 119) 57 rfl rfl 4 rfl (by rw [icz_1]) (Nat.le_of_ble_eq_true rfl) [1, 2, 3, 4, 0, 5] rfl <| E_goto (t := 7) 58 rfl rfl <| ?_
          refine E_sub (lv' := [(0, .ref 0), (1, .int x1), (2, .int (x2 + 1)), (3, .int x4), (4, .int (x4 + 1))]) [0, 1, 2, 3, 4] rfl ?_
          exact hr m2 (x2 + 1) x4 (x4 + 1) h
    · have h := ifp h hc
      refine E_iconst (v := (-1)) (n := 95) 45 rfl rfl icz_m1 <| E_ireturn 46 rfl rfl (eS h)
theorem OH_hearClaims_L7_ok (x1 : Int32) (kx : Mem → Option (Int32 × Mem)) (R : Int32 × Mem) (hx : ∀ (m : Mem), kx m = some R → E M_OH_hearClaims 122 [] [] m (qI R.1 R.2)) : ∀ (n : Nat) (m : Mem) (x2 : Int32) (x3 : Int32) (x4 : Int32), OH_hearClaims_L7 x1 kx n m x2 x3 x4 = some R → E M_OH_hearClaims 7 [(0, .ref 0), (1, .int x1), (2, .int x2), (3, .int x3), (4, .int x4)] [] m (qI R.1 R.2) := by
  intro n
  induction n with
  | zero =>
    intro m x2 x3 x4 h
    exact absurd (show none = some R from h) (fun e => Option.some_ne_none R e.symm)
  | succ n ih =>
    intro m x2 x3 x4 h
    rw [OH_hearClaims_L7] at h
    refine E_iload (n := 9) 6 rfl rfl 4 rfl <| E_sipush (v := 300) (n := 12) 7 rfl rfl spz_300 <| E_icmp_gt (n := 15) (t := 122) 8 rfl rfl rfl (fun hc => ?_) (fun hc => ?_)
    · have h := ifp h hc
      refine E_sub (lv' := []) [] rfl ?_
      exact hx m h
    · have h := ifn h hc
      obtain ⟨v1, m2, hq3, h⟩ := bV_ex h
      refine E_aload_n (n := 16) 9 rfl rfl rfl 0 rfl <| E_gF (r := 1) (n := 19) 10 rfl rfl fg_11_12 sh_0 rfl <| E_cV0r (n := 22) 11 rfl rfl co_11_371 rfl sh_1 rfl (K_RD_isAtEnd m _ hq3) <| E_if_eq (n := 25) (t := 42) 12 rfl rfl rfl (fun hc => ?_) (fun hc => ?_)
      · have h := ifp h hc
        refine E_aload_n (n := 43) 22 rfl rfl rfl 0 rfl <| E_gF (r := 1) (n := 46) 23 rfl rfl fg_11_12 sh_0 rfl <| E_bipush (v := 16) (n := 48) 24 rfl rfl bpz_16 <| E_bipush (v := 16) (n := 50) 25 rfl rfl bpz_16 <| E_cV2r (n := 53) 26 rfl rfl co_11_378 rfl sh_1 rfl (K_RD_isWord m2 16 16 _ rfl) <| E_if_eq (n := 56) (t := 66) 27 rfl rfl rfl (fun hc => ?_) (fun hc => ?_)
        · have h := ifp h hc
          obtain ⟨v4, m5, hq6, h⟩ := bV_ex h
          refine E_aload_n (n := 67) 33 rfl rfl rfl 0 rfl <| E_iload (n := 69) 34 rfl rfl 4 rfl <| E_cV1r (n := 72) 35 rfl rfl co_11_384 rfl sh_0 rfl (K_OH_hearHay m2 x4 _ hq6) <| ?_
          exact OH_hearClaims_J72_ok _ _ m5 x1 x2 x3 x4 v4 _ ih hx h
        · have h := ifn h hc
          obtain ⟨v7, m8, hq9, h⟩ := bV_ex h
          refine E_aload_n (n := 57) 28 rfl rfl rfl 0 rfl <| E_iload_n (n := 58) 29 rfl rfl rfl 1 rfl <| E_iload (n := 60) 30 rfl rfl 4 rfl <| E_cV2r (n := 63) 31 rfl rfl co_11_381 rfl sh_0 rfl (K_OH_hearPoint m2 x1 x4 _ hq9) <| E_goto (t := 72) 32 rfl rfl <| ?_
          exact OH_hearClaims_J72_ok _ _ m8 x1 x2 x3 x4 v7 _ ih hx h
      · have h := ifn h hc
        obtain ⟨v10, m11, hq12, h⟩ := bV_ex h
        refine E_aload_n (n := 26) 13 rfl rfl rfl 0 rfl <| E_gF (r := 1) (n := 29) 14 rfl rfl fg_11_12 sh_0 rfl <| E_cV0r (n := 32) 15 rfl rfl co_11_375 rfl sh_1 rfl (K_RD_closes m2 _ hq12) <| E_if_eq (n := 35) (t := 40) 16 rfl rfl rfl (fun hc => ?_) (fun hc => ?_)
        · have h := ifp h hc
          refine E_iload_n (n := 41) 20 rfl rfl rfl 2 rfl <| E_ireturn 21 rfl rfl (eS h)
        · have h := ifn h hc
          obtain ⟨m13, hm13, h⟩ := letM_ex h
          refine E_aload_n (n := 36) 17 rfl rfl rfl 0 rfl <| E_iload_n (n := 37) 18 rfl rfl rfl 3 rfl <| E_pI (n := 40) 19 rfl rfl fp_11_99 sh_0 <| E_mem hm13 <| ?_
          refine E_iload_n (n := 41) 20 rfl rfl rfl 2 rfl <| E_ireturn 21 rfl rfl (eS h)
theorem K_OH_hearClaims (m : Mem) (x1 : Int32) (R : Int32 × Mem) (h : OH_hearClaims m x1 = some R) : Mt M_OH_hearClaims [.ref 0, .int x1] m (qI R.1 R.2) := by
  refine Mt.of G_OH_hearClaims (Nat.le_of_ble_eq_true rfl) (E_sub (lv' := [(0, .ref 0), (1, .int x1)]) [0, 1] rfl ?_)
  unfold OH_hearClaims at h
  refine E_iconst (v := 0) (n := 1) 0 rfl rfl icz_0 <| E_istore_n (lv' := [(0, .ref 0), (1, .int x1), (2, .int 0)]) (n := 2) 1 rfl rfl rfl (Nat.le_of_ble_eq_true rfl) [1, 2, 0] rfl <| E_iconst (v := (-1)) (n := 3) 2 rfl rfl icz_m1 <| E_istore_n (lv' := [(0, .ref 0), (1, .int x1), (2, .int 0), (3, .int (-1))]) (n := 4) 3 rfl rfl rfl (Nat.le_of_ble_eq_true rfl) [1, 2, 3, 0] rfl <| E_iconst (v := 0) (n := 5) 4 rfl rfl icz_0 <| E_istore (lv' := [(0, .ref 0), (1, .int x1), (2, .int 0), (3, .int (-1)), (4, .int 0)]) (n := 7) 5 rfl rfl (Nat.le_of_ble_eq_true rfl) [1, 2, 3, 4, 0] rfl <| ?_
  refine OH_hearClaims_L7_ok x1 _ R ?_ FU m 0 (-1) 0 h
  intro m1 h
  refine E_iconst (v := (-1)) (n := 123) 59 rfl rfl icz_m1 <| E_ireturn 60 rfl rfl (eS h)
theorem K_OH_claims (m : Mem) (x1 : Int32) (R : Int32 × Mem) (h : OH_claims m x1 = some R) : Mt M_OH_claims [.ref 0, .int x1] m (qI R.1 R.2) := by
  refine Mt.of G_OH_claims (Nat.le_of_ble_eq_true rfl) (E_sub (lv' := [(0, .ref 0), (1, .int x1)]) [0, 1] rfl ?_)
  unfold OH_claims at h
  refine E_aload_n (n := 1) 0 rfl rfl rfl 0 rfl <| E_gN (n := 4) 1 rfl rfl fg_11_92 sh_0 (Or.inl rfl) fun hN1 => E_iload_n (n := 5) 2 rfl rfl rfl 1 rfl <| E_cV1r (n := 8) 3 rfl rfl co_11_173 rfl hN1 rfl (K_PH_hasLine m (gN m 13) x1 hN1 _ rfl) <| E_if_ne (n := 11) (t := 23) 4 rfl rfl rfl (fun hc => ?_) (fun hc => ?_)
  · have h := ifn h hc
    obtain ⟨m2, hq3, h⟩ := bM_ex h
    obtain ⟨m4, hq5, h⟩ := bM_ex h
    obtain ⟨v6, m7, hq8, h⟩ := bV_ex h
    obtain ⟨v9, m10, hq11, h⟩ := bV_ex h
    refine E_aload_n (n := 24) 11 rfl rfl rfl 0 rfl <| E_iload_n (n := 25) 12 rfl rfl rfl 1 rfl <| E_cV1v (n := 28) 13 rfl rfl co_11_206 rfl sh_0 rfl (K_OH_survey m x1 _ hq3) <| E_aload_n (n := 29) 14 rfl rfl rfl 0 rfl <| E_gF (r := 1) (n := 32) 15 rfl rfl fg_11_12 sh_0 rfl <| E_sipush (v := 300) (n := 35) 16 rfl rfl spz_300 <| E_cV1v (n := 38) 17 rfl rfl co_11_110 rfl sh_1 rfl (K_RD_begin m2 300 _ hq5) <| E_aload_n (n := 39) 18 rfl rfl rfl 0 rfl <| E_aload_n (n := 40) 19 rfl rfl rfl 0 rfl <| E_iload_n (n := 41) 20 rfl rfl rfl 1 rfl <| E_cV1r (n := 44) 21 rfl rfl co_11_221 rfl sh_0 rfl (K_OH_hearClaims m4 x1 _ hq8) <| E_cV1r (n := 47) 22 rfl rfl co_11_120 rfl sh_0 rfl (K_OH_closeText m7 v6 _ hq11) <| E_ireturn 23 rfl rfl (eS h)
  · have h := ifp h hc
    obtain ⟨m12, hm12, h⟩ := letM_ex h
    refine E_aload_n (n := 12) 5 rfl rfl rfl 0 rfl <| E_gF (r := 1) (n := 15) 6 rfl rfl fg_11_12 sh_0 rfl <| E_iconst (v := 0) (n := 16) 7 rfl rfl icz_0 <| E_pI (n := 19) 8 rfl rfl fp_11_103 sh_1 <| E_mem hm12 <| E_sipush (v := (-2000)) (n := 22) 9 rfl rfl spz_m2000 <| E_ireturn 10 rfl rfl (eS h)
theorem K_OH_wrong (m : Mem) (R : Int32) (h : OH_wrong m = R) : Mt M_OH_wrong [.ref 0] m (qI R m) := by
  refine Mt.of G_OH_wrong (Nat.le_of_ble_eq_true rfl) (E_sub (lv' := [(0, .ref 0)]) [0] rfl ?_)
  unfold OH_wrong at h
  refine E_aload_n (n := 1) 0 rfl rfl rfl 0 rfl <| E_gI (n := 4) 1 rfl rfl fg_11_99 sh_0 <| E_ireturn 2 rfl rfl (eT h)
theorem OH_loads_L32_ok (x2 : Int32) (kx : Mem → Int32 → Option (Int32 × Mem)) (R : Int32 × Mem) (hx : ∀ (m : Mem) (x3 : Int32), kx m x3 = some R → E M_OH_loads 84 [(3, .int x3)] [] m (qI R.1 R.2)) : ∀ (n : Nat) (m : Mem) (x3 : Int32) (x4 : Int32), OH_loads_L32 x2 kx n m x3 x4 = some R → E M_OH_loads 32 [(0, .ref 0), (2, .int x2), (3, .int x3), (4, .int x4)] [] m (qI R.1 R.2) := by
  intro n
  induction n with
  | zero =>
    intro m x3 x4 h
    exact absurd (show none = some R from h) (fun e => Option.some_ne_none R e.symm)
  | succ n ih =>
    intro m x3 x4 h
    rw [OH_loads_L32] at h
    refine E_iload (n := 34) 19 rfl rfl 3 rfl <| E_aload_n (n := 35) 20 rfl rfl rfl 0 rfl <| E_gN (n := 38) 21 rfl rfl fg_11_92 sh_0 (Or.inl rfl) fun hN1 => E_gI (n := 41) 22 rfl rfl fg_11_224 hN1 <| E_icmp_ge (n := 44) (t := 84) 23 rfl rfl rfl (fun hc => ?_) (fun hc => ?_)
    · have h := ifp h hc
      refine E_sub (lv' := [(3, .int x3)]) [2] rfl ?_
      exact hx m x3 h
    · have h := ifn h hc
      obtain ⟨v3, hq4, h⟩ := bI_ex h
      obtain ⟨hc5, h⟩ := ift h
      refine E_aload_n (n := 45) 24 rfl rfl rfl 0 rfl <| E_gF (r := 5) (n := 48) 25 rfl rfl fg_11_26 sh_0 rfl <| E_gF (r := 6) (n := 51) 26 rfl rfl fg_11_209 sh_5 rfl <| E_aload_n (n := 52) 27 rfl rfl rfl 0 rfl <| E_gN (n := 55) 28 rfl rfl fg_11_92 sh_0 (Or.inl rfl) fun hN2 => E_iload (n := 57) 29 rfl rfl 3 rfl <| E_cV1r (n := 60) 30 rfl rfl co_11_227 rfl hN2 rfl (K_PH_haySquare m (gN m 13) x4 hN2 _ hq4) <| E_iald (n := 61) 31 rfl rfl sh_6 hc5 <| E_iload_n (n := 62) 32 rfl rfl rfl 1 rfl <| E_icmp_ne (n := 65) (t := 78) 33 rfl rfl rfl (fun hc => ?_) (fun hc => ?_)
      · have h := ifn h hc
        refine E_iinc (v := (x4 + 1)) (lv' := [(0, .ref 0), (2, .int x2), (3, .int x3), (4, .int (x4 + 1))]) (n := 81) 42 rfl rfl 3 rfl (by rw [icz_1]) (Nat.le_of_ble_eq_true rfl) [1, 2, 3, 0] rfl <| E_goto (t := 32) 43 rfl rfl <| ?_
        exact ih m x3 (x4 + 1) h
      · have h := ifp h hc
        obtain ⟨hc7, h⟩ := ift h
        obtain ⟨v8, hv8, h⟩ := letV_ex h
        refine E_iload_n (n := 66) 34 rfl rfl rfl 2 rfl <| E_aload_n (n := 67) 35 rfl rfl rfl 0 rfl <| E_gN (n := 70) 36 rfl rfl fg_11_92 sh_0 (Or.inl rfl) fun hN6 => E_gF (r := ((gN m 13) + 13)) (n := 73) 37 rfl rfl fg_11_170 hN6 rfl <| E_iload (n := 75) 38 rfl rfl 3 rfl <| E_iald (n := 76) 39 rfl rfl (shc_5_3 hN6) hc7 <| E_iadd (n := 77) 40 rfl rfl <| E_top hv8 <| E_istore_n (lv' := [(0, .ref 0), (2, .int x2), (3, .int v8), (4, .int x4)]) (n := 78) 41 rfl rfl rfl (Nat.le_of_ble_eq_true rfl) [1, 2, 0, 3] rfl <| ?_
        refine E_iinc (v := (x4 + 1)) (lv' := [(0, .ref 0), (2, .int x2), (3, .int v8), (4, .int (x4 + 1))]) (n := 81) 42 rfl rfl 3 rfl (by rw [icz_1]) (Nat.le_of_ble_eq_true rfl) [1, 2, 3, 0] rfl <| E_goto (t := 32) 43 rfl rfl <| ?_
        exact ih m v8 (x4 + 1) h
theorem K_OH_loads (m : Mem) (x1 : Int32) (x2 : Int32) (R : Int32 × Mem) (h : OH_loads m x1 x2 = some R) : Mt M_OH_loads [.ref 0, .int x1, .int x2] m (qI R.1 R.2) := by
  refine Mt.of G_OH_loads (Nat.le_of_ble_eq_true rfl) (E_sub (lv' := [(0, .ref 0), (1, .int x1), (2, .int x2)]) [0, 1, 2] rfl ?_)
  unfold OH_loads at h
  refine E_aload_n (n := 1) 0 rfl rfl rfl 0 rfl <| E_gN (n := 4) 1 rfl rfl fg_11_92 sh_0 (Or.inl rfl) fun hN1 => E_iload_n (n := 5) 2 rfl rfl rfl 1 rfl <| E_cV1r (n := 8) 3 rfl rfl co_11_173 rfl hN1 rfl (K_PH_hasLine m (gN m 13) x1 hN1 _ rfl) <| E_if_eq (n := 11) (t := 20) 4 rfl rfl rfl (fun hc => ?_) (fun hc => ?_)
  · have h := ifp h hc
    refine E_iconst (v := (-1)) (n := 21) 10 rfl rfl icz_m1 <| E_ireturn 11 rfl rfl (eS h)
  · have h := ifn h hc
    refine E_iload_n (n := 12) 5 rfl rfl rfl 2 rfl <| E_if_lt (n := 15) (t := 20) 6 rfl rfl rfl (fun hc => ?_) (fun hc => ?_)
    · have h := ifp h hc
      refine E_iconst (v := (-1)) (n := 21) 10 rfl rfl icz_m1 <| E_ireturn 11 rfl rfl (eS h)
    · have h := ifn h hc
      refine E_iload_n (n := 16) 7 rfl rfl rfl 2 rfl <| E_iconst (v := 1) (n := 17) 8 rfl rfl icz_1 <| E_icmp_le (n := 20) (t := 22) 9 rfl rfl rfl (fun hc => ?_) (fun hc => ?_)
      · have h := ifp h hc
        obtain ⟨m2, hq3, h⟩ := bM_ex h
        refine E_aload_n (n := 23) 12 rfl rfl rfl 0 rfl <| E_iload_n (n := 24) 13 rfl rfl rfl 1 rfl <| E_cV1v (n := 27) 14 rfl rfl co_11_206 rfl sh_0 rfl (K_OH_survey m x1 _ hq3) <| E_iconst (v := 0) (n := 28) 15 rfl rfl icz_0 <| E_istore_n (lv' := [(0, .ref 0), (1, .int x1), (2, .int x2), (3, .int 0)]) (n := 29) 16 rfl rfl rfl (Nat.le_of_ble_eq_true rfl) [1, 2, 3, 0] rfl <| E_iconst (v := 0) (n := 30) 17 rfl rfl icz_0 <| E_istore (lv' := [(0, .ref 0), (1, .int x1), (2, .int x2), (3, .int 0), (4, .int 0)]) (n := 32) 18 rfl rfl (Nat.le_of_ble_eq_true rfl) [1, 2, 3, 4, 0] rfl <| ?_
        refine E_sub (lv' := [(0, .ref 0), (2, .int x2), (3, .int 0), (4, .int 0)]) [0, 2, 3, 4] rfl ?_
        refine OH_loads_L32_ok x2 _ R ?_ FU m2 0 0 h
        intro m5 y4 h
        refine E_iload_n (n := 85) 44 rfl rfl rfl 0 rfl <| E_ireturn 45 rfl rfl (eS h)
      · have h := ifn h hc
        refine E_iconst (v := (-1)) (n := 21) 10 rfl rfl icz_m1 <| E_ireturn 11 rfl rfl (eS h)
theorem OH_surveyForHeirs_J87_ok (m : Mem) (R : Mem) (h : OH_surveyForHeirs_J87 m = some R) : E M_OH_surveyForHeirs 87 [(0, .ref 0)] [.ref 63, .ref 11] m (qV R) := by
  unfold OH_surveyForHeirs_J87 at h
  obtain ⟨m3, hq4, h⟩ := bM_ex h
  refine E_aload_n (n := 88) 41 rfl rfl rfl 0 rfl <| E_gN (n := 91) 42 rfl rfl fg_11_92 sh_0 (Or.inl rfl) fun hN1 => E_gI (n := 94) 43 rfl rfl fg_11_298 hN1 <| E_aload_n (n := 95) 44 rfl rfl rfl 0 rfl <| E_gN (n := 98) 45 rfl rfl fg_11_92 sh_0 (Or.inl rfl) fun hN2 => E_gI (n := 101) 46 rfl rfl fg_11_301 hN2 <| E_cV3v (n := 104) 47 rfl rfl co_11_304 rfl sh_11 rfl (K_GR_survey m 11 63 (gI m (gN m 13) 10) (gI m (gN m 13) 11) sh_11 sh_63 _ hq4) <| E_return 48 rfl rfl (eV h)
theorem OH_surveyForHeirs_J87b_ok (m : Mem) (s1 : Nat) (h_s1 : shp s1 = (2, 0)) (R : Mem) (h : OH_surveyForHeirs_J87b m s1 = some R) : E M_OH_surveyForHeirs 87 [(0, .ref 0)] [.ref s1, .ref 11] m (qV R) := by
  unfold OH_surveyForHeirs_J87b at h
  obtain ⟨m3, hq4, h⟩ := bM_ex h
  refine E_aload_n (n := 88) 41 rfl rfl rfl 0 rfl <| E_gN (n := 91) 42 rfl rfl fg_11_92 sh_0 (Or.inl rfl) fun hN1 => E_gI (n := 94) 43 rfl rfl fg_11_298 hN1 <| E_aload_n (n := 95) 44 rfl rfl rfl 0 rfl <| E_gN (n := 98) 45 rfl rfl fg_11_92 sh_0 (Or.inl rfl) fun hN2 => E_gI (n := 101) 46 rfl rfl fg_11_301 hN2 <| E_cV3v (n := 104) 47 rfl rfl co_11_304 rfl sh_11 rfl (K_GR_survey m 11 s1 (gI m (gN m 13) 10) (gI m (gN m 13) 11) sh_11 h_s1 _ hq4) <| E_return 48 rfl rfl (eV h)
theorem OH_surveyForHeirs_J39_ok (m : Mem) (R : Mem) (h : OH_surveyForHeirs_J39 m = some R) : E M_OH_surveyForHeirs 39 [(0, .ref 0)] [.ref 63, .ref 5] m (qV R) := by
  unfold OH_surveyForHeirs_J39 at h
  obtain ⟨m3, hq4, h⟩ := bM_ex h
  refine E_aload_n (n := 40) 19 rfl rfl rfl 0 rfl <| E_gN (n := 43) 20 rfl rfl fg_11_92 sh_0 (Or.inl rfl) fun hN1 => E_gI (n := 46) 21 rfl rfl fg_11_298 hN1 <| E_aload_n (n := 47) 22 rfl rfl rfl 0 rfl <| E_gN (n := 50) 23 rfl rfl fg_11_92 sh_0 (Or.inl rfl) fun hN2 => E_gI (n := 53) 24 rfl rfl fg_11_301 hN2 <| E_cV3v (n := 56) 25 rfl rfl co_11_304 rfl sh_5 rfl (K_GR_survey m 5 63 (gI m (gN m 13) 10) (gI m (gN m 13) 11) sh_5 sh_63 _ hq4) <| E_aload_n (n := 57) 26 rfl rfl rfl 0 rfl <| E_gF (r := 11) (n := 60) 27 rfl rfl fg_11_30 sh_0 rfl <| E_aload_n (n := 61) 28 rfl rfl rfl 0 rfl <| E_gN (n := 64) 29 rfl rfl fg_11_92 sh_0 (Or.inl rfl) fun hN5 => E_iconst (v := 1) (n := 65) 30 rfl rfl icz_1 <| E_cV1r (n := 68) 31 rfl rfl co_11_173 rfl hN5 rfl (K_PH_hasLine m3 (gN m3 13) 1 hN5 _ rfl) <| E_if_eq (n := 71) (t := 83) 32 rfl rfl rfl (fun hc => ?_) (fun hc => ?_)
  · have h := ifp h hc
    refine E_aload_n (n := 84) 39 rfl rfl rfl 0 rfl <| E_gF (r := 63) (n := 87) 40 rfl rfl fg_11_73 sh_0 rfl <| ?_
    exact OH_surveyForHeirs_J87_ok m3 _ h
  · have h := ifn h hc
    obtain ⟨hc7, h⟩ := ift h
    refine E_aload_n (n := 72) 33 rfl rfl rfl 0 rfl <| E_gN (n := 75) 34 rfl rfl fg_11_92 sh_0 (Or.inl rfl) fun hN6 => E_gF (r := ((gN m3 13) + 1)) (n := 78) 35 rfl rfl fg_11_138 hN6 rfl <| E_iconst (v := 1) (n := 79) 36 rfl rfl icz_1 <| E_aL (r := ((gN m3 13) + 2 + 3 * ixn 1)) (n := 80) 37 rfl rfl (shc_5_0 hN6) hc7 rfl <| E_goto (t := 87) 38 rfl rfl <| ?_
    exact OH_surveyForHeirs_J87b_ok m3 ((gN m3 13) + 2 + 3 * ixn 1) (shln hN6 hc7) _ h
theorem OH_surveyForHeirs_J39b_ok (m : Mem) (s1 : Nat) (h_s1 : shp s1 = (2, 0)) (R : Mem) (h : OH_surveyForHeirs_J39b m s1 = some R) : E M_OH_surveyForHeirs 39 [(0, .ref 0)] [.ref s1, .ref 5] m (qV R) := by
  unfold OH_surveyForHeirs_J39b at h
  obtain ⟨m3, hq4, h⟩ := bM_ex h
  refine E_aload_n (n := 40) 19 rfl rfl rfl 0 rfl <| E_gN (n := 43) 20 rfl rfl fg_11_92 sh_0 (Or.inl rfl) fun hN1 => E_gI (n := 46) 21 rfl rfl fg_11_298 hN1 <| E_aload_n (n := 47) 22 rfl rfl rfl 0 rfl <| E_gN (n := 50) 23 rfl rfl fg_11_92 sh_0 (Or.inl rfl) fun hN2 => E_gI (n := 53) 24 rfl rfl fg_11_301 hN2 <| E_cV3v (n := 56) 25 rfl rfl co_11_304 rfl sh_5 rfl (K_GR_survey m 5 s1 (gI m (gN m 13) 10) (gI m (gN m 13) 11) sh_5 h_s1 _ hq4) <| E_aload_n (n := 57) 26 rfl rfl rfl 0 rfl <| E_gF (r := 11) (n := 60) 27 rfl rfl fg_11_30 sh_0 rfl <| E_aload_n (n := 61) 28 rfl rfl rfl 0 rfl <| E_gN (n := 64) 29 rfl rfl fg_11_92 sh_0 (Or.inl rfl) fun hN5 => E_iconst (v := 1) (n := 65) 30 rfl rfl icz_1 <| E_cV1r (n := 68) 31 rfl rfl co_11_173 rfl hN5 rfl (K_PH_hasLine m3 (gN m3 13) 1 hN5 _ rfl) <| E_if_eq (n := 71) (t := 83) 32 rfl rfl rfl (fun hc => ?_) (fun hc => ?_)
  · have h := ifp h hc
    refine E_aload_n (n := 84) 39 rfl rfl rfl 0 rfl <| E_gF (r := 63) (n := 87) 40 rfl rfl fg_11_73 sh_0 rfl <| ?_
    exact OH_surveyForHeirs_J87_ok m3 _ h
  · have h := ifn h hc
    obtain ⟨hc7, h⟩ := ift h
    refine E_aload_n (n := 72) 33 rfl rfl rfl 0 rfl <| E_gN (n := 75) 34 rfl rfl fg_11_92 sh_0 (Or.inl rfl) fun hN6 => E_gF (r := ((gN m3 13) + 1)) (n := 78) 35 rfl rfl fg_11_138 hN6 rfl <| E_iconst (v := 1) (n := 79) 36 rfl rfl icz_1 <| E_aL (r := ((gN m3 13) + 2 + 3 * ixn 1)) (n := 80) 37 rfl rfl (shc_5_0 hN6) hc7 rfl <| E_goto (t := 87) 38 rfl rfl <| ?_
    exact OH_surveyForHeirs_J87b_ok m3 ((gN m3 13) + 2 + 3 * ixn 1) (shln hN6 hc7) _ h
theorem K_OH_surveyForHeirs (m : Mem) (R : Mem) (h : OH_surveyForHeirs m = some R) : Mt M_OH_surveyForHeirs [.ref 0] m (qV R) := by
  refine Mt.of G_OH_surveyForHeirs (Nat.le_of_ble_eq_true rfl) (E_sub (lv' := [(0, .ref 0)]) [0] rfl ?_)
  unfold OH_surveyForHeirs at h
  obtain ⟨m1, hm1, h⟩ := letM_ex h
  refine E_aload_n (n := 1) 0 rfl rfl rfl 0 rfl <| E_gF (r := 63) (n := 4) 1 rfl rfl fg_11_73 sh_0 rfl <| E_iconst (v := 0) (n := 5) 2 rfl rfl icz_0 <| E_pI (n := 8) 3 rfl rfl fp_11_176 sh_63 <| E_mem hm1 <| E_aload_n (n := 9) 4 rfl rfl rfl 0 rfl <| E_gF (r := 5) (n := 12) 5 rfl rfl fg_11_26 sh_0 rfl <| E_aload_n (n := 13) 6 rfl rfl rfl 0 rfl <| E_gN (n := 16) 7 rfl rfl fg_11_92 sh_0 (Or.inl rfl) fun hN2 => E_iconst (v := 0) (n := 17) 8 rfl rfl icz_0 <| E_cV1r (n := 20) 9 rfl rfl co_11_173 rfl hN2 rfl (K_PH_hasLine m1 (gN m1 13) 0 hN2 _ rfl) <| E_if_eq (n := 23) (t := 35) 10 rfl rfl rfl (fun hc => ?_) (fun hc => ?_)
  · have h := ifp h hc
    refine E_aload_n (n := 36) 17 rfl rfl rfl 0 rfl <| E_gF (r := 63) (n := 39) 18 rfl rfl fg_11_73 sh_0 rfl <| ?_
    exact OH_surveyForHeirs_J39_ok m1 _ h
  · have h := ifn h hc
    obtain ⟨hc4, h⟩ := ift h
    refine E_aload_n (n := 24) 11 rfl rfl rfl 0 rfl <| E_gN (n := 27) 12 rfl rfl fg_11_92 sh_0 (Or.inl rfl) fun hN3 => E_gF (r := ((gN m1 13) + 1)) (n := 30) 13 rfl rfl fg_11_138 hN3 rfl <| E_iconst (v := 0) (n := 31) 14 rfl rfl icz_0 <| E_aL (r := ((gN m1 13) + 2 + 3 * ixn 0)) (n := 32) 15 rfl rfl (shc_5_0 hN3) hc4 rfl <| E_goto (t := 39) 16 rfl rfl <| ?_
    exact OH_surveyForHeirs_J39b_ok m1 ((gN m1 13) + 2 + 3 * ixn 0) (shln hN3 hc4) _ h
theorem K_OH_heirOf (m : Mem) (x1 : Int32) (R : Int32) (h : OH_heirOf m x1 = some R) : Mt M_OH_heirOf [.ref 0, .int x1] m (qI R m) := by
  refine Mt.of G_OH_heirOf (Nat.le_of_ble_eq_true rfl) (E_sub (lv' := [(0, .ref 0), (1, .int x1)]) [0, 1] rfl ?_)
  unfold OH_heirOf at h
  obtain ⟨hc2, h⟩ := ift h
  obtain ⟨hc3, h⟩ := ift h
  refine E_aload_n (n := 1) 0 rfl rfl rfl 0 rfl <| E_gN (n := 4) 1 rfl rfl fg_11_92 sh_0 (Or.inl rfl) fun hN1 => E_gF (r := ((gN m 13) + 15)) (n := 7) 2 rfl rfl fg_11_361 hN1 rfl <| E_aload_n (n := 8) 3 rfl rfl rfl 0 rfl <| E_gF (r := 5) (n := 11) 4 rfl rfl fg_11_26 sh_0 rfl <| E_gF (r := 6) (n := 14) 5 rfl rfl fg_11_209 sh_5 rfl <| E_iload_n (n := 15) 6 rfl rfl rfl 1 rfl <| E_iald (n := 16) 7 rfl rfl sh_6 hc2 <| E_iconst (v := 2) (n := 17) 8 rfl rfl icz_2 <| E_aload_n (n := 18) 9 rfl rfl rfl 0 rfl <| E_gF (r := 11) (n := 21) 10 rfl rfl fg_11_30 sh_0 rfl <| E_gF (r := 12) (n := 24) 11 rfl rfl fg_11_209 sh_11 rfl <| E_iload_n (n := 25) 12 rfl rfl rfl 1 rfl <| E_iald (n := 26) 13 rfl rfl sh_12 hc2 <| E_imul (n := 27) 14 rfl rfl <| E_iadd (n := 28) 15 rfl rfl <| E_iald (n := 29) 16 rfl rfl (shc_5_5 hN1) hc3 <| E_ireturn 17 rfl rfl (eP h)
theorem K_OH_heir (m : Mem) (x1 : Int32) (x2 : Int32) (R : Int32 × Mem) (h : OH_heir m x1 x2 = some R) : Mt M_OH_heir [.ref 0, .int x1, .int x2] m (qI R.1 R.2) := by
  refine Mt.of G_OH_heir (Nat.le_of_ble_eq_true rfl) (E_sub (lv' := [(0, .ref 0), (1, .int x1), (2, .int x2)]) [0, 1, 2] rfl ?_)
  unfold OH_heir at h
  refine E_iload_n (n := 1) 0 rfl rfl rfl 1 rfl <| E_iload_n (n := 2) 1 rfl rfl rfl 2 rfl <| E_dS2r (n := 5) 2 rfl rfl co_11_203 rfl rfl (K_OH_isSquare m x1 x2 _ rfl) <| E_if_ne (n := 8) (t := 10) 3 rfl rfl rfl (fun hc => ?_) (fun hc => ?_)
  · have h := ifn h hc
    obtain ⟨m1, hq2, h⟩ := bM_ex h
    obtain ⟨v3, hq4, h⟩ := bI_ex h
    refine E_aload_n (n := 11) 6 rfl rfl rfl 0 rfl <| E_cV0v (n := 14) 7 rfl rfl co_11_230 rfl sh_0 rfl (K_OH_surveyForHeirs m _ hq2) <| E_aload_n (n := 15) 8 rfl rfl rfl 0 rfl <| E_iload_n (n := 16) 9 rfl rfl rfl 1 rfl <| E_iload_n (n := 17) 10 rfl rfl rfl 2 rfl <| E_dS2r (n := 20) 11 rfl rfl co_11_212 rfl rfl (K_OH_squareAt m1 x1 x2 _ rfl) <| E_cV1r (n := 23) 12 rfl rfl co_11_233 rfl sh_0 rfl (K_OH_heirOf m1 (OH_squareAt x1 x2) _ hq4) <| E_ireturn 13 rfl rfl (eS h)
  · have h := ifp h hc
    refine E_iconst (v := (-1)) (n := 9) 4 rfl rfl icz_m1 <| E_ireturn 5 rfl rfl (eS h)
theorem OH_estate_L20_ok (x1 : Int32) (kx : Mem → Int32 → Option (Int32 × Mem)) (R : Int32 × Mem) (hx : ∀ (m : Mem) (x2 : Int32), kx m x2 = some R → E M_OH_estate 45 [(2, .int x2)] [] m (qI R.1 R.2)) : ∀ (n : Nat) (m : Mem) (x2 : Int32) (x3 : Int32), OH_estate_L20 x1 kx n m x2 x3 = some R → E M_OH_estate 20 [(0, .ref 0), (1, .int x1), (2, .int x2), (3, .int x3)] [] m (qI R.1 R.2) := by
  intro n
  induction n with
  | zero =>
    intro m x2 x3 h
    exact absurd (show none = some R from h) (fun e => Option.some_ne_none R e.symm)
  | succ n ih =>
    intro m x2 x3 h
    rw [OH_estate_L20] at h
    refine E_iload_n (n := 21) 13 rfl rfl rfl 3 rfl <| E_sipush (v := 400) (n := 24) 14 rfl rfl spz_400 <| E_icmp_ge (n := 27) (t := 45) 15 rfl rfl rfl (fun hc => ?_) (fun hc => ?_)
    · have h := ifp h hc
      refine E_sub (lv' := [(2, .int x2)]) [2] rfl ?_
      exact hx m x2 h
    · have h := ifn h hc
      obtain ⟨v1, hq2, h⟩ := bI_ex h
      refine E_aload_n (n := 28) 16 rfl rfl rfl 0 rfl <| E_iload_n (n := 29) 17 rfl rfl rfl 3 rfl <| E_cV1r (n := 32) 18 rfl rfl co_11_233 rfl sh_0 rfl (K_OH_heirOf m x3 _ hq2) <| E_iload_n (n := 33) 19 rfl rfl rfl 1 rfl <| E_icmp_ne (n := 36) (t := 39) 20 rfl rfl rfl (fun hc => ?_) (fun hc => ?_)
      · have h := ifn h hc
        refine E_iinc (v := (x3 + 1)) (lv' := [(0, .ref 0), (1, .int x1), (2, .int x2), (3, .int (x3 + 1))]) (n := 42) 22 rfl rfl 3 rfl (by rw [icz_1]) (Nat.le_of_ble_eq_true rfl) [1, 2, 3, 0] rfl <| E_goto (t := 20) 23 rfl rfl <| ?_
        exact ih m x2 (x3 + 1) h
      · have h := ifp h hc
        refine E_iinc (v := (x2 + 1)) (lv' := [(0, .ref 0), (1, .int x1), (2, .int (x2 + 1)), (3, .int x3)]) (n := 39) 21 rfl rfl 2 rfl (by rw [icz_1]) (Nat.le_of_ble_eq_true rfl) [1, 2, 0, 3] rfl <| ?_
        refine E_iinc (v := (x3 + 1)) (lv' := [(0, .ref 0), (1, .int x1), (2, .int (x2 + 1)), (3, .int (x3 + 1))]) (n := 42) 22 rfl rfl 3 rfl (by rw [icz_1]) (Nat.le_of_ble_eq_true rfl) [1, 2, 3, 0] rfl <| E_goto (t := 20) 23 rfl rfl <| ?_
        exact ih m (x2 + 1) (x3 + 1) h
theorem K_OH_estate (m : Mem) (x1 : Int32) (R : Int32 × Mem) (h : OH_estate m x1 = some R) : Mt M_OH_estate [.ref 0, .int x1] m (qI R.1 R.2) := by
  refine Mt.of G_OH_estate (Nat.le_of_ble_eq_true rfl) (E_sub (lv' := [(0, .ref 0), (1, .int x1)]) [0, 1] rfl ?_)
  unfold OH_estate at h
  refine E_iload_n (n := 1) 0 rfl rfl rfl 1 rfl <| E_if_lt (n := 4) (t := 10) 1 rfl rfl rfl (fun hc => ?_) (fun hc => ?_)
  · have h := ifp h hc
    refine E_iconst (v := (-1)) (n := 11) 5 rfl rfl icz_m1 <| E_ireturn 6 rfl rfl (eS h)
  · have h := ifn h hc
    refine E_iload_n (n := 5) 2 rfl rfl rfl 1 rfl <| E_bipush (v := 9) (n := 7) 3 rfl rfl bpz_9 <| E_icmp_le (n := 10) (t := 12) 4 rfl rfl rfl (fun hc => ?_) (fun hc => ?_)
    · have h := ifp h hc
      obtain ⟨m1, hq2, h⟩ := bM_ex h
      refine E_aload_n (n := 13) 7 rfl rfl rfl 0 rfl <| E_cV0v (n := 16) 8 rfl rfl co_11_230 rfl sh_0 rfl (K_OH_surveyForHeirs m _ hq2) <| E_iconst (v := 0) (n := 17) 9 rfl rfl icz_0 <| E_istore_n (lv' := [(0, .ref 0), (1, .int x1), (2, .int 0)]) (n := 18) 10 rfl rfl rfl (Nat.le_of_ble_eq_true rfl) [1, 2, 0] rfl <| E_iconst (v := 0) (n := 19) 11 rfl rfl icz_0 <| E_istore_n (lv' := [(0, .ref 0), (1, .int x1), (2, .int 0), (3, .int 0)]) (n := 20) 12 rfl rfl rfl (Nat.le_of_ble_eq_true rfl) [1, 2, 3, 0] rfl <| ?_
      refine OH_estate_L20_ok x1 _ R ?_ FU m1 0 0 h
      intro m4 y3 h
      refine E_iload_n (n := 46) 24 rfl rfl rfl 0 rfl <| E_ireturn 25 rfl rfl (eS h)
    · have h := ifn h hc
      refine E_iconst (v := (-1)) (n := 11) 5 rfl rfl icz_m1 <| E_ireturn 6 rfl rfl (eS h)
set_option maxRecDepth 10000 in
theorem PC_flood_L37_ok (x1 : Nat) (x2 : Int32) (x5 : Int32) (h_x1 : shp x1 = (100, 400)) (kx : Mem → Int32 → Option (Int32 × Mem)) (R : Int32 × Mem) (hx : ∀ (m : Mem) (x4 : Int32), kx m x4 = some R → E M_PC_flood 120 [(0, .ref 17), (1, .ref x1), (2, .int x2), (4, .int x4), (5, .int x5)] [] m (qI R.1 R.2)) : ∀ (n : Nat) (m : Mem) (x4 : Int32) (x6 : Int32), PC_flood_L37 x1 x2 x5 kx n m x4 x6 = some R → E M_PC_flood 37 [(0, .ref 17), (1, .ref x1), (2, .int x2), (4, .int x4), (5, .int x5), (6, .int x6)] [] m (qI R.1 R.2) := by
  intro n
  induction n with
  | zero =>
    intro m x4 x6 h
    exact absurd (show none = some R from h) (fun e => Option.some_ne_none R e.symm)
  | succ n ih =>
    intro m x4 x6 h
    rw [PC_flood_L37] at h
    refine E_iload (n := 39) 21 rfl rfl 5 rfl <| E_iconst (v := 3) (n := 40) 22 rfl rfl icz_3 <| E_icmp_gt (n := 43) (t := 120) 23 rfl rfl rfl (fun hc => ?_) (fun hc => ?_)
    · have h := ifp h hc
      refine E_sub (lv' := [(0, .ref 17), (1, .ref x1), (2, .int x2), (4, .int x4), (5, .int x5)]) [0, 1, 2, 3, 4] rfl ?_
      exact hx m x4 h
    · have h := ifn h hc
      obtain ⟨hc1, h⟩ := ift h
      obtain ⟨v2, hv2, h⟩ := letV_ex h
      refine E_aload_n (n := 44) 24 rfl rfl rfl 0 rfl <| E_gF (r := 19) (n := 47) 25 rfl rfl fg_6_15 sh_17 rfl <| E_iload (n := 49) 26 rfl rfl 4 rfl <| E_iald (n := 50) 27 rfl rfl sh_19 hc1 <| E_iload (n := 52) 28 rfl rfl 5 rfl <| E_dN2r (n := 55) 29 rfl rfl co_6_58 rfl rfl (K_OH_stepFrom m (gI m 19 (ixn x5)) x6 _ rfl) <| E_top hv2 <| E_istore (lv' := [(0, .ref 17), (1, .ref x1), (2, .int x2), (4, .int x4), (5, .int x5), (6, .int x6), (7, .int v2)]) (n := 57) 30 rfl rfl (Nat.le_of_ble_eq_true rfl) [1, 2, 3, 4, 5, 6, 0] rfl <| E_iload (n := 59) 31 rfl rfl 6 rfl <| E_if_lt (n := 62) (t := 114) 32 rfl rfl rfl (fun hc => ?_) (fun hc => ?_)
      · have h := ifp h hc
        refine E_iinc (v := (x6 + 1)) (lv' := [(0, .ref 17), (1, .ref x1), (2, .int x2), (4, .int x4), (5, .int x5), (6, .int (x6 + 1)), (7, .int v2)]) (n := 117) 61 rfl rfl 5 rfl (by rw [icz_1]) (Nat.le_of_ble_eq_true rfl) [1, 2, 3, 4, 5, 0, 6] rfl <| E_goto (t := 37) 62 rfl rfl <| ?_
        refine E_sub (lv' := [(0, .ref 17), (1, .ref x1), (2, .int x2), (4, .int x4), (5, .int x5), (6, .int (x6 + 1))]) [0, 1, 2, 3, 4, 5] rfl ?_
        exact ih m x4 (x6 + 1) h
      · have h := ifn h hc
        obtain ⟨hc3, h⟩ := ift h
        refine E_aload_n (n := 63) 33 rfl rfl rfl 0 rfl <| E_gF (r := 18) (n := 66) 34 rfl rfl fg_6_9 sh_17 rfl <| E_iload (n := 68) 35 rfl rfl 6 rfl <| E_iald (n := 69) 36 rfl rfl sh_18 hc3 <| E_iconst (v := (-1)) (n := 70) 37 rfl rfl icz_m1 <| E_icmp_ne (n := 73) (t := 114) 38 rfl rfl rfl (fun hc => ?_) (fun hc => ?_)
        · have h := ifn h hc
          refine E_iinc (v := (x6 + 1)) (lv' := [(0, .ref 17), (1, .ref x1), (2, .int x2), (4, .int x4), (5, .int x5), (6, .int (x6 + 1)), (7, .int v2)]) (n := 117) 61 rfl rfl 5 rfl (by rw [icz_1]) (Nat.le_of_ble_eq_true rfl) [1, 2, 3, 4, 5, 0, 6] rfl <| E_goto (t := 37) 62 rfl rfl <| ?_
          refine E_sub (lv' := [(0, .ref 17), (1, .ref x1), (2, .int x2), (4, .int x4), (5, .int x5), (6, .int (x6 + 1))]) [0, 1, 2, 3, 4, 5] rfl ?_
          exact ih m x4 (x6 + 1) h
        · have h := ifp h hc
          obtain ⟨hc4, h⟩ := ift h
          refine E_aload_n (n := 74) 39 rfl rfl rfl 1 rfl <| E_iload (n := 76) 40 rfl rfl 6 rfl <| E_iald (n := 77) 41 rfl rfl h_x1 hc3 <| E_aload_n (n := 78) 42 rfl rfl rfl 1 rfl <| E_iload_n (n := 79) 43 rfl rfl rfl 2 rfl <| E_iald (n := 80) 44 rfl rfl h_x1 hc4 <| E_icmp_ne (n := 83) (t := 114) 45 rfl rfl rfl (fun hc => ?_) (fun hc => ?_)
          · have h := ifn h hc
            refine E_iinc (v := (x6 + 1)) (lv' := [(0, .ref 17), (1, .ref x1), (2, .int x2), (4, .int x4), (5, .int x5), (6, .int (x6 + 1)), (7, .int v2)]) (n := 117) 61 rfl rfl 5 rfl (by rw [icz_1]) (Nat.le_of_ble_eq_true rfl) [1, 2, 3, 4, 5, 0, 6] rfl <| E_goto (t := 37) 62 rfl rfl <| ?_
            refine E_sub (lv' := [(0, .ref 17), (1, .ref x1), (2, .int x2), (4, .int x4), (5, .int x5), (6, .int (x6 + 1))]) [0, 1, 2, 3, 4, 5] rfl ?_
            exact ih m x4 (x6 + 1) h
          · have h := ifp h hc
            refine E_iload (n := 85) 46 rfl rfl 3 rfl <| E_sipush (v := 400) (n := 88) 47 rfl rfl spz_400 <| E_icmp_ge (n := 91) (t := 114) 48 rfl rfl rfl (fun hc => ?_) (fun hc => ?_)
            · have h := ifp h hc
              refine E_iinc (v := (x6 + 1)) (lv' := [(0, .ref 17), (1, .ref x1), (2, .int x2), (4, .int x4), (5, .int x5), (6, .int (x6 + 1)), (7, .int v2)]) (n := 117) 61 rfl rfl 5 rfl (by rw [icz_1]) (Nat.le_of_ble_eq_true rfl) [1, 2, 3, 4, 5, 0, 6] rfl <| E_goto (t := 37) 62 rfl rfl <| ?_
              refine E_sub (lv' := [(0, .ref 17), (1, .ref x1), (2, .int x2), (4, .int x4), (5, .int x5), (6, .int (x6 + 1))]) [0, 1, 2, 3, 4, 5] rfl ?_
              exact ih m x4 (x6 + 1) h
            · have h := ifn h hc
              obtain ⟨m5, hm5, h⟩ := letM_ex h
              obtain ⟨hc6, h⟩ := ift h
              obtain ⟨m7, hm7, h⟩ := letM_ex h
              refine E_aload_n (n := 92) 49 rfl rfl rfl 0 rfl <| E_gF (r := 18) (n := 95) 50 rfl rfl fg_6_9 sh_17 rfl <| E_iload (n := 97) 51 rfl rfl 6 rfl <| E_aload_n (n := 98) 52 rfl rfl rfl 0 rfl <| E_gI (n := 101) 53 rfl rfl fg_6_42 sh_17 <| E_iast (n := 102) 54 rfl rfl sh_18 hc3 <| E_mem hm5 <| E_aload_n (n := 103) 55 rfl rfl rfl 0 rfl <| E_gF (r := 19) (n := 106) 56 rfl rfl fg_6_15 sh_17 rfl <| E_iload (n := 108) 57 rfl rfl 3 rfl <| E_iload (n := 110) 58 rfl rfl 6 rfl <| E_iast (n := 111) 59 rfl rfl sh_19 hc6 <| E_mem hm7 <| E_iinc (v := (x4 + 1)) (lv' := [(0, .ref 17), (1, .ref x1), (2, .int x2), (4, .int (x4 + 1)), (5, .int x5), (6, .int x6), (7, .int v2)]) (n := 114) 60 rfl rfl 3 rfl (by rw [icz_1]) (Nat.le_of_ble_eq_true rfl) [1, 2, 3, 0, 4, 5, 6] rfl <| ?_
              refine E_iinc (v := (x6 + 1)) (lv' := [(0, .ref 17), (1, .ref x1), (2, .int x2), (4, .int (x4 + 1)), (5, .int x5), (6, .int (x6 + 1)), (7, .int v2)]) (n := 117) 61 rfl rfl 5 rfl (by rw [icz_1]) (Nat.le_of_ble_eq_true rfl) [1, 2, 3, 4, 5, 0, 6] rfl <| E_goto (t := 37) 62 rfl rfl <| ?_
              refine E_sub (lv' := [(0, .ref 17), (1, .ref x1), (2, .int x2), (4, .int (x4 + 1)), (5, .int x5), (6, .int (x6 + 1))]) [0, 1, 2, 3, 4, 5] rfl ?_
              exact ih m7 (x4 + 1) (x6 + 1) h
theorem PC_flood_L27_ok (x1 : Nat) (x2 : Int32) (h_x1 : shp x1 = (100, 400)) (kx : Mem → Int32 → Option (Int32 × Mem)) (R : Int32 × Mem) (hx : ∀ (m : Mem) (x4 : Int32), kx m x4 = some R → E M_PC_flood 126 [(4, .int x4)] [] m (qI R.1 R.2)) : ∀ (n : Nat) (m : Mem) (x4 : Int32) (x5 : Int32), PC_flood_L27 x1 x2 kx n m x4 x5 = some R → E M_PC_flood 27 [(0, .ref 17), (1, .ref x1), (2, .int x2), (4, .int x4), (5, .int x5)] [] m (qI R.1 R.2) := by
  intro n
  induction n with
  | zero =>
    intro m x4 x5 h
    exact absurd (show none = some R from h) (fun e => Option.some_ne_none R e.symm)
  | succ n ih =>
    intro m x4 x5 h
    rw [PC_flood_L27] at h
    refine E_iload (n := 29) 16 rfl rfl 4 rfl <| E_iload (n := 31) 17 rfl rfl 3 rfl <| E_icmp_ge (n := 34) (t := 126) 18 rfl rfl rfl (fun hc => ?_) (fun hc => ?_)
    · have h := ifp h hc
      refine E_sub (lv' := [(4, .int x4)]) [3] rfl ?_
      exact hx m x4 h
    · have h := ifn h hc
      refine E_iconst (v := 0) (n := 35) 19 rfl rfl icz_0 <| E_istore (lv' := [(0, .ref 17), (1, .ref x1), (2, .int x2), (4, .int x4), (5, .int x5), (6, .int 0)]) (n := 37) 20 rfl rfl (Nat.le_of_ble_eq_true rfl) [1, 2, 3, 4, 5, 0] rfl <| ?_
      refine PC_flood_L37_ok x1 x2 x5 h_x1 _ R ?_ FU m x4 0 h
      intro m2 y1 h
      refine E_iinc (v := (x5 + 1)) (lv' := [(0, .ref 17), (1, .ref x1), (2, .int x2), (4, .int y1), (5, .int (x5 + 1))]) (n := 123) 63 rfl rfl 4 rfl (by rw [icz_1]) (Nat.le_of_ble_eq_true rfl) [1, 2, 3, 4, 0] rfl <| E_goto (t := 27) 64 rfl rfl <| ?_
      exact ih m2 y1 (x5 + 1) h
theorem K_PC_flood (m : Mem) (x1 : Nat) (x2 : Int32) (x3 : Int32) (h_x1 : shp x1 = (100, 400)) (R : Int32 × Mem) (h : PC_flood m x1 x2 x3 = some R) : Mt M_PC_flood [.ref 17, .ref x1, .int x2, .int x3] m (qI R.1 R.2) := by
  refine Mt.of G_PC_flood (Nat.le_of_ble_eq_true rfl) (E_sub (lv' := [(0, .ref 17), (1, .ref x1), (2, .int x2), (3, .int x3)]) [0, 1, 2, 3] rfl ?_)
  unfold PC_flood at h
  obtain ⟨hc1, h⟩ := ift h
  obtain ⟨m2, hm2, h⟩ := letM_ex h
  obtain ⟨hc3, h⟩ := ift h
  obtain ⟨m4, hm4, h⟩ := letM_ex h
  refine E_iload_n (n := 1) 0 rfl rfl rfl 3 rfl <| E_istore (lv' := [(0, .ref 17), (1, .ref x1), (2, .int x2), (3, .int x3), (4, .int x3)]) (n := 3) 1 rfl rfl (Nat.le_of_ble_eq_true rfl) [1, 2, 3, 4, 0] rfl <| E_aload_n (n := 4) 2 rfl rfl rfl 0 rfl <| E_gF (r := 18) (n := 7) 3 rfl rfl fg_6_9 sh_17 rfl <| E_iload_n (n := 8) 4 rfl rfl rfl 2 rfl <| E_aload_n (n := 9) 5 rfl rfl rfl 0 rfl <| E_gI (n := 12) 6 rfl rfl fg_6_42 sh_17 <| E_iast (n := 13) 7 rfl rfl sh_18 hc1 <| E_mem hm2 <| E_aload_n (n := 14) 8 rfl rfl rfl 0 rfl <| E_gF (r := 19) (n := 17) 9 rfl rfl fg_6_15 sh_17 rfl <| E_iload (n := 19) 10 rfl rfl 4 rfl <| E_iload_n (n := 20) 11 rfl rfl rfl 2 rfl <| E_iast (n := 21) 12 rfl rfl sh_19 hc3 <| E_mem hm4 <| E_iinc (v := (x3 + 1)) (lv' := [(0, .ref 17), (1, .ref x1), (2, .int x2), (3, .int x3), (4, .int (x3 + 1))]) (n := 24) 13 rfl rfl 4 rfl (by rw [icz_1]) (Nat.le_of_ble_eq_true rfl) [1, 2, 3, 4, 0] rfl <| E_iload_n (n := 25) 14 rfl rfl rfl 3 rfl <| E_istore (lv' := [(0, .ref 17), (1, .ref x1), (2, .int x2), (3, .int x3), (4, .int (x3 + 1)), (5, .int x3)]) (n := 27) 15 rfl rfl (Nat.le_of_ble_eq_true rfl) [1, 2, 3, 4, 5, 0] rfl <| ?_
  refine E_sub (lv' := [(0, .ref 17), (1, .ref x1), (2, .int x2), (4, .int (x3 + 1)), (5, .int x3)]) [0, 1, 2, 4, 5] rfl ?_
  refine PC_flood_L27_ok x1 x2 h_x1 _ R ?_ FU m4 (x3 + 1) x3 h
  intro m6 y5 h
  refine E_iload (n := 128) 65 rfl rfl 0 rfl <| E_ireturn 66 rfl rfl (eS h)
theorem PC_listBeside_J36_ok (kr : Mem → Int32 → Int32 → Option (Int32 × Mem)) (kx : Mem → Int32 → Option (Int32 × Mem)) (m : Mem) (x1 : Int32) (x2 : Int32) (x4 : Int32) (x5 : Int32) (s0 : Int32) (R : Int32 × Mem) (hr : ∀ (m : Mem) (x4 : Int32) (x5 : Int32), kr m x4 x5 = some R → E M_PC_listBeside 6 [(0, .ref 17), (1, .int x1), (2, .int x2), (4, .int x4), (5, .int x5)] [] m (qI R.1 R.2)) (hx : ∀ (m : Mem) (x4 : Int32), kx m x4 = some R → E M_PC_listBeside 89 [(4, .int x4)] [] m (qI R.1 R.2)) (h : PC_listBeside_J36 kr kx m x1 x2 x4 x5 s0 = some R) : E M_PC_listBeside 36 [(0, .ref 17), (1, .int x1), (2, .int x2), (4, .int x4), (5, .int x5)] [.int s0] m (qI R.1 R.2) := by
  unfold PC_listBeside_J36 at h
  refine E_istore (lv' := [(0, .ref 17), (1, .int x1), (2, .int x2), (4, .int x4), (5, .int x5), (7, .int s0)]) (n := 38) 19 rfl rfl (Nat.le_of_ble_eq_true rfl) [1, 2, 3, 4, 5, 0] rfl <| E_iload (n := 40) 20 rfl rfl 5 rfl <| E_iload_n (n := 41) 21 rfl rfl rfl 1 rfl <| E_icmp_eq (n := 44) (t := 83) 22 rfl rfl rfl (fun hc => ?_) (fun hc => ?_)
  · have h := ifp h hc
    refine E_iinc (v := (x5 + 1)) (lv' := [(0, .ref 17), (1, .int x1), (2, .int x2), (4, .int x4), (5, .int (x5 + 1)), (7, .int s0)]) (n := 86) 43 rfl rfl 4 rfl (by rw [icz_1]) (Nat.le_of_ble_eq_true rfl) [1, 2, 3, 4, 0, 5] rfl <| E_goto (t := 6) 44 rfl rfl <| ?_
    refine E_sub (lv' := [(0, .ref 17), (1, .int x1), (2, .int x2), (4, .int x4), (5, .int (x5 + 1))]) [0, 1, 2, 3, 4] rfl ?_
    exact hr m x4 (x5 + 1) h
  · have h := ifn h hc
    obtain ⟨hc1, h⟩ := ift h
    refine E_aload_n (n := 45) 23 rfl rfl rfl 0 rfl <| E_gF (r := 23) (n := 48) 24 rfl rfl fg_6_27 sh_17 rfl <| E_iload (n := 50) 25 rfl rfl 5 rfl <| E_iald (n := 51) 26 rfl rfl sh_23 hc1 <| E_iload_n (n := 52) 27 rfl rfl rfl 1 rfl <| E_icmp_eq (n := 55) (t := 83) 28 rfl rfl rfl (fun hc => ?_) (fun hc => ?_)
    · have h := ifp h hc
      refine E_iinc (v := (x5 + 1)) (lv' := [(0, .ref 17), (1, .int x1), (2, .int x2), (4, .int x4), (5, .int (x5 + 1)), (7, .int s0)]) (n := 86) 43 rfl rfl 4 rfl (by rw [icz_1]) (Nat.le_of_ble_eq_true rfl) [1, 2, 3, 4, 0, 5] rfl <| E_goto (t := 6) 44 rfl rfl <| ?_
      refine E_sub (lv' := [(0, .ref 17), (1, .int x1), (2, .int x2), (4, .int x4), (5, .int (x5 + 1))]) [0, 1, 2, 3, 4] rfl ?_
      exact hr m x4 (x5 + 1) h
    · have h := ifn h hc
      refine E_iload (n := 57) 29 rfl rfl 3 rfl <| E_sipush (v := 1600) (n := 60) 30 rfl rfl spz_1600 <| E_icmp_ge (n := 63) (t := 83) 31 rfl rfl rfl (fun hc => ?_) (fun hc => ?_)
      · have h := ifp h hc
        refine E_iinc (v := (x5 + 1)) (lv' := [(0, .ref 17), (1, .int x1), (2, .int x2), (4, .int x4), (5, .int (x5 + 1)), (7, .int s0)]) (n := 86) 43 rfl rfl 4 rfl (by rw [icz_1]) (Nat.le_of_ble_eq_true rfl) [1, 2, 3, 4, 0, 5] rfl <| E_goto (t := 6) 44 rfl rfl <| ?_
        refine E_sub (lv' := [(0, .ref 17), (1, .int x1), (2, .int x2), (4, .int x4), (5, .int (x5 + 1))]) [0, 1, 2, 3, 4] rfl ?_
        exact hr m x4 (x5 + 1) h
      · have h := ifn h hc
        obtain ⟨m2, hm2, h⟩ := letM_ex h
        obtain ⟨hc3, h⟩ := ift h
        obtain ⟨m4, hm4, h⟩ := letM_ex h
        refine E_aload_n (n := 64) 32 rfl rfl rfl 0 rfl <| E_gF (r := 23) (n := 67) 33 rfl rfl fg_6_27 sh_17 rfl <| E_iload (n := 69) 34 rfl rfl 5 rfl <| E_iload_n (n := 70) 35 rfl rfl rfl 1 rfl <| E_iast (n := 71) 36 rfl rfl sh_23 hc1 <| E_mem hm2 <| E_aload_n (n := 72) 37 rfl rfl rfl 0 rfl <| E_gF (r := 21) (n := 75) 38 rfl rfl fg_6_21 sh_17 rfl <| E_iload (n := 77) 39 rfl rfl 3 rfl <| E_iload (n := 79) 40 rfl rfl 5 rfl <| E_iast (n := 80) 41 rfl rfl sh_21 hc3 <| E_mem hm4 <| E_iinc (v := (x4 + 1)) (lv' := [(0, .ref 17), (1, .int x1), (2, .int x2), (4, .int (x4 + 1)), (5, .int x5), (7, .int s0)]) (n := 83) 42 rfl rfl 3 rfl (by rw [icz_1]) (Nat.le_of_ble_eq_true rfl) [1, 2, 3, 0, 4, 5] rfl <| ?_
        refine E_iinc (v := (x5 + 1)) (lv' := [(0, .ref 17), (1, .int x1), (2, .int x2), (4, .int (x4 + 1)), (5, .int (x5 + 1)), (7, .int s0)]) (n := 86) 43 rfl rfl 4 rfl (by rw [icz_1]) (Nat.le_of_ble_eq_true rfl) [1, 2, 3, 4, 0, 5] rfl <| E_goto (t := 6) 44 rfl rfl <| ?_
        refine E_sub (lv' := [(0, .ref 17), (1, .int x1), (2, .int x2), (4, .int (x4 + 1)), (5, .int (x5 + 1))]) [0, 1, 2, 3, 4] rfl ?_
        exact hr m4 (x4 + 1) (x5 + 1) h
theorem PC_listBeside_L6_ok (x1 : Int32) (x2 : Int32) (kx : Mem → Int32 → Option (Int32 × Mem)) (R : Int32 × Mem) (hx : ∀ (m : Mem) (x4 : Int32), kx m x4 = some R → E M_PC_listBeside 89 [(4, .int x4)] [] m (qI R.1 R.2)) : ∀ (n : Nat) (m : Mem) (x4 : Int32) (x5 : Int32), PC_listBeside_L6 x1 x2 kx n m x4 x5 = some R → E M_PC_listBeside 6 [(0, .ref 17), (1, .int x1), (2, .int x2), (4, .int x4), (5, .int x5)] [] m (qI R.1 R.2) := by
  intro n
  induction n with
  | zero =>
    intro m x4 x5 h
    exact absurd (show none = some R from h) (fun e => Option.some_ne_none R e.symm)
  | succ n ih =>
    intro m x4 x5 h
    rw [PC_listBeside_L6] at h
    refine E_iload (n := 8) 4 rfl rfl 4 rfl <| E_iconst (v := 3) (n := 9) 5 rfl rfl icz_3 <| E_icmp_gt (n := 12) (t := 89) 6 rfl rfl rfl (fun hc => ?_) (fun hc => ?_)
    · have h := ifp h hc
      refine E_sub (lv' := [(4, .int x4)]) [3] rfl ?_
      exact hx m x4 h
    · have h := ifn h hc
      obtain ⟨v1, hv1, h⟩ := letV_ex h
      refine E_iload_n (n := 13) 7 rfl rfl rfl 2 rfl <| E_iload (n := 15) 8 rfl rfl 4 rfl <| E_dN2r (n := 18) 9 rfl rfl co_6_58 rfl rfl (K_OH_stepFrom m x2 x5 _ rfl) <| E_top hv1 <| E_istore (lv' := [(0, .ref 17), (1, .int x1), (2, .int x2), (4, .int x4), (5, .int x5), (6, .int v1)]) (n := 20) 10 rfl rfl (Nat.le_of_ble_eq_true rfl) [1, 2, 3, 4, 5, 0] rfl <| E_iload (n := 22) 11 rfl rfl 5 rfl <| E_if_ge (n := 25) (t := 29) 12 rfl rfl rfl (fun hc => ?_) (fun hc => ?_)
      · have h := ifp h hc
        obtain ⟨hc2, h⟩ := ift h
        refine E_aload_n (n := 30) 15 rfl rfl rfl 0 rfl <| E_gF (r := 18) (n := 33) 16 rfl rfl fg_6_9 sh_17 rfl <| E_iload (n := 35) 17 rfl rfl 5 rfl <| E_iald (n := 36) 18 rfl rfl sh_18 hc2 <| ?_
        refine E_sub (lv' := [(0, .ref 17), (1, .int x1), (2, .int x2), (4, .int x4), (5, .int x5)]) [0, 1, 2, 3, 4] rfl ?_
        exact PC_listBeside_J36_ok _ _ m x1 x2 x4 x5 (gI m 18 (ixn v1)) _ ih hx h
      · have h := ifn h hc
        refine E_iload_n (n := 26) 13 rfl rfl rfl 1 rfl <| E_goto (t := 36) 14 rfl rfl <| ?_
        refine E_sub (lv' := [(0, .ref 17), (1, .int x1), (2, .int x2), (4, .int x4), (5, .int x5)]) [0, 1, 2, 3, 4] rfl ?_
        exact PC_listBeside_J36_ok _ _ m x1 x2 x4 x5 x1 _ ih hx h
theorem K_PC_listBeside (m : Mem) (x1 : Int32) (x2 : Int32) (x3 : Int32) (R : Int32 × Mem) (h : PC_listBeside m x1 x2 x3 = some R) : Mt M_PC_listBeside [.ref 17, .int x1, .int x2, .int x3] m (qI R.1 R.2) := by
  refine Mt.of G_PC_listBeside (Nat.le_of_ble_eq_true rfl) (E_sub (lv' := [(0, .ref 17), (1, .int x1), (2, .int x2), (3, .int x3)]) [0, 1, 2, 3] rfl ?_)
  unfold PC_listBeside at h
  refine E_iload_n (n := 1) 0 rfl rfl rfl 3 rfl <| E_istore (lv' := [(0, .ref 17), (1, .int x1), (2, .int x2), (3, .int x3), (4, .int x3)]) (n := 3) 1 rfl rfl (Nat.le_of_ble_eq_true rfl) [1, 2, 3, 4, 0] rfl <| E_iconst (v := 0) (n := 4) 2 rfl rfl icz_0 <| E_istore (lv' := [(0, .ref 17), (1, .int x1), (2, .int x2), (3, .int x3), (4, .int x3), (5, .int 0)]) (n := 6) 3 rfl rfl (Nat.le_of_ble_eq_true rfl) [1, 2, 3, 4, 5, 0] rfl <| ?_
  refine E_sub (lv' := [(0, .ref 17), (1, .int x1), (2, .int x2), (4, .int x3), (5, .int 0)]) [0, 1, 2, 4, 5] rfl ?_
  refine PC_listBeside_L6_ok x1 x2 _ R ?_ FU m x3 0 h
  intro m2 y1 h
  refine E_iload (n := 91) 45 rfl rfl 0 rfl <| E_ireturn 46 rfl rfl (eS h)
theorem PC_findBeside_L34_ok (x2 : Int32) (kx : Mem → Int32 → Option Mem) (R : Mem) (hx : ∀ (m : Mem) (x1 : Int32), kx m x1 = some R → E M_PC_findBeside 65 [(0, .ref 17), (1, .int x1), (2, .int x2)] [] m (qV R)) : ∀ (n : Nat) (m : Mem) (x1 : Int32) (x3 : Int32), PC_findBeside_L34 x2 kx n m x1 x3 = some R → E M_PC_findBeside 34 [(0, .ref 17), (1, .int x1), (2, .int x2), (3, .int x3)] [] m (qV R) := by
  intro n
  induction n with
  | zero =>
    intro m x1 x3 h
    exact absurd (show none = some R from h) (fun e => Option.some_ne_none R e.symm)
  | succ n ih =>
    intro m x1 x3 h
    rw [PC_findBeside_L34] at h
    obtain ⟨hc1, h⟩ := ift h
    refine E_iload_n (n := 35) 22 rfl rfl rfl 3 rfl <| E_aload_n (n := 36) 23 rfl rfl rfl 0 rfl <| E_gF (r := 20) (n := 39) 24 rfl rfl fg_6_18 sh_17 rfl <| E_iload_n (n := 40) 25 rfl rfl rfl 2 rfl <| E_iconst (v := 1) (n := 41) 26 rfl rfl icz_1 <| E_iadd (n := 42) 27 rfl rfl <| E_iald (n := 43) 28 rfl rfl sh_20 hc1 <| E_icmp_ge (n := 46) (t := 65) 29 rfl rfl rfl (fun hc => ?_) (fun hc => ?_)
    · have h := ifp h hc
      refine E_sub (lv' := [(0, .ref 17), (1, .int x1), (2, .int x2)]) [0, 1, 2] rfl ?_
      exact hx m x1 h
    · have h := ifn h hc
      obtain ⟨hc2, h⟩ := ift h
      obtain ⟨v3, m4, hq5, h⟩ := bV_ex h
      refine E_aload_n (n := 47) 30 rfl rfl rfl 0 rfl <| E_iload_n (n := 48) 31 rfl rfl rfl 2 rfl <| E_aload_n (n := 49) 32 rfl rfl rfl 0 rfl <| E_gF (r := 19) (n := 52) 33 rfl rfl fg_6_15 sh_17 rfl <| E_iload_n (n := 53) 34 rfl rfl rfl 3 rfl <| E_iald (n := 54) 35 rfl rfl sh_19 hc2 <| E_iload_n (n := 55) 36 rfl rfl rfl 1 rfl <| E_cV3r (n := 58) 37 rfl rfl co_6_62 rfl sh_17 rfl (K_PC_listBeside m x2 (gI m 19 (ixn x3)) x1 _ hq5) <| E_istore_n (lv' := [(0, .ref 17), (1, .int v3), (2, .int x2), (3, .int x3)]) (n := 59) 38 rfl rfl rfl (Nat.le_of_ble_eq_true rfl) [1, 0, 2, 3] rfl <| E_iinc (v := (x3 + 1)) (lv' := [(0, .ref 17), (1, .int v3), (2, .int x2), (3, .int (x3 + 1))]) (n := 62) 39 rfl rfl 3 rfl (by rw [icz_1]) (Nat.le_of_ble_eq_true rfl) [1, 2, 3, 0] rfl <| E_goto (t := 34) 40 rfl rfl <| ?_
      exact ih m4 v3 (x3 + 1) h
theorem PC_findBeside_L12_ok (kx : Mem → Int32 → Option Mem) (R : Mem) (hx : ∀ (m : Mem) (x1 : Int32), kx m x1 = some R → E M_PC_findBeside 71 [(0, .ref 17), (1, .int x1)] [] m (qV R)) : ∀ (n : Nat) (m : Mem) (x1 : Int32) (x2 : Int32), PC_findBeside_L12 kx n m x1 x2 = some R → E M_PC_findBeside 12 [(0, .ref 17), (1, .int x1), (2, .int x2)] [] m (qV R) := by
  intro n
  induction n with
  | zero =>
    intro m x1 x2 h
    exact absurd (show none = some R from h) (fun e => Option.some_ne_none R e.symm)
  | succ n ih =>
    intro m x1 x2 h
    rw [PC_findBeside_L12] at h
    refine E_iload_n (n := 13) 8 rfl rfl rfl 2 rfl <| E_aload_n (n := 14) 9 rfl rfl rfl 0 rfl <| E_gI (n := 17) 10 rfl rfl fg_6_42 sh_17 <| E_icmp_ge (n := 20) (t := 71) 11 rfl rfl rfl (fun hc => ?_) (fun hc => ?_)
    · have h := ifp h hc
      refine E_sub (lv' := [(0, .ref 17), (1, .int x1)]) [0, 1] rfl ?_
      exact hx m x1 h
    · have h := ifn h hc
      obtain ⟨hc1, h⟩ := ift h
      obtain ⟨m2, hm2, h⟩ := letM_ex h
      obtain ⟨v3, hv3, h⟩ := letV_ex h
      refine E_aload_n (n := 21) 12 rfl rfl rfl 0 rfl <| E_gF (r := 22) (n := 24) 13 rfl rfl fg_6_24 sh_17 rfl <| E_iload_n (n := 25) 14 rfl rfl rfl 2 rfl <| E_iload_n (n := 26) 15 rfl rfl rfl 1 rfl <| E_iast (n := 27) 16 rfl rfl sh_22 hc1 <| E_mem hm2 <| E_aload_n (n := 28) 17 rfl rfl rfl 0 rfl <| E_gF (r := 20) (n := 31) 18 rfl rfl fg_6_18 sh_17 rfl <| E_iload_n (n := 32) 19 rfl rfl rfl 2 rfl <| E_iald (n := 33) 20 rfl rfl sh_20 hc1 <| E_top hv3 <| E_istore_n (lv' := [(0, .ref 17), (1, .int x1), (2, .int x2), (3, .int v3)]) (n := 34) 21 rfl rfl rfl (Nat.le_of_ble_eq_true rfl) [1, 2, 3, 0] rfl <| ?_
      refine PC_findBeside_L34_ok x2 _ R ?_ FU m2 x1 v3 h
      intro m5 y4 h
      refine E_iinc (v := (x2 + 1)) (lv' := [(0, .ref 17), (1, .int y4), (2, .int (x2 + 1))]) (n := 68) 41 rfl rfl 2 rfl (by rw [icz_1]) (Nat.le_of_ble_eq_true rfl) [1, 2, 0] rfl <| E_goto (t := 12) 42 rfl rfl <| ?_
      exact ih m5 y4 (x2 + 1) h
theorem K_PC_findBeside (m : Mem) (R : Mem) (h : PC_findBeside m = some R) : Mt M_PC_findBeside [.ref 17] m (qV R) := by
  refine Mt.of G_PC_findBeside (Nat.le_of_ble_eq_true rfl) (E_sub (lv' := [(0, .ref 17)]) [0] rfl ?_)
  unfold PC_findBeside at h
  obtain ⟨m1, hq2, h⟩ := bM_ex h
  refine E_aload_n (n := 1) 0 rfl rfl rfl 0 rfl <| E_gF (r := 23) (n := 4) 1 rfl rfl fg_6_27 sh_17 rfl <| E_iconst (v := (-1)) (n := 5) 2 rfl rfl icz_m1 <| E_dS2v (n := 8) 3 rfl rfl co_6_36 rfl rfl (K_JA_fill m 23 (-1) (shq sh_23) _ hq2) <| E_iconst (v := 0) (n := 9) 4 rfl rfl icz_0 <| E_istore_n (lv' := [(0, .ref 17), (1, .int 0)]) (n := 10) 5 rfl rfl rfl (Nat.le_of_ble_eq_true rfl) [1, 0] rfl <| E_iconst (v := 0) (n := 11) 6 rfl rfl icz_0 <| E_istore_n (lv' := [(0, .ref 17), (1, .int 0), (2, .int 0)]) (n := 12) 7 rfl rfl rfl (Nat.le_of_ble_eq_true rfl) [1, 2, 0] rfl <| ?_
  refine PC_findBeside_L12_ok _ R ?_ FU m1 0 0 h
  intro m4 y3 h
  obtain ⟨hc5, h⟩ := ift h
  obtain ⟨m6, hm6, h⟩ := letM_ex h
  refine E_aload_n (n := 72) 43 rfl rfl rfl 0 rfl <| E_gF (r := 22) (n := 75) 44 rfl rfl fg_6_24 sh_17 rfl <| E_aload_n (n := 76) 45 rfl rfl rfl 0 rfl <| E_gI (n := 79) 46 rfl rfl fg_6_42 sh_17 <| E_iload_n (n := 80) 47 rfl rfl rfl 1 rfl <| E_iast (n := 81) 48 rfl rfl sh_22 hc5 <| E_mem hm6 <| E_return 49 rfl rfl (eV h)
theorem PC_find_L17_ok (x1 : Nat) (h_x1 : shp x1 = (1, 0)) (kx : Mem → Int32 → Option Mem) (R : Mem) (hx : ∀ (m : Mem) (x2 : Int32), kx m x2 = some R → E M_PC_find 71 [(0, .ref 17), (2, .int x2)] [] m (qV R)) : ∀ (n : Nat) (m : Mem) (x2 : Int32) (x3 : Int32), PC_find_L17 x1 kx n m x2 x3 = some R → E M_PC_find 17 [(0, .ref 17), (1, .ref x1), (2, .int x2), (3, .int x3)] [] m (qV R) := by
  intro n
  induction n with
  | zero =>
    intro m x2 x3 h
    exact absurd (show none = some R from h) (fun e => Option.some_ne_none R e.symm)
  | succ n ih =>
    intro m x2 x3 h
    rw [PC_find_L17] at h
    refine E_iload_n (n := 18) 11 rfl rfl rfl 3 rfl <| E_sipush (v := 400) (n := 21) 12 rfl rfl spz_400 <| E_icmp_ge (n := 24) (t := 71) 13 rfl rfl rfl (fun hc => ?_) (fun hc => ?_)
    · have h := ifp h hc
      refine E_sub (lv' := [(0, .ref 17), (2, .int x2)]) [0, 2] rfl ?_
      exact hx m x2 h
    · have h := ifn h hc
      obtain ⟨hc1, h⟩ := ift h
      refine E_aload_n (n := 25) 14 rfl rfl rfl 0 rfl <| E_gF (r := 18) (n := 28) 15 rfl rfl fg_6_9 sh_17 rfl <| E_iload_n (n := 29) 16 rfl rfl rfl 3 rfl <| E_iald (n := 30) 17 rfl rfl sh_18 hc1 <| E_iconst (v := (-1)) (n := 31) 18 rfl rfl icz_m1 <| E_icmp_ne (n := 34) (t := 65) 19 rfl rfl rfl (fun hc => ?_) (fun hc => ?_)
      · have h := ifn h hc
        refine E_iinc (v := (x3 + 1)) (lv' := [(0, .ref 17), (1, .ref x1), (2, .int x2), (3, .int (x3 + 1))]) (n := 68) 39 rfl rfl 3 rfl (by rw [icz_1]) (Nat.le_of_ble_eq_true rfl) [1, 2, 3, 0] rfl <| E_goto (t := 17) 40 rfl rfl <| ?_
        exact ih m x2 (x3 + 1) h
      · have h := ifp h hc
        obtain ⟨hc2, h⟩ := ift h
        obtain ⟨m3, hm3, h⟩ := letM_ex h
        obtain ⟨v4, m5, hq6, h⟩ := bV_ex h
        obtain ⟨m7, hm7, h⟩ := letM_ex h
        refine E_aload_n (n := 35) 20 rfl rfl rfl 0 rfl <| E_gF (r := 20) (n := 38) 21 rfl rfl fg_6_18 sh_17 rfl <| E_aload_n (n := 39) 22 rfl rfl rfl 0 rfl <| E_gI (n := 42) 23 rfl rfl fg_6_42 sh_17 <| E_iload_n (n := 43) 24 rfl rfl rfl 2 rfl <| E_iast (n := 44) 25 rfl rfl sh_20 hc2 <| E_mem hm3 <| E_aload_n (n := 45) 26 rfl rfl rfl 0 rfl <| E_aload_n (n := 46) 27 rfl rfl rfl 1 rfl <| E_gF (r := (x1 + 1)) (n := 49) 28 rfl rfl fg_6_46 h_x1 rfl <| E_iload_n (n := 50) 29 rfl rfl rfl 3 rfl <| E_iload_n (n := 51) 30 rfl rfl rfl 2 rfl <| E_cV3r (n := 54) 31 rfl rfl co_6_51 rfl sh_17 rfl (K_PC_flood m3 (x1 + 1) x3 x2 (shc_1_0 h_x1) _ hq6) <| E_istore_n (lv' := [(0, .ref 17), (1, .ref x1), (2, .int v4), (3, .int x3)]) (n := 55) 32 rfl rfl rfl (Nat.le_of_ble_eq_true rfl) [1, 2, 0, 3] rfl <| E_aload_n (n := 56) 33 rfl rfl rfl 0 rfl <| E_dup (n := 57) 34 rfl rfl rfl <| E_gI (n := 60) 35 rfl rfl fg_6_42 sh_17 <| E_iconst (v := 1) (n := 61) 36 rfl rfl icz_1 <| E_iadd (n := 62) 37 rfl rfl <| E_pI (n := 65) 38 rfl rfl fp_6_42 sh_17 <| E_mem hm7 <| ?_
        refine E_iinc (v := (x3 + 1)) (lv' := [(0, .ref 17), (1, .ref x1), (2, .int v4), (3, .int (x3 + 1))]) (n := 68) 39 rfl rfl 3 rfl (by rw [icz_1]) (Nat.le_of_ble_eq_true rfl) [1, 2, 3, 0] rfl <| E_goto (t := 17) 40 rfl rfl <| ?_
        exact ih m7 v4 (x3 + 1) h
theorem K_PC_find (m : Mem) (x1 : Nat) (h_x1 : shp x1 = (1, 0)) (R : Mem) (h : PC_find m x1 = some R) : Mt M_PC_find [.ref 17, .ref x1] m (qV R) := by
  refine Mt.of G_PC_find (Nat.le_of_ble_eq_true rfl) (E_sub (lv' := [(0, .ref 17), (1, .ref x1)]) [0, 1] rfl ?_)
  unfold PC_find at h
  obtain ⟨m1, hq2, h⟩ := bM_ex h
  obtain ⟨m3, hm3, h⟩ := letM_ex h
  refine E_aload_n (n := 1) 0 rfl rfl rfl 0 rfl <| E_gF (r := 18) (n := 4) 1 rfl rfl fg_6_9 sh_17 rfl <| E_iconst (v := (-1)) (n := 5) 2 rfl rfl icz_m1 <| E_dS2v (n := 8) 3 rfl rfl co_6_36 rfl rfl (K_JA_fill m 18 (-1) (shq sh_18) _ hq2) <| E_aload_n (n := 9) 4 rfl rfl rfl 0 rfl <| E_iconst (v := 0) (n := 10) 5 rfl rfl icz_0 <| E_pI (n := 13) 6 rfl rfl fp_6_42 sh_17 <| E_mem hm3 <| E_iconst (v := 0) (n := 14) 7 rfl rfl icz_0 <| E_istore_n (lv' := [(0, .ref 17), (1, .ref x1), (2, .int 0)]) (n := 15) 8 rfl rfl rfl (Nat.le_of_ble_eq_true rfl) [1, 2, 0] rfl <| E_iconst (v := 0) (n := 16) 9 rfl rfl icz_0 <| E_istore_n (lv' := [(0, .ref 17), (1, .ref x1), (2, .int 0), (3, .int 0)]) (n := 17) 10 rfl rfl rfl (Nat.le_of_ble_eq_true rfl) [1, 2, 3, 0] rfl <| ?_
  refine PC_find_L17_ok x1 h_x1 _ R ?_ FU m3 0 0 h
  intro m5 y4 h
  obtain ⟨hc6, h⟩ := ift h
  obtain ⟨m7, hm7, h⟩ := letM_ex h
  obtain ⟨m8, hq9, h⟩ := bM_ex h
  refine E_aload_n (n := 72) 41 rfl rfl rfl 0 rfl <| E_gF (r := 20) (n := 75) 42 rfl rfl fg_6_18 sh_17 rfl <| E_aload_n (n := 76) 43 rfl rfl rfl 0 rfl <| E_gI (n := 79) 44 rfl rfl fg_6_42 sh_17 <| E_iload_n (n := 80) 45 rfl rfl rfl 1 rfl <| E_iast (n := 81) 46 rfl rfl sh_20 hc6 <| E_mem hm7 <| E_aload_n (n := 82) 47 rfl rfl rfl 0 rfl <| E_cV0v (n := 85) 48 rfl rfl co_6_55 rfl sh_17 rfl (K_PC_findBeside m7 _ hq9) <| E_return 49 rfl rfl (eV h)
theorem K_OH_surveyPieces (m : Mem) (x1 : Int32) (R : Mem) (h : OH_surveyPieces m x1 = some R) : Mt M_OH_surveyPieces [.ref 0, .int x1] m (qV R) := by
  refine Mt.of G_OH_surveyPieces (Nat.le_of_ble_eq_true rfl) (E_sub (lv' := [(0, .ref 0), (1, .int x1)]) [0, 1] rfl ?_)
  unfold OH_surveyPieces at h
  obtain ⟨m1, hq2, h⟩ := bM_ex h
  obtain ⟨m3, hq4, h⟩ := bM_ex h
  refine E_aload_n (n := 1) 0 rfl rfl rfl 0 rfl <| E_iload_n (n := 2) 1 rfl rfl rfl 1 rfl <| E_cV1v (n := 5) 2 rfl rfl co_11_206 rfl sh_0 rfl (K_OH_survey m x1 _ hq2) <| E_aload_n (n := 6) 3 rfl rfl rfl 0 rfl <| E_gF (r := 17) (n := 9) 4 rfl rfl fg_11_36 sh_0 rfl <| E_aload_n (n := 10) 5 rfl rfl rfl 0 rfl <| E_gF (r := 5) (n := 13) 6 rfl rfl fg_11_26 sh_0 rfl <| E_cV1v (n := 16) 7 rfl rfl co_11_357 rfl sh_17 rfl (K_PC_find m1 5 sh_5 _ hq4) <| E_return 8 rfl rfl (eV h)

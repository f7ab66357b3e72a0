theorem OH_findRectangle_L44_ok (x1 : Int32) (x2 : Int32) (x3 : Int32) (x5 : Int32) (kx : Mem → Option (Int32 × Mem)) (R : Int32 × Mem) (hx : ∀ (m : Mem), kx m = some R → E M_OH_findRectangle 117 [(0, .ref 0), (1, .int x1), (2, .int x2), (3, .int x3)] [] m (qI R.1 R.2)) : ∀ (n : Nat) (m : Mem) (x6 : Int32), OH_findRectangle_L44 x1 x2 x3 x5 kx n m x6 = some R → E M_OH_findRectangle 44 [(0, .ref 0), (1, .int x1), (2, .int x2), (3, .int x3), (5, .int x5), (6, .int x6)] [] m (qI R.1 R.2) := by
  intro n
  induction n with
  | zero =>
    intro m x6 h
    exact absurd (show none = some R from h) (fun e => Option.some_ne_none R e.symm)
  | succ n ih =>
    intro m x6 h
    rw [OH_findRectangle_L44] at h
    refine E_iload (n := 46) 28 rfl rfl 5 rfl <| E_iload (n := 48) 29 rfl rfl 4 rfl <| E_icmp_gt (n := 51) (t := 117) 30 rfl rfl rfl (fun hc => ?_) (fun hc => ?_)
    · have h := ifp h hc
      refine E_sub (lv' := [(0, .ref 0), (1, .int x1), (2, .int x2), (3, .int x3)]) [0, 1, 2, 3] rfl ?_
      exact hx m h
    · have h := ifn h hc
      obtain ⟨v1, hq2, h⟩ := bI_ex h
      refine E_aload_n (n := 52) 31 rfl rfl rfl 0 rfl <| E_gF (r := 36) (n := 55) 32 rfl rfl fg_11_57 sh_0 rfl <| E_iload_n (n := 56) 33 rfl rfl rfl 2 rfl <| E_iload_n (n := 57) 34 rfl rfl rfl 3 rfl <| E_iload_n (n := 58) 35 rfl rfl rfl 2 rfl <| E_iload (n := 60) 36 rfl rfl 5 rfl <| E_iadd (n := 61) 37 rfl rfl <| E_iload_n (n := 62) 38 rfl rfl rfl 3 rfl <| E_iload_n (n := 63) 39 rfl rfl rfl 1 rfl <| E_iadd (n := 64) 40 rfl rfl <| E_iload (n := 66) 41 rfl rfl 5 rfl <| E_isub (n := 67) 42 rfl rfl <| E_cV4r (n := 70) 43 rfl rfl co_11_421 rfl sh_36 rfl (K_PT_fitRectangle m x2 x3 (x2 + x6) ((x3 + x1) - x6) _ hq2) <| E_if_eq (n := 73) (t := 111) 44 rfl rfl rfl (fun hc => ?_) (fun hc => ?_)
      · have h := ifp h hc
        refine E_iinc (v := (x6 + 1)) (lv' := [(0, .ref 0), (1, .int x1), (2, .int x2), (3, .int x3), (5, .int x5), (6, .int (x6 + 1))]) (n := 114) 73 rfl rfl 5 rfl (by rw [icz_1]) (Nat.le_of_ble_eq_true rfl) [1, 2, 3, 4, 5, 0] rfl <| E_goto (t := 44) 74 rfl rfl <| ?_
        exact ih m (x6 + 1) h
      · have h := ifn h hc
        obtain ⟨hc3, h⟩ := ift h
        obtain ⟨m4, hm4, h⟩ := letM_ex h
        obtain ⟨hc5, h⟩ := ift h
        obtain ⟨m6, hm6, h⟩ := letM_ex h
        obtain ⟨hc7, h⟩ := ift h
        obtain ⟨m8, hm8, h⟩ := letM_ex h
        obtain ⟨hc9, h⟩ := ift h
        obtain ⟨m10, hm10, h⟩ := letM_ex h
        refine E_aload_n (n := 74) 45 rfl rfl rfl 0 rfl <| E_gF (r := 66) (n := 77) 46 rfl rfl fg_11_77 sh_0 rfl <| E_iconst (v := 0) (n := 78) 47 rfl rfl icz_0 <| E_iload_n (n := 79) 48 rfl rfl rfl 2 rfl <| E_iast (n := 80) 49 rfl rfl sh_66 hc3 <| E_mem hm4 <| E_aload_n (n := 81) 50 rfl rfl rfl 0 rfl <| E_gF (r := 66) (n := 84) 51 rfl rfl fg_11_77 sh_0 rfl <| E_iconst (v := 1) (n := 85) 52 rfl rfl icz_1 <| E_iload_n (n := 86) 53 rfl rfl rfl 3 rfl <| E_iast (n := 87) 54 rfl rfl sh_66 hc5 <| E_mem hm6 <| E_aload_n (n := 88) 55 rfl rfl rfl 0 rfl <| E_gF (r := 66) (n := 91) 56 rfl rfl fg_11_77 sh_0 rfl <| E_iconst (v := 2) (n := 92) 57 rfl rfl icz_2 <| E_iload_n (n := 93) 58 rfl rfl rfl 2 rfl <| E_iload (n := 95) 59 rfl rfl 5 rfl <| E_iadd (n := 96) 60 rfl rfl <| E_iast (n := 97) 61 rfl rfl sh_66 hc7 <| E_mem hm8 <| E_aload_n (n := 98) 62 rfl rfl rfl 0 rfl <| E_gF (r := 66) (n := 101) 63 rfl rfl fg_11_77 sh_0 rfl <| E_iconst (v := 3) (n := 102) 64 rfl rfl icz_3 <| E_iload_n (n := 103) 65 rfl rfl rfl 3 rfl <| E_iload_n (n := 104) 66 rfl rfl rfl 1 rfl <| E_iadd (n := 105) 67 rfl rfl <| E_iload (n := 107) 68 rfl rfl 5 rfl <| E_isub (n := 108) 69 rfl rfl <| E_iast (n := 109) 70 rfl rfl sh_66 hc9 <| E_mem hm10 <| E_iconst (v := 1) (n := 110) 71 rfl rfl icz_1 <| E_zreturn 72 rfl rfl z1 (eS h)
theorem OH_findRectangle_L10_ok (x1 : Int32) (x2 : Int32) (kx : Mem → Option (Int32 × Mem)) (R : Int32 × Mem) (hx : ∀ (m : Mem), kx m = some R → E M_OH_findRectangle 123 [(0, .ref 0), (1, .int x1), (2, .int x2)] [] m (qI R.1 R.2)) : ∀ (n : Nat) (m : Mem) (x3 : Int32), OH_findRectangle_L10 x1 x2 kx n m x3 = some R → E M_OH_findRectangle 10 [(0, .ref 0), (1, .int x1), (2, .int x2), (3, .int x3)] [] m (qI R.1 R.2) := by
  intro n
  induction n with
  | zero =>
    intro m x3 h
    exact absurd (show none = some R from h) (fun e => Option.some_ne_none R e.symm)
  | succ n ih =>
    intro m x3 h
    rw [OH_findRectangle_L10] at h
    refine E_iload_n (n := 11) 7 rfl rfl rfl 3 rfl <| E_bipush (v := 20) (n := 13) 8 rfl rfl bpz_20 <| E_icmp_ge (n := 16) (t := 123) 9 rfl rfl rfl (fun hc => ?_) (fun hc => ?_)
    · have h := ifp h hc
      refine E_sub (lv' := [(0, .ref 0), (1, .int x1), (2, .int x2)]) [0, 1, 2] rfl ?_
      exact hx m h
    · have h := ifn h hc
      obtain ⟨v1, hv1, h⟩ := letV_ex h
      obtain ⟨v2, hv2, h⟩ := letV_ex h
      refine E_iconst (v := 1) (n := 17) 10 rfl rfl icz_1 <| E_iload_n (n := 18) 11 rfl rfl rfl 3 rfl <| E_iload_n (n := 19) 12 rfl rfl rfl 1 rfl <| E_iadd (n := 20) 13 rfl rfl <| E_bipush (v := 20) (n := 22) 14 rfl rfl bpz_20 <| E_isub (n := 23) 15 rfl rfl <| E_jmax (n := 26) 16 rfl rfl tw_1323 tw_1324 tw_124 tw_1325 ⟨Nat.le_of_ble_eq_true rfl, Nat.le_of_ble_eq_true rfl⟩ <| E_top hv1 <| E_istore (lv' := [(0, .ref 0), (1, .int x1), (2, .int x2), (3, .int x3), (4, .int v1)]) (n := 28) 17 rfl rfl (Nat.le_of_ble_eq_true rfl) [1, 2, 3, 4, 0] rfl <| E_iload_n (n := 29) 18 rfl rfl rfl 1 rfl <| E_iconst (v := 1) (n := 30) 19 rfl rfl icz_1 <| E_isub (n := 31) 20 rfl rfl <| E_bipush (v := 20) (n := 33) 21 rfl rfl bpz_20 <| E_iload_n (n := 34) 22 rfl rfl rfl 2 rfl <| E_isub (n := 35) 23 rfl rfl <| E_jmin (n := 38) 24 rfl rfl tw_1326 tw_642 tw_124 tw_643 ⟨Nat.le_of_ble_eq_true rfl, Nat.le_of_ble_eq_true rfl⟩ <| E_top hv2 <| E_istore (lv' := [(0, .ref 0), (1, .int x1), (2, .int x2), (3, .int x3), (4, .int v1), (5, .int v2)]) (n := 40) 25 rfl rfl (Nat.le_of_ble_eq_true rfl) [1, 2, 3, 4, 5, 0] rfl <| E_iload (n := 42) 26 rfl rfl 4 rfl <| E_istore (lv' := [(0, .ref 0), (1, .int x1), (2, .int x2), (3, .int x3), (4, .int v1), (5, .int v2), (6, .int v1)]) (n := 44) 27 rfl rfl (Nat.le_of_ble_eq_true rfl) [1, 2, 3, 4, 5, 6, 0] rfl <| ?_
      refine E_sub (lv' := [(0, .ref 0), (1, .int x1), (2, .int x2), (3, .int x3), (5, .int v2), (6, .int v1)]) [0, 1, 2, 3, 5, 6] rfl ?_
      refine OH_findRectangle_L44_ok x1 x2 x3 v2 _ R ?_ FU m v1 h
      intro m3 h
      refine E_iinc (v := (x3 + 1)) (lv' := [(0, .ref 0), (1, .int x1), (2, .int x2), (3, .int (x3 + 1))]) (n := 120) 75 rfl rfl 3 rfl (by rw [icz_1]) (Nat.le_of_ble_eq_true rfl) [1, 2, 3, 0] rfl <| E_goto (t := 10) 76 rfl rfl <| ?_
      exact ih m3 (x3 + 1) h
theorem OH_findRectangle_L2_ok (x1 : Int32) (kx : Mem → Option (Int32 × Mem)) (R : Int32 × Mem) (hx : ∀ (m : Mem), kx m = some R → E M_OH_findRectangle 129 [] [] m (qI R.1 R.2)) : ∀ (n : Nat) (m : Mem) (x2 : Int32), OH_findRectangle_L2 x1 kx n m x2 = some R → E M_OH_findRectangle 2 [(0, .ref 0), (1, .int x1), (2, .int x2)] [] m (qI R.1 R.2) := by
  intro n
  induction n with
  | zero =>
    intro m x2 h
    exact absurd (show none = some R from h) (fun e => Option.some_ne_none R e.symm)
  | succ n ih =>
    intro m x2 h
    rw [OH_findRectangle_L2] at h
    refine E_iload_n (n := 3) 2 rfl rfl rfl 2 rfl <| E_bipush (v := 20) (n := 5) 3 rfl rfl bpz_20 <| E_icmp_ge (n := 8) (t := 129) 4 rfl rfl rfl (fun hc => ?_) (fun hc => ?_)
    · have h := ifp h hc
      refine E_sub (lv' := []) [] rfl ?_
      exact hx m h
    · have h := ifn h hc
      refine E_iconst (v := 0) (n := 9) 5 rfl rfl icz_0 <| E_istore_n (lv' := [(0, .ref 0), (1, .int x1), (2, .int x2), (3, .int 0)]) (n := 10) 6 rfl rfl rfl (Nat.le_of_ble_eq_true rfl) [1, 2, 3, 0] rfl <| ?_
      refine OH_findRectangle_L10_ok x1 x2 _ R ?_ FU m 0 h
      intro m1 h
      refine E_iinc (v := (x2 + 1)) (lv' := [(0, .ref 0), (1, .int x1), (2, .int (x2 + 1))]) (n := 126) 77 rfl rfl 2 rfl (by rw [icz_1]) (Nat.le_of_ble_eq_true rfl) [1, 2, 0] rfl <| E_goto (t := 2) 78 rfl rfl <| ?_
      exact ih m1 (x2 + 1) h
theorem K_OH_findRectangle (m : Mem) (x1 : Int32) (R : Int32 × Mem) (h : OH_findRectangle m x1 = some R) : Mt M_OH_findRectangle [.ref 0, .int x1] m (qI R.1 R.2) := by
  refine Mt.of G_OH_findRectangle (Nat.le_of_ble_eq_true rfl) (E_sub (lv' := [(0, .ref 0), (1, .int x1)]) [0, 1] rfl ?_)
  unfold OH_findRectangle at h
  refine E_iconst (v := 0) (n := 1) 0 rfl rfl icz_0 <| E_istore_n (lv' := [(0, .ref 0), (1, .int x1), (2, .int 0)]) (n := 2) 1 rfl rfl rfl (Nat.le_of_ble_eq_true rfl) [1, 2, 0] rfl <| ?_
  refine OH_findRectangle_L2_ok x1 _ R ?_ FU m 0 h
  intro m1 h
  refine E_iconst (v := 0) (n := 130) 79 rfl rfl icz_0 <| E_zreturn 80 rfl rfl z0 (eS h)
theorem OH_rectangle_L43_ok (kx : Mem → Option (Int32 × Mem)) (R : Int32 × Mem) (hx : ∀ (m : Mem), kx m = some R → E M_OH_rectangle 65 [] [] m (qI R.1 R.2)) : ∀ (n : Nat) (m : Mem) (x2 : Int32), OH_rectangle_L43 kx n m x2 = some R → E M_OH_rectangle 43 [(0, .ref 0), (2, .int x2)] [] m (qI R.1 R.2) := by
  intro n
  induction n with
  | zero =>
    intro m x2 h
    exact absurd (show none = some R from h) (fun e => Option.some_ne_none R e.symm)
  | succ n ih =>
    intro m x2 h
    rw [OH_rectangle_L43] at h
    refine E_iload_n (n := 44) 22 rfl rfl rfl 1 rfl <| E_bipush (v := 40) (n := 46) 23 rfl rfl bpz_40 <| E_icmp_gt (n := 49) (t := 65) 24 rfl rfl rfl (fun hc => ?_) (fun hc => ?_)
    · have h := ifp h hc
      refine E_sub (lv' := []) [] rfl ?_
      exact hx m h
    · have h := ifn h hc
      obtain ⟨v1, m2, hq3, h⟩ := bV_ex h
      refine E_aload_n (n := 50) 25 rfl rfl rfl 0 rfl <| E_iload_n (n := 51) 26 rfl rfl rfl 1 rfl <| E_cV1r (n := 54) 27 rfl rfl co_11_336 rfl sh_0 rfl (K_OH_findRectangle m x2 _ hq3) <| E_if_eq (n := 57) (t := 59) 28 rfl rfl rfl (fun hc => ?_) (fun hc => ?_)
      · have h := ifp h hc
        refine E_iinc (v := (x2 + 1)) (lv' := [(0, .ref 0), (2, .int (x2 + 1))]) (n := 62) 31 rfl rfl 1 rfl (by rw [icz_1]) (Nat.le_of_ble_eq_true rfl) [1, 0] rfl <| E_goto (t := 43) 32 rfl rfl <| ?_
        exact ih m2 (x2 + 1) h
      · have h := ifn h hc
        refine E_iload_n (n := 58) 29 rfl rfl rfl 1 rfl <| E_ireturn 30 rfl rfl (eS h)
theorem K_OH_rectangle (m : Mem) (R : Int32 × Mem) (h : OH_rectangle m = some R) : Mt M_OH_rectangle [.ref 0] m (qI R.1 R.2) := by
  refine Mt.of G_OH_rectangle (Nat.le_of_ble_eq_true rfl) (E_sub (lv' := [(0, .ref 0)]) [0] rfl ?_)
  unfold OH_rectangle at h
  obtain ⟨v1, m2, hq3, h⟩ := bV_ex h
  obtain ⟨m4, hm4, h⟩ := letM_ex h
  refine E_aload_n (n := 1) 0 rfl rfl rfl 0 rfl <| E_gF (r := 36) (n := 4) 1 rfl rfl fg_11_57 sh_0 rfl <| E_aload_n (n := 5) 2 rfl rfl rfl 0 rfl <| E_gF (r := 1) (n := 8) 3 rfl rfl fg_11_12 sh_0 rfl <| E_cV1r (n := 11) 4 rfl rfl co_11_317 rfl sh_36 rfl (K_PT_take m _ hq3) <| E_istore_n (lv' := [(0, .ref 0), (1, .int v1)]) (n := 12) 5 rfl rfl rfl (Nat.le_of_ble_eq_true rfl) [1, 0] rfl <| E_aload_n (n := 13) 6 rfl rfl rfl 0 rfl <| E_gF (r := 1) (n := 16) 7 rfl rfl fg_11_12 sh_0 rfl <| E_iconst (v := 0) (n := 17) 8 rfl rfl icz_0 <| E_pI (n := 20) 9 rfl rfl fp_11_103 sh_1 <| E_mem hm4 <| E_iload_n (n := 21) 10 rfl rfl rfl 1 rfl <| E_if_ne (n := 24) (t := 27) 11 rfl rfl rfl (fun hc => ?_) (fun hc => ?_)
  · have h := ifn h hc
    obtain ⟨m6, hm6, h⟩ := letM_ex h
    refine E_aload_n (n := 28) 14 rfl rfl rfl 0 rfl <| E_gF (r := 36) (n := 31) 15 rfl rfl fg_11_57 sh_0 rfl <| E_aload_n (n := 32) 16 rfl rfl rfl 0 rfl <| E_gN (n := 35) 17 rfl rfl fg_11_92 sh_0 (Or.inl rfl) fun hN5 => E_gI (n := 38) 18 rfl rfl fg_11_301 hN5 <| E_pI (n := 41) 19 rfl rfl fp_11_322 sh_36 <| E_mem hm6 <| E_iconst (v := 2) (n := 42) 20 rfl rfl icz_2 <| E_istore_n (lv' := [(0, .ref 0), (1, .int v1), (2, .int 2)]) (n := 43) 21 rfl rfl rfl (Nat.le_of_ble_eq_true rfl) [1, 2, 0] rfl <| ?_
    refine E_sub (lv' := [(0, .ref 0), (2, .int 2)]) [0, 2] rfl ?_
    refine OH_rectangle_L43_ok _ R ?_ FU m6 2 h
    intro m7 h
    refine E_iconst (v := (-1)) (n := 66) 33 rfl rfl icz_m1 <| E_ireturn 34 rfl rfl (eS h)
  · have h := ifp h hc
    refine E_bipush (v := (-2)) (n := 26) 12 rfl rfl bpz_m2 <| E_ireturn 13 rfl rfl (eS h)
theorem K_OH_side (m : Mem) (x1 : Int32) (R : Int32) (h : OH_side m x1 = some R) : Mt M_OH_side [.ref 0, .int x1] m (qI R m) := by
  refine Mt.of G_OH_side (Nat.le_of_ble_eq_true rfl) (E_sub (lv' := [(0, .ref 0), (1, .int x1)]) [0, 1] rfl ?_)
  unfold OH_side at h
  refine E_iload_n (n := 1) 0 rfl rfl rfl 1 rfl <| E_if_lt (n := 4) (t := 18) 1 rfl rfl rfl (fun hc => ?_) (fun hc => ?_)
  · have h := ifp h hc
    refine E_iconst (v := (-1)) (n := 19) 10 rfl rfl icz_m1 <| ?_
    refine E_ireturn 11 rfl rfl (eP h)
  · have h := ifn h hc
    refine E_iload_n (n := 5) 2 rfl rfl rfl 1 rfl <| E_iconst (v := 4) (n := 6) 3 rfl rfl icz_4 <| E_icmp_ge (n := 9) (t := 18) 4 rfl rfl rfl (fun hc => ?_) (fun hc => ?_)
    · have h := ifp h hc
      refine E_iconst (v := (-1)) (n := 19) 10 rfl rfl icz_m1 <| ?_
      refine E_ireturn 11 rfl rfl (eP h)
    · have h := ifn h hc
      obtain ⟨hc1, h⟩ := ift h
      refine E_aload_n (n := 10) 5 rfl rfl rfl 0 rfl <| E_gF (r := 66) (n := 13) 6 rfl rfl fg_11_77 sh_0 rfl <| E_iload_n (n := 14) 7 rfl rfl rfl 1 rfl <| E_iald (n := 15) 8 rfl rfl sh_66 hc1 <| E_goto (t := 19) 9 rfl rfl <| ?_
      refine E_ireturn 11 rfl rfl (eP h)
theorem PA_together_L4_ok (m : Mem) (x1 : Int32) (kx : Int32 → Option Int32) (R : Int32) (hx : ∀ (x2 : Int32), kx x2 = some R → E M_PA_together 37 [(2, .int x2)] [] m (qI R m)) : ∀ (n : Nat) (x2 : Int32) (x3 : Int32), PA_together_L4 m x1 kx n x2 x3 = some R → E M_PA_together 4 [(0, .ref 31), (1, .int x1), (2, .int x2), (3, .int x3)] [] m (qI R m) := by
  intro n
  induction n with
  | zero =>
    intro x2 x3 h
    exact absurd (show none = some R from h) (fun e => Option.some_ne_none R e.symm)
  | succ n ih =>
    intro x2 x3 h
    rw [PA_together_L4] at h
    refine E_iload_n (n := 5) 4 rfl rfl rfl 3 rfl <| E_aload_n (n := 6) 5 rfl rfl rfl 0 rfl <| E_gI (n := 9) 6 rfl rfl fg_4_24 sh_31 <| E_icmp_ge (n := 12) (t := 37) 7 rfl rfl rfl (fun hc => ?_) (fun hc => ?_)
    · have h := ifp h hc
      refine E_sub (lv' := [(2, .int x2)]) [2] rfl ?_
      exact hx x2 h
    · have h := ifn h hc
      obtain ⟨hc1, h⟩ := ift h
      refine E_aload_n (n := 13) 8 rfl rfl rfl 0 rfl <| E_gF (r := 33) (n := 16) 9 rfl rfl fg_4_15 sh_31 rfl <| E_iload_n (n := 17) 10 rfl rfl rfl 3 rfl <| E_iald (n := 18) 11 rfl rfl sh_33 hc1 <| E_iload_n (n := 19) 12 rfl rfl rfl 1 rfl <| E_icmp_ne (n := 22) (t := 31) 13 rfl rfl rfl (fun hc => ?_) (fun hc => ?_)
      · have h := ifn h hc
        refine E_iinc (v := (x3 + 1)) (lv' := [(0, .ref 31), (1, .int x1), (2, .int x2), (3, .int (x3 + 1))]) (n := 34) 21 rfl rfl 3 rfl (by rw [icz_1]) (Nat.le_of_ble_eq_true rfl) [1, 2, 3, 0] rfl <| E_goto (t := 4) 22 rfl rfl <| ?_
        exact ih x2 (x3 + 1) h
      · have h := ifp h hc
        obtain ⟨v2, hv2, h⟩ := letV_ex h
        refine E_iload_n (n := 23) 14 rfl rfl rfl 2 rfl <| E_aload_n (n := 24) 15 rfl rfl rfl 0 rfl <| E_gF (r := 34) (n := 27) 16 rfl rfl fg_4_18 sh_31 rfl <| E_iload_n (n := 28) 17 rfl rfl rfl 3 rfl <| E_iald (n := 29) 18 rfl rfl sh_34 hc1 <| E_iadd (n := 30) 19 rfl rfl <| E_top hv2 <| E_istore_n (lv' := [(0, .ref 31), (1, .int x1), (2, .int v2), (3, .int x3)]) (n := 31) 20 rfl rfl rfl (Nat.le_of_ble_eq_true rfl) [1, 2, 0, 3] rfl <| ?_
        refine E_iinc (v := (x3 + 1)) (lv' := [(0, .ref 31), (1, .int x1), (2, .int v2), (3, .int (x3 + 1))]) (n := 34) 21 rfl rfl 3 rfl (by rw [icz_1]) (Nat.le_of_ble_eq_true rfl) [1, 2, 3, 0] rfl <| E_goto (t := 4) 22 rfl rfl <| ?_
        exact ih v2 (x3 + 1) h
theorem K_PA_together (m : Mem) (x1 : Int32) (R : Int32) (h : PA_together m x1 = some R) : Mt M_PA_together [.ref 31, .int x1] m (qI R m) := by
  refine Mt.of G_PA_together (Nat.le_of_ble_eq_true rfl) (E_sub (lv' := [(0, .ref 31), (1, .int x1)]) [0, 1] rfl ?_)
  unfold PA_together at h
  refine E_iconst (v := 0) (n := 1) 0 rfl rfl icz_0 <| E_istore_n (lv' := [(0, .ref 31), (1, .int x1), (2, .int 0)]) (n := 2) 1 rfl rfl rfl (Nat.le_of_ble_eq_true rfl) [1, 2, 0] rfl <| E_iconst (v := 0) (n := 3) 2 rfl rfl icz_0 <| E_istore_n (lv' := [(0, .ref 31), (1, .int x1), (2, .int 0), (3, .int 0)]) (n := 4) 3 rfl rfl rfl (Nat.le_of_ble_eq_true rfl) [1, 2, 3, 0] rfl <| ?_
  refine PA_together_L4_ok m x1 _ R ?_ FU 0 0 h
  intro y1 h
  refine E_iload_n (n := 38) 23 rfl rfl rfl 0 rfl <| E_ireturn 24 rfl rfl (eP h)
theorem PA_rowsToMend_J108_ok (kr : Mem → Int32 → Option (Int32 × Mem)) (kx : Mem → Option (Int32 × Mem)) (m : Mem) (x1 : Int32) (x2 : Int32) (x3 : Int32) (x4 : Int32) (s1 : Int32) (R : Int32 × Mem) (hr : ∀ (m : Mem) (x4 : Int32), kr m x4 = some R → E M_PA_rowsToMend 11 [(0, .ref 31), (1, .int x1), (2, .int x2), (3, .int x3), (4, .int x4)] [] m (qI R.1 R.2)) (hx : ∀ (m : Mem), kx m = some R → E M_PA_rowsToMend 119 [(0, .ref 31), (3, .int x3)] [] m (qI R.1 R.2)) (h : PA_rowsToMend_J108 kr kx m x1 x2 x3 x4 s1 = some R) : E M_PA_rowsToMend 108 [(0, .ref 31), (1, .int x1), (2, .int x2), (3, .int x3), (4, .int x4)] [.int s1, .ref 35] m (qI R.1 R.2) := by
  unfold PA_rowsToMend_J108 at h
  obtain ⟨hc1, h⟩ := ift h
  obtain ⟨m2, hm2, h⟩ := letM_ex h
  refine E_dup2 (n := 109) 58 rfl rfl rfl rfl <| E_iald (n := 110) 59 rfl rfl sh_35 hc1 <| E_iconst (v := 1) (n := 111) 60 rfl rfl icz_1 <| E_iadd (n := 112) 61 rfl rfl <| E_iast (n := 113) 62 rfl rfl sh_35 hc1 <| E_mem hm2 <| ?_
  refine E_iinc (v := (x4 + 1)) (lv' := [(0, .ref 31), (1, .int x1), (2, .int x2), (3, .int x3), (4, .int (x4 + 1))]) (n := 116) 63 rfl rfl 4 rfl (by rw [icz_1]) (Nat.le_of_ble_eq_true rfl) [1, 2, 3, 4, 0] rfl <| E_goto (t := 11) 64 rfl rfl <| ?_
  exact hr m2 (x4 + 1) h
theorem PA_rowsToMend_J75_ok (kr : Mem → Int32 → Option (Int32 × Mem)) (kx : Mem → Option (Int32 × Mem)) (m : Mem) (x1 : Int32) (x2 : Int32) (x3 : Int32) (x4 : Int32) (s0 : Int32) (R : Int32 × Mem) (hr : ∀ (m : Mem) (x4 : Int32), kr m x4 = some R → E M_PA_rowsToMend 11 [(0, .ref 31), (1, .int x1), (2, .int x2), (3, .int x3), (4, .int x4)] [] m (qI R.1 R.2)) (hx : ∀ (m : Mem), kx m = some R → E M_PA_rowsToMend 119 [(0, .ref 31), (3, .int x3)] [] m (qI R.1 R.2)) (h : PA_rowsToMend_J75 kr kx m x1 x2 x3 x4 s0 = some R) : E M_PA_rowsToMend 75 [(0, .ref 31), (1, .int x1), (2, .int x2), (3, .int x3), (4, .int x4)] [.int s0] m (qI R.1 R.2) := by
  unfold PA_rowsToMend_J75 at h
  refine E_istore (lv' := [(0, .ref 31), (1, .int x1), (2, .int x2), (3, .int x3), (4, .int x4), (5, .int s0)]) (n := 77) 40 rfl rfl (Nat.le_of_ble_eq_true rfl) [1, 2, 3, 4, 5, 0] rfl <| E_aload_n (n := 78) 41 rfl rfl rfl 0 rfl <| E_gF (r := 35) (n := 81) 42 rfl rfl fg_4_21 sh_31 rfl <| E_iload (n := 83) 43 rfl rfl 5 rfl <| E_if_eq (n := 86) (t := 98) 44 rfl rfl rfl (fun hc => ?_) (fun hc => ?_)
  · have h := ifp h hc
    obtain ⟨hc1, h⟩ := ift h
    refine E_bipush (v := 99) (n := 100) 52 rfl rfl bpz_99 <| E_aload_n (n := 101) 53 rfl rfl rfl 0 rfl <| E_gF (r := 34) (n := 104) 54 rfl rfl fg_4_18 sh_31 rfl <| E_iload (n := 106) 55 rfl rfl 4 rfl <| E_iald (n := 107) 56 rfl rfl sh_34 hc1 <| E_isub (n := 108) 57 rfl rfl <| ?_
    refine E_sub (lv' := [(0, .ref 31), (1, .int x1), (2, .int x2), (3, .int x3), (4, .int x4)]) [0, 1, 2, 3, 4] rfl ?_
    exact PA_rowsToMend_J108_ok _ _ m x1 x2 x3 x4 (99 - (gI m 34 (ixn x4))) _ hr hx h
  · have h := ifn h hc
    obtain ⟨hc2, h⟩ := ift h
    refine E_aload_n (n := 87) 45 rfl rfl rfl 0 rfl <| E_gF (r := 34) (n := 90) 46 rfl rfl fg_4_18 sh_31 rfl <| E_iload (n := 92) 47 rfl rfl 4 rfl <| E_iald (n := 93) 48 rfl rfl sh_34 hc2 <| E_iconst (v := 1) (n := 94) 49 rfl rfl icz_1 <| E_isub (n := 95) 50 rfl rfl <| E_goto (t := 108) 51 rfl rfl <| ?_
    refine E_sub (lv' := [(0, .ref 31), (1, .int x1), (2, .int x2), (3, .int x3), (4, .int x4)]) [0, 1, 2, 3, 4] rfl ?_
    exact PA_rowsToMend_J108_ok _ _ m x1 x2 x3 x4 ((gI m 34 (ixn x4)) - 1) _ hr hx h
theorem PA_rowsToMend_J67_ok (kr : Mem → Int32 → Option (Int32 × Mem)) (kx : Mem → Option (Int32 × Mem)) (m : Mem) (x1 : Int32) (x2 : Int32) (x3 : Int32) (x4 : Int32) (s0 : Int32) (s1 : Int32) (R : Int32 × Mem) (hr : ∀ (m : Mem) (x4 : Int32), kr m x4 = some R → E M_PA_rowsToMend 11 [(0, .ref 31), (1, .int x1), (2, .int x2), (3, .int x3), (4, .int x4)] [] m (qI R.1 R.2)) (hx : ∀ (m : Mem), kx m = some R → E M_PA_rowsToMend 119 [(0, .ref 31), (3, .int x3)] [] m (qI R.1 R.2)) (h : PA_rowsToMend_J67 kr kx m x1 x2 x3 x4 s0 s1 = some R) : E M_PA_rowsToMend 67 [(0, .ref 31), (1, .int x1), (2, .int x2), (3, .int x3), (4, .int x4)] [.int s1, .int s0] m (qI R.1 R.2) := by
  unfold PA_rowsToMend_J67 at h
  refine E_icmp_ne (n := 70) (t := 74) 36 rfl rfl rfl (fun hc => ?_) (fun hc => ?_)
  · have h := ifn h hc
    refine E_iconst (v := 0) (n := 75) 39 rfl rfl icz_0 <| ?_
    exact PA_rowsToMend_J75_ok _ _ m x1 x2 x3 x4 0 _ hr hx h
  · have h := ifp h hc
    refine E_iconst (v := 1) (n := 71) 37 rfl rfl icz_1 <| E_goto (t := 75) 38 rfl rfl <| ?_
    exact PA_rowsToMend_J75_ok _ _ m x1 x2 x3 x4 1 _ hr hx h
theorem PA_rowsToMend_J58_ok (kr : Mem → Int32 → Option (Int32 × Mem)) (kx : Mem → Option (Int32 × Mem)) (m : Mem) (x1 : Int32) (x2 : Int32) (x3 : Int32) (x4 : Int32) (s0 : Int32) (R : Int32 × Mem) (hr : ∀ (m : Mem) (x4 : Int32), kr m x4 = some R → E M_PA_rowsToMend 11 [(0, .ref 31), (1, .int x1), (2, .int x2), (3, .int x3), (4, .int x4)] [] m (qI R.1 R.2)) (hx : ∀ (m : Mem), kx m = some R → E M_PA_rowsToMend 119 [(0, .ref 31), (3, .int x3)] [] m (qI R.1 R.2)) (h : PA_rowsToMend_J58 kr kx m x1 x2 x3 x4 s0 = some R) : E M_PA_rowsToMend 58 [(0, .ref 31), (1, .int x1), (2, .int x2), (3, .int x3), (4, .int x4)] [.int s0] m (qI R.1 R.2) := by
  unfold PA_rowsToMend_J58 at h
  refine E_iload_n (n := 59) 31 rfl rfl rfl 3 rfl <| E_if_le (n := 62) (t := 66) 32 rfl rfl rfl (fun hc => ?_) (fun hc => ?_)
  · have h := ifp h hc
    refine E_iconst (v := 0) (n := 67) 35 rfl rfl icz_0 <| ?_
    exact PA_rowsToMend_J67_ok _ _ m x1 x2 x3 x4 s0 0 _ hr hx h
  · have h := ifn h hc
    refine E_iconst (v := 1) (n := 63) 33 rfl rfl icz_1 <| E_goto (t := 67) 34 rfl rfl <| ?_
    exact PA_rowsToMend_J67_ok _ _ m x1 x2 x3 x4 s0 1 _ hr hx h
theorem PA_rowsToMend_J42_ok (kr : Mem → Int32 → Option (Int32 × Mem)) (kx : Mem → Option (Int32 × Mem)) (m : Mem) (x1 : Int32) (x2 : Int32) (x3 : Int32) (x4 : Int32) (R : Int32 × Mem) (hr : ∀ (m : Mem) (x4 : Int32), kr m x4 = some R → E M_PA_rowsToMend 11 [(0, .ref 31), (1, .int x1), (2, .int x2), (3, .int x3), (4, .int x4)] [] m (qI R.1 R.2)) (hx : ∀ (m : Mem), kx m = some R → E M_PA_rowsToMend 119 [(0, .ref 31), (3, .int x3)] [] m (qI R.1 R.2)) (h : PA_rowsToMend_J42 kr kx m x1 x2 x3 x4 = some R) : E M_PA_rowsToMend 42 [(0, .ref 31), (1, .int x1), (2, .int x2), (3, .int x3), (4, .int x4)] [] m (qI R.1 R.2) := by
  unfold PA_rowsToMend_J42 at h
  obtain ⟨hc1, h⟩ := ift h
  refine E_aload_n (n := 43) 22 rfl rfl rfl 0 rfl <| E_gF (r := 33) (n := 46) 23 rfl rfl fg_4_15 sh_31 rfl <| E_iload (n := 48) 24 rfl rfl 4 rfl <| E_iald (n := 49) 25 rfl rfl sh_33 hc1 <| E_iload_n (n := 50) 26 rfl rfl rfl 1 rfl <| E_icmp_ne (n := 53) (t := 57) 27 rfl rfl rfl (fun hc => ?_) (fun hc => ?_)
  · have h := ifn h hc
    refine E_iconst (v := 0) (n := 58) 30 rfl rfl icz_0 <| ?_
    exact PA_rowsToMend_J58_ok _ _ m x1 x2 x3 x4 0 _ hr hx h
  · have h := ifp h hc
    refine E_iconst (v := 1) (n := 54) 28 rfl rfl icz_1 <| E_goto (t := 58) 29 rfl rfl <| ?_
    exact PA_rowsToMend_J58_ok _ _ m x1 x2 x3 x4 1 _ hr hx h
theorem PA_rowsToMend_L11_ok (x1 : Int32) (x2 : Int32) (x3 : Int32) (kx : Mem → Option (Int32 × Mem)) (R : Int32 × Mem) (hx : ∀ (m : Mem), kx m = some R → E M_PA_rowsToMend 119 [(0, .ref 31), (3, .int x3)] [] m (qI R.1 R.2)) : ∀ (n : Nat) (m : Mem) (x4 : Int32), PA_rowsToMend_L11 x1 x2 x3 kx n m x4 = some R → E M_PA_rowsToMend 11 [(0, .ref 31), (1, .int x1), (2, .int x2), (3, .int x3), (4, .int x4)] [] m (qI R.1 R.2) := by
  intro n
  induction n with
  | zero =>
    intro m x4 h
    exact absurd (show none = some R from h) (fun e => Option.some_ne_none R e.symm)
  | succ n ih =>
    intro m x4 h
    rw [PA_rowsToMend_L11] at h
    refine E_iload (n := 13) 6 rfl rfl 4 rfl <| E_aload_n (n := 14) 7 rfl rfl rfl 0 rfl <| E_gI (n := 17) 8 rfl rfl fg_4_24 sh_31 <| E_icmp_ge (n := 20) (t := 119) 9 rfl rfl rfl (fun hc => ?_) (fun hc => ?_)
    · have h := ifp h hc
      refine E_sub (lv' := [(0, .ref 31), (3, .int x3)]) [0, 3] rfl ?_
      exact hx m h
    · have h := ifn h hc
      obtain ⟨hc1, h⟩ := ift h
      refine E_aload_n (n := 21) 10 rfl rfl rfl 0 rfl <| E_gF (r := 33) (n := 24) 11 rfl rfl fg_4_15 sh_31 rfl <| E_iload (n := 26) 12 rfl rfl 4 rfl <| E_iald (n := 27) 13 rfl rfl sh_33 hc1 <| E_iload_n (n := 28) 14 rfl rfl rfl 1 rfl <| E_icmp_eq (n := 31) (t := 42) 15 rfl rfl rfl (fun hc => ?_) (fun hc => ?_)
      · have h := ifp h hc
        exact PA_rowsToMend_J42_ok _ _ m x1 x2 x3 x4 _ ih hx h
      · have h := ifn h hc
        refine E_aload_n (n := 32) 16 rfl rfl rfl 0 rfl <| E_gF (r := 33) (n := 35) 17 rfl rfl fg_4_15 sh_31 rfl <| E_iload (n := 37) 18 rfl rfl 4 rfl <| E_iald (n := 38) 19 rfl rfl sh_33 hc1 <| E_iload_n (n := 39) 20 rfl rfl rfl 2 rfl <| E_icmp_ne (n := 42) (t := 113) 21 rfl rfl rfl (fun hc => ?_) (fun hc => ?_)
        · have h := ifn h hc
          refine E_iinc (v := (x4 + 1)) (lv' := [(0, .ref 31), (1, .int x1), (2, .int x2), (3, .int x3), (4, .int (x4 + 1))]) (n := 116) 63 rfl rfl 4 rfl (by rw [icz_1]) (Nat.le_of_ble_eq_true rfl) [1, 2, 3, 4, 0] rfl <| E_goto (t := 11) 64 rfl rfl <| ?_
          exact ih m (x4 + 1) h
        · have h := ifp h hc
          exact PA_rowsToMend_J42_ok _ _ m x1 x2 x3 x4 _ ih hx h
theorem PA_rowsToMend_L140_ok (x6 : Int32) (kx : Mem → Int32 → Int32 → Option (Int32 × Mem)) (R : Int32 × Mem) (hx : ∀ (m : Mem) (x4 : Int32) (x5 : Int32), kx m x4 x5 = some R → E M_PA_rowsToMend 173 [(0, .ref 31), (4, .int x4), (5, .int x5), (6, .int x6)] [] m (qI R.1 R.2)) : ∀ (n : Nat) (m : Mem) (x4 : Int32) (x5 : Int32) (x7 : Int32), PA_rowsToMend_L140 x6 kx n m x4 x5 x7 = some R → E M_PA_rowsToMend 140 [(0, .ref 31), (4, .int x4), (5, .int x5), (6, .int x6), (7, .int x7)] [] m (qI R.1 R.2) := by
  intro n
  induction n with
  | zero =>
    intro m x4 x5 x7 h
    exact absurd (show none = some R from h) (fun e => Option.some_ne_none R e.symm)
  | succ n ih =>
    intro m x4 x5 x7 h
    rw [PA_rowsToMend_L140] at h
    obtain ⟨hc1, h⟩ := ift h
    refine E_iload (n := 142) 76 rfl rfl 4 rfl <| E_aload_n (n := 143) 77 rfl rfl rfl 0 rfl <| E_gF (r := 35) (n := 146) 78 rfl rfl fg_4_21 sh_31 rfl <| E_iload (n := 148) 79 rfl rfl 3 rfl <| E_iald (n := 149) 80 rfl rfl sh_35 hc1 <| E_icmp_ge (n := 152) (t := 173) 81 rfl rfl rfl (fun hc => ?_) (fun hc => ?_)
    · have h := ifp h hc
      refine E_sub (lv' := [(0, .ref 31), (4, .int x4), (5, .int x5), (6, .int x6)]) [0, 1, 2, 3] rfl ?_
      exact hx m x4 x5 h
    · have h := ifn h hc
      refine E_iload (n := 154) 82 rfl rfl 1 rfl <| E_if_le (n := 157) (t := 173) 83 rfl rfl rfl (fun hc => ?_) (fun hc => ?_)
      · have h := ifp h hc
        refine E_sub (lv' := [(0, .ref 31), (4, .int x4), (5, .int x5), (6, .int x6)]) [0, 1, 2, 3] rfl ?_
        exact hx m x4 x5 h
      · have h := ifn h hc
        obtain ⟨v2, hv2, h⟩ := letV_ex h
        refine E_iload (n := 159) 84 rfl rfl 1 rfl <| E_iload (n := 161) 85 rfl rfl 3 rfl <| E_isub (n := 162) 86 rfl rfl <| E_top hv2 <| E_istore (lv' := [(0, .ref 31), (4, .int v2), (5, .int x5), (6, .int x6), (7, .int x7)]) (n := 164) 87 rfl rfl (Nat.le_of_ble_eq_true rfl) [1, 0, 2, 3, 4] rfl <| E_iinc (v := (x5 + 1)) (lv' := [(0, .ref 31), (4, .int v2), (5, .int (x5 + 1)), (6, .int x6), (7, .int x7)]) (n := 167) 88 rfl rfl 2 rfl (by rw [icz_1]) (Nat.le_of_ble_eq_true rfl) [1, 2, 0, 3, 4] rfl <| E_iinc (v := (x7 + 1)) (lv' := [(0, .ref 31), (4, .int v2), (5, .int (x5 + 1)), (6, .int x6), (7, .int (x7 + 1))]) (n := 170) 89 rfl rfl 4 rfl (by rw [icz_1]) (Nat.le_of_ble_eq_true rfl) [1, 2, 3, 4, 0] rfl <| E_goto (t := 140) 90 rfl rfl <| ?_
        exact ih m v2 (x5 + 1) (x7 + 1) h
theorem PA_rowsToMend_L132_ok (kx : Mem → Int32 → Int32 → Option (Int32 × Mem)) (R : Int32 × Mem) (hx : ∀ (m : Mem) (x4 : Int32) (x5 : Int32), kx m x4 x5 = some R → E M_PA_rowsToMend 179 [(4, .int x4), (5, .int x5)] [] m (qI R.1 R.2)) : ∀ (n : Nat) (m : Mem) (x4 : Int32) (x5 : Int32) (x6 : Int32), PA_rowsToMend_L132 kx n m x4 x5 x6 = some R → E M_PA_rowsToMend 132 [(0, .ref 31), (4, .int x4), (5, .int x5), (6, .int x6)] [] m (qI R.1 R.2) := by
  intro n
  induction n with
  | zero =>
    intro m x4 x5 x6 h
    exact absurd (show none = some R from h) (fun e => Option.some_ne_none R e.symm)
  | succ n ih =>
    intro m x4 x5 x6 h
    rw [PA_rowsToMend_L132] at h
    refine E_iload (n := 134) 72 rfl rfl 3 rfl <| E_if_le (n := 137) (t := 179) 73 rfl rfl rfl (fun hc => ?_) (fun hc => ?_)
    · have h := ifp h hc
      refine E_sub (lv' := [(4, .int x4), (5, .int x5)]) [1, 2] rfl ?_
      exact hx m x4 x5 h
    · have h := ifn h hc
      refine E_iconst (v := 0) (n := 138) 74 rfl rfl icz_0 <| E_istore (lv' := [(0, .ref 31), (4, .int x4), (5, .int x5), (6, .int x6), (7, .int 0)]) (n := 140) 75 rfl rfl (Nat.le_of_ble_eq_true rfl) [1, 2, 3, 4, 0] rfl <| ?_
      refine PA_rowsToMend_L140_ok x6 _ R ?_ FU m x4 x5 0 h
      intro m3 y1 y2 h
      refine E_iinc (v := (x6 + (-1))) (lv' := [(0, .ref 31), (4, .int y1), (5, .int y2), (6, .int (x6 + (-1)))]) (n := 176) 91 rfl rfl 3 rfl (by rw [icz_m1]) (Nat.le_of_ble_eq_true rfl) [1, 2, 3, 0] rfl <| E_goto (t := 132) 92 rfl rfl <| ?_
      exact ih m3 y1 y2 (x6 + (-1)) h
theorem K_PA_rowsToMend (m : Mem) (x1 : Int32) (x2 : Int32) (x3 : Int32) (R : Int32 × Mem) (h : PA_rowsToMend m x1 x2 x3 = some R) : Mt M_PA_rowsToMend [.ref 31, .int x1, .int x2, .int x3] m (qI R.1 R.2) := by
  refine Mt.of G_PA_rowsToMend (Nat.le_of_ble_eq_true rfl) (E_sub (lv' := [(0, .ref 31), (1, .int x1), (2, .int x2), (3, .int x3)]) [0, 1, 2, 3] rfl ?_)
  unfold PA_rowsToMend at h
  obtain ⟨m1, hq2, h⟩ := bM_ex h
  refine E_aload_n (n := 1) 0 rfl rfl rfl 0 rfl <| E_gF (r := 35) (n := 4) 1 rfl rfl fg_4_21 sh_31 rfl <| E_iconst (v := 0) (n := 5) 2 rfl rfl icz_0 <| E_dS2v (n := 8) 3 rfl rfl co_4_78 rfl rfl (K_JA_fill m 35 0 (shq sh_35) _ hq2) <| E_iconst (v := 0) (n := 9) 4 rfl rfl icz_0 <| E_istore (lv' := [(0, .ref 31), (1, .int x1), (2, .int x2), (3, .int x3), (4, .int 0)]) (n := 11) 5 rfl rfl (Nat.le_of_ble_eq_true rfl) [1, 2, 3, 4, 0] rfl <| ?_
  refine PA_rowsToMend_L11_ok x1 x2 x3 _ R ?_ FU m1 0 h
  intro m3 h
  obtain ⟨v4, hv4, h⟩ := letV_ex h
  refine E_iload_n (n := 120) 65 rfl rfl rfl 1 rfl <| E_jabs (n := 123) 66 rfl rfl tw_1359 tw_1360 tw_124 tw_1361 ⟨Nat.le_of_ble_eq_true rfl, Nat.le_of_ble_eq_true rfl⟩ <| E_top hv4 <| E_istore (lv' := [(0, .ref 31), (3, .int x3), (4, .int v4)]) (n := 125) 67 rfl rfl (Nat.le_of_ble_eq_true rfl) [1, 2, 0] rfl <| E_iconst (v := 0) (n := 126) 68 rfl rfl icz_0 <| E_istore (lv' := [(0, .ref 31), (3, .int x3), (4, .int v4), (5, .int 0)]) (n := 128) 69 rfl rfl (Nat.le_of_ble_eq_true rfl) [1, 2, 3, 0] rfl <| E_bipush (v := 98) (n := 130) 70 rfl rfl bpz_98 <| E_istore (lv' := [(0, .ref 31), (3, .int x3), (4, .int v4), (5, .int 0), (6, .int 98)]) (n := 132) 71 rfl rfl (Nat.le_of_ble_eq_true rfl) [1, 2, 3, 4, 0] rfl <| ?_
  refine E_sub (lv' := [(0, .ref 31), (4, .int v4), (5, .int 0), (6, .int 98)]) [0, 2, 3, 4] rfl ?_
  refine PA_rowsToMend_L132_ok _ R ?_ FU m3 v4 0 98 h
  intro m7 y5 y6 h
  refine E_iload (n := 181) 93 rfl rfl 0 rfl <| E_if_le (n := 184) (t := 188) 94 rfl rfl rfl (fun hc => ?_) (fun hc => ?_)
  · have h := ifp h hc
    refine E_iload (n := 190) 97 rfl rfl 1 rfl <| ?_
    refine E_ireturn 98 rfl rfl (eS h)
  · have h := ifn h hc
    refine E_iconst (v := (-1)) (n := 185) 95 rfl rfl icz_m1 <| E_goto (t := 190) 96 rfl rfl <| ?_
    refine E_ireturn 98 rfl rfl (eS h)
theorem PA_reckon_J89_ok (m : Mem) (x1 : Int32) (x2 : Int32) (x5 : Int32) (s1 : Int32) (s2 : Int32) (R : Int32 × Mem) (h : PA_reckon_J89 m x1 x2 x5 s1 s2 = some R) : E M_PA_reckon 89 [(0, .ref 31), (1, .int x1), (2, .int x2), (5, .int x5)] [.int s2, .int s1, .ref 32] m (qI R.1 R.2) := by
  unfold PA_reckon_J89 at h
  obtain ⟨hc1, h⟩ := ift h
  obtain ⟨m2, hm2, h⟩ := letM_ex h
  refine E_iast (n := 90) 56 rfl rfl sh_32 hc1 <| E_mem hm2 <| E_aload_n (n := 91) 57 rfl rfl rfl 0 rfl <| E_gF (r := 32) (n := 94) 58 rfl rfl fg_4_9 sh_31 rfl <| E_iconst (v := 3) (n := 95) 59 rfl rfl icz_3 <| E_iload (n := 97) 60 rfl rfl 3 rfl <| E_if_eq (n := 100) (t := 112) 61 rfl rfl rfl (fun hc => ?_) (fun hc => ?_)
  · have h := ifp h hc
    refine E_iconst (v := (-1)) (n := 113) 68 rfl rfl icz_m1 <| ?_
    obtain ⟨hc3, h⟩ := ift h
    obtain ⟨m4, hm4, h⟩ := letM_ex h
    refine E_iast (n := 114) 69 rfl rfl sh_32 hc3 <| E_mem hm4 <| E_aload_n (n := 115) 70 rfl rfl rfl 0 rfl <| E_gI (n := 118) 71 rfl rfl fg_4_24 sh_31 <| E_ireturn 72 rfl rfl (eS h)
  · have h := ifn h hc
    refine E_iload_n (n := 101) 62 rfl rfl rfl 1 rfl <| E_jabs (n := 104) 63 rfl rfl tw_1359 tw_1360 tw_124 tw_1361 ⟨Nat.le_of_ble_eq_true rfl, Nat.le_of_ble_eq_true rfl⟩ <| E_iload_n (n := 105) 64 rfl rfl rfl 2 rfl <| E_jabs (n := 108) 65 rfl rfl tw_1359 tw_1360 tw_124 tw_1361 ⟨Nat.le_of_ble_eq_true rfl, Nat.le_of_ble_eq_true rfl⟩ <| E_iadd (n := 109) 66 rfl rfl <| E_goto (t := 113) 67 rfl rfl <| ?_
    obtain ⟨hc5, h⟩ := ift h
    obtain ⟨m6, hm6, h⟩ := letM_ex h
    refine E_iast (n := 114) 69 rfl rfl sh_32 hc5 <| E_mem hm6 <| E_aload_n (n := 115) 70 rfl rfl rfl 0 rfl <| E_gI (n := 118) 71 rfl rfl fg_4_24 sh_31 <| E_ireturn 72 rfl rfl (eS h)
theorem PA_reckon_J55_ok (m : Mem) (x1 : Int32) (x2 : Int32) (x3 : Int32) (x4 : Int32) (s0 : Int32) (R : Int32 × Mem) (h : PA_reckon_J55 m x1 x2 x3 x4 s0 = some R) : E M_PA_reckon 55 [(0, .ref 31), (1, .int x1), (2, .int x2), (3, .int x3), (4, .int x4)] [.int s0] m (qI R.1 R.2) := by
  unfold PA_reckon_J55 at h
  obtain ⟨hc1, h⟩ := ift h
  obtain ⟨m2, hm2, h⟩ := letM_ex h
  obtain ⟨hc3, h⟩ := ift h
  obtain ⟨m4, hm4, h⟩ := letM_ex h
  refine E_istore (lv' := [(0, .ref 31), (1, .int x1), (2, .int x2), (3, .int x3), (4, .int x4), (5, .int s0)]) (n := 57) 35 rfl rfl (Nat.le_of_ble_eq_true rfl) [1, 2, 3, 4, 5, 0] rfl <| E_aload_n (n := 58) 36 rfl rfl rfl 0 rfl <| E_gF (r := 32) (n := 61) 37 rfl rfl fg_4_9 sh_31 rfl <| E_iconst (v := 0) (n := 62) 38 rfl rfl icz_0 <| E_iload_n (n := 63) 39 rfl rfl rfl 1 rfl <| E_iast (n := 64) 40 rfl rfl sh_32 hc1 <| E_mem hm2 <| E_aload_n (n := 65) 41 rfl rfl rfl 0 rfl <| E_gF (r := 32) (n := 68) 42 rfl rfl fg_4_9 sh_31 rfl <| E_iconst (v := 1) (n := 69) 43 rfl rfl icz_1 <| E_iload_n (n := 70) 44 rfl rfl rfl 2 rfl <| E_iast (n := 71) 45 rfl rfl sh_32 hc3 <| E_mem hm4 <| E_aload_n (n := 72) 46 rfl rfl rfl 0 rfl <| E_gF (r := 32) (n := 75) 47 rfl rfl fg_4_9 sh_31 rfl <| E_iconst (v := 2) (n := 76) 48 rfl rfl icz_2 <| E_iload (n := 78) 49 rfl rfl 5 rfl <| E_if_eq (n := 81) (t := 88) 50 rfl rfl rfl (fun hc => ?_) (fun hc => ?_)
  · have h := ifp h hc
    refine E_iconst (v := (-1)) (n := 89) 55 rfl rfl icz_m1 <| ?_
    refine E_sub (lv' := [(0, .ref 31), (1, .int x1), (2, .int x2), (5, .int s0)]) [0, 1, 2, 5] rfl ?_
    exact PA_reckon_J89_ok m4 x1 x2 s0 2 (-1) _ h
  · have h := ifn h hc
    refine E_iload_n (n := 82) 51 rfl rfl rfl 3 rfl <| E_iload (n := 84) 52 rfl rfl 4 rfl <| E_iadd (n := 85) 53 rfl rfl <| E_goto (t := 89) 54 rfl rfl <| ?_
    refine E_sub (lv' := [(0, .ref 31), (1, .int x1), (2, .int x2), (5, .int s0)]) [0, 1, 2, 5] rfl ?_
    exact PA_reckon_J89_ok m4 x1 x2 s0 2 (x3 + x4) _ h
theorem K_PA_reckon (m : Mem) (R : Int32 × Mem) (h : PA_reckon m = some R) : Mt M_PA_reckon [.ref 31] m (qI R.1 R.2) := by
  refine Mt.of G_PA_reckon (Nat.le_of_ble_eq_true rfl) (E_sub (lv' := [(0, .ref 31)]) [0] rfl ?_)
  unfold PA_reckon at h
  obtain ⟨v1, hq2, h⟩ := bI_ex h
  obtain ⟨v3, hq4, h⟩ := bI_ex h
  obtain ⟨v5, hv5, h⟩ := letV_ex h
  obtain ⟨v6, hq7, h⟩ := bI_ex h
  obtain ⟨v8, hq9, h⟩ := bI_ex h
  obtain ⟨v10, hv10, h⟩ := letV_ex h
  obtain ⟨v11, m12, hq13, h⟩ := bV_ex h
  obtain ⟨v14, m15, hq16, h⟩ := bV_ex h
  refine E_aload_n (n := 1) 0 rfl rfl rfl 0 rfl <| E_iconst (v := 1) (n := 2) 1 rfl rfl icz_1 <| E_cV1r (n := 5) 2 rfl rfl co_4_65 rfl sh_31 rfl (K_PA_together m 1 _ hq2) <| E_aload_n (n := 6) 3 rfl rfl rfl 0 rfl <| E_iconst (v := 3) (n := 7) 4 rfl rfl icz_3 <| E_cV1r (n := 10) 5 rfl rfl co_4_65 rfl sh_31 rfl (K_PA_together m 3 _ hq4) <| E_isub (n := 11) 6 rfl rfl <| E_top hv5 <| E_istore_n (lv' := [(0, .ref 31), (1, .int v5)]) (n := 12) 7 rfl rfl rfl (Nat.le_of_ble_eq_true rfl) [1, 0] rfl <| E_aload_n (n := 13) 8 rfl rfl rfl 0 rfl <| E_iconst (v := 2) (n := 14) 9 rfl rfl icz_2 <| E_cV1r (n := 17) 10 rfl rfl co_4_65 rfl sh_31 rfl (K_PA_together m 2 _ hq7) <| E_aload_n (n := 18) 11 rfl rfl rfl 0 rfl <| E_iconst (v := 0) (n := 19) 12 rfl rfl icz_0 <| E_cV1r (n := 22) 13 rfl rfl co_4_65 rfl sh_31 rfl (K_PA_together m 0 _ hq9) <| E_isub (n := 23) 14 rfl rfl <| E_top hv10 <| E_istore_n (lv' := [(0, .ref 31), (1, .int v5), (2, .int v10)]) (n := 24) 15 rfl rfl rfl (Nat.le_of_ble_eq_true rfl) [1, 2, 0] rfl <| E_aload_n (n := 25) 16 rfl rfl rfl 0 rfl <| E_iconst (v := 1) (n := 26) 17 rfl rfl icz_1 <| E_iconst (v := 3) (n := 27) 18 rfl rfl icz_3 <| E_iload_n (n := 28) 19 rfl rfl rfl 1 rfl <| E_cV3r (n := 31) 20 rfl rfl co_4_69 rfl sh_31 rfl (K_PA_rowsToMend m 1 3 v5 _ hq13) <| E_istore_n (lv' := [(0, .ref 31), (1, .int v5), (2, .int v10), (3, .int v11)]) (n := 32) 21 rfl rfl rfl (Nat.le_of_ble_eq_true rfl) [1, 2, 3, 0] rfl <| E_aload_n (n := 33) 22 rfl rfl rfl 0 rfl <| E_iconst (v := 2) (n := 34) 23 rfl rfl icz_2 <| E_iconst (v := 0) (n := 35) 24 rfl rfl icz_0 <| E_iload_n (n := 36) 25 rfl rfl rfl 2 rfl <| E_cV3r (n := 39) 26 rfl rfl co_4_69 rfl sh_31 rfl (K_PA_rowsToMend m12 2 0 v10 _ hq16) <| E_istore (lv' := [(0, .ref 31), (1, .int v5), (2, .int v10), (3, .int v11), (4, .int v14)]) (n := 41) 27 rfl rfl (Nat.le_of_ble_eq_true rfl) [1, 2, 3, 4, 0] rfl <| E_iload_n (n := 42) 28 rfl rfl rfl 3 rfl <| E_if_lt (n := 45) (t := 54) 29 rfl rfl rfl (fun hc => ?_) (fun hc => ?_)
  · have h := ifp h hc
    refine E_iconst (v := 0) (n := 55) 34 rfl rfl icz_0 <| ?_
    exact PA_reckon_J55_ok m15 v5 v10 v11 v14 0 _ h
  · have h := ifn h hc
    refine E_iload (n := 47) 30 rfl rfl 4 rfl <| E_if_lt (n := 50) (t := 54) 31 rfl rfl rfl (fun hc => ?_) (fun hc => ?_)
    · have h := ifp h hc
      refine E_iconst (v := 0) (n := 55) 34 rfl rfl icz_0 <| ?_
      exact PA_reckon_J55_ok m15 v5 v10 v11 v14 0 _ h
    · have h := ifn h hc
      refine E_iconst (v := 1) (n := 51) 32 rfl rfl icz_1 <| E_goto (t := 55) 33 rfl rfl <| ?_
      exact PA_reckon_J55_ok m15 v5 v10 v11 v14 1 _ h
theorem K_PA_followRow (m : Mem) (R : Int32 × Mem) (h : PA_followRow m = some R) : Mt M_PA_followRow [.ref 31, .ref 1] m (qI R.1 R.2) := by
  refine Mt.of G_PA_followRow (Nat.le_of_ble_eq_true rfl) (E_sub (lv' := [(0, .ref 31), (1, .ref 1)]) [0, 1] rfl ?_)
  unfold PA_followRow at h
  refine E_aload_n (n := 1) 0 rfl rfl rfl 1 rfl <| E_iconst (v := 0) (n := 2) 1 rfl rfl icz_0 <| E_iconst (v := 3) (n := 3) 2 rfl rfl icz_3 <| E_cV2r (n := 6) 3 rfl rfl co_4_49 rfl sh_1 rfl (K_RD_isWord m 0 3 _ rfl) <| E_if_ne (n := 9) (t := 15) 4 rfl rfl rfl (fun hc => ?_) (fun hc => ?_)
  · have h := ifn h hc
    refine E_aload_n (n := 16) 9 rfl rfl rfl 0 rfl <| E_gI (n := 19) 10 rfl rfl fg_4_24 sh_31 <| E_bipush (v := 30) (n := 21) 11 rfl rfl bpz_30 <| E_icmp_lt (n := 24) (t := 30) 12 rfl rfl rfl (fun hc => ?_) (fun hc => ?_)
    · have h := ifp h hc
      obtain ⟨hc1, h⟩ := ift h
      obtain ⟨m2, hm2, h⟩ := letM_ex h
      obtain ⟨v3, m4, hq5, h⟩ := bV_ex h
      refine E_aload_n (n := 31) 17 rfl rfl rfl 0 rfl <| E_gF (r := 33) (n := 34) 18 rfl rfl fg_4_15 sh_31 rfl <| E_aload_n (n := 35) 19 rfl rfl rfl 0 rfl <| E_gI (n := 38) 20 rfl rfl fg_4_24 sh_31 <| E_aload_n (n := 39) 21 rfl rfl rfl 1 rfl <| E_gI (n := 42) 22 rfl rfl fg_4_53 sh_1 <| E_iast (n := 43) 23 rfl rfl sh_33 hc1 <| E_mem hm2 <| E_aload_n (n := 44) 24 rfl rfl rfl 1 rfl <| E_iconst (v := 1) (n := 45) 25 rfl rfl icz_1 <| E_bipush (v := 99) (n := 47) 26 rfl rfl bpz_99 <| E_cV2r (n := 50) 27 rfl rfl co_4_56 rfl sh_1 rfl (K_RD_readNumber m2 1 99 _ hq5) <| E_if_ne (n := 53) (t := 55) 28 rfl rfl rfl (fun hc => ?_) (fun hc => ?_)
      · have h := ifn h hc
        obtain ⟨hc6, h⟩ := ift h
        obtain ⟨m7, hm7, h⟩ := letM_ex h
        obtain ⟨m8, hm8, h⟩ := letM_ex h
        obtain ⟨v9, m10, hq11, h⟩ := bV_ex h
        obtain ⟨hc12, h⟩ := ift h
        refine E_aload_n (n := 56) 31 rfl rfl rfl 0 rfl <| E_gF (r := 34) (n := 59) 32 rfl rfl fg_4_18 sh_31 rfl <| E_aload_n (n := 60) 33 rfl rfl rfl 0 rfl <| E_gI (n := 63) 34 rfl rfl fg_4_24 sh_31 <| E_aload_n (n := 64) 35 rfl rfl rfl 1 rfl <| E_gI (n := 67) 36 rfl rfl fg_4_59 sh_1 <| E_iast (n := 68) 37 rfl rfl sh_34 hc6 <| E_mem hm7 <| E_aload_n (n := 69) 38 rfl rfl rfl 0 rfl <| E_dup (n := 70) 39 rfl rfl rfl <| E_gI (n := 73) 40 rfl rfl fg_4_24 sh_31 <| E_iconst (v := 1) (n := 74) 41 rfl rfl icz_1 <| E_iadd (n := 75) 42 rfl rfl <| E_pI (n := 78) 43 rfl rfl fp_4_24 sh_31 <| E_mem hm8 <| E_aload_n (n := 79) 44 rfl rfl rfl 1 rfl <| E_cV0r (n := 82) 45 rfl rfl co_4_62 rfl sh_1 rfl (K_RD_readSemicolon m8 _ hq11) <| E_zreturn 46 rfl rfl hc12 (eS h)
      · have h := ifp h hc
        refine E_iconst (v := 0) (n := 54) 29 rfl rfl icz_0 <| E_zreturn 30 rfl rfl z0 (eS h)
    · have h := ifn h hc
      obtain ⟨v13, m14, hq15, h⟩ := bV_ex h
      obtain ⟨hc16, h⟩ := ift h
      refine E_aload_n (n := 25) 13 rfl rfl rfl 1 rfl <| E_iconst (v := 4) (n := 26) 14 rfl rfl icz_4 <| E_cV1r (n := 29) 15 rfl rfl co_4_37 rfl sh_1 rfl (K_RD_fail m 4 _ hq15) <| E_zreturn 16 rfl rfl hc16 (eS h)
  · have h := ifp h hc
    obtain ⟨v17, m18, hq19, h⟩ := bV_ex h
    obtain ⟨hc20, h⟩ := ift h
    refine E_aload_n (n := 10) 5 rfl rfl rfl 1 rfl <| E_iconst (v := 1) (n := 11) 6 rfl rfl icz_1 <| E_cV1r (n := 14) 7 rfl rfl co_4_37 rfl sh_1 rfl (K_RD_fail m 1 _ hq19) <| E_zreturn 8 rfl rfl hc20 (eS h)
theorem PA_follow_J44_ok (kr : Mem → Int32 → Option (Int32 × Mem)) (kx : Mem → Option (Int32 × Mem)) (m : Mem) (R : Int32 × Mem) (hr : ∀ (m : Mem) (x2 : Int32), kr m x2 = some R → E M_PA_follow 7 [(0, .ref 31), (1, .ref 1), (2, .int x2)] [] m (qI R.1 R.2)) (hx : ∀ (m : Mem), kx m = some R → E M_PA_follow 69 [] [] m (qI R.1 R.2)) (h : PA_follow_J44 kr kx m = some R) : E M_PA_follow 44 [(0, .ref 31)] [] m (qI R.1 R.2) := by
  unfold PA_follow_J44 at h
  obtain ⟨v1, m2, hq3, h⟩ := bV_ex h
  refine E_aload_n (n := 45) 22 rfl rfl rfl 0 rfl <| E_cV0r (n := 48) 23 rfl rfl co_4_41 rfl sh_31 rfl (K_PA_reckon m _ hq3) <| E_goto (t := 52) 24 rfl rfl <| ?_
  refine E_ireturn 26 rfl rfl (eS h)
theorem PA_follow_L7_ok (kx : Mem → Option (Int32 × Mem)) (R : Int32 × Mem) (hx : ∀ (m : Mem), kx m = some R → E M_PA_follow 69 [] [] m (qI R.1 R.2)) : ∀ (n : Nat) (m : Mem) (x2 : Int32), PA_follow_L7 kx n m x2 = some R → E M_PA_follow 7 [(0, .ref 31), (1, .ref 1), (2, .int x2)] [] m (qI R.1 R.2) := by
  intro n
  induction n with
  | zero =>
    intro m x2 h
    exact absurd (show none = some R from h) (fun e => Option.some_ne_none R e.symm)
  | succ n ih =>
    intro m x2 h
    rw [PA_follow_L7] at h
    refine E_iload_n (n := 8) 5 rfl rfl rfl 2 rfl <| E_sipush (v := 300) (n := 11) 6 rfl rfl spz_300 <| E_icmp_gt (n := 14) (t := 69) 7 rfl rfl rfl (fun hc => ?_) (fun hc => ?_)
    · have h := ifp h hc
      refine E_sub (lv' := []) [] rfl ?_
      exact hx m h
    · have h := ifn h hc
      obtain ⟨v1, m2, hq3, h⟩ := bV_ex h
      refine E_aload_n (n := 15) 8 rfl rfl rfl 1 rfl <| E_cV0r (n := 18) 9 rfl rfl co_4_28 rfl sh_1 rfl (K_RD_isAtEnd m _ hq3) <| E_if_eq (n := 21) (t := 53) 10 rfl rfl rfl (fun hc => ?_) (fun hc => ?_)
      · have h := ifp h hc
        obtain ⟨v4, m5, hq6, h⟩ := bV_ex h
        refine E_aload_n (n := 54) 27 rfl rfl rfl 0 rfl <| E_aload_n (n := 55) 28 rfl rfl rfl 1 rfl <| E_cV1r (n := 58) 29 rfl rfl co_4_45 rfl sh_31 rfl (K_PA_followRow m2 _ hq6) <| E_if_ne (n := 61) (t := 63) 30 rfl rfl rfl (fun hc => ?_) (fun hc => ?_)
        · have h := ifn h hc
          refine E_iinc (v := (x2 + 1)) (lv' := [(0, .ref 31), (1, .ref 1), (2, .int (x2 + 1))]) (n := 66) 33 rfl rfl 2 rfl (by rw [icz_1]) (Nat.le_of_ble_eq_true rfl) [1, 2, 0] rfl <| E_goto (t := 7) 34 rfl rfl <| ?_
          exact ih m5 (x2 + 1) h
        · have h := ifp h hc
          refine E_iconst (v := (-1)) (n := 62) 31 rfl rfl icz_m1 <| E_ireturn 32 rfl rfl (eS h)
      · have h := ifn h hc
        obtain ⟨v7, m8, hq9, h⟩ := bV_ex h
        refine E_aload_n (n := 22) 11 rfl rfl rfl 1 rfl <| E_cV0r (n := 25) 12 rfl rfl co_4_34 rfl sh_1 rfl (K_RD_closes m2 _ hq9) <| E_if_eq (n := 28) (t := 51) 13 rfl rfl rfl (fun hc => ?_) (fun hc => ?_)
        · have h := ifp h hc
          refine E_iconst (v := (-1)) (n := 52) 25 rfl rfl icz_m1 <| ?_
          refine E_ireturn 26 rfl rfl (eS h)
        · have h := ifn h hc
          refine E_aload_n (n := 29) 14 rfl rfl rfl 0 rfl <| E_gI (n := 32) 15 rfl rfl fg_4_24 sh_31 <| E_iconst (v := 2) (n := 33) 16 rfl rfl icz_2 <| E_icmp_ge (n := 36) (t := 44) 17 rfl rfl rfl (fun hc => ?_) (fun hc => ?_)
          · have h := ifp h hc
            refine E_sub (lv' := [(0, .ref 31)]) [0] rfl ?_
            exact PA_follow_J44_ok _ _ m8 _ ih hx h
          · have h := ifn h hc
            obtain ⟨v10, m11, hq12, h⟩ := bV_ex h
            refine E_aload_n (n := 37) 18 rfl rfl rfl 1 rfl <| E_iconst (v := 4) (n := 38) 19 rfl rfl icz_4 <| E_cV1r (n := 41) 20 rfl rfl co_4_37 rfl sh_1 rfl (K_RD_fail m8 4 _ hq12) <| E_if_eq (n := 44) (t := 51) 21 rfl rfl rfl (fun hc => ?_) (fun hc => ?_)
            · have h := ifp h hc
              refine E_iconst (v := (-1)) (n := 52) 25 rfl rfl icz_m1 <| ?_
              refine E_ireturn 26 rfl rfl (eS h)
            · have h := ifn h hc
              refine E_sub (lv' := [(0, .ref 31)]) [0] rfl ?_
              exact PA_follow_J44_ok _ _ m11 _ ih hx h
theorem K_PA_follow (m : Mem) (R : Int32 × Mem) (h : PA_follow m = some R) : Mt M_PA_follow [.ref 31, .ref 1] m (qI R.1 R.2) := by
  refine Mt.of G_PA_follow (Nat.le_of_ble_eq_true rfl) (E_sub (lv' := [(0, .ref 31), (1, .ref 1)]) [0, 1] rfl ?_)
  unfold PA_follow at h
  obtain ⟨m1, hm1, h⟩ := letM_ex h
  refine E_aload_n (n := 1) 0 rfl rfl rfl 0 rfl <| E_iconst (v := 0) (n := 2) 1 rfl rfl icz_0 <| E_pI (n := 5) 2 rfl rfl fp_4_24 sh_31 <| E_mem hm1 <| E_iconst (v := 0) (n := 6) 3 rfl rfl icz_0 <| E_istore_n (lv' := [(0, .ref 31), (1, .ref 1), (2, .int 0)]) (n := 7) 4 rfl rfl rfl (Nat.le_of_ble_eq_true rfl) [1, 2, 0] rfl <| ?_
  refine PA_follow_L7_ok _ R ?_ FU m1 0 h
  intro m2 h
  refine E_iconst (v := (-1)) (n := 70) 35 rfl rfl icz_m1 <| E_ireturn 36 rfl rfl (eS h)
theorem K_OH_paces (m : Mem) (R : Int32 × Mem) (h : OH_paces m = some R) : Mt M_OH_paces [.ref 0] m (qI R.1 R.2) := by
  refine Mt.of G_OH_paces (Nat.le_of_ble_eq_true rfl) (E_sub (lv' := [(0, .ref 0)]) [0] rfl ?_)
  unfold OH_paces at h
  obtain ⟨m1, hq2, h⟩ := bM_ex h
  obtain ⟨v3, m4, hq5, h⟩ := bV_ex h
  obtain ⟨v6, m7, hq8, h⟩ := bV_ex h
  refine E_aload_n (n := 1) 0 rfl rfl rfl 0 rfl <| E_gF (r := 1) (n := 4) 1 rfl rfl fg_11_12 sh_0 rfl <| E_sipush (v := 300) (n := 7) 2 rfl rfl spz_300 <| E_cV1v (n := 10) 3 rfl rfl co_11_110 rfl sh_1 rfl (K_RD_begin m 300 _ hq2) <| E_aload_n (n := 11) 4 rfl rfl rfl 0 rfl <| E_aload_n (n := 12) 5 rfl rfl rfl 0 rfl <| E_gF (r := 31) (n := 15) 6 rfl rfl fg_11_50 sh_0 rfl <| E_aload_n (n := 16) 7 rfl rfl rfl 0 rfl <| E_gF (r := 1) (n := 19) 8 rfl rfl fg_11_12 sh_0 rfl <| E_cV1r (n := 22) 9 rfl rfl co_11_339 rfl sh_31 rfl (K_PA_follow m1 _ hq5) <| E_cV1r (n := 25) 10 rfl rfl co_11_120 rfl sh_0 rfl (K_OH_closeText m4 v3 _ hq8) <| E_ireturn 11 rfl rfl (eS h)
theorem K_OH_paced (m : Mem) (x1 : Int32) (R : Int32) (h : OH_paced m x1 = some R) : Mt M_OH_paced [.ref 0, .int x1] m (qI R m) := by
  refine Mt.of G_OH_paced (Nat.le_of_ble_eq_true rfl) (E_sub (lv' := [(0, .ref 0), (1, .int x1)]) [0, 1] rfl ?_)
  unfold OH_paced at h
  refine E_iload_n (n := 1) 0 rfl rfl rfl 1 rfl <| E_if_lt (n := 4) (t := 21) 1 rfl rfl rfl (fun hc => ?_) (fun hc => ?_)
  · have h := ifp h hc
    refine E_sipush (v := (-1001)) (n := 24) 11 rfl rfl spz_m1001 <| ?_
    refine E_ireturn 12 rfl rfl (eP h)
  · have h := ifn h hc
    refine E_iload_n (n := 5) 2 rfl rfl rfl 1 rfl <| E_iconst (v := 4) (n := 6) 3 rfl rfl icz_4 <| E_icmp_ge (n := 9) (t := 21) 4 rfl rfl rfl (fun hc => ?_) (fun hc => ?_)
    · have h := ifp h hc
      refine E_sipush (v := (-1001)) (n := 24) 11 rfl rfl spz_m1001 <| ?_
      refine E_ireturn 12 rfl rfl (eP h)
    · have h := ifn h hc
      obtain ⟨hc1, h⟩ := ift h
      refine E_aload_n (n := 10) 5 rfl rfl rfl 0 rfl <| E_gF (r := 31) (n := 13) 6 rfl rfl fg_11_50 sh_0 rfl <| E_gF (r := 32) (n := 16) 7 rfl rfl fg_11_341 sh_31 rfl <| E_iload_n (n := 17) 8 rfl rfl rfl 1 rfl <| E_iald (n := 18) 9 rfl rfl sh_32 hc1 <| E_goto (t := 24) 10 rfl rfl <| ?_
      refine E_ireturn 12 rfl rfl (eP h)
theorem PH_copyFrom_L2_ok (x0 : Nat) (x1 : Nat) (h_x0 : shp x0 = (5, 0)) (h_x1 : shp x1 = (5, 0)) (kx : Mem → Option Mem) (R : Mem) (hx : ∀ (m : Mem), kx m = some R → E M_PH_copyFrom 28 [(0, .ref x0), (1, .ref x1)] [] m (qV R)) : ∀ (n : Nat) (m : Mem) (x2 : Int32), PH_copyFrom_L2 x0 x1 kx n m x2 = some R → E M_PH_copyFrom 2 [(0, .ref x0), (1, .ref x1), (2, .int x2)] [] m (qV R) := by
  intro n
  induction n with
  | zero =>
    intro m x2 h
    exact absurd (show none = some R from h) (fun e => Option.some_ne_none R e.symm)
  | succ n ih =>
    intro m x2 h
    rw [PH_copyFrom_L2] at h
    refine E_iload_n (n := 3) 2 rfl rfl rfl 2 rfl <| E_iconst (v := 3) (n := 4) 3 rfl rfl icz_3 <| E_icmp_ge (n := 7) (t := 28) 4 rfl rfl rfl (fun hc => ?_) (fun hc => ?_)
    · have h := ifp h hc
      refine E_sub (lv' := [(0, .ref x0), (1, .ref x1)]) [0, 1] rfl ?_
      exact hx m h
    · have h := ifn h hc
      obtain ⟨hc1, h⟩ := ift h
      obtain ⟨m2, hq3, h⟩ := bM_ex h
      refine E_aload_n (n := 8) 5 rfl rfl rfl 0 rfl <| E_gF (r := (x0 + 1)) (n := 11) 6 rfl rfl fg_5_12 h_x0 rfl <| E_iload_n (n := 12) 7 rfl rfl rfl 2 rfl <| E_aL (r := (x0 + 2 + 3 * ixn x2)) (n := 13) 8 rfl rfl (shc_5_0 h_x0) hc1 rfl <| E_aload_n (n := 14) 9 rfl rfl rfl 1 rfl <| E_gF (r := (x1 + 1)) (n := 17) 10 rfl rfl fg_5_12 h_x1 rfl <| E_iload_n (n := 18) 11 rfl rfl rfl 2 rfl <| E_aL (r := (x1 + 2 + 3 * ixn x2)) (n := 19) 12 rfl rfl (shc_5_0 h_x1) hc1 rfl <| E_cV1v (n := 22) 13 rfl rfl co_5_100 rfl (shln h_x0 hc1) rfl (K_LN_copyFrom m (x0 + 2 + 3 * ixn x2) (x1 + 2 + 3 * ixn x2) (shln h_x0 hc1) (shln h_x1 hc1) _ hq3) <| E_iinc (v := (x2 + 1)) (lv' := [(0, .ref x0), (1, .ref x1), (2, .int (x2 + 1))]) (n := 25) 14 rfl rfl 2 rfl (by rw [icz_1]) (Nat.le_of_ble_eq_true rfl) [1, 2, 0] rfl <| E_goto (t := 2) 15 rfl rfl <| ?_
      exact ih m2 (x2 + 1) h
theorem K_PH_copyFrom (m : Mem) (x0 : Nat) (x1 : Nat) (h_x0 : shp x0 = (5, 0)) (h_x1 : shp x1 = (5, 0)) (R : Mem) (h : PH_copyFrom m x0 x1 = some R) : Mt M_PH_copyFrom [.ref x0, .ref x1] m (qV R) := by
  refine Mt.of G_PH_copyFrom (Nat.le_of_ble_eq_true rfl) (E_sub (lv' := [(0, .ref x0), (1, .ref x1)]) [0, 1] rfl ?_)
  unfold PH_copyFrom at h
  refine E_iconst (v := 0) (n := 1) 0 rfl rfl icz_0 <| E_istore_n (lv' := [(0, .ref x0), (1, .ref x1), (2, .int 0)]) (n := 2) 1 rfl rfl rfl (Nat.le_of_ble_eq_true rfl) [1, 2, 0] rfl <| ?_
  refine PH_copyFrom_L2_ok x0 x1 h_x0 h_x1 _ R ?_ FU m 0 h
  intro m1 h
  obtain ⟨m2, hm2, h⟩ := letM_ex h
  obtain ⟨m3, hm3, h⟩ := letM_ex h
  obtain ⟨m4, hm4, h⟩ := letM_ex h
  obtain ⟨m5, hm5, h⟩ := letM_ex h
  obtain ⟨m6, hm6, h⟩ := letM_ex h
  obtain ⟨m7, hm7, h⟩ := letM_ex h
  obtain ⟨m8, hm8, h⟩ := letM_ex h
  obtain ⟨m9, hm9, h⟩ := letM_ex h
  obtain ⟨m10, hm10, h⟩ := letM_ex h
  obtain ⟨m11, hm11, h⟩ := letM_ex h
  obtain ⟨m12, hm12, h⟩ := letM_ex h
  obtain ⟨m13, hm13, h⟩ := letM_ex h
  refine E_aload_n (n := 29) 16 rfl rfl rfl 1 rfl <| E_gF (r := (x1 + 11)) (n := 32) 17 rfl rfl fg_5_18 h_x1 rfl <| E_iconst (v := 0) (n := 33) 18 rfl rfl icz_0 <| E_aload_n (n := 34) 19 rfl rfl rfl 0 rfl <| E_gF (r := (x0 + 11)) (n := 37) 20 rfl rfl fg_5_18 h_x0 rfl <| E_iconst (v := 0) (n := 38) 21 rfl rfl icz_0 <| E_bipush (v := 10) (n := 40) 22 rfl rfl bpz_10 <| E_copyI (n := 43) 23 rfl rfl tw_1382 tw_1158 tw_1157 tw_135 ⟨Nat.le_of_ble_eq_true rfl, Nat.le_of_ble_eq_true rfl⟩ (shc_5_1 h_x1) (shc_5_1 h_x0) (by decide) <| E_mem hm2 <| E_aload_n (n := 44) 24 rfl rfl rfl 1 rfl <| E_gF (r := (x1 + 12)) (n := 47) 25 rfl rfl fg_5_22 h_x1 rfl <| E_iconst (v := 0) (n := 48) 26 rfl rfl icz_0 <| E_aload_n (n := 49) 27 rfl rfl rfl 0 rfl <| E_gF (r := (x0 + 12)) (n := 52) 28 rfl rfl fg_5_22 h_x0 rfl <| E_iconst (v := 0) (n := 53) 29 rfl rfl icz_0 <| E_bipush (v := 10) (n := 55) 30 rfl rfl bpz_10 <| E_copyI (n := 58) 31 rfl rfl tw_1382 tw_1158 tw_1157 tw_135 ⟨Nat.le_of_ble_eq_true rfl, Nat.le_of_ble_eq_true rfl⟩ (shc_5_2 h_x1) (shc_5_2 h_x0) (by decide) <| E_mem hm3 <| E_aload_n (n := 59) 32 rfl rfl rfl 1 rfl <| E_gF (r := (x1 + 13)) (n := 62) 33 rfl rfl fg_5_25 h_x1 rfl <| E_iconst (v := 0) (n := 63) 34 rfl rfl icz_0 <| E_aload_n (n := 64) 35 rfl rfl rfl 0 rfl <| E_gF (r := (x0 + 13)) (n := 67) 36 rfl rfl fg_5_25 h_x0 rfl <| E_iconst (v := 0) (n := 68) 37 rfl rfl icz_0 <| E_bipush (v := 10) (n := 70) 38 rfl rfl bpz_10 <| E_copyI (n := 73) 39 rfl rfl tw_1382 tw_1158 tw_1157 tw_135 ⟨Nat.le_of_ble_eq_true rfl, Nat.le_of_ble_eq_true rfl⟩ (shc_5_3 h_x1) (shc_5_3 h_x0) (by decide) <| E_mem hm4 <| E_aload_n (n := 74) 40 rfl rfl rfl 1 rfl <| E_gF (r := (x1 + 14)) (n := 77) 41 rfl rfl fg_5_28 h_x1 rfl <| E_iconst (v := 0) (n := 78) 42 rfl rfl icz_0 <| E_aload_n (n := 79) 43 rfl rfl rfl 0 rfl <| E_gF (r := (x0 + 14)) (n := 82) 44 rfl rfl fg_5_28 h_x0 rfl <| E_iconst (v := 0) (n := 83) 45 rfl rfl icz_0 <| E_bipush (v := 10) (n := 85) 46 rfl rfl bpz_10 <| E_copyJ (n := 88) 47 rfl rfl tw_1382 tw_1158 tw_1157 tw_135 ⟨Nat.le_of_ble_eq_true rfl, Nat.le_of_ble_eq_true rfl⟩ (shc_5_4 h_x1) (shc_5_4 h_x0) (by decide) <| E_mem hm5 <| E_aload_n (n := 89) 48 rfl rfl rfl 1 rfl <| E_gF (r := (x1 + 15)) (n := 92) 49 rfl rfl fg_5_32 h_x1 rfl <| E_iconst (v := 0) (n := 93) 50 rfl rfl icz_0 <| E_aload_n (n := 94) 51 rfl rfl rfl 0 rfl <| E_gF (r := (x0 + 15)) (n := 97) 52 rfl rfl fg_5_32 h_x0 rfl <| E_iconst (v := 0) (n := 98) 53 rfl rfl icz_0 <| E_iconst (v := 4) (n := 99) 54 rfl rfl icz_4 <| E_copyI (n := 102) 55 rfl rfl tw_1382 tw_1158 tw_1157 tw_135 ⟨Nat.le_of_ble_eq_true rfl, Nat.le_of_ble_eq_true rfl⟩ (shc_5_5 h_x1) (shc_5_5 h_x0) (by decide) <| E_mem hm6 <| E_aload_n (n := 103) 56 rfl rfl rfl 0 rfl <| E_aload_n (n := 104) 57 rfl rfl rfl 1 rfl <| E_gI (n := 107) 58 rfl rfl fg_5_35 h_x1 <| E_pI (n := 110) 59 rfl rfl fp_5_35 h_x0 <| E_mem hm7 <| E_aload_n (n := 111) 60 rfl rfl rfl 0 rfl <| E_aload_n (n := 112) 61 rfl rfl rfl 1 rfl <| E_gI (n := 115) 62 rfl rfl fg_5_46 h_x1 <| E_pI (n := 118) 63 rfl rfl fp_5_46 h_x0 <| E_mem hm8 <| E_aload_n (n := 119) 64 rfl rfl rfl 0 rfl <| E_aload_n (n := 120) 65 rfl rfl rfl 1 rfl <| E_gI (n := 123) 66 rfl rfl fg_5_53 h_x1 <| E_pI (n := 126) 67 rfl rfl fp_5_53 h_x0 <| E_mem hm9 <| E_aload_n (n := 127) 68 rfl rfl rfl 0 rfl <| E_aload_n (n := 128) 69 rfl rfl rfl 1 rfl <| E_gI (n := 131) 70 rfl rfl fg_5_56 h_x1 <| E_pI (n := 134) 71 rfl rfl fp_5_56 h_x0 <| E_mem hm10 <| E_aload_n (n := 135) 72 rfl rfl rfl 0 rfl <| E_aload_n (n := 136) 73 rfl rfl rfl 1 rfl <| E_gI (n := 139) 74 rfl rfl fg_5_65 h_x1 <| E_pI (n := 142) 75 rfl rfl fp_5_65 h_x0 <| E_mem hm11 <| E_aload_n (n := 143) 76 rfl rfl rfl 0 rfl <| E_aload_n (n := 144) 77 rfl rfl rfl 1 rfl <| E_gI (n := 147) 78 rfl rfl fg_5_62 h_x1 <| E_pI (n := 150) 79 rfl rfl fp_5_62 h_x0 <| E_mem hm12 <| E_aload_n (n := 151) 80 rfl rfl rfl 0 rfl <| E_aload_n (n := 152) 81 rfl rfl rfl 1 rfl <| E_gI (n := 155) 82 rfl rfl fg_5_78 h_x1 <| E_pI (n := 158) 83 rfl rfl fp_5_78 h_x0 <| E_mem hm13 <| E_return 84 rfl rfl (eV h)
theorem K_OH_image (m : Mem) (x1 : Int32) (R : Int32 × Mem) (h : OH_image m x1 = some R) : Mt M_OH_image [.ref 0, .int x1] m (qI R.1 R.2) := by
  refine Mt.of G_OH_image (Nat.le_of_ble_eq_true rfl) (E_sub (lv' := [(0, .ref 0), (1, .int x1)]) [0, 1] rfl ?_)
  unfold OH_image at h
  refine E_iload_n (n := 1) 0 rfl rfl rfl 1 rfl <| E_if_lt (n := 4) (t := 9) 1 rfl rfl rfl (fun hc => ?_) (fun hc => ?_)
  · have h := ifp h hc
    refine E_iconst (v := 0) (n := 10) 5 rfl rfl icz_0 <| E_zreturn 6 rfl rfl z0 (eS h)
  · have h := ifn h hc
    refine E_iload_n (n := 5) 2 rfl rfl rfl 1 rfl <| E_iconst (v := 1) (n := 6) 3 rfl rfl icz_1 <| E_icmp_le (n := 9) (t := 11) 4 rfl rfl rfl (fun hc => ?_) (fun hc => ?_)
    · have h := ifp h hc
      obtain ⟨hc1, h⟩ := ift h
      obtain ⟨m3, hq4, h⟩ := bM_ex h
      obtain ⟨m5, hm5, h⟩ := letM_ex h
      refine E_aload_n (n := 12) 7 rfl rfl rfl 0 rfl <| E_gF (r := 67) (n := 15) 8 rfl rfl fg_11_84 sh_0 rfl <| E_iload_n (n := 16) 9 rfl rfl rfl 1 rfl <| E_aP (r := (68 + 16 * ixn x1)) (n := 17) 10 rfl rfl sh_67 hc1 rfl <| E_aload_n (n := 18) 11 rfl rfl rfl 0 rfl <| E_gN (n := 21) 12 rfl rfl fg_11_92 sh_0 (Or.inl rfl) fun hN2 => E_cV1v (n := 24) 13 rfl rfl co_11_342 rfl (shim hc1) rfl (K_PH_copyFrom m (68 + 16 * ixn x1) (gN m 13) (shim hc1) hN2 _ hq4) <| E_aload_n (n := 25) 14 rfl rfl rfl 0 rfl <| E_gF (r := 100) (n := 28) 15 rfl rfl fg_11_88 sh_0 rfl <| E_iload_n (n := 29) 16 rfl rfl rfl 1 rfl <| E_iconst (v := 1) (n := 30) 17 rfl rfl icz_1 <| E_zast (n := 31) 18 rfl rfl sh_100 hc1 <| E_mem hm5 <| E_iconst (v := 1) (n := 32) 19 rfl rfl icz_1 <| E_zreturn 20 rfl rfl z1 (eS h)
    · have h := ifn h hc
      refine E_iconst (v := 0) (n := 10) 5 rfl rfl icz_0 <| E_zreturn 6 rfl rfl z0 (eS h)
theorem K_OH_restore (m : Mem) (x1 : Int32) (R : Int32 × Mem) (h : OH_restore m x1 = some R) : Mt M_OH_restore [.ref 0, .int x1] m (qI R.1 R.2) := by
  refine Mt.of G_OH_restore (Nat.le_of_ble_eq_true rfl) (E_sub (lv' := [(0, .ref 0), (1, .int x1)]) [0, 1] rfl ?_)
  unfold OH_restore at h
  refine E_iload_n (n := 1) 0 rfl rfl rfl 1 rfl <| E_if_lt (n := 4) (t := 18) 1 rfl rfl rfl (fun hc => ?_) (fun hc => ?_)
  · have h := ifp h hc
    refine E_iconst (v := 0) (n := 19) 10 rfl rfl icz_0 <| E_zreturn 11 rfl rfl z0 (eS h)
  · have h := ifn h hc
    refine E_iload_n (n := 5) 2 rfl rfl rfl 1 rfl <| E_iconst (v := 1) (n := 6) 3 rfl rfl icz_1 <| E_icmp_gt (n := 9) (t := 18) 4 rfl rfl rfl (fun hc => ?_) (fun hc => ?_)
    · have h := ifp h hc
      refine E_iconst (v := 0) (n := 19) 10 rfl rfl icz_0 <| E_zreturn 11 rfl rfl z0 (eS h)
    · have h := ifn h hc
      obtain ⟨hc1, h⟩ := ift h
      refine E_aload_n (n := 10) 5 rfl rfl rfl 0 rfl <| E_gF (r := 100) (n := 13) 6 rfl rfl fg_11_88 sh_0 rfl <| E_iload_n (n := 14) 7 rfl rfl rfl 1 rfl <| E_zald (n := 15) 8 rfl rfl sh_100 hc1 <| E_if_ne (n := 18) (t := 20) 9 rfl rfl rfl (fun hc => ?_) (fun hc => ?_)
      · have h := ifn h hc
        obtain ⟨m3, hq4, h⟩ := bM_ex h
        obtain ⟨m5, hq6, h⟩ := bM_ex h
        refine E_aload_n (n := 21) 12 rfl rfl rfl 0 rfl <| E_gN (n := 24) 13 rfl rfl fg_11_92 sh_0 (Or.inl rfl) fun hN2 => E_aload_n (n := 25) 14 rfl rfl rfl 0 rfl <| E_gF (r := 67) (n := 28) 15 rfl rfl fg_11_84 sh_0 rfl <| E_iload_n (n := 29) 16 rfl rfl rfl 1 rfl <| E_aP (r := (68 + 16 * ixn x1)) (n := 30) 17 rfl rfl sh_67 hc1 rfl <| E_cV1v (n := 33) 18 rfl rfl co_11_342 rfl hN2 rfl (K_PH_copyFrom m (gN m 13) (68 + 16 * ixn x1) hN2 (shim hc1) _ hq4) <| E_aload_n (n := 34) 19 rfl rfl rfl 0 rfl <| E_gF (r := 3) (n := 37) 20 rfl rfl fg_11_19 sh_0 rfl <| E_cV0v (n := 40) 21 rfl rfl co_11_117 rfl sh_3 rfl (K_AC_forget m3 _ hq6) <| E_iconst (v := 1) (n := 41) 22 rfl rfl icz_1 <| E_zreturn 23 rfl rfl z1 (eS h)
      · have h := ifp h hc
        refine E_iconst (v := 0) (n := 19) 10 rfl rfl icz_0 <| E_zreturn 11 rfl rfl z0 (eS h)
theorem K_OH_count (m : Mem) (x1 : Int32) (R : Int32) (h : OH_count m x1 = R) : Mt M_OH_count [.ref 0, .int x1] m (qI R m) := by
  refine Mt.of G_OH_count (Nat.le_of_ble_eq_true rfl) (E_sub (lv' := [(0, .ref 0), (1, .int x1)]) [0, 1] rfl ?_)
  unfold OH_count at h
  refine E_iload_n (n := 1) 0 rfl rfl rfl 1 rfl <| ?_
  by_cases hc8 : x1 = 0
  · have h := ifp h hc8
    refine E_tabIn (off := 47) (t := 48) 1 rfl (by rw [hc8]; decide) (by rw [hc8]; decide) (by rw [hc8]; rfl) rfl ?_
    refine E_aload_n (n := 49) 2 rfl rfl rfl 0 rfl <| E_gN (n := 52) 3 rfl rfl fg_11_92 sh_0 (Or.inl rfl) fun hN1 => E_gI (n := 55) 4 rfl rfl fg_11_307 hN1 <| E_ireturn 5 rfl rfl (eT h)
  have h := ifn h hc8
  by_cases hc9 : x1 = 1
  · have h := ifp h hc9
    refine E_tabIn (off := 55) (t := 56) 1 rfl (by rw [hc9]; decide) (by rw [hc9]; decide) (by rw [hc9]; rfl) rfl ?_
    refine E_aload_n (n := 57) 6 rfl rfl rfl 0 rfl <| E_gN (n := 60) 7 rfl rfl fg_11_92 sh_0 (Or.inl rfl) fun hN2 => E_gI (n := 63) 8 rfl rfl fg_11_224 hN2 <| E_ireturn 9 rfl rfl (eT h)
  have h := ifn h hc9
  by_cases hc10 : x1 = 2
  · have h := ifp h hc10
    refine E_tabIn (off := 63) (t := 64) 1 rfl (by rw [hc10]; decide) (by rw [hc10]; decide) (by rw [hc10]; rfl) rfl ?_
    refine E_aload_n (n := 65) 10 rfl rfl rfl 0 rfl <| E_gN (n := 68) 11 rfl rfl fg_11_92 sh_0 (Or.inl rfl) fun hN3 => E_gI (n := 71) 12 rfl rfl fg_11_344 hN3 <| E_ireturn 13 rfl rfl (eT h)
  have h := ifn h hc10
  by_cases hc11 : x1 = 3
  · have h := ifp h hc11
    refine E_tabIn (off := 71) (t := 72) 1 rfl (by rw [hc11]; decide) (by rw [hc11]; decide) (by rw [hc11]; rfl) rfl ?_
    refine E_aload_n (n := 73) 14 rfl rfl rfl 0 rfl <| E_gN (n := 76) 15 rfl rfl fg_11_92 sh_0 (Or.inl rfl) fun hN4 => E_gI (n := 79) 16 rfl rfl fg_11_347 hN4 <| E_ireturn 17 rfl rfl (eT h)
  have h := ifn h hc11
  by_cases hc12 : x1 = 4
  · have h := ifp h hc12
    refine E_tabIn (off := 79) (t := 80) 1 rfl (by rw [hc12]; decide) (by rw [hc12]; decide) (by rw [hc12]; rfl) rfl ?_
    refine E_aload_n (n := 81) 18 rfl rfl rfl 0 rfl <| E_gN (n := 84) 19 rfl rfl fg_11_92 sh_0 (Or.inl rfl) fun hN5 => E_gI (n := 87) 20 rfl rfl fg_11_298 hN5 <| E_ireturn 21 rfl rfl (eT h)
  have h := ifn h hc12
  by_cases hc13 : x1 = 5
  · have h := ifp h hc13
    refine E_tabIn (off := 87) (t := 88) 1 rfl (by rw [hc13]; decide) (by rw [hc13]; decide) (by rw [hc13]; rfl) rfl ?_
    refine E_aload_n (n := 89) 22 rfl rfl rfl 0 rfl <| E_gN (n := 92) 23 rfl rfl fg_11_92 sh_0 (Or.inl rfl) fun hN6 => E_gI (n := 95) 24 rfl rfl fg_11_301 hN6 <| E_ireturn 25 rfl rfl (eT h)
  have h := ifn h hc13
  by_cases hc14 : x1 = 6
  · have h := ifp h hc14
    refine E_tabIn (off := 95) (t := 96) 1 rfl (by rw [hc14]; decide) (by rw [hc14]; decide) (by rw [hc14]; rfl) rfl ?_
    refine E_aload_n (n := 97) 26 rfl rfl rfl 0 rfl <| E_gN (n := 100) 27 rfl rfl fg_11_92 sh_0 (Or.inl rfl) fun hN7 => E_gI (n := 103) 28 rfl rfl fg_11_350 hN7 <| E_ireturn 29 rfl rfl (eT h)
  have h := ifn h hc14
  by_cases hc15 : x1 = 7
  · have h := ifp h hc15
    refine E_tabIn (off := 103) (t := 104) 1 rfl (by rw [hc15]; decide) (by rw [hc15]; decide) (by rw [hc15]; rfl) rfl ?_
    refine E_aload_n (n := 105) 30 rfl rfl rfl 0 rfl <| E_gF (r := 1) (n := 108) 31 rfl rfl fg_11_12 sh_0 rfl <| E_gI (n := 111) 32 rfl rfl fg_11_103 sh_1 <| E_ireturn 33 rfl rfl (eT h)
  have h := ifn h hc15
  refine E_tabOut (t := 112) 1 rfl (tabo (by decide) (by decide) (fun z h1 h2 => ?_)) rfl ?_
  · have h3 : z = 0 ∨ z = 1 ∨ z = 2 ∨ z = 3 ∨ z = 4 ∨ z = 5 ∨ z = 6 ∨ z = 7 := by omega
    rcases h3 with rfl | rfl | rfl | rfl | rfl | rfl | rfl | rfl
    · exact hc8
    · exact hc9
    · exact hc10
    · exact hc11
    · exact hc12
    · exact hc13
    · exact hc14
    · exact hc15
  · refine E_iconst (v := (-1)) (n := 113) 34 rfl rfl icz_m1 <| E_ireturn 35 rfl rfl (eT h)
theorem K_RM_thrown (m : Mem) (R : Int32) (h : RM_thrown m = R) : Mt M_RM_thrown [.ref 133] m (qI R m) := by
  refine Mt.of G_RM_thrown (Nat.le_of_ble_eq_true rfl) (E_sub (lv' := [(0, .ref 133)]) [0] rfl ?_)
  unfold RM_thrown at h
  refine E_aload_n (n := 1) 0 rfl rfl rfl 0 rfl <| E_gI (n := 4) 1 rfl rfl fg_12_1 sh_133 <| E_ireturn 2 rfl rfl (eT h)
theorem K_RM_throwsIf (m : Mem) (x1 : Int32) (R : Int32 × Mem) (h : RM_throwsIf m x1 = some R) : Mt M_RM_throwsIf [.ref 133, .int x1] m (qI R.1 R.2) := by
  refine Mt.of G_RM_throwsIf (Nat.le_of_ble_eq_true rfl) (E_sub (lv' := [(0, .ref 133), (1, .int x1)]) [0, 1] rfl ?_)
  unfold RM_throwsIf at h
  refine E_aload_n (n := 1) 0 rfl rfl rfl 0 rfl <| E_iload_n (n := 2) 1 rfl rfl rfl 1 rfl <| E_if_eq (n := 5) (t := 9) 2 rfl rfl rfl (fun hc => ?_) (fun hc => ?_)
  · have h := ifp h hc
    refine E_iconst (v := 0) (n := 10) 5 rfl rfl icz_0 <| ?_
    obtain ⟨m1, hm1, h⟩ := letM_ex h
    obtain ⟨hc2, h⟩ := ift h
    refine E_pI (n := 13) 6 rfl rfl fp_12_1 sh_133 <| E_mem hm1 <| E_iload_n (n := 14) 7 rfl rfl rfl 1 rfl <| E_zreturn 8 rfl rfl hc2 (eS h)
  · have h := ifn h hc
    refine E_iconst (v := 1) (n := 6) 3 rfl rfl icz_1 <| E_goto (t := 10) 4 rfl rfl <| ?_
    obtain ⟨m3, hm3, h⟩ := letM_ex h
    obtain ⟨hc4, h⟩ := ift h
    refine E_pI (n := 13) 6 rfl rfl fp_12_1 sh_133 <| E_mem hm3 <| E_iload_n (n := 14) 7 rfl rfl rfl 1 rfl <| E_zreturn 8 rfl rfl hc4 (eS h)
theorem RM_four_L3_ok (x1 : Int32) (kx : Mem → Option Mem) (R : Mem) (hx : ∀ (m : Mem), kx m = some R → E M_RM_four 36 [] [] m (qV R)) : ∀ (n : Nat) (m : Mem) (x2 : Int32), RM_four_L3 x1 kx n m x2 = some R → E M_RM_four 3 [(0, .ref 133), (1, .int x1), (2, .int x2)] [] m (qV R) := by
  intro n
  induction n with
  | zero =>
    intro m x2 h
    exact absurd (show none = some R from h) (fun e => Option.some_ne_none R e.symm)
  | succ n ih =>
    intro m x2 h
    rw [RM_four_L3] at h
    refine E_iload_n (n := 4) 2 rfl rfl rfl 2 rfl <| E_if_lt (n := 7) (t := 36) 3 rfl rfl rfl (fun hc => ?_) (fun hc => ?_)
    · have h := ifp h hc
      refine E_sub (lv' := []) [] rfl ?_
      exact hx m h
    · have h := ifn h hc
      obtain ⟨hc1, h⟩ := ift h
      obtain ⟨m2, hm2, h⟩ := letM_ex h
      obtain ⟨m3, hm3, h⟩ := letM_ex h
      refine E_aload_n (n := 8) 4 rfl rfl rfl 0 rfl <| E_gF (r := 134) (n := 11) 5 rfl rfl fg_12_14 sh_133 rfl <| E_aload_n (n := 12) 6 rfl rfl rfl 0 rfl <| E_gI (n := 15) 7 rfl rfl fg_12_7 sh_133 <| E_iload_n (n := 16) 8 rfl rfl rfl 1 rfl <| E_iload_n (n := 17) 9 rfl rfl rfl 2 rfl <| E_jshr (n := 18) 10 rfl rfl <| E_i2b (n := 19) 11 rfl rfl <| E_bast (n := 20) 12 rfl rfl sh_134 hc1 <| E_mem hm2 <| E_aload_n (n := 21) 13 rfl rfl rfl 0 rfl <| E_dup (n := 22) 14 rfl rfl rfl <| E_gI (n := 25) 15 rfl rfl fg_12_7 sh_133 <| E_iconst (v := 1) (n := 26) 16 rfl rfl icz_1 <| E_iadd (n := 27) 17 rfl rfl <| E_pI (n := 30) 18 rfl rfl fp_12_7 sh_133 <| E_mem hm3 <| E_iinc (v := (x2 + (-8))) (lv' := [(0, .ref 133), (1, .int x1), (2, .int (x2 + (-8)))]) (n := 33) 19 rfl rfl 2 rfl (by rw [icz_m8]) (Nat.le_of_ble_eq_true rfl) [1, 2, 0] rfl <| E_goto (t := 3) 20 rfl rfl <| ?_
      exact ih m3 (x2 + (-8)) h
theorem K_RM_four (m : Mem) (x1 : Int32) (R : Mem) (h : RM_four m x1 = some R) : Mt M_RM_four [.ref 133, .int x1] m (qV R) := by
  refine Mt.of G_RM_four (Nat.le_of_ble_eq_true rfl) (E_sub (lv' := [(0, .ref 133), (1, .int x1)]) [0, 1] rfl ?_)
  unfold RM_four at h
  refine E_bipush (v := 24) (n := 2) 0 rfl rfl bpz_24 <| E_istore_n (lv' := [(0, .ref 133), (1, .int x1), (2, .int 24)]) (n := 3) 1 rfl rfl rfl (Nat.le_of_ble_eq_true rfl) [1, 2, 0] rfl <| ?_
  refine RM_four_L3_ok x1 _ R ?_ FU m 24 h
  intro m1 h
  refine E_return 21 rfl rfl (eV h)
theorem K_RM_feed (m : Mem) (x1 : Int32) (x2 : Int32) (x3 : Int32) (x4 : Int32) (x5 : Int32) (R : Int32 × Mem) (h : RM_feed m x1 x2 x3 x4 x5 = some R) : Mt M_RM_feed [.ref 133, .int x1, .int x2, .int x3, .int x4, .int x5] m (qI R.1 R.2) := by
  refine Mt.of G_RM_feed (Nat.le_of_ble_eq_true rfl) (E_sub (lv' := [(0, .ref 133), (1, .int x1), (2, .int x2), (3, .int x3), (4, .int x4), (5, .int x5)]) [0, 1, 2, 3, 4, 5] rfl ?_)
  unfold RM_feed at h
  obtain ⟨m1, hm1, h⟩ := letM_ex h
  refine E_aload_n (n := 1) 0 rfl rfl rfl 0 rfl <| E_iconst (v := 0) (n := 2) 1 rfl rfl icz_0 <| E_pI (n := 5) 2 rfl rfl fp_12_1 sh_133 <| E_mem hm1 <| E_aload_n (n := 6) 3 rfl rfl rfl 0 rfl <| E_gI (n := 9) 4 rfl rfl fg_12_7 sh_133 <| E_bipush (v := 20) (n := 11) 5 rfl rfl bpz_20 <| E_iadd (n := 12) 6 rfl rfl <| E_sipush (v := 940) (n := 15) 7 rfl rfl spz_940 <| E_icmp_le (n := 18) (t := 20) 8 rfl rfl rfl (fun hc => ?_) (fun hc => ?_)
  · have h := ifp h hc
    obtain ⟨m2, hq3, h⟩ := bM_ex h
    obtain ⟨m4, hq5, h⟩ := bM_ex h
    obtain ⟨m6, hq7, h⟩ := bM_ex h
    obtain ⟨m8, hq9, h⟩ := bM_ex h
    obtain ⟨m10, hq11, h⟩ := bM_ex h
    refine E_aload_n (n := 21) 11 rfl rfl rfl 0 rfl <| E_iload_n (n := 22) 12 rfl rfl rfl 1 rfl <| E_cV1v (n := 25) 13 rfl rfl co_12_10 rfl sh_133 rfl (K_RM_four m1 x1 _ hq3) <| E_aload_n (n := 26) 14 rfl rfl rfl 0 rfl <| E_iload_n (n := 27) 15 rfl rfl rfl 2 rfl <| E_cV1v (n := 30) 16 rfl rfl co_12_10 rfl sh_133 rfl (K_RM_four m2 x2 _ hq5) <| E_aload_n (n := 31) 17 rfl rfl rfl 0 rfl <| E_iload_n (n := 32) 18 rfl rfl rfl 3 rfl <| E_cV1v (n := 35) 19 rfl rfl co_12_10 rfl sh_133 rfl (K_RM_four m4 x3 _ hq7) <| E_aload_n (n := 36) 20 rfl rfl rfl 0 rfl <| E_iload (n := 38) 21 rfl rfl 4 rfl <| E_cV1v (n := 41) 22 rfl rfl co_12_10 rfl sh_133 rfl (K_RM_four m6 x4 _ hq9) <| E_aload_n (n := 42) 23 rfl rfl rfl 0 rfl <| E_iload (n := 44) 24 rfl rfl 5 rfl <| E_cV1v (n := 47) 25 rfl rfl co_12_10 rfl sh_133 rfl (K_RM_four m8 x5 _ hq11) <| E_aload_n (n := 48) 26 rfl rfl rfl 0 rfl <| E_gI (n := 51) 27 rfl rfl fg_12_7 sh_133 <| E_ireturn 28 rfl rfl (eS h)
  · have h := ifn h hc
    refine E_iconst (v := (-1)) (n := 19) 9 rfl rfl icz_m1 <| E_ireturn 10 rfl rfl (eS h)
theorem K_RM_end (m : Mem) (x1 : Int32) (R : Int32 × Mem) (h : RM_end m x1 = some R) : Mt M_RM_end [.ref 133, .int x1] m (qI R.1 R.2) := by
  refine Mt.of G_RM_end (Nat.le_of_ble_eq_true rfl) (E_sub (lv' := [(0, .ref 133), (1, .int x1)]) [0, 1] rfl ?_)
  unfold RM_end at h
  obtain ⟨m1, hm1, h⟩ := letM_ex h
  refine E_aload_n (n := 1) 0 rfl rfl rfl 0 rfl <| E_iconst (v := 0) (n := 2) 1 rfl rfl icz_0 <| E_pI (n := 5) 2 rfl rfl fp_12_1 sh_133 <| E_mem hm1 <| E_iload_n (n := 6) 3 rfl rfl rfl 1 rfl <| E_if_lt (n := 9) (t := 17) 4 rfl rfl rfl (fun hc => ?_) (fun hc => ?_)
  · have h := ifp h hc
    refine E_iconst (v := 0) (n := 18) 9 rfl rfl icz_0 <| E_zreturn 10 rfl rfl z0 (eS h)
  · have h := ifn h hc
    refine E_iload_n (n := 10) 5 rfl rfl rfl 1 rfl <| E_aload_n (n := 11) 6 rfl rfl rfl 0 rfl <| E_gI (n := 14) 7 rfl rfl fg_12_7 sh_133 <| E_icmp_le (n := 17) (t := 19) 8 rfl rfl rfl (fun hc => ?_) (fun hc => ?_)
    · have h := ifp h hc
      obtain ⟨m2, hm2, h⟩ := letM_ex h
      refine E_aload_n (n := 20) 11 rfl rfl rfl 0 rfl <| E_iload_n (n := 21) 12 rfl rfl rfl 1 rfl <| E_pI (n := 24) 13 rfl rfl fp_12_7 sh_133 <| E_mem hm2 <| E_iconst (v := 1) (n := 25) 14 rfl rfl icz_1 <| E_zreturn 15 rfl rfl z1 (eS h)
    · have h := ifn h hc
      refine E_iconst (v := 0) (n := 18) 9 rfl rfl icz_0 <| E_zreturn 10 rfl rfl z0 (eS h)
theorem K_RM_taken (m : Mem) (x1 : Int32) (R : Mem) (h : RM_taken m x1 = some R) : Mt M_RM_taken [.ref 133, .int x1] m (qV R) := by
  refine Mt.of G_RM_taken (Nat.le_of_ble_eq_true rfl) (E_sub (lv' := [(0, .ref 133), (1, .int x1)]) [0, 1] rfl ?_)
  unfold RM_taken at h
  obtain ⟨m1, hm1, h⟩ := letM_ex h
  obtain ⟨m2, hm2, h⟩ := letM_ex h
  obtain ⟨m3, hm3, h⟩ := letM_ex h
  obtain ⟨m4, hm4, h⟩ := letM_ex h
  refine E_aload_n (n := 1) 0 rfl rfl rfl 0 rfl <| E_aload_n (n := 2) 1 rfl rfl rfl 0 rfl <| E_gI (n := 5) 2 rfl rfl fg_12_7 sh_133 <| E_pI (n := 8) 3 rfl rfl fp_12_18 sh_133 <| E_mem hm1 <| E_aload_n (n := 9) 4 rfl rfl rfl 0 rfl <| E_iconst (v := 0) (n := 10) 5 rfl rfl icz_0 <| E_pI (n := 13) 6 rfl rfl fp_12_7 sh_133 <| E_mem hm2 <| E_aload_n (n := 14) 7 rfl rfl rfl 0 rfl <| E_iconst (v := 0) (n := 15) 8 rfl rfl icz_0 <| E_pI (n := 18) 9 rfl rfl fp_12_21 sh_133 <| E_mem hm3 <| E_aload_n (n := 19) 10 rfl rfl rfl 0 rfl <| E_iload_n (n := 20) 11 rfl rfl rfl 1 rfl <| E_pI (n := 23) 12 rfl rfl fp_12_24 sh_133 <| E_mem hm4 <| E_return 13 rfl rfl (eV h)
theorem K_RM_isIn (m : Mem) (x0 : Int32) (x1 : Int32) (x2 : Int32) (R : Int32) (h : RM_isIn x0 x1 x2 = R) : Mt M_RM_isIn [.int x0, .int x1, .int x2] m (qI R m) := by
  refine Mt.of G_RM_isIn (Nat.le_of_ble_eq_true rfl) (E_sub (lv' := [(0, .int x0), (1, .int x1), (2, .int x2)]) [0, 1, 2] rfl ?_)
  unfold RM_isIn at h
  refine E_iload_n (n := 1) 0 rfl rfl rfl 0 rfl <| E_iload_n (n := 2) 1 rfl rfl rfl 1 rfl <| E_icmp_lt (n := 5) (t := 14) 2 rfl rfl rfl (fun hc => ?_) (fun hc => ?_)
  · have h := ifp h hc
    refine E_iconst (v := 0) (n := 15) 8 rfl rfl icz_0 <| ?_
    refine E_zreturn 9 rfl rfl z0 (eT h)
  · have h := ifn h hc
    refine E_iload_n (n := 6) 3 rfl rfl rfl 0 rfl <| E_iload_n (n := 7) 4 rfl rfl rfl 2 rfl <| E_icmp_gt (n := 10) (t := 14) 5 rfl rfl rfl (fun hc => ?_) (fun hc => ?_)
    · have h := ifp h hc
      refine E_iconst (v := 0) (n := 15) 8 rfl rfl icz_0 <| ?_
      refine E_zreturn 9 rfl rfl z0 (eT h)
    · have h := ifn h hc
      refine E_iconst (v := 1) (n := 11) 6 rfl rfl icz_1 <| E_goto (t := 15) 7 rfl rfl <| ?_
      refine E_zreturn 9 rfl rfl z1 (eT h)
theorem K_RM_has (m : Mem) (x0 : Int32) (x1 : Int32) (R : Int32) (h : RM_has x0 x1 = R) : Mt M_RM_has [.int x0, .int x1] m (qI R m) := by
  refine Mt.of G_RM_has (Nat.le_of_ble_eq_true rfl) (E_sub (lv' := [(0, .int x0), (1, .int x1)]) [0, 1] rfl ?_)
  unfold RM_has at h
  refine E_iload_n (n := 1) 0 rfl rfl rfl 0 rfl <| E_iload_n (n := 2) 1 rfl rfl rfl 1 rfl <| E_jshr (n := 3) 2 rfl rfl <| E_iconst (v := 1) (n := 4) 3 rfl rfl icz_1 <| E_iand (n := 5) 4 rfl rfl <| E_iconst (v := 1) (n := 6) 5 rfl rfl icz_1 <| E_icmp_ne (n := 9) (t := 13) 6 rfl rfl rfl (fun hc => ?_) (fun hc => ?_)
  · have h := ifn h hc
    refine E_iconst (v := 0) (n := 14) 9 rfl rfl icz_0 <| ?_
    refine E_zreturn 10 rfl rfl z0 (eT h)
  · have h := ifp h hc
    refine E_iconst (v := 1) (n := 10) 7 rfl rfl icz_1 <| E_goto (t := 14) 8 rfl rfl <| ?_
    refine E_zreturn 10 rfl rfl z1 (eT h)
theorem K_RM_octet (m : Mem) (x1 : Int32) (R : Int32) (h : RM_octet m x1 = some R) : Mt M_RM_octet [.ref 133, .int x1] m (qI R m) := by
  refine Mt.of G_RM_octet (Nat.le_of_ble_eq_true rfl) (E_sub (lv' := [(0, .ref 133), (1, .int x1)]) [0, 1] rfl ?_)
  unfold RM_octet at h
  obtain ⟨hc1, h⟩ := ift h
  refine E_aload_n (n := 1) 0 rfl rfl rfl 0 rfl <| E_gF (r := 134) (n := 4) 1 rfl rfl fg_12_14 sh_133 rfl <| E_iload_n (n := 5) 2 rfl rfl rfl 1 rfl <| E_bald (n := 6) 3 rfl rfl sh_134 hc1 <| E_sipush (v := 255) (n := 9) 4 rfl rfl spz_255 <| E_iand (n := 10) 5 rfl rfl <| E_ireturn 6 rfl rfl (eP h)
theorem RM_plain_L2_ok (kx : Mem → Option Mem) (R : Mem) (hx : ∀ (m : Mem), kx m = some R → E M_RM_plain 21 [(0, .ref 133)] [] m (qV R)) : ∀ (n : Nat) (m : Mem) (x1 : Int32), RM_plain_L2 kx n m x1 = some R → E M_RM_plain 2 [(0, .ref 133), (1, .int x1)] [] m (qV R) := by
  intro n
  induction n with
  | zero =>
    intro m x1 h
    exact absurd (show none = some R from h) (fun e => Option.some_ne_none R e.symm)
  | succ n ih =>
    intro m x1 h
    rw [RM_plain_L2] at h
    refine E_iload_n (n := 3) 2 rfl rfl rfl 1 rfl <| E_bipush (v := 116) (n := 5) 3 rfl rfl bpz_116 <| E_icmp_ge (n := 8) (t := 21) 4 rfl rfl rfl (fun hc => ?_) (fun hc => ?_)
    · have h := ifp h hc
      refine E_sub (lv' := [(0, .ref 133)]) [0] rfl ?_
      exact hx m h
    · have h := ifn h hc
      obtain ⟨hc1, h⟩ := ift h
      obtain ⟨m2, hm2, h⟩ := letM_ex h
      refine E_aload_n (n := 9) 5 rfl rfl rfl 0 rfl <| E_gF (r := 136) (n := 12) 6 rfl rfl fg_12_37 sh_133 rfl <| E_iload_n (n := 13) 7 rfl rfl rfl 1 rfl <| E_iconst (v := 0) (n := 14) 8 rfl rfl icz_0 <| E_iast (n := 15) 9 rfl rfl sh_136 hc1 <| E_mem hm2 <| E_iinc (v := (x1 + 1)) (lv' := [(0, .ref 133), (1, .int (x1 + 1))]) (n := 18) 10 rfl rfl 1 rfl (by rw [icz_1]) (Nat.le_of_ble_eq_true rfl) [1, 0] rfl <| E_goto (t := 2) 11 rfl rfl <| ?_
      exact ih m2 (x1 + 1) h
theorem RM_plain_L23_ok (kx : Mem → Option Mem) (R : Mem) (hx : ∀ (m : Mem), kx m = some R → E M_RM_plain 44 [] [] m (qV R)) : ∀ (n : Nat) (m : Mem) (x1 : Int32), RM_plain_L23 kx n m x1 = some R → E M_RM_plain 23 [(0, .ref 133), (1, .int x1)] [] m (qV R) := by
  intro n
  induction n with
  | zero =>
    intro m x1 h
    exact absurd (show none = some R from h) (fun e => Option.some_ne_none R e.symm)
  | succ n ih =>
    intro m x1 h
    rw [RM_plain_L23] at h
    refine E_iload_n (n := 24) 14 rfl rfl rfl 1 rfl <| E_iconst (v := 4) (n := 25) 15 rfl rfl icz_4 <| E_icmp_ge (n := 28) (t := 44) 16 rfl rfl rfl (fun hc => ?_) (fun hc => ?_)
    · have h := ifp h hc
      refine E_sub (lv' := []) [] rfl ?_
      exact hx m h
    · have h := ifn h hc
      obtain ⟨hc1, h⟩ := ift h
      obtain ⟨m2, hm2, h⟩ := letM_ex h
      refine E_aload_n (n := 29) 17 rfl rfl rfl 0 rfl <| E_gF (r := 136) (n := 32) 18 rfl rfl fg_12_37 sh_133 rfl <| E_bipush (v := 7) (n := 34) 19 rfl rfl bpz_7 <| E_iload_n (n := 35) 20 rfl rfl rfl 1 rfl <| E_iadd (n := 36) 21 rfl rfl <| E_iload_n (n := 37) 22 rfl rfl rfl 1 rfl <| E_iast (n := 38) 23 rfl rfl sh_136 hc1 <| E_mem hm2 <| E_iinc (v := (x1 + 1)) (lv' := [(0, .ref 133), (1, .int (x1 + 1))]) (n := 41) 24 rfl rfl 1 rfl (by rw [icz_1]) (Nat.le_of_ble_eq_true rfl) [1, 0] rfl <| E_goto (t := 23) 25 rfl rfl <| ?_
      exact ih m2 (x1 + 1) h
theorem K_RM_plain (m : Mem) (R : Mem) (h : RM_plain m = some R) : Mt M_RM_plain [.ref 133] m (qV R) := by
  refine Mt.of G_RM_plain (Nat.le_of_ble_eq_true rfl) (E_sub (lv' := [(0, .ref 133)]) [0] rfl ?_)
  unfold RM_plain at h
  refine E_iconst (v := 0) (n := 1) 0 rfl rfl icz_0 <| E_istore_n (lv' := [(0, .ref 133), (1, .int 0)]) (n := 2) 1 rfl rfl rfl (Nat.le_of_ble_eq_true rfl) [1, 0] rfl <| ?_
  refine RM_plain_L2_ok _ R ?_ FU m 0 h
  intro m1 h
  refine E_iconst (v := 0) (n := 22) 12 rfl rfl icz_0 <| E_istore_n (lv' := [(0, .ref 133), (1, .int 0)]) (n := 23) 13 rfl rfl rfl (Nat.le_of_ble_eq_true rfl) [1, 0] rfl <| ?_
  refine RM_plain_L23_ok _ R ?_ FU m1 0 h
  intro m2 h
  refine E_return 26 rfl rfl (eV h)
theorem K_RM_peek (m : Mem) (R : Int32) (h : RM_peek m = some R) : Mt M_RM_peek [.ref 133] m (qI R m) := by
  refine Mt.of G_RM_peek (Nat.le_of_ble_eq_true rfl) (E_sub (lv' := [(0, .ref 133)]) [0] rfl ?_)
  unfold RM_peek at h
  refine E_aload_n (n := 1) 0 rfl rfl rfl 0 rfl <| E_gI (n := 4) 1 rfl rfl fg_12_21 sh_133 <| E_aload_n (n := 5) 2 rfl rfl rfl 0 rfl <| E_gI (n := 8) 3 rfl rfl fg_12_18 sh_133 <| E_icmp_ge (n := 11) (t := 27) 4 rfl rfl rfl (fun hc => ?_) (fun hc => ?_)
  · have h := ifp h hc
    refine E_iconst (v := (-1)) (n := 28) 13 rfl rfl icz_m1 <| ?_
    refine E_ireturn 14 rfl rfl (eP h)
  · have h := ifn h hc
    obtain ⟨hc1, h⟩ := ift h
    refine E_aload_n (n := 12) 5 rfl rfl rfl 0 rfl <| E_gF (r := 134) (n := 15) 6 rfl rfl fg_12_14 sh_133 rfl <| E_aload_n (n := 16) 7 rfl rfl rfl 0 rfl <| E_gI (n := 19) 8 rfl rfl fg_12_21 sh_133 <| E_bald (n := 20) 9 rfl rfl sh_134 hc1 <| E_sipush (v := 255) (n := 23) 10 rfl rfl spz_255 <| E_iand (n := 24) 11 rfl rfl <| E_goto (t := 28) 12 rfl rfl <| ?_
    refine E_ireturn 14 rfl rfl (eP h)
theorem K_RM_isSmall (m : Mem) (x0 : Int32) (R : Int32) (h : RM_isSmall x0 = R) : Mt M_RM_isSmall [.int x0] m (qI R m) := by
  refine Mt.of G_RM_isSmall (Nat.le_of_ble_eq_true rfl) (E_sub (lv' := [(0, .int x0)]) [0] rfl ?_)
  unfold RM_isSmall at h
  refine E_iload_n (n := 1) 0 rfl rfl rfl 0 rfl <| E_bipush (v := 97) (n := 3) 1 rfl rfl bpz_97 <| E_icmp_lt (n := 6) (t := 16) 2 rfl rfl rfl (fun hc => ?_) (fun hc => ?_)
  · have h := ifp h hc
    refine E_iconst (v := 0) (n := 17) 8 rfl rfl icz_0 <| ?_
    refine E_zreturn 9 rfl rfl z0 (eT h)
  · have h := ifn h hc
    refine E_iload_n (n := 7) 3 rfl rfl rfl 0 rfl <| E_bipush (v := 122) (n := 9) 4 rfl rfl bpz_122 <| E_icmp_gt (n := 12) (t := 16) 5 rfl rfl rfl (fun hc => ?_) (fun hc => ?_)
    · have h := ifp h hc
      refine E_iconst (v := 0) (n := 17) 8 rfl rfl icz_0 <| ?_
      refine E_zreturn 9 rfl rfl z0 (eT h)
    · have h := ifn h hc
      refine E_iconst (v := 1) (n := 13) 6 rfl rfl icz_1 <| E_goto (t := 17) 7 rfl rfl <| ?_
      refine E_zreturn 9 rfl rfl z1 (eT h)
theorem K_RM_isDigit (m : Mem) (x0 : Int32) (R : Int32) (h : RM_isDigit x0 = R) : Mt M_RM_isDigit [.int x0] m (qI R m) := by
  refine Mt.of G_RM_isDigit (Nat.le_of_ble_eq_true rfl) (E_sub (lv' := [(0, .int x0)]) [0] rfl ?_)
  unfold RM_isDigit at h
  refine E_iload_n (n := 1) 0 rfl rfl rfl 0 rfl <| E_bipush (v := 48) (n := 3) 1 rfl rfl bpz_48 <| E_icmp_lt (n := 6) (t := 16) 2 rfl rfl rfl (fun hc => ?_) (fun hc => ?_)
  · have h := ifp h hc
    refine E_iconst (v := 0) (n := 17) 8 rfl rfl icz_0 <| ?_
    refine E_zreturn 9 rfl rfl z0 (eT h)
  · have h := ifn h hc
    refine E_iload_n (n := 7) 3 rfl rfl rfl 0 rfl <| E_bipush (v := 57) (n := 9) 4 rfl rfl bpz_57 <| E_icmp_gt (n := 12) (t := 16) 5 rfl rfl rfl (fun hc => ?_) (fun hc => ?_)
    · have h := ifp h hc
      refine E_iconst (v := 0) (n := 17) 8 rfl rfl icz_0 <| ?_
      refine E_zreturn 9 rfl rfl z0 (eT h)
    · have h := ifn h hc
      refine E_iconst (v := 1) (n := 13) 6 rfl rfl icz_1 <| E_goto (t := 17) 7 rfl rfl <| ?_
      refine E_zreturn 9 rfl rfl z1 (eT h)
theorem RM_next_J18_ok (kr : Mem → Option Mem) (kx : Mem → Option Mem) (m : Mem) (R : Mem) (hr : ∀ (m : Mem), kr m = some R → E M_RM_next 0 [(0, .ref 133)] [] m (qV R)) (hx : ∀ (m : Mem), kx m = some R → E M_RM_next 31 [(0, .ref 133)] [] m (qV R)) (h : RM_next_J18 kr kx m = some R) : E M_RM_next 18 [(0, .ref 133)] [] m (qV R) := by
  unfold RM_next_J18 at h
  obtain ⟨m1, hm1, h⟩ := letM_ex h
  refine E_aload_n (n := 19) 8 rfl rfl rfl 0 rfl <| E_dup (n := 20) 9 rfl rfl rfl <| E_gI (n := 23) 10 rfl rfl fg_12_21 sh_133 <| E_iconst (v := 1) (n := 24) 11 rfl rfl icz_1 <| E_iadd (n := 25) 12 rfl rfl <| E_pI (n := 28) 13 rfl rfl fp_12_21 sh_133 <| E_mem hm1 <| E_goto (t := 0) 14 rfl rfl <| ?_
  exact hr m1 h
theorem RM_next_L0_ok (kx : Mem → Option Mem) (R : Mem) (hx : ∀ (m : Mem), kx m = some R → E M_RM_next 31 [(0, .ref 133)] [] m (qV R)) : ∀ (n : Nat) (m : Mem), RM_next_L0 kx n m = some R → E M_RM_next 0 [(0, .ref 133)] [] m (qV R) := by
  intro n
  induction n with
  | zero =>
    intro m h
    exact absurd (show none = some R from h) (fun e => Option.some_ne_none R e.symm)
  | succ n ih =>
    intro m h
    rw [RM_next_L0] at h
    obtain ⟨v1, hq2, h⟩ := bI_ex h
    refine E_aload_n (n := 1) 0 rfl rfl rfl 0 rfl <| E_cV0r (n := 4) 1 rfl rfl co_12_161 rfl sh_133 rfl (K_RM_peek m _ hq2) <| E_bipush (v := 32) (n := 6) 2 rfl rfl bpz_32 <| E_icmp_eq (n := 9) (t := 18) 3 rfl rfl rfl (fun hc => ?_) (fun hc => ?_)
    · have h := ifp h hc
      exact RM_next_J18_ok _ _ m _ ih hx h
    · have h := ifn h hc
      obtain ⟨v3, hq4, h⟩ := bI_ex h
      refine E_aload_n (n := 10) 4 rfl rfl rfl 0 rfl <| E_cV0r (n := 13) 5 rfl rfl co_12_161 rfl sh_133 rfl (K_RM_peek m _ hq4) <| E_bipush (v := 10) (n := 15) 6 rfl rfl bpz_10 <| E_icmp_ne (n := 18) (t := 31) 7 rfl rfl rfl (fun hc => ?_) (fun hc => ?_)
      · have h := ifn h hc
        exact hx m h
      · have h := ifp h hc
        exact RM_next_J18_ok _ _ m _ ih hx h
theorem RM_next_J251_ok (kr : Mem → Int32 → Option Mem) (kx : Mem → Int32 → Option Mem) (m : Mem) (x2 : Int32) (x3 : Int32) (R : Mem) (hr : ∀ (m : Mem) (x3 : Int32), kr m x3 = some R → E M_RM_next 157 [(0, .ref 133), (2, .int x2), (3, .int x3)] [] m (qV R)) (hx : ∀ (m : Mem) (x3 : Int32), kx m x3 = some R → E M_RM_next 274 [(0, .ref 133), (2, .int x2), (3, .int x3)] [] m (qV R)) (h : RM_next_J251 kr kx m x2 x3 = some R) : E M_RM_next 251 [(0, .ref 133), (2, .int x2), (3, .int x3)] [] m (qV R) := by
  unfold RM_next_J251 at h
  obtain ⟨m1, hm1, h⟩ := letM_ex h
  obtain ⟨m2, hm2, h⟩ := letM_ex h
  refine E_aload_n (n := 252) 132 rfl rfl rfl 0 rfl <| E_dup (n := 253) 133 rfl rfl rfl <| E_gI (n := 256) 134 rfl rfl fg_12_168 sh_133 <| E_iconst (v := 1) (n := 257) 135 rfl rfl icz_1 <| E_iadd (n := 258) 136 rfl rfl <| E_pI (n := 261) 137 rfl rfl fp_12_168 sh_133 <| E_mem hm1 <| E_aload_n (n := 262) 138 rfl rfl rfl 0 rfl <| E_dup (n := 263) 139 rfl rfl rfl <| E_gI (n := 266) 140 rfl rfl fg_12_21 sh_133 <| E_iconst (v := 1) (n := 267) 141 rfl rfl icz_1 <| E_iadd (n := 268) 142 rfl rfl <| E_pI (n := 271) 143 rfl rfl fp_12_21 sh_133 <| E_mem hm2 <| E_goto (t := 157) 144 rfl rfl <| ?_
  exact hr m2 x3 h
theorem RM_next_J224_ok (kr : Mem → Int32 → Option Mem) (kx : Mem → Int32 → Option Mem) (m : Mem) (x2 : Int32) (x3 : Int32) (R : Mem) (hr : ∀ (m : Mem) (x3 : Int32), kr m x3 = some R → E M_RM_next 157 [(0, .ref 133), (2, .int x2), (3, .int x3)] [] m (qV R)) (hx : ∀ (m : Mem) (x3 : Int32), kx m x3 = some R → E M_RM_next 274 [(0, .ref 133), (2, .int x2), (3, .int x3)] [] m (qV R)) (h : RM_next_J224 kr kx m x2 x3 = some R) : E M_RM_next 224 [(0, .ref 133), (2, .int x2), (3, .int x3)] [] m (qV R) := by
  unfold RM_next_J224 at h
  refine E_aload_n (n := 225) 117 rfl rfl rfl 0 rfl <| E_gI (n := 228) 118 rfl rfl fg_12_168 sh_133 <| E_iconst (v := 2) (n := 229) 119 rfl rfl icz_2 <| E_icmp_ge (n := 232) (t := 251) 120 rfl rfl rfl (fun hc => ?_) (fun hc => ?_)
  · have h := ifp h hc
    exact RM_next_J251_ok _ _ m x2 x3 _ hr hx h
  · have h := ifn h hc
    obtain ⟨v1, hq2, h⟩ := bI_ex h
    obtain ⟨m3, hm3, h⟩ := letM_ex h
    refine E_aload_n (n := 233) 121 rfl rfl rfl 0 rfl <| E_bipush (v := 10) (n := 235) 122 rfl rfl bpz_10 <| E_aload_n (n := 236) 123 rfl rfl rfl 0 rfl <| E_gI (n := 239) 124 rfl rfl fg_12_181 sh_133 <| E_imul (n := 240) 125 rfl rfl <| E_aload_n (n := 241) 126 rfl rfl rfl 0 rfl <| E_cV0r (n := 244) 127 rfl rfl co_12_161 rfl sh_133 rfl (K_RM_peek m _ hq2) <| E_iadd (n := 245) 128 rfl rfl <| E_bipush (v := 48) (n := 247) 129 rfl rfl bpz_48 <| E_isub (n := 248) 130 rfl rfl <| E_pI (n := 251) 131 rfl rfl fp_12_181 sh_133 <| E_mem hm3 <| ?_
    exact RM_next_J251_ok _ _ m3 x2 x3 _ hr hx h
theorem RM_next_J197_ok (kr : Mem → Int32 → Option Mem) (kx : Mem → Int32 → Option Mem) (m : Mem) (x2 : Int32) (s0 : Int32) (R : Mem) (hr : ∀ (m : Mem) (x3 : Int32), kr m x3 = some R → E M_RM_next 157 [(0, .ref 133), (2, .int x2), (3, .int x3)] [] m (qV R)) (hx : ∀ (m : Mem) (x3 : Int32), kx m x3 = some R → E M_RM_next 274 [(0, .ref 133), (2, .int x2), (3, .int x3)] [] m (qV R)) (h : RM_next_J197 kr kx m x2 s0 = some R) : E M_RM_next 197 [(0, .ref 133), (2, .int x2)] [.int s0] m (qV R) := by
  unfold RM_next_J197 at h
  refine E_istore_n (lv' := [(0, .ref 133), (2, .int x2), (3, .int s0)]) (n := 198) 102 rfl rfl rfl (Nat.le_of_ble_eq_true rfl) [1, 2, 0] rfl <| E_aload_n (n := 199) 103 rfl rfl rfl 0 rfl <| E_gI (n := 202) 104 rfl rfl fg_12_168 sh_133 <| E_bipush (v := 7) (n := 204) 105 rfl rfl bpz_7 <| E_icmp_ge (n := 207) (t := 224) 106 rfl rfl rfl (fun hc => ?_) (fun hc => ?_)
  · have h := ifp h hc
    exact RM_next_J224_ok _ _ m x2 s0 _ hr hx h
  · have h := ifn h hc
    obtain ⟨v1, hq2, h⟩ := bI_ex h
    obtain ⟨m3, hm3, h⟩ := letM_ex h
    refine E_aload_n (n := 208) 107 rfl rfl rfl 0 rfl <| E_aload_n (n := 209) 108 rfl rfl rfl 0 rfl <| E_gJ (n := 212) 109 rfl rfl fg_12_184 sh_133 <| E_bipush (v := 8) (n := 214) 110 rfl rfl bpz_8 <| E_jlshl (n := 215) 111 rfl rfl <| E_aload_n (n := 216) 112 rfl rfl rfl 0 rfl <| E_cV0r (n := 219) 113 rfl rfl co_12_161 rfl sh_133 rfl (K_RM_peek m _ hq2) <| E_i2l (n := 220) 114 rfl rfl <| E_lor (n := 221) 115 rfl rfl <| E_pJ (n := 224) 116 rfl rfl fp_12_184 sh_133 <| E_mem hm3 <| ?_
    exact RM_next_J224_ok _ _ m3 x2 s0 _ hr hx h
theorem RM_next_J177_ok (kr : Mem → Int32 → Option Mem) (kx : Mem → Int32 → Option Mem) (m : Mem) (x2 : Int32) (x3 : Int32) (R : Mem) (hr : ∀ (m : Mem) (x3 : Int32), kr m x3 = some R → E M_RM_next 157 [(0, .ref 133), (2, .int x2), (3, .int x3)] [] m (qV R)) (hx : ∀ (m : Mem) (x3 : Int32), kx m x3 = some R → E M_RM_next 274 [(0, .ref 133), (2, .int x2), (3, .int x3)] [] m (qV R)) (h : RM_next_J177 kr kx m x2 x3 = some R) : E M_RM_next 177 [(0, .ref 133), (2, .int x2), (3, .int x3)] [] m (qV R) := by
  unfold RM_next_J177 at h
  refine E_iload_n (n := 178) 92 rfl rfl rfl 2 rfl <| E_if_eq (n := 181) (t := 196) 93 rfl rfl rfl (fun hc => ?_) (fun hc => ?_)
  · have h := ifp h hc
    refine E_iconst (v := 0) (n := 197) 101 rfl rfl icz_0 <| ?_
    refine E_sub (lv' := [(0, .ref 133), (2, .int x2)]) [0, 1] rfl ?_
    exact RM_next_J197_ok _ _ m x2 0 _ hr hx h
  · have h := ifn h hc
    obtain ⟨v1, hq2, h⟩ := bI_ex h
    refine E_aload_n (n := 182) 94 rfl rfl rfl 0 rfl <| E_cV0r (n := 185) 95 rfl rfl co_12_161 rfl sh_133 rfl (K_RM_peek m _ hq2) <| E_dS1r (n := 188) 96 rfl rfl co_12_174 rfl rfl (K_RM_isSmall m v1 _ rfl) <| E_iload_n (n := 189) 97 rfl rfl rfl 1 rfl <| E_icmp_ne (n := 192) (t := 196) 98 rfl rfl rfl (fun hc => ?_) (fun hc => ?_)
    · have h := ifn h hc
      refine E_iconst (v := 0) (n := 197) 101 rfl rfl icz_0 <| ?_
      refine E_sub (lv' := [(0, .ref 133), (2, .int x2)]) [0, 1] rfl ?_
      exact RM_next_J197_ok _ _ m x2 0 _ hr hx h
    · have h := ifp h hc
      refine E_iconst (v := 1) (n := 193) 99 rfl rfl icz_1 <| E_goto (t := 197) 100 rfl rfl <| ?_
      refine E_sub (lv' := [(0, .ref 133), (2, .int x2)]) [0, 1] rfl ?_
      exact RM_next_J197_ok _ _ m x2 1 _ hr hx h
theorem RM_next_L157_ok (x2 : Int32) (kx : Mem → Int32 → Option Mem) (R : Mem) (hx : ∀ (m : Mem) (x3 : Int32), kx m x3 = some R → E M_RM_next 274 [(0, .ref 133), (2, .int x2), (3, .int x3)] [] m (qV R)) : ∀ (n : Nat) (m : Mem) (x3 : Int32), RM_next_L157 x2 kx n m x3 = some R → E M_RM_next 157 [(0, .ref 133), (2, .int x2), (3, .int x3)] [] m (qV R) := by
  intro n
  induction n with
  | zero =>
    intro m x3 h
    exact absurd (show none = some R from h) (fun e => Option.some_ne_none R e.symm)
  | succ n ih =>
    intro m x3 h
    rw [RM_next_L157] at h
    obtain ⟨v1, hq2, h⟩ := bI_ex h
    refine E_aload_n (n := 158) 84 rfl rfl rfl 0 rfl <| E_cV0r (n := 161) 85 rfl rfl co_12_161 rfl sh_133 rfl (K_RM_peek m _ hq2) <| E_dS1r (n := 164) 86 rfl rfl co_12_174 rfl rfl (K_RM_isSmall m v1 _ rfl) <| E_if_ne (n := 167) (t := 177) 87 rfl rfl rfl (fun hc => ?_) (fun hc => ?_)
    · have h := ifn h hc
      exact RM_next_J177_ok _ _ m x2 x3 _ ih hx h
    · have h := ifp h hc
      obtain ⟨v3, hq4, h⟩ := bI_ex h
      refine E_aload_n (n := 168) 88 rfl rfl rfl 0 rfl <| E_cV0r (n := 171) 89 rfl rfl co_12_161 rfl sh_133 rfl (K_RM_peek m _ hq4) <| E_dS1r (n := 174) 90 rfl rfl co_12_178 rfl rfl (K_RM_isDigit m v3 _ rfl) <| E_if_eq (n := 177) (t := 274) 91 rfl rfl rfl (fun hc => ?_) (fun hc => ?_)
      · have h := ifp h hc
        exact hx m x3 h
      · have h := ifn h hc
        exact RM_next_J177_ok _ _ m x2 x3 _ ih hx h

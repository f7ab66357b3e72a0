theorem RM_rectangle_L32_ok (x2 : Int32) (kx : Mem → Int32 → Option (Int32 × Mem)) (R : Int32 × Mem) (hx : ∀ (m : Mem) (x1 : Int32), kx m x1 = some R → E M_RM_rectangle 155 [(0, .ref 133), (1, .int x1), (2, .int x2)] [] m (qI R.1 R.2)) : ∀ (n : Nat) (m : Mem) (x1 : Int32) (x3 : Int32), RM_rectangle_L32 x2 kx n m x1 x3 = some R → E M_RM_rectangle 32 [(0, .ref 133), (1, .int x1), (2, .int x2), (3, .int x3)] [] m (qI R.1 R.2) := by
  intro n
  induction n with
  | zero =>
    intro m x1 x3 h
    exact absurd (show none = some R from h) (fun e => Option.some_ne_none R e.symm)
  | succ n ih =>
    intro m x1 x3 h
    rw [RM_rectangle_L32] at h
    refine E_iload_n (n := 33) 20 rfl rfl rfl 3 rfl <| E_bipush (v := 20) (n := 35) 21 rfl rfl bpz_20 <| E_icmp_ge (n := 38) (t := 155) 22 rfl rfl rfl (fun hc => ?_) (fun hc => ?_)
    · have h := ifp h hc
      refine E_sub (lv' := [(0, .ref 133), (1, .int x1), (2, .int x2)]) [0, 1, 2] rfl ?_
      exact hx m x1 h
    · have h := ifn h hc
      obtain ⟨v1, hv1, h⟩ := letV_ex h
      refine E_iload_n (n := 39) 23 rfl rfl rfl 2 rfl <| E_iconst (v := 1) (n := 40) 24 rfl rfl icz_1 <| E_iadd (n := 41) 25 rfl rfl <| E_top hv1 <| E_istore (lv' := [(0, .ref 133), (1, .int x1), (2, .int x2), (3, .int x3), (4, .int v1)]) (n := 43) 26 rfl rfl (Nat.le_of_ble_eq_true rfl) [1, 2, 3, 4, 0] rfl <| ?_
      refine RM_rectangle_L43_ok x2 x3 _ R ?_ FU m x1 v1 h
      intro m3 y2 h
      refine E_iinc (v := (x3 + 1)) (lv' := [(0, .ref 133), (1, .int y2), (2, .int x2), (3, .int (x3 + 1))]) (n := 152) 87 rfl rfl 3 rfl (by rw [icz_1]) (Nat.le_of_ble_eq_true rfl) [1, 2, 3, 0] rfl <| E_goto (t := 32) 88 rfl rfl <| ?_
      exact ih m3 y2 (x3 + 1) h
theorem RM_rectangle_L24_ok (kx : Mem → Int32 → Option (Int32 × Mem)) (R : Int32 × Mem) (hx : ∀ (m : Mem) (x1 : Int32), kx m x1 = some R → E M_RM_rectangle 161 [(1, .int x1)] [] m (qI R.1 R.2)) : ∀ (n : Nat) (m : Mem) (x1 : Int32) (x2 : Int32), RM_rectangle_L24 kx n m x1 x2 = some R → E M_RM_rectangle 24 [(0, .ref 133), (1, .int x1), (2, .int x2)] [] m (qI R.1 R.2) := by
  intro n
  induction n with
  | zero =>
    intro m x1 x2 h
    exact absurd (show none = some R from h) (fun e => Option.some_ne_none R e.symm)
  | succ n ih =>
    intro m x1 x2 h
    rw [RM_rectangle_L24] at h
    refine E_iload_n (n := 25) 15 rfl rfl rfl 2 rfl <| E_bipush (v := 20) (n := 27) 16 rfl rfl bpz_20 <| E_icmp_ge (n := 30) (t := 161) 17 rfl rfl rfl (fun hc => ?_) (fun hc => ?_)
    · have h := ifp h hc
      refine E_sub (lv' := [(1, .int x1)]) [1] rfl ?_
      exact hx m x1 h
    · have h := ifn h hc
      refine E_iconst (v := 0) (n := 31) 18 rfl rfl icz_0 <| E_istore_n (lv' := [(0, .ref 133), (1, .int x1), (2, .int x2), (3, .int 0)]) (n := 32) 19 rfl rfl rfl (Nat.le_of_ble_eq_true rfl) [1, 2, 3, 0] rfl <| ?_
      refine RM_rectangle_L32_ok x2 _ R ?_ FU m x1 0 h
      intro m2 y1 h
      refine E_iinc (v := (x2 + 1)) (lv' := [(0, .ref 133), (1, .int y1), (2, .int (x2 + 1))]) (n := 158) 89 rfl rfl 2 rfl (by rw [icz_1]) (Nat.le_of_ble_eq_true rfl) [1, 2, 0] rfl <| E_goto (t := 24) 90 rfl rfl <| ?_
      exact ih m2 y1 (x2 + 1) h
theorem K_RM_rectangle (m : Mem) (R : Int32 × Mem) (h : RM_rectangle m = some R) : Mt M_RM_rectangle [.ref 133] m (qI R.1 R.2) := by
  refine Mt.of G_RM_rectangle (Nat.le_of_ble_eq_true rfl) (E_sub (lv' := [(0, .ref 133)]) [0] rfl ?_)
  unfold RM_rectangle at h
  obtain ⟨m1, hm1, h⟩ := letM_ex h
  obtain ⟨v2, m3, hq4, h⟩ := bV_ex h
  refine E_aload_n (n := 1) 0 rfl rfl rfl 0 rfl <| E_iconst (v := 0) (n := 2) 1 rfl rfl icz_0 <| E_pI (n := 5) 2 rfl rfl fp_12_1 sh_133 <| E_mem hm1 <| E_aload_n (n := 6) 3 rfl rfl rfl 0 rfl <| E_cV0r (n := 9) 4 rfl rfl co_12_395 rfl sh_133 rfl (K_RM_isTold m1 _ hq4) <| E_if_ne (n := 12) (t := 15) 5 rfl rfl rfl (fun hc => ?_) (fun hc => ?_)
  · have h := ifn h hc
    obtain ⟨m5, hm5, h⟩ := letM_ex h
    refine E_iconst (v := (-1)) (n := 16) 8 rfl rfl icz_m1 <| E_istore_n (lv' := [(0, .ref 133), (1, .int (-1))]) (n := 17) 9 rfl rfl rfl (Nat.le_of_ble_eq_true rfl) [1, 0] rfl <| E_aload_n (n := 18) 10 rfl rfl rfl 0 rfl <| E_iconst (v := 4) (n := 19) 11 rfl rfl icz_4 <| E_pI (n := 22) 12 rfl rfl fp_12_259 sh_133 <| E_mem hm5 <| E_iconst (v := 0) (n := 23) 13 rfl rfl icz_0 <| E_istore_n (lv' := [(0, .ref 133), (1, .int (-1)), (2, .int 0)]) (n := 24) 14 rfl rfl rfl (Nat.le_of_ble_eq_true rfl) [1, 2, 0] rfl <| ?_
    refine RM_rectangle_L24_ok _ R ?_ FU m5 (-1) 0 h
    intro m7 y6 h
    refine E_iload_n (n := 162) 91 rfl rfl rfl 0 rfl <| E_ireturn 92 rfl rfl (eS h)
  · have h := ifp h hc
    refine E_bipush (v := (-2)) (n := 14) 6 rfl rfl bpz_m2 <| E_ireturn 7 rfl rfl (eS h)
theorem K_RM_side (m : Mem) (x1 : Int32) (R : Int32 × Mem) (h : RM_side m x1 = some R) : Mt M_RM_side [.ref 133, .int x1] m (qI R.1 R.2) := by
  refine Mt.of G_RM_side (Nat.le_of_ble_eq_true rfl) (E_sub (lv' := [(0, .ref 133), (1, .int x1)]) [0, 1] rfl ?_)
  unfold RM_side at h
  obtain ⟨m1, hm1, h⟩ := letM_ex h
  refine E_aload_n (n := 1) 0 rfl rfl rfl 0 rfl <| E_iconst (v := 0) (n := 2) 1 rfl rfl icz_0 <| E_pI (n := 5) 2 rfl rfl fp_12_1 sh_133 <| E_mem hm1 <| E_aload_n (n := 6) 3 rfl rfl rfl 0 rfl <| E_gI (n := 9) 4 rfl rfl fg_12_413 sh_133 <| E_if_eq (n := 12) (t := 30) 5 rfl rfl rfl (fun hc => ?_) (fun hc => ?_)
  · have h := ifp h hc
    refine E_iconst (v := (-1)) (n := 31) 16 rfl rfl icz_m1 <| ?_
    refine E_ireturn 17 rfl rfl (eS h)
  · have h := ifn h hc
    refine E_iload_n (n := 13) 6 rfl rfl rfl 1 rfl <| E_iconst (v := 0) (n := 14) 7 rfl rfl icz_0 <| E_iconst (v := 3) (n := 15) 8 rfl rfl icz_3 <| E_dS3r (n := 18) 9 rfl rfl co_12_203 rfl rfl (K_RM_isIn m1 x1 0 3 _ rfl) <| E_if_eq (n := 21) (t := 30) 10 rfl rfl rfl (fun hc => ?_) (fun hc => ?_)
    · have h := ifp h hc
      refine E_iconst (v := (-1)) (n := 31) 16 rfl rfl icz_m1 <| ?_
      refine E_ireturn 17 rfl rfl (eS h)
    · have h := ifn h hc
      obtain ⟨hc2, h⟩ := ift h
      refine E_aload_n (n := 22) 11 rfl rfl rfl 0 rfl <| E_gF (r := 154) (n := 25) 12 rfl rfl fg_12_100 sh_133 rfl <| E_iload_n (n := 26) 13 rfl rfl rfl 1 rfl <| E_iald (n := 27) 14 rfl rfl sh_154 hc2 <| E_goto (t := 31) 15 rfl rfl <| ?_
      refine E_ireturn 17 rfl rfl (eS h)
theorem RM_mends_J73_ok (kr : Mem → Int32 → Option (Int32 × Mem)) (kx : Mem → Option (Int32 × Mem)) (m : Mem) (x1 : Int32) (x2 : Int32) (x3 : Int32) (x4 : Int32) (x5 : Int32) (x6 : Int32) (x7 : Int32) (s0 : Int32) (R : Int32 × Mem) (hr : ∀ (m : Mem) (x6 : Int32), kr m x6 = some R → E M_RM_mends 15 [(0, .ref 133), (1, .int x1), (2, .int x2), (3, .int x3), (4, .int x4), (5, .int x5), (6, .int x6)] [] m (qI R.1 R.2)) (hx : ∀ (m : Mem), kx m = some R → E M_RM_mends 124 [(0, .ref 133), (1, .int x1), (5, .int x5)] [] m (qI R.1 R.2)) (h : RM_mends_J73 kr kx m x1 x2 x3 x4 x5 x6 x7 s0 = some R) : E M_RM_mends 73 [(0, .ref 133), (1, .int x1), (2, .int x2), (3, .int x3), (4, .int x4), (5, .int x5), (6, .int x6), (7, .int x7)] [.int s0] m (qI R.1 R.2) := by
  unfold RM_mends_J73 at h
  refine E_istore (lv' := [(0, .ref 133), (1, .int x1), (2, .int x2), (3, .int x3), (4, .int x4), (5, .int x5), (6, .int x6), (7, .int x7), (8, .int s0)]) (n := 75) 39 rfl rfl (Nat.le_of_ble_eq_true rfl) [1, 2, 3, 4, 5, 6, 7, 8, 0] rfl <| E_aload_n (n := 76) 40 rfl rfl rfl 0 rfl <| E_gF (r := 156) (n := 79) 41 rfl rfl fg_12_106 sh_133 rfl <| E_iload (n := 81) 42 rfl rfl 6 rfl <| E_iload (n := 83) 43 rfl rfl 7 rfl <| E_if_eq (n := 86) (t := 98) 44 rfl rfl rfl (fun hc => ?_) (fun hc => ?_)
  · have h := ifp h hc
    refine E_iload (n := 100) 52 rfl rfl 8 rfl <| E_if_eq (n := 103) (t := 116) 53 rfl rfl rfl (fun hc => ?_) (fun hc => ?_)
    · have h := ifp h hc
      refine E_iconst (v := 0) (n := 117) 61 rfl rfl icz_0 <| ?_
      obtain ⟨hc1, h⟩ := ift h
      obtain ⟨m2, hm2, h⟩ := letM_ex h
      refine E_iast (n := 118) 62 rfl rfl sh_156 hc1 <| E_mem hm2 <| E_iinc (v := (x6 + 1)) (lv' := [(0, .ref 133), (1, .int x1), (2, .int x2), (3, .int x3), (4, .int x4), (5, .int x5), (6, .int (x6 + 1)), (7, .int x7), (8, .int s0)]) (n := 121) 63 rfl rfl 6 rfl (by rw [icz_1]) (Nat.le_of_ble_eq_true rfl) [1, 2, 3, 4, 5, 6, 0, 7, 8] rfl <| E_goto (t := 15) 64 rfl rfl <| ?_
      refine E_sub (lv' := [(0, .ref 133), (1, .int x1), (2, .int x2), (3, .int x3), (4, .int x4), (5, .int x5), (6, .int (x6 + 1))]) [0, 1, 2, 3, 4, 5, 6] rfl ?_
      exact hr m2 (x6 + 1) h
    · have h := ifn h hc
      obtain ⟨hc3, h⟩ := ift h
      refine E_bipush (v := 99) (n := 105) 54 rfl rfl bpz_99 <| E_aload_n (n := 106) 55 rfl rfl rfl 0 rfl <| E_gF (r := 158) (n := 109) 56 rfl rfl fg_12_112 sh_133 rfl <| E_iload (n := 111) 57 rfl rfl 6 rfl <| E_iald (n := 112) 58 rfl rfl sh_158 hc3 <| E_isub (n := 113) 59 rfl rfl <| E_goto (t := 117) 60 rfl rfl <| ?_
      obtain ⟨m4, hm4, h⟩ := letM_ex h
      refine E_iast (n := 118) 62 rfl rfl sh_156 hc3 <| E_mem hm4 <| E_iinc (v := (x6 + 1)) (lv' := [(0, .ref 133), (1, .int x1), (2, .int x2), (3, .int x3), (4, .int x4), (5, .int x5), (6, .int (x6 + 1)), (7, .int x7), (8, .int s0)]) (n := 121) 63 rfl rfl 6 rfl (by rw [icz_1]) (Nat.le_of_ble_eq_true rfl) [1, 2, 3, 4, 5, 6, 0, 7, 8] rfl <| E_goto (t := 15) 64 rfl rfl <| ?_
      refine E_sub (lv' := [(0, .ref 133), (1, .int x1), (2, .int x2), (3, .int x3), (4, .int x4), (5, .int x5), (6, .int (x6 + 1))]) [0, 1, 2, 3, 4, 5, 6] rfl ?_
      exact hr m4 (x6 + 1) h
  · have h := ifn h hc
    obtain ⟨hc5, h⟩ := ift h
    refine E_aload_n (n := 87) 45 rfl rfl rfl 0 rfl <| E_gF (r := 158) (n := 90) 46 rfl rfl fg_12_112 sh_133 rfl <| E_iload (n := 92) 47 rfl rfl 6 rfl <| E_iald (n := 93) 48 rfl rfl sh_158 hc5 <| E_iconst (v := 1) (n := 94) 49 rfl rfl icz_1 <| E_isub (n := 95) 50 rfl rfl <| E_goto (t := 117) 51 rfl rfl <| ?_
    obtain ⟨m6, hm6, h⟩ := letM_ex h
    refine E_iast (n := 118) 62 rfl rfl sh_156 hc5 <| E_mem hm6 <| E_iinc (v := (x6 + 1)) (lv' := [(0, .ref 133), (1, .int x1), (2, .int x2), (3, .int x3), (4, .int x4), (5, .int x5), (6, .int (x6 + 1)), (7, .int x7), (8, .int s0)]) (n := 121) 63 rfl rfl 6 rfl (by rw [icz_1]) (Nat.le_of_ble_eq_true rfl) [1, 2, 3, 4, 5, 6, 0, 7, 8] rfl <| E_goto (t := 15) 64 rfl rfl <| ?_
    refine E_sub (lv' := [(0, .ref 133), (1, .int x1), (2, .int x2), (3, .int x3), (4, .int x4), (5, .int x5), (6, .int (x6 + 1))]) [0, 1, 2, 3, 4, 5, 6] rfl ?_
    exact hr m6 (x6 + 1) h
theorem RM_mends_J65_ok (kr : Mem → Int32 → Option (Int32 × Mem)) (kx : Mem → Option (Int32 × Mem)) (m : Mem) (x1 : Int32) (x2 : Int32) (x3 : Int32) (x4 : Int32) (x5 : Int32) (x6 : Int32) (x7 : Int32) (s0 : Int32) (s1 : Int32) (R : Int32 × Mem) (hr : ∀ (m : Mem) (x6 : Int32), kr m x6 = some R → E M_RM_mends 15 [(0, .ref 133), (1, .int x1), (2, .int x2), (3, .int x3), (4, .int x4), (5, .int x5), (6, .int x6)] [] m (qI R.1 R.2)) (hx : ∀ (m : Mem), kx m = some R → E M_RM_mends 124 [(0, .ref 133), (1, .int x1), (5, .int x5)] [] m (qI R.1 R.2)) (h : RM_mends_J65 kr kx m x1 x2 x3 x4 x5 x6 x7 s0 s1 = some R) : E M_RM_mends 65 [(0, .ref 133), (1, .int x1), (2, .int x2), (3, .int x3), (4, .int x4), (5, .int x5), (6, .int x6), (7, .int x7)] [.int s1, .int s0] m (qI R.1 R.2) := by
  unfold RM_mends_J65 at h
  refine E_icmp_ne (n := 68) (t := 72) 35 rfl rfl rfl (fun hc => ?_) (fun hc => ?_)
  · have h := ifn h hc
    refine E_iconst (v := 0) (n := 73) 38 rfl rfl icz_0 <| ?_
    exact RM_mends_J73_ok _ _ m x1 x2 x3 x4 x5 x6 x7 0 _ hr hx h
  · have h := ifp h hc
    refine E_iconst (v := 1) (n := 69) 36 rfl rfl icz_1 <| E_goto (t := 73) 37 rfl rfl <| ?_
    exact RM_mends_J73_ok _ _ m x1 x2 x3 x4 x5 x6 x7 1 _ hr hx h
theorem RM_mends_J46_ok (kr : Mem → Int32 → Option (Int32 × Mem)) (kx : Mem → Option (Int32 × Mem)) (m : Mem) (x1 : Int32) (x2 : Int32) (x3 : Int32) (x4 : Int32) (x5 : Int32) (x6 : Int32) (s0 : Int32) (R : Int32 × Mem) (hr : ∀ (m : Mem) (x6 : Int32), kr m x6 = some R → E M_RM_mends 15 [(0, .ref 133), (1, .int x1), (2, .int x2), (3, .int x3), (4, .int x4), (5, .int x5), (6, .int x6)] [] m (qI R.1 R.2)) (hx : ∀ (m : Mem), kx m = some R → E M_RM_mends 124 [(0, .ref 133), (1, .int x1), (5, .int x5)] [] m (qI R.1 R.2)) (h : RM_mends_J46 kr kx m x1 x2 x3 x4 x5 x6 s0 = some R) : E M_RM_mends 46 [(0, .ref 133), (1, .int x1), (2, .int x2), (3, .int x3), (4, .int x4), (5, .int x5), (6, .int x6)] [.int s0] m (qI R.1 R.2) := by
  unfold RM_mends_J46 at h
  obtain ⟨hc1, h⟩ := ift h
  refine E_istore (lv' := [(0, .ref 133), (1, .int x1), (2, .int x2), (3, .int x3), (4, .int x4), (5, .int x5), (6, .int x6), (7, .int s0)]) (n := 48) 25 rfl rfl (Nat.le_of_ble_eq_true rfl) [1, 2, 3, 4, 5, 6, 7, 0] rfl <| E_aload_n (n := 49) 26 rfl rfl rfl 0 rfl <| E_gF (r := 157) (n := 52) 27 rfl rfl fg_12_109 sh_133 rfl <| E_iload (n := 54) 28 rfl rfl 6 rfl <| E_iald (n := 55) 29 rfl rfl sh_157 hc1 <| E_iload_n (n := 56) 30 rfl rfl rfl 2 rfl <| E_if_le (n := 59) (t := 64) 31 rfl rfl rfl (fun hc => ?_) (fun hc => ?_)
  · have h := ifp h hc
    refine E_iload_n (n := 65) 34 rfl rfl rfl 3 rfl <| ?_
    exact RM_mends_J65_ok _ _ m x1 x2 x3 x4 x5 x6 s0 (gI m 157 (ixn x6)) x3 _ hr hx h
  · have h := ifn h hc
    refine E_iload (n := 61) 32 rfl rfl 4 rfl <| E_goto (t := 65) 33 rfl rfl <| ?_
    exact RM_mends_J65_ok _ _ m x1 x2 x3 x4 x5 x6 s0 (gI m 157 (ixn x6)) x4 _ hr hx h
theorem RM_mends_J38_ok (kr : Mem → Int32 → Option (Int32 × Mem)) (kx : Mem → Option (Int32 × Mem)) (m : Mem) (x1 : Int32) (x2 : Int32) (x3 : Int32) (x4 : Int32) (x5 : Int32) (x6 : Int32) (s0 : Int32) (s1 : Int32) (R : Int32 × Mem) (hr : ∀ (m : Mem) (x6 : Int32), kr m x6 = some R → E M_RM_mends 15 [(0, .ref 133), (1, .int x1), (2, .int x2), (3, .int x3), (4, .int x4), (5, .int x5), (6, .int x6)] [] m (qI R.1 R.2)) (hx : ∀ (m : Mem), kx m = some R → E M_RM_mends 124 [(0, .ref 133), (1, .int x1), (5, .int x5)] [] m (qI R.1 R.2)) (h : RM_mends_J38 kr kx m x1 x2 x3 x4 x5 x6 s0 s1 = some R) : E M_RM_mends 38 [(0, .ref 133), (1, .int x1), (2, .int x2), (3, .int x3), (4, .int x4), (5, .int x5), (6, .int x6)] [.int s1, .int s0] m (qI R.1 R.2) := by
  unfold RM_mends_J38 at h
  refine E_icmp_ne (n := 41) (t := 45) 21 rfl rfl rfl (fun hc => ?_) (fun hc => ?_)
  · have h := ifn h hc
    refine E_iconst (v := 0) (n := 46) 24 rfl rfl icz_0 <| ?_
    exact RM_mends_J46_ok _ _ m x1 x2 x3 x4 x5 x6 0 _ hr hx h
  · have h := ifp h hc
    refine E_iconst (v := 1) (n := 42) 22 rfl rfl icz_1 <| E_goto (t := 46) 23 rfl rfl <| ?_
    exact RM_mends_J46_ok _ _ m x1 x2 x3 x4 x5 x6 1 _ hr hx h
theorem RM_mends_L15_ok (x1 : Int32) (x2 : Int32) (x3 : Int32) (x4 : Int32) (x5 : Int32) (kx : Mem → Option (Int32 × Mem)) (R : Int32 × Mem) (hx : ∀ (m : Mem), kx m = some R → E M_RM_mends 124 [(0, .ref 133), (1, .int x1), (5, .int x5)] [] m (qI R.1 R.2)) : ∀ (n : Nat) (m : Mem) (x6 : Int32), RM_mends_L15 x1 x2 x3 x4 x5 kx n m x6 = some R → E M_RM_mends 15 [(0, .ref 133), (1, .int x1), (2, .int x2), (3, .int x3), (4, .int x4), (5, .int x5), (6, .int x6)] [] m (qI R.1 R.2) := by
  intro n
  induction n with
  | zero =>
    intro m x6 h
    exact absurd (show none = some R from h) (fun e => Option.some_ne_none R e.symm)
  | succ n ih =>
    intro m x6 h
    rw [RM_mends_L15] at h
    refine E_iload (n := 17) 9 rfl rfl 6 rfl <| E_iload_n (n := 18) 10 rfl rfl rfl 1 rfl <| E_icmp_ge (n := 21) (t := 124) 11 rfl rfl rfl (fun hc => ?_) (fun hc => ?_)
    · have h := ifp h hc
      refine E_sub (lv' := [(0, .ref 133), (1, .int x1), (5, .int x5)]) [0, 1, 5] rfl ?_
      exact hx m h
    · have h := ifn h hc
      obtain ⟨hc1, h⟩ := ift h
      refine E_aload_n (n := 22) 12 rfl rfl rfl 0 rfl <| E_gF (r := 157) (n := 25) 13 rfl rfl fg_12_109 sh_133 rfl <| E_iload (n := 27) 14 rfl rfl 6 rfl <| E_iald (n := 28) 15 rfl rfl sh_157 hc1 <| E_iload_n (n := 29) 16 rfl rfl rfl 2 rfl <| E_if_le (n := 32) (t := 36) 17 rfl rfl rfl (fun hc => ?_) (fun hc => ?_)
      · have h := ifp h hc
        refine E_iload (n := 38) 20 rfl rfl 4 rfl <| ?_
        exact RM_mends_J38_ok _ _ m x1 x2 x3 x4 x5 x6 (gI m 157 (ixn x6)) x4 _ ih hx h
      · have h := ifn h hc
        refine E_iload_n (n := 33) 18 rfl rfl rfl 3 rfl <| E_goto (t := 38) 19 rfl rfl <| ?_
        exact RM_mends_J38_ok _ _ m x1 x2 x3 x4 x5 x6 (gI m 157 (ixn x6)) x3 _ ih hx h
theorem RM_mends_L138_ok (x1 : Int32) (x5 : Int32) (x6 : Int32) (kx : Mem → Int32 → Option (Int32 × Mem)) (R : Int32 × Mem) (hx : ∀ (m : Mem) (x7 : Int32), kx m x7 = some R → E M_RM_mends 171 [(0, .ref 133), (1, .int x1), (5, .int x5), (6, .int x6), (7, .int x7)] [] m (qI R.1 R.2)) : ∀ (n : Nat) (m : Mem) (x7 : Int32) (x8 : Int32), RM_mends_L138 x1 x5 x6 kx n m x7 x8 = some R → E M_RM_mends 138 [(0, .ref 133), (1, .int x1), (5, .int x5), (6, .int x6), (7, .int x7), (8, .int x8)] [] m (qI R.1 R.2) := by
  intro n
  induction n with
  | zero =>
    intro m x7 x8 h
    exact absurd (show none = some R from h) (fun e => Option.some_ne_none R e.symm)
  | succ n ih =>
    intro m x7 x8 h
    rw [RM_mends_L138] at h
    refine E_iload (n := 140) 73 rfl rfl 5 rfl <| E_iload_n (n := 141) 74 rfl rfl rfl 1 rfl <| E_icmp_ge (n := 144) (t := 171) 75 rfl rfl rfl (fun hc => ?_) (fun hc => ?_)
    · have h := ifp h hc
      refine E_sub (lv' := [(0, .ref 133), (1, .int x1), (5, .int x5), (6, .int x6), (7, .int x7)]) [0, 1, 2, 3, 4] rfl ?_
      exact hx m x7 h
    · have h := ifn h hc
      obtain ⟨hc1, h⟩ := ift h
      obtain ⟨hc2, h⟩ := ift h
      refine E_aload_n (n := 145) 76 rfl rfl rfl 0 rfl <| E_gF (r := 156) (n := 148) 77 rfl rfl fg_12_106 sh_133 rfl <| E_iload (n := 150) 78 rfl rfl 5 rfl <| E_iald (n := 151) 79 rfl rfl sh_156 hc1 <| E_aload_n (n := 152) 80 rfl rfl rfl 0 rfl <| E_gF (r := 156) (n := 155) 81 rfl rfl fg_12_106 sh_133 rfl <| E_iload (n := 157) 82 rfl rfl 4 rfl <| E_iald (n := 158) 83 rfl rfl sh_156 hc2 <| E_icmp_le (n := 161) (t := 165) 84 rfl rfl rfl (fun hc => ?_) (fun hc => ?_)
      · have h := ifp h hc
        refine E_iinc (v := (x8 + 1)) (lv' := [(0, .ref 133), (1, .int x1), (5, .int x5), (6, .int x6), (7, .int x7), (8, .int (x8 + 1))]) (n := 168) 87 rfl rfl 5 rfl (by rw [icz_1]) (Nat.le_of_ble_eq_true rfl) [1, 2, 3, 4, 5, 0] rfl <| E_goto (t := 138) 88 rfl rfl <| ?_
        exact ih m x7 (x8 + 1) h
      · have h := ifn h hc
        refine E_iload (n := 163) 85 rfl rfl 5 rfl <| E_istore (lv' := [(0, .ref 133), (1, .int x1), (5, .int x5), (6, .int x6), (7, .int x8), (8, .int x8)]) (n := 165) 86 rfl rfl (Nat.le_of_ble_eq_true rfl) [1, 2, 3, 4, 0, 5] rfl <| ?_
        refine E_iinc (v := (x8 + 1)) (lv' := [(0, .ref 133), (1, .int x1), (5, .int x5), (6, .int x6), (7, .int x8), (8, .int (x8 + 1))]) (n := 168) 87 rfl rfl 5 rfl (by rw [icz_1]) (Nat.le_of_ble_eq_true rfl) [1, 2, 3, 4, 5, 0] rfl <| E_goto (t := 138) 88 rfl rfl <| ?_
        exact ih m x8 (x8 + 1) h
theorem RM_mends_L127_ok (x1 : Int32) (kx : Mem → Int32 → Option (Int32 × Mem)) (R : Int32 × Mem) (hx : ∀ (m : Mem) (x6 : Int32), kx m x6 = some R → E M_RM_mends 209 [(6, .int x6)] [] m (qI R.1 R.2)) : ∀ (n : Nat) (m : Mem) (x5 : Int32) (x6 : Int32), RM_mends_L127 x1 kx n m x5 x6 = some R → E M_RM_mends 127 [(0, .ref 133), (1, .int x1), (5, .int x5), (6, .int x6)] [] m (qI R.1 R.2) := by
  intro n
  induction n with
  | zero =>
    intro m x5 x6 h
    exact absurd (show none = some R from h) (fun e => Option.some_ne_none R e.symm)
  | succ n ih =>
    intro m x5 x6 h
    rw [RM_mends_L127] at h
    refine E_iload (n := 129) 67 rfl rfl 2 rfl <| E_if_le (n := 132) (t := 209) 68 rfl rfl rfl (fun hc => ?_) (fun hc => ?_)
    · have h := ifp h hc
      refine E_sub (lv' := [(6, .int x6)]) [3] rfl ?_
      exact hx m x6 h
    · have h := ifn h hc
      refine E_iconst (v := 0) (n := 133) 69 rfl rfl icz_0 <| E_istore (lv' := [(0, .ref 133), (1, .int x1), (5, .int x5), (6, .int x6), (7, .int 0)]) (n := 135) 70 rfl rfl (Nat.le_of_ble_eq_true rfl) [1, 2, 3, 4, 0] rfl <| E_iconst (v := 1) (n := 136) 71 rfl rfl icz_1 <| E_istore (lv' := [(0, .ref 133), (1, .int x1), (5, .int x5), (6, .int x6), (7, .int 0), (8, .int 1)]) (n := 138) 72 rfl rfl (Nat.le_of_ble_eq_true rfl) [1, 2, 3, 4, 5, 0] rfl <| ?_
      refine RM_mends_L138_ok x1 x5 x6 _ R ?_ FU m 0 1 h
      intro m2 y1 h
      obtain ⟨hc3, h⟩ := ift h
      refine E_aload_n (n := 172) 89 rfl rfl rfl 0 rfl <| E_gF (r := 156) (n := 175) 90 rfl rfl fg_12_106 sh_133 rfl <| E_iload (n := 177) 91 rfl rfl 4 rfl <| E_iald (n := 178) 92 rfl rfl sh_156 hc3 <| E_if_ne (n := 181) (t := 183) 93 rfl rfl rfl (fun hc => ?_) (fun hc => ?_)
      · have h := ifn h hc
        obtain ⟨v4, hv4, h⟩ := letV_ex h
        obtain ⟨m5, hm5, h⟩ := letM_ex h
        refine E_iload (n := 185) 96 rfl rfl 2 rfl <| E_aload_n (n := 186) 97 rfl rfl rfl 0 rfl <| E_gF (r := 156) (n := 189) 98 rfl rfl fg_12_106 sh_133 rfl <| E_iload (n := 191) 99 rfl rfl 4 rfl <| E_iald (n := 192) 100 rfl rfl sh_156 hc3 <| E_isub (n := 193) 101 rfl rfl <| E_top hv4 <| E_istore (lv' := [(0, .ref 133), (1, .int x1), (5, .int v4), (6, .int x6), (7, .int y1)]) (n := 195) 102 rfl rfl (Nat.le_of_ble_eq_true rfl) [1, 2, 0, 3, 4] rfl <| E_aload_n (n := 196) 103 rfl rfl rfl 0 rfl <| E_gF (r := 156) (n := 199) 104 rfl rfl fg_12_106 sh_133 rfl <| E_iload (n := 201) 105 rfl rfl 4 rfl <| E_iconst (v := 0) (n := 202) 106 rfl rfl icz_0 <| E_iast (n := 203) 107 rfl rfl sh_156 hc3 <| E_mem hm5 <| E_iinc (v := (x6 + 1)) (lv' := [(0, .ref 133), (1, .int x1), (5, .int v4), (6, .int (x6 + 1)), (7, .int y1)]) (n := 206) 108 rfl rfl 3 rfl (by rw [icz_1]) (Nat.le_of_ble_eq_true rfl) [1, 2, 3, 0, 4] rfl <| E_goto (t := 127) 109 rfl rfl <| ?_
        refine E_sub (lv' := [(0, .ref 133), (1, .int x1), (5, .int v4), (6, .int (x6 + 1))]) [0, 1, 2, 3] rfl ?_
        exact ih m5 v4 (x6 + 1) h
      · have h := ifp h hc
        refine E_iconst (v := (-1)) (n := 182) 94 rfl rfl icz_m1 <| E_ireturn 95 rfl rfl (eS h)
theorem RM_mends_J10_ok (m : Mem) (x1 : Int32) (x2 : Int32) (x3 : Int32) (x4 : Int32) (s0 : Int32) (R : Int32 × Mem) (h : RM_mends_J10 m x1 x2 x3 x4 s0 = some R) : E M_RM_mends 10 [(0, .ref 133), (1, .int x1), (2, .int x2), (3, .int x3), (4, .int x4)] [.int s0] m (qI R.1 R.2) := by
  unfold RM_mends_J10 at h
  refine E_istore (lv' := [(0, .ref 133), (1, .int x1), (2, .int x2), (3, .int x3), (4, .int x4), (5, .int s0)]) (n := 12) 6 rfl rfl (Nat.le_of_ble_eq_true rfl) [1, 2, 3, 4, 5, 0] rfl <| E_iconst (v := 0) (n := 13) 7 rfl rfl icz_0 <| E_istore (lv' := [(0, .ref 133), (1, .int x1), (2, .int x2), (3, .int x3), (4, .int x4), (5, .int s0), (6, .int 0)]) (n := 15) 8 rfl rfl (Nat.le_of_ble_eq_true rfl) [1, 2, 3, 4, 5, 6, 0] rfl <| ?_
  refine RM_mends_L15_ok x1 x2 x3 x4 s0 _ R ?_ FU m 0 h
  intro m1 h
  refine E_iconst (v := 0) (n := 125) 65 rfl rfl icz_0 <| E_istore (lv' := [(0, .ref 133), (1, .int x1), (5, .int s0), (6, .int 0)]) (n := 127) 66 rfl rfl (Nat.le_of_ble_eq_true rfl) [1, 2, 3, 0] rfl <| ?_
  refine RM_mends_L127_ok x1 _ R ?_ FU m1 s0 0 h
  intro m3 y2 h
  refine E_iload (n := 211) 110 rfl rfl 0 rfl <| E_ireturn 111 rfl rfl (eS h)
theorem K_RM_mends (m : Mem) (x1 : Int32) (x2 : Int32) (x3 : Int32) (x4 : Int32) (R : Int32 × Mem) (h : RM_mends m x1 x2 x3 x4 = some R) : Mt M_RM_mends [.ref 133, .int x1, .int x2, .int x3, .int x4] m (qI R.1 R.2) := by
  refine Mt.of G_RM_mends (Nat.le_of_ble_eq_true rfl) (E_sub (lv' := [(0, .ref 133), (1, .int x1), (2, .int x2), (3, .int x3), (4, .int x4)]) [0, 1, 2, 3, 4] rfl ?_)
  unfold RM_mends at h
  refine E_iload_n (n := 1) 0 rfl rfl rfl 2 rfl <| E_if_ge (n := 4) (t := 9) 1 rfl rfl rfl (fun hc => ?_) (fun hc => ?_)
  · have h := ifp h hc
    refine E_iload_n (n := 10) 5 rfl rfl rfl 2 rfl <| ?_
    exact RM_mends_J10_ok m x1 x2 x3 x4 x2 _ h
  · have h := ifn h hc
    refine E_iload_n (n := 5) 2 rfl rfl rfl 2 rfl <| E_ineg (n := 6) 3 rfl rfl <| E_goto (t := 10) 4 rfl rfl <| ?_
    exact RM_mends_J10_ok m x1 x2 x3 x4 (-x2) _ h
theorem RM_paces_J55_ok (kr : Mem → Int32 → Option (Int32 × Mem)) (kx : Mem → Int32 → Option (Int32 × Mem)) (m : Mem) (s1 : Int32) (R : Int32 × Mem) (hr : ∀ (m : Mem) (x1 : Int32), kr m x1 = some R → E M_RM_paces 23 [(0, .ref 133), (1, .int x1)] [] m (qI R.1 R.2)) (hx : ∀ (m : Mem) (x1 : Int32), kx m x1 = some R → E M_RM_paces 119 [(0, .ref 133), (1, .int x1)] [] m (qI R.1 R.2)) (h : RM_paces_J55 kr kx m s1 = some R) : E M_RM_paces 55 [(0, .ref 133)] [.int s1, .ref 133] m (qI R.1 R.2) := by
  unfold RM_paces_J55 at h
  obtain ⟨v1, m2, hq3, h⟩ := bV_ex h
  refine E_cV1r (n := 58) 30 rfl rfl co_12_197 rfl sh_133 rfl (K_RM_bad m s1 _ hq3) <| E_pop (n := 59) 31 rfl rfl rfl <| E_iconst (v := (-1)) (n := 60) 32 rfl rfl icz_m1 <| E_aload_n (n := 61) 33 rfl rfl rfl 0 rfl <| E_gI (n := 64) 34 rfl rfl fg_12_191 sh_133 <| E_isub (n := 65) 35 rfl rfl <| E_ireturn 36 rfl rfl (eS h)
theorem RM_paces_J45_ok (kr : Mem → Int32 → Option (Int32 × Mem)) (kx : Mem → Int32 → Option (Int32 × Mem)) (m : Mem) (x2 : Int32) (R : Int32 × Mem) (hr : ∀ (m : Mem) (x1 : Int32), kr m x1 = some R → E M_RM_paces 23 [(0, .ref 133), (1, .int x1)] [] m (qI R.1 R.2)) (hx : ∀ (m : Mem) (x1 : Int32), kx m x1 = some R → E M_RM_paces 119 [(0, .ref 133), (1, .int x1)] [] m (qI R.1 R.2)) (h : RM_paces_J45 kr kx m x2 = some R) : E M_RM_paces 45 [(0, .ref 133), (2, .int x2)] [] m (qI R.1 R.2) := by
  unfold RM_paces_J45 at h
  refine E_aload_n (n := 46) 24 rfl rfl rfl 0 rfl <| E_iload_n (n := 47) 25 rfl rfl rfl 1 rfl <| E_if_ge (n := 50) (t := 54) 26 rfl rfl rfl (fun hc => ?_) (fun hc => ?_)
  · have h := ifp h hc
    refine E_iconst (v := 4) (n := 55) 29 rfl rfl icz_4 <| ?_
    refine E_sub (lv' := [(0, .ref 133)]) [0] rfl ?_
    exact RM_paces_J55_ok _ _ m 4 _ hr hx h
  · have h := ifn h hc
    refine E_iconst (v := 1) (n := 51) 27 rfl rfl icz_1 <| E_goto (t := 55) 28 rfl rfl <| ?_
    refine E_sub (lv' := [(0, .ref 133)]) [0] rfl ?_
    exact RM_paces_J55_ok _ _ m 1 _ hr hx h
theorem RM_paces_L23_ok (kx : Mem → Int32 → Option (Int32 × Mem)) (R : Int32 × Mem) (hx : ∀ (m : Mem) (x1 : Int32), kx m x1 = some R → E M_RM_paces 119 [(0, .ref 133), (1, .int x1)] [] m (qI R.1 R.2)) : ∀ (n : Nat) (m : Mem) (x1 : Int32), RM_paces_L23 kx n m x1 = some R → E M_RM_paces 23 [(0, .ref 133), (1, .int x1)] [] m (qI R.1 R.2) := by
  intro n
  induction n with
  | zero =>
    intro m x1 h
    exact absurd (show none = some R from h) (fun e => Option.some_ne_none R e.symm)
  | succ n ih =>
    intro m x1 h
    rw [RM_paces_L23] at h
    refine E_aload_n (n := 24) 13 rfl rfl rfl 0 rfl <| E_gI (n := 27) 14 rfl rfl fg_12_171 sh_133 <| E_if_eq (n := 30) (t := 119) 15 rfl rfl rfl (fun hc => ?_) (fun hc => ?_)
    · have h := ifp h hc
      exact hx m x1 h
    · have h := ifn h hc
      obtain ⟨v1, hv1, h⟩ := letV_ex h
      refine E_aload_n (n := 31) 16 rfl rfl rfl 0 rfl <| E_cV0r (n := 34) 17 rfl rfl co_12_355 rfl sh_133 rfl (K_RM_dirOfWord m _ rfl) <| E_top hv1 <| E_istore_n (lv' := [(0, .ref 133), (1, .int x1), (2, .int v1)]) (n := 35) 18 rfl rfl rfl (Nat.le_of_ble_eq_true rfl) [1, 2, 0] rfl <| E_iload_n (n := 36) 19 rfl rfl rfl 2 rfl <| E_if_lt (n := 39) (t := 45) 20 rfl rfl rfl (fun hc => ?_) (fun hc => ?_)
      · have h := ifp h hc
        refine E_sub (lv' := [(0, .ref 133), (2, .int v1)]) [0, 2] rfl ?_
        exact RM_paces_J45_ok _ _ m v1 _ ih hx h
      · have h := ifn h hc
        refine E_iload_n (n := 40) 21 rfl rfl rfl 1 rfl <| E_bipush (v := 30) (n := 42) 22 rfl rfl bpz_30 <| E_icmp_ne (n := 45) (t := 66) 23 rfl rfl rfl (fun hc => ?_) (fun hc => ?_)
        · have h := ifn h hc
          obtain ⟨m2, hq3, h⟩ := bM_ex h
          obtain ⟨v4, m5, hq6, h⟩ := bV_ex h
          refine E_aload_n (n := 67) 37 rfl rfl rfl 0 rfl <| E_cV0v (n := 70) 38 rfl rfl co_12_200 rfl sh_133 rfl (K_RM_next m _ hq3) <| E_aload_n (n := 71) 39 rfl rfl rfl 0 rfl <| E_iconst (v := 1) (n := 72) 40 rfl rfl icz_1 <| E_bipush (v := 99) (n := 74) 41 rfl rfl bpz_99 <| E_cV2r (n := 77) 42 rfl rfl co_12_235 rfl sh_133 rfl (K_RM_takes m2 1 99 _ hq6) <| E_if_eq (n := 80) (t := 89) 43 rfl rfl rfl (fun hc => ?_) (fun hc => ?_)
          · have h := ifp h hc
            refine E_iconst (v := (-1)) (n := 90) 48 rfl rfl icz_m1 <| E_aload_n (n := 91) 49 rfl rfl rfl 0 rfl <| E_gI (n := 94) 50 rfl rfl fg_12_191 sh_133 <| E_isub (n := 95) 51 rfl rfl <| E_ireturn 52 rfl rfl (eS h)
          · have h := ifn h hc
            obtain ⟨v7, m8, hq9, h⟩ := bV_ex h
            refine E_aload_n (n := 81) 44 rfl rfl rfl 0 rfl <| E_bipush (v := 59) (n := 83) 45 rfl rfl bpz_59 <| E_cV1r (n := 86) 46 rfl rfl co_12_250 rfl sh_133 rfl (K_RM_sign m5 59 _ hq9) <| E_if_ne (n := 89) (t := 96) 47 rfl rfl rfl (fun hc => ?_) (fun hc => ?_)
            · have h := ifn h hc
              obtain ⟨hc10, h⟩ := ift h
              obtain ⟨m11, hm11, h⟩ := letM_ex h
              obtain ⟨m12, hm12, h⟩ := letM_ex h
              refine E_aload_n (n := 97) 53 rfl rfl rfl 0 rfl <| E_gF (r := 157) (n := 100) 54 rfl rfl fg_12_109 sh_133 rfl <| E_iload_n (n := 101) 55 rfl rfl rfl 1 rfl <| E_iload_n (n := 102) 56 rfl rfl rfl 2 rfl <| E_iast (n := 103) 57 rfl rfl sh_157 hc10 <| E_mem hm11 <| E_aload_n (n := 104) 58 rfl rfl rfl 0 rfl <| E_gF (r := 158) (n := 107) 59 rfl rfl fg_12_112 sh_133 rfl <| E_iload_n (n := 108) 60 rfl rfl rfl 1 rfl <| E_aload_n (n := 109) 61 rfl rfl rfl 0 rfl <| E_gI (n := 112) 62 rfl rfl fg_12_207 sh_133 <| E_iast (n := 113) 63 rfl rfl sh_158 hc10 <| E_mem hm12 <| E_iinc (v := (x1 + 1)) (lv' := [(0, .ref 133), (1, .int (x1 + 1)), (2, .int v1)]) (n := 116) 64 rfl rfl 1 rfl (by rw [icz_1]) (Nat.le_of_ble_eq_true rfl) [1, 0, 2] rfl <| E_goto (t := 23) 65 rfl rfl <| ?_
              refine E_sub (lv' := [(0, .ref 133), (1, .int (x1 + 1))]) [0, 1] rfl ?_
              exact ih m12 (x1 + 1) h
            · have h := ifp h hc
              refine E_iconst (v := (-1)) (n := 90) 48 rfl rfl icz_m1 <| E_aload_n (n := 91) 49 rfl rfl rfl 0 rfl <| E_gI (n := 94) 50 rfl rfl fg_12_191 sh_133 <| E_isub (n := 95) 51 rfl rfl <| E_ireturn 52 rfl rfl (eS h)
        · have h := ifp h hc
          refine E_sub (lv' := [(0, .ref 133), (2, .int v1)]) [0, 2] rfl ?_
          exact RM_paces_J45_ok _ _ m v1 _ ih hx h
theorem RM_paces_J195_ok (kr : Mem → Int32 → Int32 → Int32 → Option (Int32 × Mem)) (kx : Mem → Int32 → Int32 → Option (Int32 × Mem)) (m : Mem) (x1 : Int32) (x3 : Int32) (x4 : Int32) (s0 : Int32) (s1 : Int32) (R : Int32 × Mem) (hr : ∀ (m : Mem) (x2 : Int32) (x3 : Int32) (x4 : Int32), kr m x2 x3 x4 = some R → E M_RM_paces 144 [(0, .ref 133), (1, .int x1), (2, .int x2), (3, .int x3), (4, .int x4)] [] m (qI R.1 R.2)) (hx : ∀ (m : Mem) (x2 : Int32) (x3 : Int32), kx m x2 x3 = some R → E M_RM_paces 249 [(0, .ref 133), (1, .int x1), (2, .int x2), (3, .int x3)] [] m (qI R.1 R.2)) (h : RM_paces_J195 kr kx m x1 x3 x4 s0 s1 = some R) : E M_RM_paces 195 [(0, .ref 133), (1, .int x1), (3, .int x3), (4, .int x4)] [.int s1, .int s0] m (qI R.1 R.2) := by
  unfold RM_paces_J195 at h
  obtain ⟨v1, hv1, h⟩ := letV_ex h
  obtain ⟨hc2, h⟩ := ift h
  refine E_iadd (n := 196) 112 rfl rfl <| E_top hv1 <| E_istore_n (lv' := [(0, .ref 133), (1, .int x1), (2, .int v1), (3, .int x3), (4, .int x4)]) (n := 197) 113 rfl rfl rfl (Nat.le_of_ble_eq_true rfl) [1, 2, 0, 3, 4] rfl <| E_iload_n (n := 198) 114 rfl rfl rfl 3 rfl <| E_aload_n (n := 199) 115 rfl rfl rfl 0 rfl <| E_gF (r := 157) (n := 202) 116 rfl rfl fg_12_109 sh_133 rfl <| E_iload (n := 204) 117 rfl rfl 4 rfl <| E_iald (n := 205) 118 rfl rfl sh_157 hc2 <| E_iconst (v := 2) (n := 206) 119 rfl rfl icz_2 <| E_icmp_ne (n := 209) (t := 219) 120 rfl rfl rfl (fun hc => ?_) (fun hc => ?_)
  · have h := ifn h hc
    refine E_aload_n (n := 220) 126 rfl rfl rfl 0 rfl <| E_gF (r := 157) (n := 223) 127 rfl rfl fg_12_109 sh_133 rfl <| E_iload (n := 225) 128 rfl rfl 4 rfl <| E_iald (n := 226) 129 rfl rfl sh_157 hc2 <| E_if_ne (n := 229) (t := 240) 130 rfl rfl rfl (fun hc => ?_) (fun hc => ?_)
    · have h := ifn h hc
      refine E_iconst (v := 0) (n := 241) 137 rfl rfl icz_0 <| ?_
      obtain ⟨v3, hv3, h⟩ := letV_ex h
      refine E_iadd (n := 242) 138 rfl rfl <| E_top hv3 <| E_istore_n (lv' := [(0, .ref 133), (1, .int x1), (2, .int v1), (3, .int v3), (4, .int x4)]) (n := 243) 139 rfl rfl rfl (Nat.le_of_ble_eq_true rfl) [1, 2, 3, 0, 4] rfl <| E_iinc (v := (x4 + 1)) (lv' := [(0, .ref 133), (1, .int x1), (2, .int v1), (3, .int v3), (4, .int (x4 + 1))]) (n := 246) 140 rfl rfl 4 rfl (by rw [icz_1]) (Nat.le_of_ble_eq_true rfl) [1, 2, 3, 4, 0] rfl <| E_goto (t := 144) 141 rfl rfl <| ?_
      exact hr m v1 v3 (x4 + 1) h
    · have h := ifp h hc
      refine E_aload_n (n := 230) 131 rfl rfl rfl 0 rfl <| E_gF (r := 158) (n := 233) 132 rfl rfl fg_12_112 sh_133 rfl <| E_iload (n := 235) 133 rfl rfl 4 rfl <| E_iald (n := 236) 134 rfl rfl sh_158 hc2 <| E_ineg (n := 237) 135 rfl rfl <| E_goto (t := 241) 136 rfl rfl <| ?_
      obtain ⟨v4, hv4, h⟩ := letV_ex h
      refine E_iadd (n := 242) 138 rfl rfl <| E_top hv4 <| E_istore_n (lv' := [(0, .ref 133), (1, .int x1), (2, .int v1), (3, .int v4), (4, .int x4)]) (n := 243) 139 rfl rfl rfl (Nat.le_of_ble_eq_true rfl) [1, 2, 3, 0, 4] rfl <| E_iinc (v := (x4 + 1)) (lv' := [(0, .ref 133), (1, .int x1), (2, .int v1), (3, .int v4), (4, .int (x4 + 1))]) (n := 246) 140 rfl rfl 4 rfl (by rw [icz_1]) (Nat.le_of_ble_eq_true rfl) [1, 2, 3, 4, 0] rfl <| E_goto (t := 144) 141 rfl rfl <| ?_
      exact hr m v1 v4 (x4 + 1) h
  · have h := ifp h hc
    refine E_aload_n (n := 210) 121 rfl rfl rfl 0 rfl <| E_gF (r := 158) (n := 213) 122 rfl rfl fg_12_112 sh_133 rfl <| E_iload (n := 215) 123 rfl rfl 4 rfl <| E_iald (n := 216) 124 rfl rfl sh_158 hc2 <| E_goto (t := 241) 125 rfl rfl <| ?_
    obtain ⟨v5, hv5, h⟩ := letV_ex h
    refine E_iadd (n := 242) 138 rfl rfl <| E_top hv5 <| E_istore_n (lv' := [(0, .ref 133), (1, .int x1), (2, .int v1), (3, .int v5), (4, .int x4)]) (n := 243) 139 rfl rfl rfl (Nat.le_of_ble_eq_true rfl) [1, 2, 3, 0, 4] rfl <| E_iinc (v := (x4 + 1)) (lv' := [(0, .ref 133), (1, .int x1), (2, .int v1), (3, .int v5), (4, .int (x4 + 1))]) (n := 246) 140 rfl rfl 4 rfl (by rw [icz_1]) (Nat.le_of_ble_eq_true rfl) [1, 2, 3, 4, 0] rfl <| E_goto (t := 144) 141 rfl rfl <| ?_
    exact hr m v1 v5 (x4 + 1) h
theorem RM_paces_L144_ok (x1 : Int32) (kx : Mem → Int32 → Int32 → Option (Int32 × Mem)) (R : Int32 × Mem) (hx : ∀ (m : Mem) (x2 : Int32) (x3 : Int32), kx m x2 x3 = some R → E M_RM_paces 249 [(0, .ref 133), (1, .int x1), (2, .int x2), (3, .int x3)] [] m (qI R.1 R.2)) : ∀ (n : Nat) (m : Mem) (x2 : Int32) (x3 : Int32) (x4 : Int32), RM_paces_L144 x1 kx n m x2 x3 x4 = some R → E M_RM_paces 144 [(0, .ref 133), (1, .int x1), (2, .int x2), (3, .int x3), (4, .int x4)] [] m (qI R.1 R.2) := by
  intro n
  induction n with
  | zero =>
    intro m x2 x3 x4 h
    exact absurd (show none = some R from h) (fun e => Option.some_ne_none R e.symm)
  | succ n ih =>
    intro m x2 x3 x4 h
    rw [RM_paces_L144] at h
    refine E_iload (n := 146) 84 rfl rfl 4 rfl <| E_iload_n (n := 147) 85 rfl rfl rfl 1 rfl <| E_icmp_ge (n := 150) (t := 249) 86 rfl rfl rfl (fun hc => ?_) (fun hc => ?_)
    · have h := ifp h hc
      refine E_sub (lv' := [(0, .ref 133), (1, .int x1), (2, .int x2), (3, .int x3)]) [0, 1, 2, 3] rfl ?_
      exact hx m x2 x3 h
    · have h := ifn h hc
      obtain ⟨hc1, h⟩ := ift h
      refine E_iload_n (n := 151) 87 rfl rfl rfl 2 rfl <| E_aload_n (n := 152) 88 rfl rfl rfl 0 rfl <| E_gF (r := 157) (n := 155) 89 rfl rfl fg_12_109 sh_133 rfl <| E_iload (n := 157) 90 rfl rfl 4 rfl <| E_iald (n := 158) 91 rfl rfl sh_157 hc1 <| E_iconst (v := 1) (n := 159) 92 rfl rfl icz_1 <| E_icmp_ne (n := 162) (t := 172) 93 rfl rfl rfl (fun hc => ?_) (fun hc => ?_)
      · have h := ifn h hc
        refine E_aload_n (n := 173) 99 rfl rfl rfl 0 rfl <| E_gF (r := 157) (n := 176) 100 rfl rfl fg_12_109 sh_133 rfl <| E_iload (n := 178) 101 rfl rfl 4 rfl <| E_iald (n := 179) 102 rfl rfl sh_157 hc1 <| E_iconst (v := 3) (n := 180) 103 rfl rfl icz_3 <| E_icmp_ne (n := 183) (t := 194) 104 rfl rfl rfl (fun hc => ?_) (fun hc => ?_)
        · have h := ifn h hc
          refine E_iconst (v := 0) (n := 195) 111 rfl rfl icz_0 <| ?_
          refine E_sub (lv' := [(0, .ref 133), (1, .int x1), (3, .int x3), (4, .int x4)]) [0, 1, 3, 4] rfl ?_
          exact RM_paces_J195_ok _ _ m x1 x3 x4 x2 0 _ ih hx h
        · have h := ifp h hc
          refine E_aload_n (n := 184) 105 rfl rfl rfl 0 rfl <| E_gF (r := 158) (n := 187) 106 rfl rfl fg_12_112 sh_133 rfl <| E_iload (n := 189) 107 rfl rfl 4 rfl <| E_iald (n := 190) 108 rfl rfl sh_158 hc1 <| E_ineg (n := 191) 109 rfl rfl <| E_goto (t := 195) 110 rfl rfl <| ?_
          refine E_sub (lv' := [(0, .ref 133), (1, .int x1), (3, .int x3), (4, .int x4)]) [0, 1, 3, 4] rfl ?_
          exact RM_paces_J195_ok _ _ m x1 x3 x4 x2 (-(gI m 158 (ixn x4))) _ ih hx h
      · have h := ifp h hc
        refine E_aload_n (n := 163) 94 rfl rfl rfl 0 rfl <| E_gF (r := 158) (n := 166) 95 rfl rfl fg_12_112 sh_133 rfl <| E_iload (n := 168) 96 rfl rfl 4 rfl <| E_iald (n := 169) 97 rfl rfl sh_158 hc1 <| E_goto (t := 195) 98 rfl rfl <| ?_
        refine E_sub (lv' := [(0, .ref 133), (1, .int x1), (3, .int x3), (4, .int x4)]) [0, 1, 3, 4] rfl ?_
        exact RM_paces_J195_ok _ _ m x1 x3 x4 x2 (gI m 158 (ixn x4)) _ ih hx h
theorem RM_paces_J337_ok (m : Mem) (x1 : Int32) (x3 : Int32) (s1 : Int32) (s2 : Int32) (R : Int32 × Mem) (h : RM_paces_J337 m x1 x3 s1 s2 = some R) : E M_RM_paces 337 [(0, .ref 133), (1, .int x1), (3, .int x3)] [.int s2, .int s1, .ref 155] m (qI R.1 R.2) := by
  unfold RM_paces_J337 at h
  refine E_iload_n (n := 338) 194 rfl rfl rfl 2 rfl <| E_if_ge (n := 341) (t := 346) 195 rfl rfl rfl (fun hc => ?_) (fun hc => ?_)
  · have h := ifp h hc
    refine E_iload_n (n := 347) 199 rfl rfl rfl 2 rfl <| ?_
    refine E_iadd (n := 348) 200 rfl rfl <| ?_
    obtain ⟨hc1, h⟩ := ift h
    obtain ⟨m2, hm2, h⟩ := letM_ex h
    obtain ⟨m3, hm3, h⟩ := letM_ex h
    refine E_iast (n := 349) 201 rfl rfl sh_155 hc1 <| E_mem hm2 <| E_aload_n (n := 350) 202 rfl rfl rfl 0 rfl <| E_iconst (v := 1) (n := 351) 203 rfl rfl icz_1 <| E_pZ (n := 354) 204 rfl rfl fp_12_420 sh_133 z1 <| E_mem hm3 <| E_iload_n (n := 355) 205 rfl rfl rfl 1 rfl <| E_ireturn 206 rfl rfl (eS h)
  · have h := ifn h hc
    refine E_iload_n (n := 342) 196 rfl rfl rfl 2 rfl <| E_ineg (n := 343) 197 rfl rfl <| E_goto (t := 347) 198 rfl rfl <| ?_
    refine E_iadd (n := 348) 200 rfl rfl <| ?_
    obtain ⟨hc4, h⟩ := ift h
    obtain ⟨m5, hm5, h⟩ := letM_ex h
    obtain ⟨m6, hm6, h⟩ := letM_ex h
    refine E_iast (n := 349) 201 rfl rfl sh_155 hc4 <| E_mem hm5 <| E_aload_n (n := 350) 202 rfl rfl rfl 0 rfl <| E_iconst (v := 1) (n := 351) 203 rfl rfl icz_1 <| E_pZ (n := 354) 204 rfl rfl fp_12_420 sh_133 z1 <| E_mem hm6 <| E_iload_n (n := 355) 205 rfl rfl rfl 1 rfl <| E_ireturn 206 rfl rfl (eS h)
theorem RM_paces_J307_ok (m : Mem) (x1 : Int32) (x2 : Int32) (x3 : Int32) (x4 : Int32) (x5 : Int32) (s1 : Int32) (s2 : Int32) (R : Int32 × Mem) (h : RM_paces_J307 m x1 x2 x3 x4 x5 s1 s2 = some R) : E M_RM_paces 307 [(0, .ref 133), (1, .int x1), (2, .int x2), (3, .int x3), (4, .int x4), (5, .int x5)] [.int s2, .int s1, .ref 155] m (qI R.1 R.2) := by
  unfold RM_paces_J307 at h
  obtain ⟨hc1, h⟩ := ift h
  obtain ⟨m2, hm2, h⟩ := letM_ex h
  refine E_iast (n := 308) 178 rfl rfl sh_155 hc1 <| E_mem hm2 <| E_aload_n (n := 309) 179 rfl rfl rfl 0 rfl <| E_gF (r := 155) (n := 312) 180 rfl rfl fg_12_103 sh_133 rfl <| E_iconst (v := 3) (n := 313) 181 rfl rfl icz_3 <| E_iload (n := 315) 182 rfl rfl 4 rfl <| E_if_lt (n := 318) (t := 323) 183 rfl rfl rfl (fun hc => ?_) (fun hc => ?_)
  · have h := ifp h hc
    refine E_iconst (v := (-1)) (n := 324) 186 rfl rfl icz_m1 <| E_goto (t := 348) 187 rfl rfl <| ?_
    obtain ⟨hc3, h⟩ := ift h
    obtain ⟨m4, hm4, h⟩ := letM_ex h
    obtain ⟨m5, hm5, h⟩ := letM_ex h
    refine E_iast (n := 349) 201 rfl rfl sh_155 hc3 <| E_mem hm4 <| E_aload_n (n := 350) 202 rfl rfl rfl 0 rfl <| E_iconst (v := 1) (n := 351) 203 rfl rfl icz_1 <| E_pZ (n := 354) 204 rfl rfl fp_12_420 sh_133 z1 <| E_mem hm5 <| E_iload_n (n := 355) 205 rfl rfl rfl 1 rfl <| E_ireturn 206 rfl rfl (eS h)
  · have h := ifn h hc
    refine E_iload (n := 320) 184 rfl rfl 5 rfl <| E_if_ge (n := 323) (t := 327) 185 rfl rfl rfl (fun hc => ?_) (fun hc => ?_)
    · have h := ifp h hc
      refine E_iload_n (n := 328) 188 rfl rfl rfl 2 rfl <| E_if_ge (n := 331) (t := 336) 189 rfl rfl rfl (fun hc => ?_) (fun hc => ?_)
      · have h := ifp h hc
        refine E_iload_n (n := 337) 193 rfl rfl rfl 2 rfl <| ?_
        refine E_sub (lv' := [(0, .ref 133), (1, .int x1), (3, .int x3)]) [0, 1, 3] rfl ?_
        exact RM_paces_J337_ok m2 x1 x3 3 x2 _ h
      · have h := ifn h hc
        refine E_iload_n (n := 332) 190 rfl rfl rfl 2 rfl <| E_ineg (n := 333) 191 rfl rfl <| E_goto (t := 337) 192 rfl rfl <| ?_
        refine E_sub (lv' := [(0, .ref 133), (1, .int x1), (3, .int x3)]) [0, 1, 3] rfl ?_
        exact RM_paces_J337_ok m2 x1 x3 3 (-x2) _ h
    · have h := ifn h hc
      refine E_iconst (v := (-1)) (n := 324) 186 rfl rfl icz_m1 <| E_goto (t := 348) 187 rfl rfl <| ?_
      obtain ⟨hc6, h⟩ := ift h
      obtain ⟨m7, hm7, h⟩ := letM_ex h
      obtain ⟨m8, hm8, h⟩ := letM_ex h
      refine E_iast (n := 349) 201 rfl rfl sh_155 hc6 <| E_mem hm7 <| E_aload_n (n := 350) 202 rfl rfl rfl 0 rfl <| E_iconst (v := 1) (n := 351) 203 rfl rfl icz_1 <| E_pZ (n := 354) 204 rfl rfl fp_12_420 sh_133 z1 <| E_mem hm8 <| E_iload_n (n := 355) 205 rfl rfl rfl 1 rfl <| E_ireturn 206 rfl rfl (eS h)
theorem K_RM_paces (m : Mem) (R : Int32 × Mem) (h : RM_paces m = some R) : Mt M_RM_paces [.ref 133] m (qI R.1 R.2) := by
  refine Mt.of G_RM_paces (Nat.le_of_ble_eq_true rfl) (E_sub (lv' := [(0, .ref 133)]) [0] rfl ?_)
  unfold RM_paces at h
  obtain ⟨m1, hm1, h⟩ := letM_ex h
  obtain ⟨m2, hq3, h⟩ := bM_ex h
  obtain ⟨m4, hm4, h⟩ := letM_ex h
  obtain ⟨m5, hq6, h⟩ := bM_ex h
  refine E_aload_n (n := 1) 0 rfl rfl rfl 0 rfl <| E_iconst (v := 0) (n := 2) 1 rfl rfl icz_0 <| E_pI (n := 5) 2 rfl rfl fp_12_1 sh_133 <| E_mem hm1 <| E_aload_n (n := 6) 3 rfl rfl rfl 0 rfl <| E_sipush (v := 300) (n := 9) 4 rfl rfl spz_300 <| E_cV1v (n := 12) 5 rfl rfl co_12_241 rfl sh_133 rfl (K_RM_taken m1 300 _ hq3) <| E_aload_n (n := 13) 6 rfl rfl rfl 0 rfl <| E_iconst (v := 0) (n := 14) 7 rfl rfl icz_0 <| E_pI (n := 17) 8 rfl rfl fp_12_188 sh_133 <| E_mem hm4 <| E_iconst (v := 0) (n := 18) 9 rfl rfl icz_0 <| E_istore_n (lv' := [(0, .ref 133), (1, .int 0)]) (n := 19) 10 rfl rfl rfl (Nat.le_of_ble_eq_true rfl) [1, 0] rfl <| E_aload_n (n := 20) 11 rfl rfl rfl 0 rfl <| E_cV0v (n := 23) 12 rfl rfl co_12_200 rfl sh_133 rfl (K_RM_next m4 _ hq6) <| ?_
  refine RM_paces_L23_ok _ R ?_ FU m5 0 h
  intro m8 y7 h
  refine E_iload_n (n := 120) 66 rfl rfl rfl 1 rfl <| E_iconst (v := 2) (n := 121) 67 rfl rfl icz_2 <| E_icmp_ge (n := 124) (t := 137) 68 rfl rfl rfl (fun hc => ?_) (fun hc => ?_)
  · have h := ifp h hc
    refine E_iconst (v := 0) (n := 138) 78 rfl rfl icz_0 <| E_istore_n (lv' := [(0, .ref 133), (1, .int y7), (2, .int 0)]) (n := 139) 79 rfl rfl rfl (Nat.le_of_ble_eq_true rfl) [1, 2, 0] rfl <| E_iconst (v := 0) (n := 140) 80 rfl rfl icz_0 <| E_istore_n (lv' := [(0, .ref 133), (1, .int y7), (2, .int 0), (3, .int 0)]) (n := 141) 81 rfl rfl rfl (Nat.le_of_ble_eq_true rfl) [1, 2, 3, 0] rfl <| E_iconst (v := 0) (n := 142) 82 rfl rfl icz_0 <| E_istore (lv' := [(0, .ref 133), (1, .int y7), (2, .int 0), (3, .int 0), (4, .int 0)]) (n := 144) 83 rfl rfl (Nat.le_of_ble_eq_true rfl) [1, 2, 3, 4, 0] rfl <| ?_
    refine RM_paces_L144_ok y7 _ R ?_ FU m8 0 0 0 h
    intro m11 y9 y10 h
    obtain ⟨v12, m13, hq14, h⟩ := bV_ex h
    obtain ⟨v15, m16, hq17, h⟩ := bV_ex h
    obtain ⟨hc18, h⟩ := ift h
    obtain ⟨m19, hm19, h⟩ := letM_ex h
    obtain ⟨hc20, h⟩ := ift h
    obtain ⟨m21, hm21, h⟩ := letM_ex h
    refine E_aload_n (n := 250) 142 rfl rfl rfl 0 rfl <| E_iload_n (n := 251) 143 rfl rfl rfl 1 rfl <| E_iload_n (n := 252) 144 rfl rfl rfl 2 rfl <| E_iconst (v := 1) (n := 253) 145 rfl rfl icz_1 <| E_iconst (v := 3) (n := 254) 146 rfl rfl icz_3 <| E_cV4r (n := 257) 147 rfl rfl co_12_416 rfl sh_133 rfl (K_RM_mends m11 y7 y9 1 3 _ hq14) <| E_istore (lv' := [(0, .ref 133), (1, .int y7), (2, .int y9), (3, .int y10), (4, .int v12)]) (n := 259) 148 rfl rfl (Nat.le_of_ble_eq_true rfl) [1, 2, 3, 4, 0] rfl <| E_aload_n (n := 260) 149 rfl rfl rfl 0 rfl <| E_iload_n (n := 261) 150 rfl rfl rfl 1 rfl <| E_iload_n (n := 262) 151 rfl rfl rfl 3 rfl <| E_iconst (v := 2) (n := 263) 152 rfl rfl icz_2 <| E_iconst (v := 0) (n := 264) 153 rfl rfl icz_0 <| E_cV4r (n := 267) 154 rfl rfl co_12_416 rfl sh_133 rfl (K_RM_mends m13 y7 y10 2 0 _ hq17) <| E_istore (lv' := [(0, .ref 133), (1, .int y7), (2, .int y9), (3, .int y10), (4, .int v12), (5, .int v15)]) (n := 269) 155 rfl rfl (Nat.le_of_ble_eq_true rfl) [1, 2, 3, 4, 5, 0] rfl <| E_aload_n (n := 270) 156 rfl rfl rfl 0 rfl <| E_gF (r := 155) (n := 273) 157 rfl rfl fg_12_103 sh_133 rfl <| E_iconst (v := 0) (n := 274) 158 rfl rfl icz_0 <| E_iload_n (n := 275) 159 rfl rfl rfl 2 rfl <| E_iast (n := 276) 160 rfl rfl sh_155 hc18 <| E_mem hm19 <| E_aload_n (n := 277) 161 rfl rfl rfl 0 rfl <| E_gF (r := 155) (n := 280) 162 rfl rfl fg_12_103 sh_133 rfl <| E_iconst (v := 1) (n := 281) 163 rfl rfl icz_1 <| E_iload_n (n := 282) 164 rfl rfl rfl 3 rfl <| E_iast (n := 283) 165 rfl rfl sh_155 hc20 <| E_mem hm21 <| E_aload_n (n := 284) 166 rfl rfl rfl 0 rfl <| E_gF (r := 155) (n := 287) 167 rfl rfl fg_12_103 sh_133 rfl <| E_iconst (v := 2) (n := 288) 168 rfl rfl icz_2 <| E_iload (n := 290) 169 rfl rfl 4 rfl <| E_if_lt (n := 293) (t := 298) 170 rfl rfl rfl (fun hc => ?_) (fun hc => ?_)
    · have h := ifp h hc
      refine E_iconst (v := (-1)) (n := 299) 173 rfl rfl icz_m1 <| E_goto (t := 307) 174 rfl rfl <| ?_
      exact RM_paces_J307_ok m21 y7 y9 y10 v12 v15 2 (-1) _ h
    · have h := ifn h hc
      refine E_iload (n := 295) 171 rfl rfl 5 rfl <| E_if_ge (n := 298) (t := 302) 172 rfl rfl rfl (fun hc => ?_) (fun hc => ?_)
      · have h := ifp h hc
        refine E_iload (n := 304) 175 rfl rfl 4 rfl <| E_iload (n := 306) 176 rfl rfl 5 rfl <| E_iadd (n := 307) 177 rfl rfl <| ?_
        exact RM_paces_J307_ok m21 y7 y9 y10 v12 v15 2 (v12 + v15) _ h
      · have h := ifn h hc
        refine E_iconst (v := (-1)) (n := 299) 173 rfl rfl icz_m1 <| E_goto (t := 307) 174 rfl rfl <| ?_
        exact RM_paces_J307_ok m21 y7 y9 y10 v12 v15 2 (-1) _ h
  · have h := ifn h hc
    obtain ⟨v22, m23, hq24, h⟩ := bV_ex h
    refine E_aload_n (n := 125) 69 rfl rfl rfl 0 rfl <| E_iconst (v := 4) (n := 126) 70 rfl rfl icz_4 <| E_cV1r (n := 129) 71 rfl rfl co_12_197 rfl sh_133 rfl (K_RM_bad m8 4 _ hq24) <| E_pop (n := 130) 72 rfl rfl rfl <| E_iconst (v := (-1)) (n := 131) 73 rfl rfl icz_m1 <| E_aload_n (n := 132) 74 rfl rfl rfl 0 rfl <| E_gI (n := 135) 75 rfl rfl fg_12_191 sh_133 <| E_isub (n := 136) 76 rfl rfl <| E_ireturn 77 rfl rfl (eS h)
theorem K_RM_paced (m : Mem) (x1 : Int32) (R : Int32 × Mem) (h : RM_paced m x1 = some R) : Mt M_RM_paced [.ref 133, .int x1] m (qI R.1 R.2) := by
  refine Mt.of G_RM_paced (Nat.le_of_ble_eq_true rfl) (E_sub (lv' := [(0, .ref 133), (1, .int x1)]) [0, 1] rfl ?_)
  unfold RM_paced at h
  obtain ⟨m1, hm1, h⟩ := letM_ex h
  refine E_aload_n (n := 1) 0 rfl rfl rfl 0 rfl <| E_iconst (v := 0) (n := 2) 1 rfl rfl icz_0 <| E_pI (n := 5) 2 rfl rfl fp_12_1 sh_133 <| E_mem hm1 <| E_aload_n (n := 6) 3 rfl rfl rfl 0 rfl <| E_gI (n := 9) 4 rfl rfl fg_12_420 sh_133 <| E_if_eq (n := 12) (t := 30) 5 rfl rfl rfl (fun hc => ?_) (fun hc => ?_)
  · have h := ifp h hc
    refine E_sipush (v := (-1001)) (n := 33) 16 rfl rfl spz_m1001 <| ?_
    refine E_ireturn 17 rfl rfl (eS h)
  · have h := ifn h hc
    refine E_iload_n (n := 13) 6 rfl rfl rfl 1 rfl <| E_iconst (v := 0) (n := 14) 7 rfl rfl icz_0 <| E_iconst (v := 3) (n := 15) 8 rfl rfl icz_3 <| E_dS3r (n := 18) 9 rfl rfl co_12_203 rfl rfl (K_RM_isIn m1 x1 0 3 _ rfl) <| E_if_eq (n := 21) (t := 30) 10 rfl rfl rfl (fun hc => ?_) (fun hc => ?_)
    · have h := ifp h hc
      refine E_sipush (v := (-1001)) (n := 33) 16 rfl rfl spz_m1001 <| ?_
      refine E_ireturn 17 rfl rfl (eS h)
    · have h := ifn h hc
      obtain ⟨hc2, h⟩ := ift h
      refine E_aload_n (n := 22) 11 rfl rfl rfl 0 rfl <| E_gF (r := 155) (n := 25) 12 rfl rfl fg_12_103 sh_133 rfl <| E_iload_n (n := 26) 13 rfl rfl rfl 1 rfl <| E_iald (n := 27) 14 rfl rfl sh_155 hc2 <| E_goto (t := 33) 15 rfl rfl <| ?_
      refine E_ireturn 17 rfl rfl (eS h)
theorem RM_image_L18_ok (x1 : Int32) (kx : Mem → Option (Int32 × Mem)) (R : Int32 × Mem) (hx : ∀ (m : Mem), kx m = some R → E M_RM_image 47 [(0, .ref 133), (1, .int x1)] [] m (qI R.1 R.2)) : ∀ (n : Nat) (m : Mem) (x2 : Int32), RM_image_L18 x1 kx n m x2 = some R → E M_RM_image 18 [(0, .ref 133), (1, .int x1), (2, .int x2)] [] m (qI R.1 R.2) := by
  intro n
  induction n with
  | zero =>
    intro m x2 h
    exact absurd (show none = some R from h) (fun e => Option.some_ne_none R e.symm)
  | succ n ih =>
    intro m x2 h
    rw [RM_image_L18] at h
    refine E_iload_n (n := 19) 12 rfl rfl rfl 2 rfl <| E_bipush (v := 116) (n := 21) 13 rfl rfl bpz_116 <| E_icmp_ge (n := 24) (t := 47) 14 rfl rfl rfl (fun hc => ?_) (fun hc => ?_)
    · have h := ifp h hc
      refine E_sub (lv' := [(0, .ref 133), (1, .int x1)]) [0, 1] rfl ?_
      exact hx m h
    · have h := ifn h hc
      obtain ⟨hc1, h⟩ := ift h
      obtain ⟨hc2, h⟩ := ift h
      obtain ⟨m3, hm3, h⟩ := letM_ex h
      refine E_aload_n (n := 25) 15 rfl rfl rfl 0 rfl <| E_gF (r := 159) (n := 28) 16 rfl rfl fg_12_115 sh_133 rfl <| E_bipush (v := 116) (n := 30) 17 rfl rfl bpz_116 <| E_iload_n (n := 31) 18 rfl rfl rfl 1 rfl <| E_imul (n := 32) 19 rfl rfl <| E_iload_n (n := 33) 20 rfl rfl rfl 2 rfl <| E_iadd (n := 34) 21 rfl rfl <| E_aload_n (n := 35) 22 rfl rfl rfl 0 rfl <| E_gF (r := 135) (n := 38) 23 rfl rfl fg_12_33 sh_133 rfl <| E_iload_n (n := 39) 24 rfl rfl rfl 2 rfl <| E_iald (n := 40) 25 rfl rfl sh_135 hc1 <| E_iast (n := 41) 26 rfl rfl sh_159 hc2 <| E_mem hm3 <| E_iinc (v := (x2 + 1)) (lv' := [(0, .ref 133), (1, .int x1), (2, .int (x2 + 1))]) (n := 44) 27 rfl rfl 2 rfl (by rw [icz_1]) (Nat.le_of_ble_eq_true rfl) [1, 2, 0] rfl <| E_goto (t := 18) 28 rfl rfl <| ?_
      exact ih m3 (x2 + 1) h
theorem RM_image_L49_ok (x1 : Int32) (kx : Mem → Option (Int32 × Mem)) (R : Int32 × Mem) (hx : ∀ (m : Mem), kx m = some R → E M_RM_image 78 [(0, .ref 133), (1, .int x1)] [] m (qI R.1 R.2)) : ∀ (n : Nat) (m : Mem) (x2 : Int32), RM_image_L49 x1 kx n m x2 = some R → E M_RM_image 49 [(0, .ref 133), (1, .int x1), (2, .int x2)] [] m (qI R.1 R.2) := by
  intro n
  induction n with
  | zero =>
    intro m x2 h
    exact absurd (show none = some R from h) (fun e => Option.some_ne_none R e.symm)
  | succ n ih =>
    intro m x2 h
    rw [RM_image_L49] at h
    refine E_iload_n (n := 50) 31 rfl rfl rfl 2 rfl <| E_bipush (v := 13) (n := 52) 32 rfl rfl bpz_13 <| E_icmp_ge (n := 55) (t := 78) 33 rfl rfl rfl (fun hc => ?_) (fun hc => ?_)
    · have h := ifp h hc
      refine E_sub (lv' := [(0, .ref 133), (1, .int x1)]) [0, 1] rfl ?_
      exact hx m h
    · have h := ifn h hc
      obtain ⟨hc1, h⟩ := ift h
      obtain ⟨hc2, h⟩ := ift h
      obtain ⟨m3, hm3, h⟩ := letM_ex h
      refine E_aload_n (n := 56) 34 rfl rfl rfl 0 rfl <| E_gF (r := 160) (n := 59) 35 rfl rfl fg_12_118 sh_133 rfl <| E_bipush (v := 13) (n := 61) 36 rfl rfl bpz_13 <| E_iload_n (n := 62) 37 rfl rfl rfl 1 rfl <| E_imul (n := 63) 38 rfl rfl <| E_iload_n (n := 64) 39 rfl rfl rfl 2 rfl <| E_iadd (n := 65) 40 rfl rfl <| E_aload_n (n := 66) 41 rfl rfl rfl 0 rfl <| E_gF (r := 137) (n := 69) 42 rfl rfl fg_12_40 sh_133 rfl <| E_iload_n (n := 70) 43 rfl rfl rfl 2 rfl <| E_lald (n := 71) 44 rfl rfl sh_137 hc1 <| E_last (n := 72) 45 rfl rfl sh_160 hc2 <| E_mem hm3 <| E_iinc (v := (x2 + 1)) (lv' := [(0, .ref 133), (1, .int x1), (2, .int (x2 + 1))]) (n := 75) 46 rfl rfl 2 rfl (by rw [icz_1]) (Nat.le_of_ble_eq_true rfl) [1, 2, 0] rfl <| E_goto (t := 49) 47 rfl rfl <| ?_
      exact ih m3 (x2 + 1) h
theorem K_RM_image (m : Mem) (x1 : Int32) (R : Int32 × Mem) (h : RM_image m x1 = some R) : Mt M_RM_image [.ref 133, .int x1] m (qI R.1 R.2) := by
  refine Mt.of G_RM_image (Nat.le_of_ble_eq_true rfl) (E_sub (lv' := [(0, .ref 133), (1, .int x1)]) [0, 1] rfl ?_)
  unfold RM_image at h
  obtain ⟨m1, hm1, h⟩ := letM_ex h
  refine E_aload_n (n := 1) 0 rfl rfl rfl 0 rfl <| E_iconst (v := 0) (n := 2) 1 rfl rfl icz_0 <| E_pI (n := 5) 2 rfl rfl fp_12_1 sh_133 <| E_mem hm1 <| E_iload_n (n := 6) 3 rfl rfl rfl 1 rfl <| E_iconst (v := 0) (n := 7) 4 rfl rfl icz_0 <| E_iconst (v := 1) (n := 8) 5 rfl rfl icz_1 <| E_dS3r (n := 11) 6 rfl rfl co_12_203 rfl rfl (K_RM_isIn m1 x1 0 1 _ rfl) <| E_if_ne (n := 14) (t := 16) 7 rfl rfl rfl (fun hc => ?_) (fun hc => ?_)
  · have h := ifn h hc
    refine E_iconst (v := 0) (n := 17) 10 rfl rfl icz_0 <| E_istore_n (lv' := [(0, .ref 133), (1, .int x1), (2, .int 0)]) (n := 18) 11 rfl rfl rfl (Nat.le_of_ble_eq_true rfl) [1, 2, 0] rfl <| ?_
    refine RM_image_L18_ok x1 _ R ?_ FU m1 0 h
    intro m2 h
    refine E_iconst (v := 0) (n := 48) 29 rfl rfl icz_0 <| E_istore_n (lv' := [(0, .ref 133), (1, .int x1), (2, .int 0)]) (n := 49) 30 rfl rfl rfl (Nat.le_of_ble_eq_true rfl) [1, 2, 0] rfl <| ?_
    refine RM_image_L49_ok x1 _ R ?_ FU m2 0 h
    intro m3 h
    obtain ⟨hc4, h⟩ := ift h
    obtain ⟨m5, hm5, h⟩ := letM_ex h
    refine E_aload_n (n := 79) 48 rfl rfl rfl 0 rfl <| E_gF (r := 161) (n := 82) 49 rfl rfl fg_12_121 sh_133 rfl <| E_iload_n (n := 83) 50 rfl rfl rfl 1 rfl <| E_iconst (v := 1) (n := 84) 51 rfl rfl icz_1 <| E_zast (n := 85) 52 rfl rfl sh_161 hc4 <| E_mem hm5 <| E_iconst (v := 1) (n := 86) 53 rfl rfl icz_1 <| E_zreturn 54 rfl rfl z1 (eS h)
  · have h := ifp h hc
    refine E_iconst (v := 0) (n := 15) 8 rfl rfl icz_0 <| E_zreturn 9 rfl rfl z0 (eS h)
theorem RM_restore_L27_ok (x1 : Int32) (kx : Mem → Option (Int32 × Mem)) (R : Int32 × Mem) (hx : ∀ (m : Mem), kx m = some R → E M_RM_restore 56 [(0, .ref 133), (1, .int x1)] [] m (qI R.1 R.2)) : ∀ (n : Nat) (m : Mem) (x2 : Int32), RM_restore_L27 x1 kx n m x2 = some R → E M_RM_restore 27 [(0, .ref 133), (1, .int x1), (2, .int x2)] [] m (qI R.1 R.2) := by
  intro n
  induction n with
  | zero =>
    intro m x2 h
    exact absurd (show none = some R from h) (fun e => Option.some_ne_none R e.symm)
  | succ n ih =>
    intro m x2 h
    rw [RM_restore_L27] at h
    refine E_iload_n (n := 28) 17 rfl rfl rfl 2 rfl <| E_bipush (v := 116) (n := 30) 18 rfl rfl bpz_116 <| E_icmp_ge (n := 33) (t := 56) 19 rfl rfl rfl (fun hc => ?_) (fun hc => ?_)
    · have h := ifp h hc
      refine E_sub (lv' := [(0, .ref 133), (1, .int x1)]) [0, 1] rfl ?_
      exact hx m h
    · have h := ifn h hc
      obtain ⟨hc1, h⟩ := ift h
      obtain ⟨hc2, h⟩ := ift h
      obtain ⟨m3, hm3, h⟩ := letM_ex h
      refine E_aload_n (n := 34) 20 rfl rfl rfl 0 rfl <| E_gF (r := 135) (n := 37) 21 rfl rfl fg_12_33 sh_133 rfl <| E_iload_n (n := 38) 22 rfl rfl rfl 2 rfl <| E_aload_n (n := 39) 23 rfl rfl rfl 0 rfl <| E_gF (r := 159) (n := 42) 24 rfl rfl fg_12_115 sh_133 rfl <| E_bipush (v := 116) (n := 44) 25 rfl rfl bpz_116 <| E_iload_n (n := 45) 26 rfl rfl rfl 1 rfl <| E_imul (n := 46) 27 rfl rfl <| E_iload_n (n := 47) 28 rfl rfl rfl 2 rfl <| E_iadd (n := 48) 29 rfl rfl <| E_iald (n := 49) 30 rfl rfl sh_159 hc1 <| E_iast (n := 50) 31 rfl rfl sh_135 hc2 <| E_mem hm3 <| E_iinc (v := (x2 + 1)) (lv' := [(0, .ref 133), (1, .int x1), (2, .int (x2 + 1))]) (n := 53) 32 rfl rfl 2 rfl (by rw [icz_1]) (Nat.le_of_ble_eq_true rfl) [1, 2, 0] rfl <| E_goto (t := 27) 33 rfl rfl <| ?_
      exact ih m3 (x2 + 1) h
theorem RM_restore_L58_ok (x1 : Int32) (kx : Mem → Option (Int32 × Mem)) (R : Int32 × Mem) (hx : ∀ (m : Mem), kx m = some R → E M_RM_restore 87 [(0, .ref 133)] [] m (qI R.1 R.2)) : ∀ (n : Nat) (m : Mem) (x2 : Int32), RM_restore_L58 x1 kx n m x2 = some R → E M_RM_restore 58 [(0, .ref 133), (1, .int x1), (2, .int x2)] [] m (qI R.1 R.2) := by
  intro n
  induction n with
  | zero =>
    intro m x2 h
    exact absurd (show none = some R from h) (fun e => Option.some_ne_none R e.symm)
  | succ n ih =>
    intro m x2 h
    rw [RM_restore_L58] at h
    refine E_iload_n (n := 59) 36 rfl rfl rfl 2 rfl <| E_bipush (v := 13) (n := 61) 37 rfl rfl bpz_13 <| E_icmp_ge (n := 64) (t := 87) 38 rfl rfl rfl (fun hc => ?_) (fun hc => ?_)
    · have h := ifp h hc
      refine E_sub (lv' := [(0, .ref 133)]) [0] rfl ?_
      exact hx m h
    · have h := ifn h hc
      obtain ⟨hc1, h⟩ := ift h
      obtain ⟨hc2, h⟩ := ift h
      obtain ⟨m3, hm3, h⟩ := letM_ex h
      refine E_aload_n (n := 65) 39 rfl rfl rfl 0 rfl <| E_gF (r := 137) (n := 68) 40 rfl rfl fg_12_40 sh_133 rfl <| E_iload_n (n := 69) 41 rfl rfl rfl 2 rfl <| E_aload_n (n := 70) 42 rfl rfl rfl 0 rfl <| E_gF (r := 160) (n := 73) 43 rfl rfl fg_12_118 sh_133 rfl <| E_bipush (v := 13) (n := 75) 44 rfl rfl bpz_13 <| E_iload_n (n := 76) 45 rfl rfl rfl 1 rfl <| E_imul (n := 77) 46 rfl rfl <| E_iload_n (n := 78) 47 rfl rfl rfl 2 rfl <| E_iadd (n := 79) 48 rfl rfl <| E_lald (n := 80) 49 rfl rfl sh_160 hc1 <| E_last (n := 81) 50 rfl rfl sh_137 hc2 <| E_mem hm3 <| E_iinc (v := (x2 + 1)) (lv' := [(0, .ref 133), (1, .int x1), (2, .int (x2 + 1))]) (n := 84) 51 rfl rfl 2 rfl (by rw [icz_1]) (Nat.le_of_ble_eq_true rfl) [1, 2, 0] rfl <| E_goto (t := 58) 52 rfl rfl <| ?_
      exact ih m3 (x2 + 1) h
theorem K_RM_restore (m : Mem) (x1 : Int32) (R : Int32 × Mem) (h : RM_restore m x1 = some R) : Mt M_RM_restore [.ref 133, .int x1] m (qI R.1 R.2) := by
  refine Mt.of G_RM_restore (Nat.le_of_ble_eq_true rfl) (E_sub (lv' := [(0, .ref 133), (1, .int x1)]) [0, 1] rfl ?_)
  unfold RM_restore at h
  obtain ⟨m1, hm1, h⟩ := letM_ex h
  refine E_aload_n (n := 1) 0 rfl rfl rfl 0 rfl <| E_iconst (v := 0) (n := 2) 1 rfl rfl icz_0 <| E_pI (n := 5) 2 rfl rfl fp_12_1 sh_133 <| E_mem hm1 <| E_iload_n (n := 6) 3 rfl rfl rfl 1 rfl <| E_iconst (v := 0) (n := 7) 4 rfl rfl icz_0 <| E_iconst (v := 1) (n := 8) 5 rfl rfl icz_1 <| E_dS3r (n := 11) 6 rfl rfl co_12_203 rfl rfl (K_RM_isIn m1 x1 0 1 _ rfl) <| E_if_eq (n := 14) (t := 23) 7 rfl rfl rfl (fun hc => ?_) (fun hc => ?_)
  · have h := ifp h hc
    refine E_iconst (v := 0) (n := 24) 13 rfl rfl icz_0 <| E_zreturn 14 rfl rfl z0 (eS h)
  · have h := ifn h hc
    obtain ⟨hc2, h⟩ := ift h
    refine E_aload_n (n := 15) 8 rfl rfl rfl 0 rfl <| E_gF (r := 161) (n := 18) 9 rfl rfl fg_12_121 sh_133 rfl <| E_iload_n (n := 19) 10 rfl rfl rfl 1 rfl <| E_zald (n := 20) 11 rfl rfl sh_161 hc2 <| E_if_ne (n := 23) (t := 25) 12 rfl rfl rfl (fun hc => ?_) (fun hc => ?_)
    · have h := ifn h hc
      refine E_iconst (v := 0) (n := 26) 15 rfl rfl icz_0 <| E_istore_n (lv' := [(0, .ref 133), (1, .int x1), (2, .int 0)]) (n := 27) 16 rfl rfl rfl (Nat.le_of_ble_eq_true rfl) [1, 2, 0] rfl <| ?_
      refine RM_restore_L27_ok x1 _ R ?_ FU m1 0 h
      intro m3 h
      refine E_iconst (v := 0) (n := 57) 34 rfl rfl icz_0 <| E_istore_n (lv' := [(0, .ref 133), (1, .int x1), (2, .int 0)]) (n := 58) 35 rfl rfl rfl (Nat.le_of_ble_eq_true rfl) [1, 2, 0] rfl <| ?_
      refine RM_restore_L58_ok x1 _ R ?_ FU m3 0 h
      intro m4 h
      obtain ⟨m5, hm5, h⟩ := letM_ex h
      refine E_aload_n (n := 88) 53 rfl rfl rfl 0 rfl <| E_iconst (v := 0) (n := 89) 54 rfl rfl icz_0 <| E_pI (n := 92) 55 rfl rfl fp_12_253 sh_133 <| E_mem hm5 <| E_iconst (v := 1) (n := 93) 56 rfl rfl icz_1 <| E_zreturn 57 rfl rfl z1 (eS h)
    · have h := ifp h hc
      refine E_iconst (v := 0) (n := 24) 13 rfl rfl icz_0 <| E_zreturn 14 rfl rfl z0 (eS h)
theorem K_RM_count (m : Mem) (x1 : Int32) (R : Int32 × Mem) (h : RM_count m x1 = some R) : Mt M_RM_count [.ref 133, .int x1] m (qI R.1 R.2) := by
  refine Mt.of G_RM_count (Nat.le_of_ble_eq_true rfl) (E_sub (lv' := [(0, .ref 133), (1, .int x1)]) [0, 1] rfl ?_)
  unfold RM_count at h
  obtain ⟨m1, hm1, h⟩ := letM_ex h
  refine E_aload_n (n := 1) 0 rfl rfl rfl 0 rfl <| E_iconst (v := 0) (n := 2) 1 rfl rfl icz_0 <| E_pI (n := 5) 2 rfl rfl fp_12_1 sh_133 <| E_mem hm1 <| E_iload_n (n := 6) 3 rfl rfl rfl 1 rfl <| E_bipush (v := 7) (n := 8) 4 rfl rfl bpz_7 <| E_icmp_ne (n := 11) (t := 18) 5 rfl rfl rfl (fun hc => ?_) (fun hc => ?_)
  · have h := ifn h hc
    refine E_iload_n (n := 19) 9 rfl rfl rfl 1 rfl <| E_iconst (v := 0) (n := 20) 10 rfl rfl icz_0 <| E_bipush (v := 6) (n := 22) 11 rfl rfl bpz_6 <| E_dS3r (n := 25) 12 rfl rfl co_12_203 rfl rfl (K_RM_isIn m1 x1 0 6 _ rfl) <| E_if_eq (n := 28) (t := 37) 13 rfl rfl rfl (fun hc => ?_) (fun hc => ?_)
    · have h := ifp h hc
      refine E_iconst (v := (-1)) (n := 38) 19 rfl rfl icz_m1 <| ?_
      refine E_ireturn 20 rfl rfl (eS h)
    · have h := ifn h hc
      obtain ⟨hc2, h⟩ := ift h
      refine E_aload_n (n := 29) 14 rfl rfl rfl 0 rfl <| E_gF (r := 135) (n := 32) 15 rfl rfl fg_12_33 sh_133 rfl <| E_iload_n (n := 33) 16 rfl rfl rfl 1 rfl <| E_iald (n := 34) 17 rfl rfl sh_135 hc2 <| E_goto (t := 38) 18 rfl rfl <| ?_
      refine E_ireturn 20 rfl rfl (eS h)
  · have h := ifp h hc
    refine E_aload_n (n := 12) 6 rfl rfl rfl 0 rfl <| E_gI (n := 15) 7 rfl rfl fg_12_7 sh_133 <| E_goto (t := 38) 8 rfl rfl <| ?_
    refine E_ireturn 20 rfl rfl (eS h)

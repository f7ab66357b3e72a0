theorem K_RM_isOnLine (m : Mem) (x1 : Int32) (x2 : Int32) (R : Int32) (h : RM_isOnLine m x1 x2 = some R) : Mt M_RM_isOnLine [.ref 133, .int x1, .int x2] m (qI R m) := by
  refine Mt.of G_RM_isOnLine (Nat.le_of_ble_eq_true rfl) (E_sub (lv' := [(0, .ref 133), (1, .int x1), (2, .int x2)]) [0, 1, 2] rfl ?_)
  unfold RM_isOnLine at h
  refine E_iconst (v := 0) (n := 1) 0 rfl rfl icz_0 <| E_istore_n (lv' := [(0, .ref 133), (1, .int x1), (2, .int x2), (3, .int 0)]) (n := 2) 1 rfl rfl rfl (Nat.le_of_ble_eq_true rfl) [1, 2, 3, 0] rfl <| ?_
  refine RM_isOnLine_L2_ok m x1 x2 _ R ?_ FU 0 h
  intro h
  refine E_iconst (v := 0) (n := 29) 16 rfl rfl icz_0 <| E_zreturn 17 rfl rfl z0 (eP h)
theorem RM_rounds_J143_ok (kr : Mem → Int32 → Option Mem) (kx : Mem → Option Mem) (m : Mem) (x1 : Int32) (x2 : Int32) (x3 : Int32) (x5 : Int32) (x6 : Int32) (R : Mem) (hr : ∀ (m : Mem) (x3 : Int32), kr m x3 = some R → E M_RM_rounds 12 [(0, .ref 133), (1, .int x1), (2, .int x2), (3, .int x3)] [] m (qV R)) (hx : ∀ (m : Mem), kx m = some R → E M_RM_rounds 179 [] [] m (qV R)) (h : RM_rounds_J143 kr kx m x1 x2 x3 x5 x6 = some R) : E M_RM_rounds 143 [(0, .ref 133), (1, .int x1), (2, .int x2), (3, .int x3), (5, .int x5), (6, .int x6)] [] m (qV R) := by
  unfold RM_rounds_J143 at h
  refine E_iload (n := 145) 88 rfl rfl 4 rfl <| E_if_eq (n := 148) (t := 173) 89 rfl rfl rfl (fun hc => ?_) (fun hc => ?_)
  · have h := ifp h hc
    refine E_iinc (v := (x3 + 1)) (lv' := [(0, .ref 133), (1, .int x1), (2, .int x2), (3, .int (x3 + 1)), (5, .int x5), (6, .int x6)]) (n := 176) 104 rfl rfl 3 rfl (by rw [icz_1]) (Nat.le_of_ble_eq_true rfl) [1, 2, 3, 0, 4, 5] rfl <| E_goto (t := 12) 105 rfl rfl <| ?_
    refine E_sub (lv' := [(0, .ref 133), (1, .int x1), (2, .int x2), (3, .int (x3 + 1))]) [0, 1, 2, 3] rfl ?_
    exact hr m (x3 + 1) h
  · have h := ifn h hc
    refine E_iload (n := 150) 90 rfl rfl 5 rfl <| E_if_ge (n := 153) (t := 173) 91 rfl rfl rfl (fun hc => ?_) (fun hc => ?_)
    · have h := ifp h hc
      refine E_iinc (v := (x3 + 1)) (lv' := [(0, .ref 133), (1, .int x1), (2, .int x2), (3, .int (x3 + 1)), (5, .int x5), (6, .int x6)]) (n := 176) 104 rfl rfl 3 rfl (by rw [icz_1]) (Nat.le_of_ble_eq_true rfl) [1, 2, 3, 0, 4, 5] rfl <| E_goto (t := 12) 105 rfl rfl <| ?_
      refine E_sub (lv' := [(0, .ref 133), (1, .int x1), (2, .int x2), (3, .int (x3 + 1))]) [0, 1, 2, 3] rfl ?_
      exact hr m (x3 + 1) h
    · have h := ifn h hc
      obtain ⟨m1, hm1, h⟩ := letM_ex h
      obtain ⟨m2, hm2, h⟩ := letM_ex h
      refine E_aload_n (n := 154) 92 rfl rfl rfl 0 rfl <| E_dup (n := 155) 93 rfl rfl rfl <| E_gI (n := 158) 94 rfl rfl fg_12_275 sh_133 <| E_iconst (v := 1) (n := 159) 95 rfl rfl icz_1 <| E_iadd (n := 160) 96 rfl rfl <| E_pI (n := 163) 97 rfl rfl fp_12_275 sh_133 <| E_mem hm1 <| E_aload_n (n := 164) 98 rfl rfl rfl 0 rfl <| E_dup (n := 165) 99 rfl rfl rfl <| E_gI (n := 168) 100 rfl rfl fg_12_278 sh_133 <| E_iconst (v := 1) (n := 169) 101 rfl rfl icz_1 <| E_isub (n := 170) 102 rfl rfl <| E_pI (n := 173) 103 rfl rfl fp_12_278 sh_133 <| E_mem hm2 <| ?_
      refine E_iinc (v := (x3 + 1)) (lv' := [(0, .ref 133), (1, .int x1), (2, .int x2), (3, .int (x3 + 1)), (5, .int x5), (6, .int x6)]) (n := 176) 104 rfl rfl 3 rfl (by rw [icz_1]) (Nat.le_of_ble_eq_true rfl) [1, 2, 3, 0, 4, 5] rfl <| E_goto (t := 12) 105 rfl rfl <| ?_
      refine E_sub (lv' := [(0, .ref 133), (1, .int x1), (2, .int x2), (3, .int (x3 + 1))]) [0, 1, 2, 3] rfl ?_
      exact hr m2 (x3 + 1) h
theorem RM_rounds_J76_ok (kr : Mem → Int32 → Option Mem) (kx : Mem → Option Mem) (m : Mem) (x1 : Int32) (x2 : Int32) (x3 : Int32) (x4 : Int32) (s0 : Int32) (R : Mem) (hr : ∀ (m : Mem) (x3 : Int32), kr m x3 = some R → E M_RM_rounds 12 [(0, .ref 133), (1, .int x1), (2, .int x2), (3, .int x3)] [] m (qV R)) (hx : ∀ (m : Mem), kx m = some R → E M_RM_rounds 179 [] [] m (qV R)) (h : RM_rounds_J76 kr kx m x1 x2 x3 x4 s0 = some R) : E M_RM_rounds 76 [(0, .ref 133), (1, .int x1), (2, .int x2), (3, .int x3), (4, .int x4)] [.int s0] m (qV R) := by
  unfold RM_rounds_J76 at h
  obtain ⟨hc1, h⟩ := ift h
  obtain ⟨hc2, h⟩ := ift h
  obtain ⟨v3, hv3, h⟩ := letV_ex h
  refine E_istore (lv' := [(0, .ref 133), (1, .int x1), (2, .int x2), (3, .int x3), (4, .int x4), (5, .int s0)]) (n := 78) 47 rfl rfl (Nat.le_of_ble_eq_true rfl) [1, 2, 3, 4, 5, 0] rfl <| E_aload_n (n := 79) 48 rfl rfl rfl 0 rfl <| E_gF (r := 139) (n := 82) 49 rfl rfl fg_12_47 sh_133 rfl <| E_iload_n (n := 83) 50 rfl rfl rfl 3 rfl <| E_iald (n := 84) 51 rfl rfl sh_139 hc1 <| E_aload_n (n := 85) 52 rfl rfl rfl 0 rfl <| E_gF (r := 140) (n := 88) 53 rfl rfl fg_12_50 sh_133 rfl <| E_iload_n (n := 89) 54 rfl rfl rfl 3 rfl <| E_iald (n := 90) 55 rfl rfl sh_140 hc1 <| E_aload_n (n := 91) 56 rfl rfl rfl 0 rfl <| E_gF (r := 139) (n := 94) 57 rfl rfl fg_12_47 sh_133 rfl <| E_iload_n (n := 95) 58 rfl rfl rfl 3 rfl <| E_iconst (v := 1) (n := 96) 59 rfl rfl icz_1 <| E_iadd (n := 97) 60 rfl rfl <| E_iald (n := 98) 61 rfl rfl sh_139 hc2 <| E_aload_n (n := 99) 62 rfl rfl rfl 0 rfl <| E_gF (r := 140) (n := 102) 63 rfl rfl fg_12_50 sh_133 rfl <| E_iload_n (n := 103) 64 rfl rfl rfl 3 rfl <| E_iconst (v := 1) (n := 104) 65 rfl rfl icz_1 <| E_iadd (n := 105) 66 rfl rfl <| E_iald (n := 106) 67 rfl rfl sh_140 hc2 <| E_iload_n (n := 107) 68 rfl rfl rfl 1 rfl <| E_iload_n (n := 108) 69 rfl rfl rfl 2 rfl <| E_dS6r (n := 111) 70 rfl rfl co_12_265 rfl rfl (K_RM_turn m (gI m 139 (ixn x3)) (gI m 140 (ixn x3)) (gI m 139 (ixn (x3 + 1))) (gI m 140 (ixn (x3 + 1))) x1 x2 _ rfl) <| E_top hv3 <| E_istore (lv' := [(0, .ref 133), (1, .int x1), (2, .int x2), (3, .int x3), (4, .int x4), (5, .int s0), (6, .int v3)]) (n := 113) 71 rfl rfl (Nat.le_of_ble_eq_true rfl) [1, 2, 3, 4, 5, 6, 0] rfl <| E_iload (n := 115) 72 rfl rfl 4 rfl <| E_if_eq (n := 118) (t := 143) 73 rfl rfl rfl (fun hc => ?_) (fun hc => ?_)
  · have h := ifp h hc
    refine E_sub (lv' := [(0, .ref 133), (1, .int x1), (2, .int x2), (3, .int x3), (5, .int s0), (6, .int v3)]) [0, 1, 2, 3, 5, 6] rfl ?_
    exact RM_rounds_J143_ok _ _ m x1 x2 x3 s0 v3 _ hr hx h
  · have h := ifn h hc
    refine E_iload (n := 120) 74 rfl rfl 6 rfl <| E_if_le (n := 123) (t := 143) 75 rfl rfl rfl (fun hc => ?_) (fun hc => ?_)
    · have h := ifp h hc
      refine E_sub (lv' := [(0, .ref 133), (1, .int x1), (2, .int x2), (3, .int x3), (5, .int s0), (6, .int v3)]) [0, 1, 2, 3, 5, 6] rfl ?_
      exact RM_rounds_J143_ok _ _ m x1 x2 x3 s0 v3 _ hr hx h
    · have h := ifn h hc
      obtain ⟨m4, hm4, h⟩ := letM_ex h
      obtain ⟨m5, hm5, h⟩ := letM_ex h
      refine E_aload_n (n := 124) 76 rfl rfl rfl 0 rfl <| E_dup (n := 125) 77 rfl rfl rfl <| E_gI (n := 128) 78 rfl rfl fg_12_275 sh_133 <| E_iconst (v := 1) (n := 129) 79 rfl rfl icz_1 <| E_iadd (n := 130) 80 rfl rfl <| E_pI (n := 133) 81 rfl rfl fp_12_275 sh_133 <| E_mem hm4 <| E_aload_n (n := 134) 82 rfl rfl rfl 0 rfl <| E_dup (n := 135) 83 rfl rfl rfl <| E_gI (n := 138) 84 rfl rfl fg_12_278 sh_133 <| E_iconst (v := 1) (n := 139) 85 rfl rfl icz_1 <| E_iadd (n := 140) 86 rfl rfl <| E_pI (n := 143) 87 rfl rfl fp_12_278 sh_133 <| E_mem hm5 <| ?_
      refine E_sub (lv' := [(0, .ref 133), (1, .int x1), (2, .int x2), (3, .int x3), (5, .int s0), (6, .int v3)]) [0, 1, 2, 3, 5, 6] rfl ?_
      exact RM_rounds_J143_ok _ _ m5 x1 x2 x3 s0 v3 _ hr hx h
theorem RM_rounds_J47_ok (kr : Mem → Int32 → Option Mem) (kx : Mem → Option Mem) (m : Mem) (x1 : Int32) (x2 : Int32) (x3 : Int32) (s0 : Int32) (R : Mem) (hr : ∀ (m : Mem) (x3 : Int32), kr m x3 = some R → E M_RM_rounds 12 [(0, .ref 133), (1, .int x1), (2, .int x2), (3, .int x3)] [] m (qV R)) (hx : ∀ (m : Mem), kx m = some R → E M_RM_rounds 179 [] [] m (qV R)) (h : RM_rounds_J47 kr kx m x1 x2 x3 s0 = some R) : E M_RM_rounds 47 [(0, .ref 133), (1, .int x1), (2, .int x2), (3, .int x3)] [.int s0] m (qV R) := by
  unfold RM_rounds_J47 at h
  obtain ⟨hc1, h⟩ := ift h
  refine E_istore (lv' := [(0, .ref 133), (1, .int x1), (2, .int x2), (3, .int x3), (4, .int s0)]) (n := 49) 29 rfl rfl (Nat.le_of_ble_eq_true rfl) [1, 2, 3, 4, 0] rfl <| E_aload_n (n := 50) 30 rfl rfl rfl 0 rfl <| E_gF (r := 140) (n := 53) 31 rfl rfl fg_12_50 sh_133 rfl <| E_iload_n (n := 54) 32 rfl rfl rfl 3 rfl <| E_iconst (v := 1) (n := 55) 33 rfl rfl icz_1 <| E_iadd (n := 56) 34 rfl rfl <| E_iald (n := 57) 35 rfl rfl sh_140 hc1 <| E_iload_n (n := 58) 36 rfl rfl rfl 2 rfl <| E_icmp_gt (n := 61) (t := 75) 37 rfl rfl rfl (fun hc => ?_) (fun hc => ?_)
  · have h := ifp h hc
    refine E_iconst (v := 0) (n := 76) 46 rfl rfl icz_0 <| ?_
    exact RM_rounds_J76_ok _ _ m x1 x2 x3 s0 0 _ hr hx h
  · have h := ifn h hc
    obtain ⟨hc2, h⟩ := ift h
    refine E_iload_n (n := 62) 38 rfl rfl rfl 2 rfl <| E_aload_n (n := 63) 39 rfl rfl rfl 0 rfl <| E_gF (r := 140) (n := 66) 40 rfl rfl fg_12_50 sh_133 rfl <| E_iload_n (n := 67) 41 rfl rfl rfl 3 rfl <| E_iald (n := 68) 42 rfl rfl sh_140 hc2 <| E_icmp_ge (n := 71) (t := 75) 43 rfl rfl rfl (fun hc => ?_) (fun hc => ?_)
    · have h := ifp h hc
      refine E_iconst (v := 0) (n := 76) 46 rfl rfl icz_0 <| ?_
      exact RM_rounds_J76_ok _ _ m x1 x2 x3 s0 0 _ hr hx h
    · have h := ifn h hc
      refine E_iconst (v := 1) (n := 72) 44 rfl rfl icz_1 <| E_goto (t := 76) 45 rfl rfl <| ?_
      exact RM_rounds_J76_ok _ _ m x1 x2 x3 s0 1 _ hr hx h
theorem RM_rounds_L12_ok (x1 : Int32) (x2 : Int32) (kx : Mem → Option Mem) (R : Mem) (hx : ∀ (m : Mem), kx m = some R → E M_RM_rounds 179 [] [] m (qV R)) : ∀ (n : Nat) (m : Mem) (x3 : Int32), RM_rounds_L12 x1 x2 kx n m x3 = some R → E M_RM_rounds 12 [(0, .ref 133), (1, .int x1), (2, .int x2), (3, .int x3)] [] m (qV R) := by
  intro n
  induction n with
  | zero =>
    intro m x3 h
    exact absurd (show none = some R from h) (fun e => Option.some_ne_none R e.symm)
  | succ n ih =>
    intro m x3 h
    rw [RM_rounds_L12] at h
    refine E_iload_n (n := 13) 8 rfl rfl rfl 3 rfl <| E_aload_n (n := 14) 9 rfl rfl rfl 0 rfl <| E_gI (n := 17) 10 rfl rfl fg_12_259 sh_133 <| E_icmp_ge (n := 20) (t := 179) 11 rfl rfl rfl (fun hc => ?_) (fun hc => ?_)
    · have h := ifp h hc
      refine E_sub (lv' := []) [] rfl ?_
      exact hx m h
    · have h := ifn h hc
      obtain ⟨hc1, h⟩ := ift h
      refine E_aload_n (n := 21) 12 rfl rfl rfl 0 rfl <| E_gF (r := 140) (n := 24) 13 rfl rfl fg_12_50 sh_133 rfl <| E_iload_n (n := 25) 14 rfl rfl rfl 3 rfl <| E_iald (n := 26) 15 rfl rfl sh_140 hc1 <| E_iload_n (n := 27) 16 rfl rfl rfl 2 rfl <| E_icmp_gt (n := 30) (t := 46) 17 rfl rfl rfl (fun hc => ?_) (fun hc => ?_)
      · have h := ifp h hc
        refine E_iconst (v := 0) (n := 47) 28 rfl rfl icz_0 <| ?_
        exact RM_rounds_J47_ok _ _ m x1 x2 x3 0 _ ih hx h
      · have h := ifn h hc
        obtain ⟨hc2, h⟩ := ift h
        refine E_iload_n (n := 31) 18 rfl rfl rfl 2 rfl <| E_aload_n (n := 32) 19 rfl rfl rfl 0 rfl <| E_gF (r := 140) (n := 35) 20 rfl rfl fg_12_50 sh_133 rfl <| E_iload_n (n := 36) 21 rfl rfl rfl 3 rfl <| E_iconst (v := 1) (n := 37) 22 rfl rfl icz_1 <| E_iadd (n := 38) 23 rfl rfl <| E_iald (n := 39) 24 rfl rfl sh_140 hc2 <| E_icmp_ge (n := 42) (t := 46) 25 rfl rfl rfl (fun hc => ?_) (fun hc => ?_)
        · have h := ifp h hc
          refine E_iconst (v := 0) (n := 47) 28 rfl rfl icz_0 <| ?_
          exact RM_rounds_J47_ok _ _ m x1 x2 x3 0 _ ih hx h
        · have h := ifn h hc
          refine E_iconst (v := 1) (n := 43) 26 rfl rfl icz_1 <| E_goto (t := 47) 27 rfl rfl <| ?_
          exact RM_rounds_J47_ok _ _ m x1 x2 x3 1 _ ih hx h
theorem K_RM_rounds (m : Mem) (x1 : Int32) (x2 : Int32) (R : Mem) (h : RM_rounds m x1 x2 = some R) : Mt M_RM_rounds [.ref 133, .int x1, .int x2] m (qV R) := by
  refine Mt.of G_RM_rounds (Nat.le_of_ble_eq_true rfl) (E_sub (lv' := [(0, .ref 133), (1, .int x1), (2, .int x2)]) [0, 1, 2] rfl ?_)
  unfold RM_rounds at h
  obtain ⟨m1, hm1, h⟩ := letM_ex h
  obtain ⟨m2, hm2, h⟩ := letM_ex h
  refine E_aload_n (n := 1) 0 rfl rfl rfl 0 rfl <| E_iconst (v := 0) (n := 2) 1 rfl rfl icz_0 <| E_pI (n := 5) 2 rfl rfl fp_12_275 sh_133 <| E_mem hm1 <| E_aload_n (n := 6) 3 rfl rfl rfl 0 rfl <| E_iconst (v := 0) (n := 7) 4 rfl rfl icz_0 <| E_pI (n := 10) 5 rfl rfl fp_12_278 sh_133 <| E_mem hm2 <| E_iconst (v := 0) (n := 11) 6 rfl rfl icz_0 <| E_istore_n (lv' := [(0, .ref 133), (1, .int x1), (2, .int x2), (3, .int 0)]) (n := 12) 7 rfl rfl rfl (Nat.le_of_ble_eq_true rfl) [1, 2, 3, 0] rfl <| ?_
  refine RM_rounds_L12_ok x1 x2 _ R ?_ FU m2 0 h
  intro m3 h
  refine E_return 106 rfl rfl (eV h)
theorem K_RM_isHis (m : Mem) (x1 : Int32) (x2 : Int32) (R : Int32 × Mem) (h : RM_isHis m x1 x2 = some R) : Mt M_RM_isHis [.ref 133, .int x1, .int x2] m (qI R.1 R.2) := by
  refine Mt.of G_RM_isHis (Nat.le_of_ble_eq_true rfl) (E_sub (lv' := [(0, .ref 133), (1, .int x1), (2, .int x2)]) [0, 1, 2] rfl ?_)
  unfold RM_isHis at h
  obtain ⟨v1, hq2, h⟩ := bI_ex h
  refine E_aload_n (n := 1) 0 rfl rfl rfl 0 rfl <| E_iload_n (n := 2) 1 rfl rfl rfl 1 rfl <| E_iload_n (n := 3) 2 rfl rfl rfl 2 rfl <| E_cV2r (n := 6) 3 rfl rfl co_12_281 rfl sh_133 rfl (K_RM_isOnLine m x1 x2 _ hq2) <| E_if_eq (n := 9) (t := 25) 4 rfl rfl rfl (fun hc => ?_) (fun hc => ?_)
  · have h := ifp h hc
    obtain ⟨m3, hq4, h⟩ := bM_ex h
    obtain ⟨hc5, h⟩ := ift h
    refine E_aload_n (n := 26) 15 rfl rfl rfl 0 rfl <| E_iload_n (n := 27) 16 rfl rfl rfl 1 rfl <| E_iload_n (n := 28) 17 rfl rfl rfl 2 rfl <| E_cV2v (n := 31) 18 rfl rfl co_12_284 rfl sh_133 rfl (K_RM_rounds m x1 x2 _ hq4) <| E_aload_n (n := 32) 19 rfl rfl rfl 0 rfl <| E_gF (r := 135) (n := 35) 20 rfl rfl fg_12_33 sh_133 rfl <| E_iconst (v := 4) (n := 36) 21 rfl rfl icz_4 <| E_iald (n := 37) 22 rfl rfl sh_135 hc5 <| E_if_ne (n := 40) (t := 58) 23 rfl rfl rfl (fun hc => ?_) (fun hc => ?_)
    · have h := ifn h hc
      refine E_aload_n (n := 59) 34 rfl rfl rfl 0 rfl <| E_gF (r := 135) (n := 62) 35 rfl rfl fg_12_33 sh_133 rfl <| E_iconst (v := 4) (n := 63) 36 rfl rfl icz_4 <| E_iald (n := 64) 37 rfl rfl sh_135 hc5 <| E_iconst (v := 1) (n := 65) 38 rfl rfl icz_1 <| E_icmp_ne (n := 68) (t := 83) 39 rfl rfl rfl (fun hc => ?_) (fun hc => ?_)
      · have h := ifn h hc
        refine E_aload_n (n := 84) 47 rfl rfl rfl 0 rfl <| E_gI (n := 87) 48 rfl rfl fg_12_278 sh_133 <| E_if_le (n := 90) (t := 94) 49 rfl rfl rfl (fun hc => ?_) (fun hc => ?_)
        · have h := ifp h hc
          refine E_iconst (v := 0) (n := 95) 52 rfl rfl icz_0 <| ?_
          refine E_zreturn 53 rfl rfl z0 (eS h)
        · have h := ifn h hc
          refine E_iconst (v := 1) (n := 91) 50 rfl rfl icz_1 <| E_goto (t := 95) 51 rfl rfl <| ?_
          refine E_zreturn 53 rfl rfl z1 (eS h)
      · have h := ifp h hc
        refine E_aload_n (n := 69) 40 rfl rfl rfl 0 rfl <| E_gI (n := 72) 41 rfl rfl fg_12_278 sh_133 <| E_if_eq (n := 75) (t := 79) 42 rfl rfl rfl (fun hc => ?_) (fun hc => ?_)
        · have h := ifp h hc
          refine E_iconst (v := 0) (n := 80) 45 rfl rfl icz_0 <| E_goto (t := 95) 46 rfl rfl <| ?_
          refine E_zreturn 53 rfl rfl z0 (eS h)
        · have h := ifn h hc
          refine E_iconst (v := 1) (n := 76) 43 rfl rfl icz_1 <| E_goto (t := 95) 44 rfl rfl <| ?_
          refine E_zreturn 53 rfl rfl z1 (eS h)
    · have h := ifp h hc
      refine E_aload_n (n := 41) 24 rfl rfl rfl 0 rfl <| E_gI (n := 44) 25 rfl rfl fg_12_275 sh_133 <| E_iconst (v := 2) (n := 45) 26 rfl rfl icz_2 <| E_irm (n := 46) 27 rfl rfl (by decide) <| E_iconst (v := 1) (n := 47) 28 rfl rfl icz_1 <| E_icmp_ne (n := 50) (t := 54) 29 rfl rfl rfl (fun hc => ?_) (fun hc => ?_)
      · have h := ifn h hc
        refine E_iconst (v := 0) (n := 55) 32 rfl rfl icz_0 <| E_goto (t := 95) 33 rfl rfl <| ?_
        refine E_zreturn 53 rfl rfl z0 (eS h)
      · have h := ifp h hc
        refine E_iconst (v := 1) (n := 51) 30 rfl rfl icz_1 <| E_goto (t := 95) 31 rfl rfl <| ?_
        refine E_zreturn 53 rfl rfl z1 (eS h)
  · have h := ifn h hc
    obtain ⟨hc6, h⟩ := ift h
    refine E_aload_n (n := 10) 5 rfl rfl rfl 0 rfl <| E_gF (r := 135) (n := 13) 6 rfl rfl fg_12_33 sh_133 rfl <| E_iconst (v := 5) (n := 14) 7 rfl rfl icz_5 <| E_iald (n := 15) 8 rfl rfl sh_135 hc6 <| E_iconst (v := 1) (n := 16) 9 rfl rfl icz_1 <| E_icmp_ne (n := 19) (t := 23) 10 rfl rfl rfl (fun hc => ?_) (fun hc => ?_)
    · have h := ifn h hc
      refine E_iconst (v := 0) (n := 24) 13 rfl rfl icz_0 <| ?_
      refine E_zreturn 14 rfl rfl z0 (eS h)
    · have h := ifp h hc
      refine E_iconst (v := 1) (n := 20) 11 rfl rfl icz_1 <| E_goto (t := 24) 12 rfl rfl <| ?_
      refine E_zreturn 14 rfl rfl z1 (eS h)
theorem RM_corner_J24_ok (m : Mem) (x1 : Int32) (x2 : Int32) (x3 : Int32) (s1 : Int32) (R : Int32 × Mem) (h : RM_corner_J24 m x1 x2 x3 s1 = some R) : E M_RM_corner 24 [(0, .ref 133), (1, .int x1), (2, .int x2), (3, .int x3)] [.int s1, .ref 133] m (qI R.1 R.2) := by
  unfold RM_corner_J24 at h
  obtain ⟨v1, m2, hq3, h⟩ := bV_ex h
  refine E_cV1r (n := 27) 14 rfl rfl co_12_291 rfl sh_133 rfl (K_RM_throwsIf m s1 _ hq3) <| E_if_eq (n := 30) (t := 32) 15 rfl rfl rfl (fun hc => ?_) (fun hc => ?_)
  · have h := ifp h hc
    refine E_iload_n (n := 33) 18 rfl rfl rfl 3 rfl <| E_iconst (v := 2) (n := 34) 19 rfl rfl icz_2 <| E_icmp_ge (n := 37) (t := 56) 20 rfl rfl rfl (fun hc => ?_) (fun hc => ?_)
    · have h := ifp h hc
      obtain ⟨m4, hq5, h⟩ := bM_ex h
      obtain ⟨hc6, h⟩ := ift h
      obtain ⟨v7, hv7, h⟩ := letV_ex h
      obtain ⟨hc8, h⟩ := ift h
      obtain ⟨hc9, h⟩ := ift h
      obtain ⟨hc10, h⟩ := ift h
      obtain ⟨v11, hv11, h⟩ := letV_ex h
      refine E_aload_n (n := 57) 36 rfl rfl rfl 0 rfl <| E_iload_n (n := 58) 37 rfl rfl rfl 1 rfl <| E_cV1v (n := 61) 38 rfl rfl co_12_295 rfl sh_133 rfl (K_RM_looks m2 x1 _ hq5) <| E_iload_n (n := 62) 39 rfl rfl rfl 2 rfl <| E_aload_n (n := 63) 40 rfl rfl rfl 0 rfl <| E_gI (n := 66) 41 rfl rfl fg_12_259 sh_133 <| E_iadd (n := 67) 42 rfl rfl <| E_iconst (v := 1) (n := 68) 43 rfl rfl icz_1 <| E_isub (n := 69) 44 rfl rfl <| E_aload_n (n := 70) 45 rfl rfl rfl 0 rfl <| E_gI (n := 73) 46 rfl rfl fg_12_259 sh_133 <| E_irm (n := 74) 47 rfl rfl hc6 <| E_top hv7 <| E_istore (lv' := [(0, .ref 133), (1, .int x1), (2, .int x2), (3, .int x3), (4, .int v7)]) (n := 76) 48 rfl rfl (Nat.le_of_ble_eq_true rfl) [1, 2, 3, 4, 0] rfl <| E_aload_n (n := 77) 49 rfl rfl rfl 0 rfl <| E_gF (r := 139) (n := 80) 50 rfl rfl fg_12_47 sh_133 rfl <| E_iload (n := 82) 51 rfl rfl 4 rfl <| E_iald (n := 83) 52 rfl rfl sh_139 hc8 <| E_aload_n (n := 84) 53 rfl rfl rfl 0 rfl <| E_gF (r := 140) (n := 87) 54 rfl rfl fg_12_50 sh_133 rfl <| E_iload (n := 89) 55 rfl rfl 4 rfl <| E_iald (n := 90) 56 rfl rfl sh_140 hc8 <| E_aload_n (n := 91) 57 rfl rfl rfl 0 rfl <| E_gF (r := 139) (n := 94) 58 rfl rfl fg_12_47 sh_133 rfl <| E_iload_n (n := 95) 59 rfl rfl rfl 2 rfl <| E_iald (n := 96) 60 rfl rfl sh_139 hc9 <| E_aload_n (n := 97) 61 rfl rfl rfl 0 rfl <| E_gF (r := 140) (n := 100) 62 rfl rfl fg_12_50 sh_133 rfl <| E_iload_n (n := 101) 63 rfl rfl rfl 2 rfl <| E_iald (n := 102) 64 rfl rfl sh_140 hc9 <| E_aload_n (n := 103) 65 rfl rfl rfl 0 rfl <| E_gF (r := 139) (n := 106) 66 rfl rfl fg_12_47 sh_133 rfl <| E_iload_n (n := 107) 67 rfl rfl rfl 2 rfl <| E_iconst (v := 1) (n := 108) 68 rfl rfl icz_1 <| E_iadd (n := 109) 69 rfl rfl <| E_iald (n := 110) 70 rfl rfl sh_139 hc10 <| E_aload_n (n := 111) 71 rfl rfl rfl 0 rfl <| E_gF (r := 140) (n := 114) 72 rfl rfl fg_12_50 sh_133 rfl <| E_iload_n (n := 115) 73 rfl rfl rfl 2 rfl <| E_iconst (v := 1) (n := 116) 74 rfl rfl icz_1 <| E_iadd (n := 117) 75 rfl rfl <| E_iald (n := 118) 76 rfl rfl sh_140 hc10 <| E_dS6r (n := 121) 77 rfl rfl co_12_265 rfl rfl (K_RM_turn m4 (gI m4 139 (ixn v7)) (gI m4 140 (ixn v7)) (gI m4 139 (ixn x2)) (gI m4 140 (ixn x2)) (gI m4 139 (ixn (x2 + 1))) (gI m4 140 (ixn (x2 + 1))) _ rfl) <| E_top hv11 <| E_istore (lv' := [(0, .ref 133), (1, .int x1), (2, .int x2), (3, .int x3), (4, .int v7), (5, .int v11)]) (n := 123) 78 rfl rfl (Nat.le_of_ble_eq_true rfl) [1, 2, 3, 4, 5, 0] rfl <| E_iload (n := 125) 79 rfl rfl 5 rfl <| E_if_le (n := 128) (t := 132) 80 rfl rfl rfl (fun hc => ?_) (fun hc => ?_)
      · have h := ifp h hc
        refine E_iload (n := 134) 83 rfl rfl 5 rfl <| E_if_ge (n := 137) (t := 141) 84 rfl rfl rfl (fun hc => ?_) (fun hc => ?_)
        · have h := ifp h hc
          refine E_iconst (v := 0) (n := 142) 87 rfl rfl icz_0 <| ?_
          refine E_ireturn 88 rfl rfl (eS h)
        · have h := ifn h hc
          refine E_iconst (v := (-1)) (n := 138) 85 rfl rfl icz_m1 <| E_goto (t := 142) 86 rfl rfl <| ?_
          refine E_ireturn 88 rfl rfl (eS h)
      · have h := ifn h hc
        refine E_iconst (v := 1) (n := 129) 81 rfl rfl icz_1 <| E_goto (t := 142) 82 rfl rfl <| ?_
        refine E_ireturn 88 rfl rfl (eS h)
    · have h := ifn h hc
      obtain ⟨hc12, h⟩ := ift h
      refine E_aload_n (n := 38) 21 rfl rfl rfl 0 rfl <| E_gF (r := 135) (n := 41) 22 rfl rfl fg_12_33 sh_133 rfl <| E_bipush (v := 14) (n := 43) 23 rfl rfl bpz_14 <| E_bipush (v := 24) (n := 45) 24 rfl rfl bpz_24 <| E_iload_n (n := 46) 25 rfl rfl rfl 1 rfl <| E_imul (n := 47) 26 rfl rfl <| E_iadd (n := 48) 27 rfl rfl <| E_iconst (v := 2) (n := 49) 28 rfl rfl icz_2 <| E_iload_n (n := 50) 29 rfl rfl rfl 2 rfl <| E_imul (n := 51) 30 rfl rfl <| E_iadd (n := 52) 31 rfl rfl <| E_iload_n (n := 53) 32 rfl rfl rfl 3 rfl <| E_iadd (n := 54) 33 rfl rfl <| E_iald (n := 55) 34 rfl rfl sh_135 hc12 <| E_ireturn 35 rfl rfl (eS h)
  · have h := ifn h hc
    refine E_iconst (v := 0) (n := 31) 16 rfl rfl icz_0 <| E_ireturn 17 rfl rfl (eS h)
theorem K_RM_corner (m : Mem) (x1 : Int32) (x2 : Int32) (x3 : Int32) (R : Int32 × Mem) (h : RM_corner m x1 x2 x3 = some R) : Mt M_RM_corner [.ref 133, .int x1, .int x2, .int x3] m (qI R.1 R.2) := by
  refine Mt.of G_RM_corner (Nat.le_of_ble_eq_true rfl) (E_sub (lv' := [(0, .ref 133), (1, .int x1), (2, .int x2), (3, .int x3)]) [0, 1, 2, 3] rfl ?_)
  unfold RM_corner at h
  obtain ⟨v1, hq2, h⟩ := bI_ex h
  refine E_aload_n (n := 1) 0 rfl rfl rfl 0 rfl <| E_aload_n (n := 2) 1 rfl rfl rfl 0 rfl <| E_iload_n (n := 3) 2 rfl rfl rfl 1 rfl <| E_iload_n (n := 4) 3 rfl rfl rfl 2 rfl <| E_cV2r (n := 7) 4 rfl rfl co_12_288 rfl sh_133 rfl (K_RM_isCorner m x1 x2 _ hq2) <| E_if_eq (n := 10) (t := 19) 5 rfl rfl rfl (fun hc => ?_) (fun hc => ?_)
  · have h := ifp h hc
    refine E_iconst (v := 1) (n := 20) 11 rfl rfl icz_1 <| E_goto (t := 24) 12 rfl rfl <| ?_
    exact RM_corner_J24_ok m x1 x2 x3 1 _ h
  · have h := ifn h hc
    refine E_iload_n (n := 11) 6 rfl rfl rfl 3 rfl <| E_iconst (v := 0) (n := 12) 7 rfl rfl icz_0 <| E_iconst (v := 2) (n := 13) 8 rfl rfl icz_2 <| E_dS3r (n := 16) 9 rfl rfl co_12_203 rfl rfl (K_RM_isIn m x3 0 2 _ rfl) <| E_if_ne (n := 19) (t := 23) 10 rfl rfl rfl (fun hc => ?_) (fun hc => ?_)
    · have h := ifn h hc
      refine E_iconst (v := 0) (n := 24) 13 rfl rfl icz_0 <| ?_
      exact RM_corner_J24_ok m x1 x2 x3 0 _ h
    · have h := ifp h hc
      refine E_iconst (v := 1) (n := 20) 11 rfl rfl icz_1 <| E_goto (t := 24) 12 rfl rfl <| ?_
      exact RM_corner_J24_ok m x1 x2 x3 1 _ h
theorem RM_hay_J23_ok (m : Mem) (x1 : Int32) (x2 : Int32) (s1 : Int32) (R : Int32 × Mem) (h : RM_hay_J23 m x1 x2 s1 = some R) : E M_RM_hay 23 [(0, .ref 133), (1, .int x1), (2, .int x2)] [.int s1, .ref 133] m (qI R.1 R.2) := by
  unfold RM_hay_J23 at h
  obtain ⟨v1, m2, hq3, h⟩ := bV_ex h
  refine E_cV1r (n := 26) 13 rfl rfl co_12_291 rfl sh_133 rfl (K_RM_throwsIf m s1 _ hq3) <| E_if_eq (n := 29) (t := 33) 14 rfl rfl rfl (fun hc => ?_) (fun hc => ?_)
  · have h := ifp h hc
    obtain ⟨hc4, h⟩ := ift h
    refine E_aload_n (n := 34) 17 rfl rfl rfl 0 rfl <| E_gF (r := 135) (n := 37) 18 rfl rfl fg_12_33 sh_133 rfl <| E_bipush (v := 86) (n := 39) 19 rfl rfl bpz_86 <| E_iconst (v := 3) (n := 40) 20 rfl rfl icz_3 <| E_iload_n (n := 41) 21 rfl rfl rfl 1 rfl <| E_imul (n := 42) 22 rfl rfl <| E_iadd (n := 43) 23 rfl rfl <| E_iload_n (n := 44) 24 rfl rfl rfl 2 rfl <| E_iadd (n := 45) 25 rfl rfl <| E_iald (n := 46) 26 rfl rfl sh_135 hc4 <| ?_
    refine E_ireturn 27 rfl rfl (eS h)
  · have h := ifn h hc
    refine E_iconst (v := 0) (n := 30) 15 rfl rfl icz_0 <| E_goto (t := 46) 16 rfl rfl <| ?_
    refine E_ireturn 27 rfl rfl (eS h)
theorem K_RM_hay (m : Mem) (x1 : Int32) (x2 : Int32) (R : Int32 × Mem) (h : RM_hay m x1 x2 = some R) : Mt M_RM_hay [.ref 133, .int x1, .int x2] m (qI R.1 R.2) := by
  refine Mt.of G_RM_hay (Nat.le_of_ble_eq_true rfl) (E_sub (lv' := [(0, .ref 133), (1, .int x1), (2, .int x2)]) [0, 1, 2] rfl ?_)
  unfold RM_hay at h
  obtain ⟨v1, hq2, h⟩ := bI_ex h
  refine E_aload_n (n := 1) 0 rfl rfl rfl 0 rfl <| E_aload_n (n := 2) 1 rfl rfl rfl 0 rfl <| E_iload_n (n := 3) 2 rfl rfl rfl 1 rfl <| E_cV1r (n := 6) 3 rfl rfl co_12_298 rfl sh_133 rfl (K_RM_isHay m x1 _ hq2) <| E_if_eq (n := 9) (t := 18) 4 rfl rfl rfl (fun hc => ?_) (fun hc => ?_)
  · have h := ifp h hc
    refine E_iconst (v := 1) (n := 19) 10 rfl rfl icz_1 <| E_goto (t := 23) 11 rfl rfl <| ?_
    exact RM_hay_J23_ok m x1 x2 1 _ h
  · have h := ifn h hc
    refine E_iload_n (n := 10) 5 rfl rfl rfl 2 rfl <| E_iconst (v := 0) (n := 11) 6 rfl rfl icz_0 <| E_iconst (v := 2) (n := 12) 7 rfl rfl icz_2 <| E_dS3r (n := 15) 8 rfl rfl co_12_203 rfl rfl (K_RM_isIn m x2 0 2 _ rfl) <| E_if_ne (n := 18) (t := 22) 9 rfl rfl rfl (fun hc => ?_) (fun hc => ?_)
    · have h := ifn h hc
      refine E_iconst (v := 0) (n := 23) 12 rfl rfl icz_0 <| ?_
      exact RM_hay_J23_ok m x1 x2 0 _ h
    · have h := ifp h hc
      refine E_iconst (v := 1) (n := 19) 10 rfl rfl icz_1 <| E_goto (t := 23) 11 rfl rfl <| ?_
      exact RM_hay_J23_ok m x1 x2 1 _ h
theorem RM_areUnlike_J8_ok (m : Mem) (x0 : Int32) (x1 : Int32) (R : Int32) (h : RM_areUnlike_J8 x0 x1 = R) : E M_RM_areUnlike 8 [(0, .int x0), (1, .int x1)] [] m (qI R m) := by
  unfold RM_areUnlike_J8 at h
  refine E_iload_n (n := 9) 4 rfl rfl rfl 0 rfl <| E_if_ge (n := 12) (t := 20) 5 rfl rfl rfl (fun hc => ?_) (fun hc => ?_)
  · have h := ifp h hc
    refine E_iconst (v := 0) (n := 21) 10 rfl rfl icz_0 <| ?_
    refine E_zreturn 11 rfl rfl z0 (eT h)
  · have h := ifn h hc
    refine E_iload_n (n := 13) 6 rfl rfl rfl 1 rfl <| E_if_le (n := 16) (t := 20) 7 rfl rfl rfl (fun hc => ?_) (fun hc => ?_)
    · have h := ifp h hc
      refine E_iconst (v := 0) (n := 21) 10 rfl rfl icz_0 <| ?_
      refine E_zreturn 11 rfl rfl z0 (eT h)
    · have h := ifn h hc
      refine E_iconst (v := 1) (n := 17) 8 rfl rfl icz_1 <| E_goto (t := 21) 9 rfl rfl <| ?_
      refine E_zreturn 11 rfl rfl z1 (eT h)
theorem K_RM_areUnlike (m : Mem) (x0 : Int32) (x1 : Int32) (R : Int32) (h : RM_areUnlike x0 x1 = R) : Mt M_RM_areUnlike [.int x0, .int x1] m (qI R m) := by
  refine Mt.of G_RM_areUnlike (Nat.le_of_ble_eq_true rfl) (E_sub (lv' := [(0, .int x0), (1, .int x1)]) [0, 1] rfl ?_)
  unfold RM_areUnlike at h
  refine E_iload_n (n := 1) 0 rfl rfl rfl 0 rfl <| E_if_le (n := 4) (t := 8) 1 rfl rfl rfl (fun hc => ?_) (fun hc => ?_)
  · have h := ifp h hc
    exact RM_areUnlike_J8_ok m x0 x1 _ h
  · have h := ifn h hc
    refine E_iload_n (n := 5) 2 rfl rfl rfl 1 rfl <| E_if_lt (n := 8) (t := 16) 3 rfl rfl rfl (fun hc => ?_) (fun hc => ?_)
    · have h := ifp h hc
      refine E_iconst (v := 1) (n := 17) 8 rfl rfl icz_1 <| E_goto (t := 21) 9 rfl rfl <| ?_
      refine E_zreturn 11 rfl rfl z1 (eT h)
    · have h := ifn h hc
      exact RM_areUnlike_J8_ok m x0 x1 _ h
set_option maxRecDepth 10000 in
theorem K_RM_areCrossed (m : Mem) (x1 : Int32) (x2 : Int32) (R : Int32) (h : RM_areCrossed m x1 x2 = some R) : Mt M_RM_areCrossed [.ref 133, .int x1, .int x2] m (qI R m) := by
  refine Mt.of G_RM_areCrossed (Nat.le_of_ble_eq_true rfl) (E_sub (lv' := [(0, .ref 133), (1, .int x1), (2, .int x2)]) [0, 1, 2] rfl ?_)
  unfold RM_areCrossed at h
  obtain ⟨hc1, h⟩ := ift h
  obtain ⟨hc2, h⟩ := ift h
  obtain ⟨hc3, h⟩ := ift h
  obtain ⟨hc4, h⟩ := ift h
  refine E_aload_n (n := 1) 0 rfl rfl rfl 0 rfl <| E_gF (r := 139) (n := 4) 1 rfl rfl fg_12_47 sh_133 rfl <| E_iload_n (n := 5) 2 rfl rfl rfl 1 rfl <| E_iald (n := 6) 3 rfl rfl sh_139 hc1 <| E_aload_n (n := 7) 4 rfl rfl rfl 0 rfl <| E_gF (r := 140) (n := 10) 5 rfl rfl fg_12_50 sh_133 rfl <| E_iload_n (n := 11) 6 rfl rfl rfl 1 rfl <| E_iald (n := 12) 7 rfl rfl sh_140 hc1 <| E_aload_n (n := 13) 8 rfl rfl rfl 0 rfl <| E_gF (r := 139) (n := 16) 9 rfl rfl fg_12_47 sh_133 rfl <| E_iload_n (n := 17) 10 rfl rfl rfl 1 rfl <| E_iconst (v := 1) (n := 18) 11 rfl rfl icz_1 <| E_iadd (n := 19) 12 rfl rfl <| E_iald (n := 20) 13 rfl rfl sh_139 hc2 <| E_aload_n (n := 21) 14 rfl rfl rfl 0 rfl <| E_gF (r := 140) (n := 24) 15 rfl rfl fg_12_50 sh_133 rfl <| E_iload_n (n := 25) 16 rfl rfl rfl 1 rfl <| E_iconst (v := 1) (n := 26) 17 rfl rfl icz_1 <| E_iadd (n := 27) 18 rfl rfl <| E_iald (n := 28) 19 rfl rfl sh_140 hc2 <| E_aload_n (n := 29) 20 rfl rfl rfl 0 rfl <| E_gF (r := 139) (n := 32) 21 rfl rfl fg_12_47 sh_133 rfl <| E_iload_n (n := 33) 22 rfl rfl rfl 2 rfl <| E_iald (n := 34) 23 rfl rfl sh_139 hc3 <| E_aload_n (n := 35) 24 rfl rfl rfl 0 rfl <| E_gF (r := 140) (n := 38) 25 rfl rfl fg_12_50 sh_133 rfl <| E_iload_n (n := 39) 26 rfl rfl rfl 2 rfl <| E_iald (n := 40) 27 rfl rfl sh_140 hc3 <| E_dS6r (n := 43) 28 rfl rfl co_12_265 rfl rfl (K_RM_turn m (gI m 139 (ixn x1)) (gI m 140 (ixn x1)) (gI m 139 (ixn (x1 + 1))) (gI m 140 (ixn (x1 + 1))) (gI m 139 (ixn x2)) (gI m 140 (ixn x2)) _ rfl) <| E_aload_n (n := 44) 29 rfl rfl rfl 0 rfl <| E_gF (r := 139) (n := 47) 30 rfl rfl fg_12_47 sh_133 rfl <| E_iload_n (n := 48) 31 rfl rfl rfl 1 rfl <| E_iald (n := 49) 32 rfl rfl sh_139 hc1 <| E_aload_n (n := 50) 33 rfl rfl rfl 0 rfl <| E_gF (r := 140) (n := 53) 34 rfl rfl fg_12_50 sh_133 rfl <| E_iload_n (n := 54) 35 rfl rfl rfl 1 rfl <| E_iald (n := 55) 36 rfl rfl sh_140 hc1 <| E_aload_n (n := 56) 37 rfl rfl rfl 0 rfl <| E_gF (r := 139) (n := 59) 38 rfl rfl fg_12_47 sh_133 rfl <| E_iload_n (n := 60) 39 rfl rfl rfl 1 rfl <| E_iconst (v := 1) (n := 61) 40 rfl rfl icz_1 <| E_iadd (n := 62) 41 rfl rfl <| E_iald (n := 63) 42 rfl rfl sh_139 hc2 <| E_aload_n (n := 64) 43 rfl rfl rfl 0 rfl <| E_gF (r := 140) (n := 67) 44 rfl rfl fg_12_50 sh_133 rfl <| E_iload_n (n := 68) 45 rfl rfl rfl 1 rfl <| E_iconst (v := 1) (n := 69) 46 rfl rfl icz_1 <| E_iadd (n := 70) 47 rfl rfl <| E_iald (n := 71) 48 rfl rfl sh_140 hc2 <| E_aload_n (n := 72) 49 rfl rfl rfl 0 rfl <| E_gF (r := 139) (n := 75) 50 rfl rfl fg_12_47 sh_133 rfl <| E_iload_n (n := 76) 51 rfl rfl rfl 2 rfl <| E_iconst (v := 1) (n := 77) 52 rfl rfl icz_1 <| E_iadd (n := 78) 53 rfl rfl <| E_iald (n := 79) 54 rfl rfl sh_139 hc4 <| E_aload_n (n := 80) 55 rfl rfl rfl 0 rfl <| E_gF (r := 140) (n := 83) 56 rfl rfl fg_12_50 sh_133 rfl <| E_iload_n (n := 84) 57 rfl rfl rfl 2 rfl <| E_iconst (v := 1) (n := 85) 58 rfl rfl icz_1 <| E_iadd (n := 86) 59 rfl rfl <| E_iald (n := 87) 60 rfl rfl sh_140 hc4 <| E_dS6r (n := 90) 61 rfl rfl co_12_265 rfl rfl (K_RM_turn m (gI m 139 (ixn x1)) (gI m 140 (ixn x1)) (gI m 139 (ixn (x1 + 1))) (gI m 140 (ixn (x1 + 1))) (gI m 139 (ixn (x2 + 1))) (gI m 140 (ixn (x2 + 1))) _ rfl) <| E_dS2r (n := 93) 62 rfl rfl co_12_301 rfl rfl (K_RM_areUnlike m (RM_turn (gI m 139 (ixn x1)) (gI m 140 (ixn x1)) (gI m 139 (ixn (x1 + 1))) (gI m 140 (ixn (x1 + 1))) (gI m 139 (ixn x2)) (gI m 140 (ixn x2))) (RM_turn (gI m 139 (ixn x1)) (gI m 140 (ixn x1)) (gI m 139 (ixn (x1 + 1))) (gI m 140 (ixn (x1 + 1))) (gI m 139 (ixn (x2 + 1))) (gI m 140 (ixn (x2 + 1)))) _ rfl) <| E_if_eq (n := 96) (t := 196) 63 rfl rfl rfl (fun hc => ?_) (fun hc => ?_)
  · have h := ifp h hc
    refine E_iconst (v := 0) (n := 197) 130 rfl rfl icz_0 <| ?_
    refine E_zreturn 131 rfl rfl z0 (eP h)
  · have h := ifn h hc
    refine E_aload_n (n := 97) 64 rfl rfl rfl 0 rfl <| E_gF (r := 139) (n := 100) 65 rfl rfl fg_12_47 sh_133 rfl <| E_iload_n (n := 101) 66 rfl rfl rfl 2 rfl <| E_iald (n := 102) 67 rfl rfl sh_139 hc3 <| E_aload_n (n := 103) 68 rfl rfl rfl 0 rfl <| E_gF (r := 140) (n := 106) 69 rfl rfl fg_12_50 sh_133 rfl <| E_iload_n (n := 107) 70 rfl rfl rfl 2 rfl <| E_iald (n := 108) 71 rfl rfl sh_140 hc3 <| E_aload_n (n := 109) 72 rfl rfl rfl 0 rfl <| E_gF (r := 139) (n := 112) 73 rfl rfl fg_12_47 sh_133 rfl <| E_iload_n (n := 113) 74 rfl rfl rfl 2 rfl <| E_iconst (v := 1) (n := 114) 75 rfl rfl icz_1 <| E_iadd (n := 115) 76 rfl rfl <| E_iald (n := 116) 77 rfl rfl sh_139 hc4 <| E_aload_n (n := 117) 78 rfl rfl rfl 0 rfl <| E_gF (r := 140) (n := 120) 79 rfl rfl fg_12_50 sh_133 rfl <| E_iload_n (n := 121) 80 rfl rfl rfl 2 rfl <| E_iconst (v := 1) (n := 122) 81 rfl rfl icz_1 <| E_iadd (n := 123) 82 rfl rfl <| E_iald (n := 124) 83 rfl rfl sh_140 hc4 <| E_aload_n (n := 125) 84 rfl rfl rfl 0 rfl <| E_gF (r := 139) (n := 128) 85 rfl rfl fg_12_47 sh_133 rfl <| E_iload_n (n := 129) 86 rfl rfl rfl 1 rfl <| E_iald (n := 130) 87 rfl rfl sh_139 hc1 <| E_aload_n (n := 131) 88 rfl rfl rfl 0 rfl <| E_gF (r := 140) (n := 134) 89 rfl rfl fg_12_50 sh_133 rfl <| E_iload_n (n := 135) 90 rfl rfl rfl 1 rfl <| E_iald (n := 136) 91 rfl rfl sh_140 hc1 <| E_dS6r (n := 139) 92 rfl rfl co_12_265 rfl rfl (K_RM_turn m (gI m 139 (ixn x2)) (gI m 140 (ixn x2)) (gI m 139 (ixn (x2 + 1))) (gI m 140 (ixn (x2 + 1))) (gI m 139 (ixn x1)) (gI m 140 (ixn x1)) _ rfl) <| E_aload_n (n := 140) 93 rfl rfl rfl 0 rfl <| E_gF (r := 139) (n := 143) 94 rfl rfl fg_12_47 sh_133 rfl <| E_iload_n (n := 144) 95 rfl rfl rfl 2 rfl <| E_iald (n := 145) 96 rfl rfl sh_139 hc3 <| E_aload_n (n := 146) 97 rfl rfl rfl 0 rfl <| E_gF (r := 140) (n := 149) 98 rfl rfl fg_12_50 sh_133 rfl <| E_iload_n (n := 150) 99 rfl rfl rfl 2 rfl <| E_iald (n := 151) 100 rfl rfl sh_140 hc3 <| E_aload_n (n := 152) 101 rfl rfl rfl 0 rfl <| E_gF (r := 139) (n := 155) 102 rfl rfl fg_12_47 sh_133 rfl <| E_iload_n (n := 156) 103 rfl rfl rfl 2 rfl <| E_iconst (v := 1) (n := 157) 104 rfl rfl icz_1 <| E_iadd (n := 158) 105 rfl rfl <| E_iald (n := 159) 106 rfl rfl sh_139 hc4 <| E_aload_n (n := 160) 107 rfl rfl rfl 0 rfl <| E_gF (r := 140) (n := 163) 108 rfl rfl fg_12_50 sh_133 rfl <| E_iload_n (n := 164) 109 rfl rfl rfl 2 rfl <| E_iconst (v := 1) (n := 165) 110 rfl rfl icz_1 <| E_iadd (n := 166) 111 rfl rfl <| E_iald (n := 167) 112 rfl rfl sh_140 hc4 <| E_aload_n (n := 168) 113 rfl rfl rfl 0 rfl <| E_gF (r := 139) (n := 171) 114 rfl rfl fg_12_47 sh_133 rfl <| E_iload_n (n := 172) 115 rfl rfl rfl 1 rfl <| E_iconst (v := 1) (n := 173) 116 rfl rfl icz_1 <| E_iadd (n := 174) 117 rfl rfl <| E_iald (n := 175) 118 rfl rfl sh_139 hc2 <| E_aload_n (n := 176) 119 rfl rfl rfl 0 rfl <| E_gF (r := 140) (n := 179) 120 rfl rfl fg_12_50 sh_133 rfl <| E_iload_n (n := 180) 121 rfl rfl rfl 1 rfl <| E_iconst (v := 1) (n := 181) 122 rfl rfl icz_1 <| E_iadd (n := 182) 123 rfl rfl <| E_iald (n := 183) 124 rfl rfl sh_140 hc2 <| E_dS6r (n := 186) 125 rfl rfl co_12_265 rfl rfl (K_RM_turn m (gI m 139 (ixn x2)) (gI m 140 (ixn x2)) (gI m 139 (ixn (x2 + 1))) (gI m 140 (ixn (x2 + 1))) (gI m 139 (ixn (x1 + 1))) (gI m 140 (ixn (x1 + 1))) _ rfl) <| E_dS2r (n := 189) 126 rfl rfl co_12_301 rfl rfl (K_RM_areUnlike m (RM_turn (gI m 139 (ixn x2)) (gI m 140 (ixn x2)) (gI m 139 (ixn (x2 + 1))) (gI m 140 (ixn (x2 + 1))) (gI m 139 (ixn x1)) (gI m 140 (ixn x1))) (RM_turn (gI m 139 (ixn x2)) (gI m 140 (ixn x2)) (gI m 139 (ixn (x2 + 1))) (gI m 140 (ixn (x2 + 1))) (gI m 139 (ixn (x1 + 1))) (gI m 140 (ixn (x1 + 1)))) _ rfl) <| E_if_eq (n := 192) (t := 196) 127 rfl rfl rfl (fun hc => ?_) (fun hc => ?_)
    · have h := ifp h hc
      refine E_iconst (v := 0) (n := 197) 130 rfl rfl icz_0 <| ?_
      refine E_zreturn 131 rfl rfl z0 (eP h)
    · have h := ifn h hc
      refine E_iconst (v := 1) (n := 193) 128 rfl rfl icz_1 <| E_goto (t := 197) 129 rfl rfl <| ?_
      refine E_zreturn 131 rfl rfl z1 (eP h)
theorem K_RM_areMet (m : Mem) (x1 : Int32) (x2 : Int32) (R : Int32) (h : RM_areMet m x1 x2 = some R) : Mt M_RM_areMet [.ref 133, .int x1, .int x2] m (qI R m) := by
  refine Mt.of G_RM_areMet (Nat.le_of_ble_eq_true rfl) (E_sub (lv' := [(0, .ref 133), (1, .int x1), (2, .int x2)]) [0, 1, 2] rfl ?_)
  unfold RM_areMet at h
  obtain ⟨hc1, h⟩ := ift h
  obtain ⟨v2, hq3, h⟩ := bI_ex h
  refine E_aload_n (n := 1) 0 rfl rfl rfl 0 rfl <| E_iload_n (n := 2) 1 rfl rfl rfl 1 rfl <| E_aload_n (n := 3) 2 rfl rfl rfl 0 rfl <| E_gF (r := 139) (n := 6) 3 rfl rfl fg_12_47 sh_133 rfl <| E_iload_n (n := 7) 4 rfl rfl rfl 2 rfl <| E_iald (n := 8) 5 rfl rfl sh_139 hc1 <| E_aload_n (n := 9) 6 rfl rfl rfl 0 rfl <| E_gF (r := 140) (n := 12) 7 rfl rfl fg_12_50 sh_133 rfl <| E_iload_n (n := 13) 8 rfl rfl rfl 2 rfl <| E_iald (n := 14) 9 rfl rfl sh_140 hc1 <| E_cV3r (n := 17) 10 rfl rfl co_12_272 rfl sh_133 rfl (K_RM_isOnEdge m x1 (gI m 139 (ixn x2)) (gI m 140 (ixn x2)) _ hq3) <| E_if_ne (n := 20) (t := 88) 11 rfl rfl rfl (fun hc => ?_) (fun hc => ?_)
  · have h := ifn h hc
    refine E_iconst (v := 1) (n := 89) 56 rfl rfl icz_1 <| E_goto (t := 93) 57 rfl rfl <| ?_
    refine E_zreturn 59 rfl rfl z1 (eP h)
  · have h := ifp h hc
    obtain ⟨hc4, h⟩ := ift h
    obtain ⟨v5, hq6, h⟩ := bI_ex h
    refine E_aload_n (n := 21) 12 rfl rfl rfl 0 rfl <| E_iload_n (n := 22) 13 rfl rfl rfl 1 rfl <| E_aload_n (n := 23) 14 rfl rfl rfl 0 rfl <| E_gF (r := 139) (n := 26) 15 rfl rfl fg_12_47 sh_133 rfl <| E_iload_n (n := 27) 16 rfl rfl rfl 2 rfl <| E_iconst (v := 1) (n := 28) 17 rfl rfl icz_1 <| E_iadd (n := 29) 18 rfl rfl <| E_iald (n := 30) 19 rfl rfl sh_139 hc4 <| E_aload_n (n := 31) 20 rfl rfl rfl 0 rfl <| E_gF (r := 140) (n := 34) 21 rfl rfl fg_12_50 sh_133 rfl <| E_iload_n (n := 35) 22 rfl rfl rfl 2 rfl <| E_iconst (v := 1) (n := 36) 23 rfl rfl icz_1 <| E_iadd (n := 37) 24 rfl rfl <| E_iald (n := 38) 25 rfl rfl sh_140 hc4 <| E_cV3r (n := 41) 26 rfl rfl co_12_272 rfl sh_133 rfl (K_RM_isOnEdge m x1 (gI m 139 (ixn (x2 + 1))) (gI m 140 (ixn (x2 + 1))) _ hq6) <| E_if_ne (n := 44) (t := 88) 27 rfl rfl rfl (fun hc => ?_) (fun hc => ?_)
    · have h := ifn h hc
      refine E_iconst (v := 1) (n := 89) 56 rfl rfl icz_1 <| E_goto (t := 93) 57 rfl rfl <| ?_
      refine E_zreturn 59 rfl rfl z1 (eP h)
    · have h := ifp h hc
      obtain ⟨hc7, h⟩ := ift h
      obtain ⟨v8, hq9, h⟩ := bI_ex h
      refine E_aload_n (n := 45) 28 rfl rfl rfl 0 rfl <| E_iload_n (n := 46) 29 rfl rfl rfl 2 rfl <| E_aload_n (n := 47) 30 rfl rfl rfl 0 rfl <| E_gF (r := 139) (n := 50) 31 rfl rfl fg_12_47 sh_133 rfl <| E_iload_n (n := 51) 32 rfl rfl rfl 1 rfl <| E_iald (n := 52) 33 rfl rfl sh_139 hc7 <| E_aload_n (n := 53) 34 rfl rfl rfl 0 rfl <| E_gF (r := 140) (n := 56) 35 rfl rfl fg_12_50 sh_133 rfl <| E_iload_n (n := 57) 36 rfl rfl rfl 1 rfl <| E_iald (n := 58) 37 rfl rfl sh_140 hc7 <| E_cV3r (n := 61) 38 rfl rfl co_12_272 rfl sh_133 rfl (K_RM_isOnEdge m x2 (gI m 139 (ixn x1)) (gI m 140 (ixn x1)) _ hq9) <| E_if_ne (n := 64) (t := 88) 39 rfl rfl rfl (fun hc => ?_) (fun hc => ?_)
      · have h := ifn h hc
        refine E_iconst (v := 1) (n := 89) 56 rfl rfl icz_1 <| E_goto (t := 93) 57 rfl rfl <| ?_
        refine E_zreturn 59 rfl rfl z1 (eP h)
      · have h := ifp h hc
        obtain ⟨hc10, h⟩ := ift h
        obtain ⟨v11, hq12, h⟩ := bI_ex h
        refine E_aload_n (n := 65) 40 rfl rfl rfl 0 rfl <| E_iload_n (n := 66) 41 rfl rfl rfl 2 rfl <| E_aload_n (n := 67) 42 rfl rfl rfl 0 rfl <| E_gF (r := 139) (n := 70) 43 rfl rfl fg_12_47 sh_133 rfl <| E_iload_n (n := 71) 44 rfl rfl rfl 1 rfl <| E_iconst (v := 1) (n := 72) 45 rfl rfl icz_1 <| E_iadd (n := 73) 46 rfl rfl <| E_iald (n := 74) 47 rfl rfl sh_139 hc10 <| E_aload_n (n := 75) 48 rfl rfl rfl 0 rfl <| E_gF (r := 140) (n := 78) 49 rfl rfl fg_12_50 sh_133 rfl <| E_iload_n (n := 79) 50 rfl rfl rfl 1 rfl <| E_iconst (v := 1) (n := 80) 51 rfl rfl icz_1 <| E_iadd (n := 81) 52 rfl rfl <| E_iald (n := 82) 53 rfl rfl sh_140 hc10 <| E_cV3r (n := 85) 54 rfl rfl co_12_272 rfl sh_133 rfl (K_RM_isOnEdge m x2 (gI m 139 (ixn (x1 + 1))) (gI m 140 (ixn (x1 + 1))) _ hq12) <| E_if_eq (n := 88) (t := 92) 55 rfl rfl rfl (fun hc => ?_) (fun hc => ?_)
        · have h := ifp h hc
          refine E_iconst (v := 0) (n := 93) 58 rfl rfl icz_0 <| ?_
          refine E_zreturn 59 rfl rfl z0 (eP h)
        · have h := ifn h hc
          refine E_iconst (v := 1) (n := 89) 56 rfl rfl icz_1 <| E_goto (t := 93) 57 rfl rfl <| ?_
          refine E_zreturn 59 rfl rfl z1 (eP h)
theorem RM_line_L99_ok (x2 : Int32) (x3 : Int32) (x6 : Int32) (kx : Mem → Int32 → Int32 → Option (Int32 × Mem)) (R : Int32 × Mem) (hx : ∀ (m : Mem) (x4 : Int32) (x5 : Int32), kx m x4 x5 = some R → E M_RM_line 166 [(0, .ref 133), (2, .int x2), (3, .int x3), (4, .int x4), (5, .int x5), (6, .int x6)] [] m (qI R.1 R.2)) : ∀ (n : Nat) (m : Mem) (x4 : Int32) (x5 : Int32) (x7 : Int32), RM_line_L99 x2 x3 x6 kx n m x4 x5 x7 = some R → E M_RM_line 99 [(0, .ref 133), (2, .int x2), (3, .int x3), (4, .int x4), (5, .int x5), (6, .int x6), (7, .int x7)] [] m (qI R.1 R.2) := by
  intro n
  induction n with
  | zero =>
    intro m x4 x5 x7 h
    exact absurd (show none = some R from h) (fun e => Option.some_ne_none R e.symm)
  | succ n ih =>
    intro m x4 x5 x7 h
    rw [RM_line_L99] at h
    refine E_iload (n := 101) 62 rfl rfl 6 rfl <| E_iload (n := 103) 63 rfl rfl 5 rfl <| E_icmp_ge (n := 106) (t := 166) 64 rfl rfl rfl (fun hc => ?_) (fun hc => ?_)
    · have h := ifp h hc
      refine E_sub (lv' := [(0, .ref 133), (2, .int x2), (3, .int x3), (4, .int x4), (5, .int x5), (6, .int x6)]) [0, 1, 2, 3, 4, 5] rfl ?_
      exact hx m x4 x5 h
    · have h := ifn h hc
      obtain ⟨v1, hq2, h⟩ := bI_ex h
      refine E_aload_n (n := 107) 65 rfl rfl rfl 0 rfl <| E_iload (n := 109) 66 rfl rfl 5 rfl <| E_iload (n := 111) 67 rfl rfl 6 rfl <| E_cV2r (n := 114) 68 rfl rfl co_12_304 rfl sh_133 rfl (K_RM_areCrossed m x6 x7 _ hq2) <| E_if_eq (n := 117) (t := 123) 69 rfl rfl rfl (fun hc => ?_) (fun hc => ?_)
      · have h := ifp h hc
        refine E_iload (n := 125) 72 rfl rfl 5 rfl <| E_iload (n := 127) 73 rfl rfl 6 rfl <| E_isub (n := 128) 74 rfl rfl <| E_iconst (v := 1) (n := 129) 75 rfl rfl icz_1 <| E_icmp_eq (n := 132) (t := 160) 76 rfl rfl rfl (fun hc => ?_) (fun hc => ?_)
        · have h := ifp h hc
          refine E_iinc (v := (x7 + 1)) (lv' := [(0, .ref 133), (2, .int x2), (3, .int x3), (4, .int x4), (5, .int x5), (6, .int x6), (7, .int (x7 + 1))]) (n := 163) 91 rfl rfl 6 rfl (by rw [icz_1]) (Nat.le_of_ble_eq_true rfl) [1, 2, 3, 4, 5, 6, 0] rfl <| E_goto (t := 99) 92 rfl rfl <| ?_
          exact ih m x4 x5 (x7 + 1) h
        · have h := ifn h hc
          refine E_iload (n := 134) 77 rfl rfl 5 rfl <| E_iload (n := 136) 78 rfl rfl 6 rfl <| E_isub (n := 137) 79 rfl rfl <| E_aload_n (n := 138) 80 rfl rfl rfl 0 rfl <| E_gI (n := 141) 81 rfl rfl fg_12_259 sh_133 <| E_iconst (v := 1) (n := 142) 82 rfl rfl icz_1 <| E_isub (n := 143) 83 rfl rfl <| E_icmp_eq (n := 146) (t := 160) 84 rfl rfl rfl (fun hc => ?_) (fun hc => ?_)
          · have h := ifp h hc
            refine E_iinc (v := (x7 + 1)) (lv' := [(0, .ref 133), (2, .int x2), (3, .int x3), (4, .int x4), (5, .int x5), (6, .int x6), (7, .int (x7 + 1))]) (n := 163) 91 rfl rfl 6 rfl (by rw [icz_1]) (Nat.le_of_ble_eq_true rfl) [1, 2, 3, 4, 5, 6, 0] rfl <| E_goto (t := 99) 92 rfl rfl <| ?_
            exact ih m x4 x5 (x7 + 1) h
          · have h := ifn h hc
            obtain ⟨v3, hq4, h⟩ := bI_ex h
            refine E_aload_n (n := 147) 85 rfl rfl rfl 0 rfl <| E_iload (n := 149) 86 rfl rfl 5 rfl <| E_iload (n := 151) 87 rfl rfl 6 rfl <| E_cV2r (n := 154) 88 rfl rfl co_12_307 rfl sh_133 rfl (K_RM_areMet m x6 x7 _ hq4) <| E_if_eq (n := 157) (t := 160) 89 rfl rfl rfl (fun hc => ?_) (fun hc => ?_)
            · have h := ifp h hc
              refine E_iinc (v := (x7 + 1)) (lv' := [(0, .ref 133), (2, .int x2), (3, .int x3), (4, .int x4), (5, .int x5), (6, .int x6), (7, .int (x7 + 1))]) (n := 163) 91 rfl rfl 6 rfl (by rw [icz_1]) (Nat.le_of_ble_eq_true rfl) [1, 2, 3, 4, 5, 6, 0] rfl <| E_goto (t := 99) 92 rfl rfl <| ?_
              exact ih m x4 x5 (x7 + 1) h
            · have h := ifn h hc
              refine E_iinc (v := (x5 + 1)) (lv' := [(0, .ref 133), (2, .int x2), (3, .int x3), (4, .int x4), (5, .int (x5 + 1)), (6, .int x6), (7, .int x7)]) (n := 160) 90 rfl rfl 4 rfl (by rw [icz_1]) (Nat.le_of_ble_eq_true rfl) [1, 2, 3, 4, 0, 5, 6] rfl <| ?_
              refine E_iinc (v := (x7 + 1)) (lv' := [(0, .ref 133), (2, .int x2), (3, .int x3), (4, .int x4), (5, .int (x5 + 1)), (6, .int x6), (7, .int (x7 + 1))]) (n := 163) 91 rfl rfl 6 rfl (by rw [icz_1]) (Nat.le_of_ble_eq_true rfl) [1, 2, 3, 4, 5, 6, 0] rfl <| E_goto (t := 99) 92 rfl rfl <| ?_
              exact ih m x4 (x5 + 1) (x7 + 1) h
      · have h := ifn h hc
        refine E_iinc (v := (x4 + 1)) (lv' := [(0, .ref 133), (2, .int x2), (3, .int x3), (4, .int (x4 + 1)), (5, .int x5), (6, .int x6), (7, .int x7)]) (n := 120) 70 rfl rfl 3 rfl (by rw [icz_1]) (Nat.le_of_ble_eq_true rfl) [1, 2, 3, 0, 4, 5, 6] rfl <| E_goto (t := 160) 71 rfl rfl <| ?_
        refine E_iinc (v := (x7 + 1)) (lv' := [(0, .ref 133), (2, .int x2), (3, .int x3), (4, .int (x4 + 1)), (5, .int x5), (6, .int x6), (7, .int (x7 + 1))]) (n := 163) 91 rfl rfl 6 rfl (by rw [icz_1]) (Nat.le_of_ble_eq_true rfl) [1, 2, 3, 4, 5, 6, 0] rfl <| E_goto (t := 99) 92 rfl rfl <| ?_
        exact ih m (x4 + 1) x5 (x7 + 1) h
theorem RM_line_L49_ok (x2 : Int32) (kx : Mem → Int32 → Int32 → Int32 → Option (Int32 × Mem)) (R : Int32 × Mem) (hx : ∀ (m : Mem) (x3 : Int32) (x4 : Int32) (x5 : Int32), kx m x3 x4 x5 = some R → E M_RM_line 172 [(2, .int x2), (3, .int x3), (4, .int x4), (5, .int x5)] [] m (qI R.1 R.2)) : ∀ (n : Nat) (m : Mem) (x3 : Int32) (x4 : Int32) (x5 : Int32) (x6 : Int32), RM_line_L49 x2 kx n m x3 x4 x5 x6 = some R → E M_RM_line 49 [(0, .ref 133), (2, .int x2), (3, .int x3), (4, .int x4), (5, .int x5), (6, .int x6)] [] m (qI R.1 R.2) := by
  intro n
  induction n with
  | zero =>
    intro m x3 x4 x5 x6 h
    exact absurd (show none = some R from h) (fun e => Option.some_ne_none R e.symm)
  | succ n ih =>
    intro m x3 x4 x5 x6 h
    rw [RM_line_L49] at h
    refine E_iload (n := 51) 30 rfl rfl 5 rfl <| E_aload_n (n := 52) 31 rfl rfl rfl 0 rfl <| E_gI (n := 55) 32 rfl rfl fg_12_259 sh_133 <| E_icmp_ge (n := 58) (t := 172) 33 rfl rfl rfl (fun hc => ?_) (fun hc => ?_)
    · have h := ifp h hc
      refine E_sub (lv' := [(2, .int x2), (3, .int x3), (4, .int x4), (5, .int x5)]) [1, 2, 3, 4] rfl ?_
      exact hx m x3 x4 x5 h
    · have h := ifn h hc
      obtain ⟨hc1, h⟩ := ift h
      obtain ⟨hc2, h⟩ := ift h
      obtain ⟨v3, hv3, h⟩ := letV_ex h
      refine E_iload_n (n := 59) 34 rfl rfl rfl 2 rfl <| E_aload_n (n := 60) 35 rfl rfl rfl 0 rfl <| E_gF (r := 139) (n := 63) 36 rfl rfl fg_12_47 sh_133 rfl <| E_iload (n := 65) 37 rfl rfl 5 rfl <| E_iald (n := 66) 38 rfl rfl sh_139 hc1 <| E_aload_n (n := 67) 39 rfl rfl rfl 0 rfl <| E_gF (r := 140) (n := 70) 40 rfl rfl fg_12_50 sh_133 rfl <| E_iload (n := 72) 41 rfl rfl 5 rfl <| E_iconst (v := 1) (n := 73) 42 rfl rfl icz_1 <| E_iadd (n := 74) 43 rfl rfl <| E_iald (n := 75) 44 rfl rfl sh_140 hc2 <| E_imul (n := 76) 45 rfl rfl <| E_aload_n (n := 77) 46 rfl rfl rfl 0 rfl <| E_gF (r := 139) (n := 80) 47 rfl rfl fg_12_47 sh_133 rfl <| E_iload (n := 82) 48 rfl rfl 5 rfl <| E_iconst (v := 1) (n := 83) 49 rfl rfl icz_1 <| E_iadd (n := 84) 50 rfl rfl <| E_iald (n := 85) 51 rfl rfl sh_139 hc2 <| E_aload_n (n := 86) 52 rfl rfl rfl 0 rfl <| E_gF (r := 140) (n := 89) 53 rfl rfl fg_12_50 sh_133 rfl <| E_iload (n := 91) 54 rfl rfl 5 rfl <| E_iald (n := 92) 55 rfl rfl sh_140 hc1 <| E_imul (n := 93) 56 rfl rfl <| E_isub (n := 94) 57 rfl rfl <| E_iadd (n := 95) 58 rfl rfl <| E_top hv3 <| E_istore_n (lv' := [(0, .ref 133), (2, .int x2), (3, .int v3), (4, .int x4), (5, .int x5), (6, .int x6)]) (n := 96) 59 rfl rfl rfl (Nat.le_of_ble_eq_true rfl) [1, 2, 0, 3, 4, 5] rfl <| E_iconst (v := 0) (n := 97) 60 rfl rfl icz_0 <| E_istore (lv' := [(0, .ref 133), (2, .int x2), (3, .int v3), (4, .int x4), (5, .int x5), (6, .int x6), (7, .int 0)]) (n := 99) 61 rfl rfl (Nat.le_of_ble_eq_true rfl) [1, 2, 3, 4, 5, 6, 0] rfl <| ?_
      refine RM_line_L99_ok x2 v3 x6 _ R ?_ FU m x4 x5 0 h
      intro m6 y4 y5 h
      refine E_iinc (v := (x6 + 1)) (lv' := [(0, .ref 133), (2, .int x2), (3, .int v3), (4, .int y4), (5, .int y5), (6, .int (x6 + 1))]) (n := 169) 93 rfl rfl 5 rfl (by rw [icz_1]) (Nat.le_of_ble_eq_true rfl) [1, 2, 3, 4, 5, 0] rfl <| E_goto (t := 49) 94 rfl rfl <| ?_
      exact ih m6 v3 y4 y5 (x6 + 1) h
theorem K_RM_line (m : Mem) (x1 : Int32) (x2 : Int32) (R : Int32 × Mem) (h : RM_line m x1 x2 = some R) : Mt M_RM_line [.ref 133, .int x1, .int x2] m (qI R.1 R.2) := by
  refine Mt.of G_RM_line (Nat.le_of_ble_eq_true rfl) (E_sub (lv' := [(0, .ref 133), (1, .int x1), (2, .int x2)]) [0, 1, 2] rfl ?_)
  unfold RM_line at h
  obtain ⟨m1, hm1, h⟩ := letM_ex h
  obtain ⟨v2, hq3, h⟩ := bI_ex h
  refine E_aload_n (n := 1) 0 rfl rfl rfl 0 rfl <| E_iconst (v := 0) (n := 2) 1 rfl rfl icz_0 <| E_pI (n := 5) 2 rfl rfl fp_12_1 sh_133 <| E_mem hm1 <| E_aload_n (n := 6) 3 rfl rfl rfl 0 rfl <| E_iload_n (n := 7) 4 rfl rfl rfl 1 rfl <| E_cV1r (n := 10) 5 rfl rfl co_12_256 rfl sh_133 rfl (K_RM_isLine m1 x1 _ hq3) <| E_if_eq (n := 13) (t := 22) 6 rfl rfl rfl (fun hc => ?_) (fun hc => ?_)
  · have h := ifp h hc
    refine E_iconst (v := (-1)) (n := 23) 12 rfl rfl icz_m1 <| E_ireturn 13 rfl rfl (eS h)
  · have h := ifn h hc
    refine E_iload_n (n := 14) 7 rfl rfl rfl 2 rfl <| E_iconst (v := 0) (n := 15) 8 rfl rfl icz_0 <| E_iconst (v := 3) (n := 16) 9 rfl rfl icz_3 <| E_dS3r (n := 19) 10 rfl rfl co_12_203 rfl rfl (K_RM_isIn m1 x2 0 3 _ rfl) <| E_if_ne (n := 22) (t := 24) 11 rfl rfl rfl (fun hc => ?_) (fun hc => ?_)
    · have h := ifn h hc
      obtain ⟨m4, hq5, h⟩ := bM_ex h
      refine E_aload_n (n := 25) 14 rfl rfl rfl 0 rfl <| E_iload_n (n := 26) 15 rfl rfl rfl 1 rfl <| E_cV1v (n := 29) 16 rfl rfl co_12_295 rfl sh_133 rfl (K_RM_looks m1 x1 _ hq5) <| E_iload_n (n := 30) 17 rfl rfl rfl 2 rfl <| E_if_ne (n := 33) (t := 38) 18 rfl rfl rfl (fun hc => ?_) (fun hc => ?_)
      · have h := ifn h hc
        refine E_iconst (v := 0) (n := 39) 22 rfl rfl icz_0 <| E_istore_n (lv' := [(0, .ref 133), (1, .int x1), (2, .int x2), (3, .int 0)]) (n := 40) 23 rfl rfl rfl (Nat.le_of_ble_eq_true rfl) [1, 2, 3, 0] rfl <| E_iconst (v := 0) (n := 41) 24 rfl rfl icz_0 <| E_istore (lv' := [(0, .ref 133), (1, .int x1), (2, .int x2), (3, .int 0), (4, .int 0)]) (n := 43) 25 rfl rfl (Nat.le_of_ble_eq_true rfl) [1, 2, 3, 4, 0] rfl <| E_iconst (v := 0) (n := 44) 26 rfl rfl icz_0 <| E_istore (lv' := [(0, .ref 133), (1, .int x1), (2, .int x2), (3, .int 0), (4, .int 0), (5, .int 0)]) (n := 46) 27 rfl rfl (Nat.le_of_ble_eq_true rfl) [1, 2, 3, 4, 5, 0] rfl <| E_iconst (v := 0) (n := 47) 28 rfl rfl icz_0 <| E_istore (lv' := [(0, .ref 133), (1, .int x1), (2, .int x2), (3, .int 0), (4, .int 0), (5, .int 0), (6, .int 0)]) (n := 49) 29 rfl rfl (Nat.le_of_ble_eq_true rfl) [1, 2, 3, 4, 5, 6, 0] rfl <| ?_
        refine E_sub (lv' := [(0, .ref 133), (2, .int x2), (3, .int 0), (4, .int 0), (5, .int 0), (6, .int 0)]) [0, 2, 3, 4, 5, 6] rfl ?_
        refine RM_line_L49_ok x2 _ R ?_ FU m4 0 0 0 0 h
        intro m9 y6 y7 y8 h
        refine E_iload_n (n := 173) 95 rfl rfl rfl 0 rfl <| E_iconst (v := 1) (n := 174) 96 rfl rfl icz_1 <| E_icmp_ne (n := 177) (t := 183) 97 rfl rfl rfl (fun hc => ?_) (fun hc => ?_)
        · have h := ifn h hc
          refine E_iload_n (n := 184) 102 rfl rfl rfl 0 rfl <| E_iconst (v := 2) (n := 185) 103 rfl rfl icz_2 <| E_icmp_ne (n := 188) (t := 193) 104 rfl rfl rfl (fun hc => ?_) (fun hc => ?_)
          · have h := ifn h hc
            refine E_iload (n := 195) 107 rfl rfl 3 rfl <| ?_
            refine E_ireturn 108 rfl rfl (eS h)
          · have h := ifp h hc
            refine E_iload (n := 190) 105 rfl rfl 2 rfl <| E_goto (t := 195) 106 rfl rfl <| ?_
            refine E_ireturn 108 rfl rfl (eS h)
        · have h := ifp h hc
          refine E_iload_n (n := 178) 98 rfl rfl rfl 1 rfl <| E_iconst (v := 4) (n := 179) 99 rfl rfl icz_4 <| E_idiv (n := 180) 100 rfl rfl (by decide) <| E_goto (t := 195) 101 rfl rfl <| ?_
          refine E_ireturn 108 rfl rfl (eS h)
      · have h := ifp h hc
        refine E_aload_n (n := 34) 19 rfl rfl rfl 0 rfl <| E_gI (n := 37) 20 rfl rfl fg_12_259 sh_133 <| E_ireturn 21 rfl rfl (eS h)
    · have h := ifp h hc
      refine E_iconst (v := (-1)) (n := 23) 12 rfl rfl icz_m1 <| E_ireturn 13 rfl rfl (eS h)
theorem RM_whose_J46_ok (m : Mem) (x2 : Int32) (x3 : Int32) (s0 : Int32) (R : Int32 × Mem) (h : RM_whose_J46 m x2 x3 s0 = some R) : E M_RM_whose 46 [(0, .ref 133), (2, .int x2), (3, .int x3)] [.int s0] m (qI R.1 R.2) := by
  unfold RM_whose_J46 at h
  obtain ⟨v1, hq2, h⟩ := bI_ex h
  refine E_aload_n (n := 47) 28 rfl rfl rfl 0 rfl <| E_iconst (v := 2) (n := 48) 29 rfl rfl icz_2 <| E_iload_n (n := 49) 30 rfl rfl rfl 1 rfl <| E_imul (n := 50) 31 rfl rfl <| E_iconst (v := 2) (n := 51) 32 rfl rfl icz_2 <| E_iload_n (n := 52) 33 rfl rfl rfl 2 rfl <| E_imul (n := 53) 34 rfl rfl <| E_cV2r (n := 56) 35 rfl rfl co_12_281 rfl sh_133 rfl (K_RM_isOnLine m (2 * x2) (2 * x3) _ hq2) <| E_if_eq (n := 59) (t := 63) 36 rfl rfl rfl (fun hc => ?_) (fun hc => ?_)
  · have h := ifp h hc
    refine E_iconst (v := 0) (n := 64) 39 rfl rfl icz_0 <| ?_
    refine E_iadd (n := 65) 40 rfl rfl <| E_ireturn 41 rfl rfl (eS h)
  · have h := ifn h hc
    refine E_iconst (v := 2) (n := 60) 37 rfl rfl icz_2 <| E_goto (t := 64) 38 rfl rfl <| ?_
    refine E_iadd (n := 65) 40 rfl rfl <| E_ireturn 41 rfl rfl (eS h)
theorem K_RM_whose (m : Mem) (x1 : Int32) (x2 : Int32) (x3 : Int32) (R : Int32 × Mem) (h : RM_whose m x1 x2 x3 = some R) : Mt M_RM_whose [.ref 133, .int x1, .int x2, .int x3] m (qI R.1 R.2) := by
  refine Mt.of G_RM_whose (Nat.le_of_ble_eq_true rfl) (E_sub (lv' := [(0, .ref 133), (1, .int x1), (2, .int x2), (3, .int x3)]) [0, 1, 2, 3] rfl ?_)
  unfold RM_whose at h
  obtain ⟨m1, hm1, h⟩ := letM_ex h
  obtain ⟨v2, hq3, h⟩ := bI_ex h
  refine E_aload_n (n := 1) 0 rfl rfl rfl 0 rfl <| E_iconst (v := 0) (n := 2) 1 rfl rfl icz_0 <| E_pI (n := 5) 2 rfl rfl fp_12_1 sh_133 <| E_mem hm1 <| E_aload_n (n := 6) 3 rfl rfl rfl 0 rfl <| E_iload_n (n := 7) 4 rfl rfl rfl 1 rfl <| E_cV1r (n := 10) 5 rfl rfl co_12_256 rfl sh_133 rfl (K_RM_isLine m1 x1 _ hq3) <| E_if_eq (n := 13) (t := 21) 6 rfl rfl rfl (fun hc => ?_) (fun hc => ?_)
  · have h := ifp h hc
    refine E_iconst (v := (-1)) (n := 22) 11 rfl rfl icz_m1 <| E_ireturn 12 rfl rfl (eS h)
  · have h := ifn h hc
    refine E_iload_n (n := 14) 7 rfl rfl rfl 2 rfl <| E_iload_n (n := 15) 8 rfl rfl rfl 3 rfl <| E_dS2r (n := 18) 9 rfl rfl co_12_310 rfl rfl (K_RM_isPoint m1 x2 x3 _ rfl) <| E_if_ne (n := 21) (t := 23) 10 rfl rfl rfl (fun hc => ?_) (fun hc => ?_)
    · have h := ifn h hc
      obtain ⟨m4, hq5, h⟩ := bM_ex h
      obtain ⟨v6, m7, hq8, h⟩ := bV_ex h
      refine E_aload_n (n := 24) 13 rfl rfl rfl 0 rfl <| E_iload_n (n := 25) 14 rfl rfl rfl 1 rfl <| E_cV1v (n := 28) 15 rfl rfl co_12_295 rfl sh_133 rfl (K_RM_looks m1 x1 _ hq5) <| E_aload_n (n := 29) 16 rfl rfl rfl 0 rfl <| E_iconst (v := 2) (n := 30) 17 rfl rfl icz_2 <| E_iload_n (n := 31) 18 rfl rfl rfl 2 rfl <| E_imul (n := 32) 19 rfl rfl <| E_iconst (v := 2) (n := 33) 20 rfl rfl icz_2 <| E_iload_n (n := 34) 21 rfl rfl rfl 3 rfl <| E_imul (n := 35) 22 rfl rfl <| E_cV2r (n := 38) 23 rfl rfl co_12_313 rfl sh_133 rfl (K_RM_isHis m4 (2 * x2) (2 * x3) _ hq8) <| E_if_eq (n := 41) (t := 45) 24 rfl rfl rfl (fun hc => ?_) (fun hc => ?_)
      · have h := ifp h hc
        refine E_iconst (v := 0) (n := 46) 27 rfl rfl icz_0 <| ?_
        refine E_sub (lv' := [(0, .ref 133), (2, .int x2), (3, .int x3)]) [0, 2, 3] rfl ?_
        exact RM_whose_J46_ok m7 x2 x3 0 _ h
      · have h := ifn h hc
        refine E_iconst (v := 1) (n := 42) 25 rfl rfl icz_1 <| E_goto (t := 46) 26 rfl rfl <| ?_
        refine E_sub (lv' := [(0, .ref 133), (2, .int x2), (3, .int x3)]) [0, 2, 3] rfl ?_
        exact RM_whose_J46_ok m7 x2 x3 1 _ h
    · have h := ifp h hc
      refine E_iconst (v := (-1)) (n := 22) 11 rfl rfl icz_m1 <| E_ireturn 12 rfl rfl (eS h)
theorem RM_round_J22_ok (m : Mem) (x1 : Int32) (x2 : Int32) (x3 : Int32) (s1 : Int32) (R : Int32 × Mem) (h : RM_round_J22 m x1 x2 x3 s1 = some R) : E M_RM_round 22 [(0, .ref 133), (1, .int x1), (2, .int x2), (3, .int x3)] [.int s1, .ref 133] m (qI R.1 R.2) := by
  unfold RM_round_J22 at h
  obtain ⟨v1, m2, hq3, h⟩ := bV_ex h
  refine E_cV1r (n := 25) 12 rfl rfl co_12_291 rfl sh_133 rfl (K_RM_throwsIf m s1 _ hq3) <| E_if_eq (n := 28) (t := 30) 13 rfl rfl rfl (fun hc => ?_) (fun hc => ?_)
  · have h := ifp h hc
    obtain ⟨m4, hq5, h⟩ := bM_ex h
    obtain ⟨v6, hq7, h⟩ := bI_ex h
    obtain ⟨v8, m9, hq10, h⟩ := bV_ex h
    refine E_aload_n (n := 31) 16 rfl rfl rfl 0 rfl <| E_iload_n (n := 32) 17 rfl rfl rfl 1 rfl <| E_cV1v (n := 35) 18 rfl rfl co_12_295 rfl sh_133 rfl (K_RM_looks m2 x1 _ hq5) <| E_aload_n (n := 36) 19 rfl rfl rfl 0 rfl <| E_aload_n (n := 37) 20 rfl rfl rfl 0 rfl <| E_iconst (v := 2) (n := 38) 21 rfl rfl icz_2 <| E_iload_n (n := 39) 22 rfl rfl rfl 2 rfl <| E_imul (n := 40) 23 rfl rfl <| E_iconst (v := 2) (n := 41) 24 rfl rfl icz_2 <| E_iload_n (n := 42) 25 rfl rfl rfl 3 rfl <| E_imul (n := 43) 26 rfl rfl <| E_cV2r (n := 46) 27 rfl rfl co_12_281 rfl sh_133 rfl (K_RM_isOnLine m4 (2 * x2) (2 * x3) _ hq7) <| E_cV1r (n := 49) 28 rfl rfl co_12_291 rfl sh_133 rfl (K_RM_throwsIf m4 v6 _ hq10) <| E_if_eq (n := 52) (t := 54) 29 rfl rfl rfl (fun hc => ?_) (fun hc => ?_)
    · have h := ifp h hc
      obtain ⟨m11, hq12, h⟩ := bM_ex h
      refine E_aload_n (n := 55) 32 rfl rfl rfl 0 rfl <| E_iconst (v := 2) (n := 56) 33 rfl rfl icz_2 <| E_iload_n (n := 57) 34 rfl rfl rfl 2 rfl <| E_imul (n := 58) 35 rfl rfl <| E_iconst (v := 2) (n := 59) 36 rfl rfl icz_2 <| E_iload_n (n := 60) 37 rfl rfl rfl 3 rfl <| E_imul (n := 61) 38 rfl rfl <| E_cV2v (n := 64) 39 rfl rfl co_12_284 rfl sh_133 rfl (K_RM_rounds m9 (2 * x2) (2 * x3) _ hq12) <| E_aload_n (n := 65) 40 rfl rfl rfl 0 rfl <| E_gI (n := 68) 41 rfl rfl fg_12_278 sh_133 <| E_ireturn 42 rfl rfl (eS h)
    · have h := ifn h hc
      refine E_iconst (v := 0) (n := 53) 30 rfl rfl icz_0 <| E_ireturn 31 rfl rfl (eS h)
  · have h := ifn h hc
    refine E_iconst (v := 0) (n := 29) 14 rfl rfl icz_0 <| E_ireturn 15 rfl rfl (eS h)
theorem K_RM_round (m : Mem) (x1 : Int32) (x2 : Int32) (x3 : Int32) (R : Int32 × Mem) (h : RM_round m x1 x2 x3 = some R) : Mt M_RM_round [.ref 133, .int x1, .int x2, .int x3] m (qI R.1 R.2) := by
  refine Mt.of G_RM_round (Nat.le_of_ble_eq_true rfl) (E_sub (lv' := [(0, .ref 133), (1, .int x1), (2, .int x2), (3, .int x3)]) [0, 1, 2, 3] rfl ?_)
  unfold RM_round at h
  obtain ⟨v1, hq2, h⟩ := bI_ex h
  refine E_aload_n (n := 1) 0 rfl rfl rfl 0 rfl <| E_aload_n (n := 2) 1 rfl rfl rfl 0 rfl <| E_iload_n (n := 3) 2 rfl rfl rfl 1 rfl <| E_cV1r (n := 6) 3 rfl rfl co_12_256 rfl sh_133 rfl (K_RM_isLine m x1 _ hq2) <| E_if_eq (n := 9) (t := 17) 4 rfl rfl rfl (fun hc => ?_) (fun hc => ?_)
  · have h := ifp h hc
    refine E_iconst (v := 1) (n := 18) 9 rfl rfl icz_1 <| E_goto (t := 22) 10 rfl rfl <| ?_
    exact RM_round_J22_ok m x1 x2 x3 1 _ h
  · have h := ifn h hc
    refine E_iload_n (n := 10) 5 rfl rfl rfl 2 rfl <| E_iload_n (n := 11) 6 rfl rfl rfl 3 rfl <| E_dS2r (n := 14) 7 rfl rfl co_12_310 rfl rfl (K_RM_isPoint m x2 x3 _ rfl) <| E_if_ne (n := 17) (t := 21) 8 rfl rfl rfl (fun hc => ?_) (fun hc => ?_)
    · have h := ifn h hc
      refine E_iconst (v := 0) (n := 22) 11 rfl rfl icz_0 <| ?_
      exact RM_round_J22_ok m x1 x2 x3 0 _ h
    · have h := ifp h hc
      refine E_iconst (v := 1) (n := 18) 9 rfl rfl icz_1 <| E_goto (t := 22) 10 rfl rfl <| ?_
      exact RM_round_J22_ok m x1 x2 x3 1 _ h
theorem K_RM_isSquareHis (m : Mem) (x1 : Int32) (x2 : Int32) (R : Int32 × Mem) (h : RM_isSquareHis m x1 x2 = some R) : Mt M_RM_isSquareHis [.ref 133, .int x1, .int x2] m (qI R.1 R.2) := by
  refine Mt.of G_RM_isSquareHis (Nat.le_of_ble_eq_true rfl) (E_sub (lv' := [(0, .ref 133), (1, .int x1), (2, .int x2)]) [0, 1, 2] rfl ?_)
  unfold RM_isSquareHis at h
  obtain ⟨v1, m2, hq3, h⟩ := bV_ex h
  obtain ⟨hc4, h⟩ := ift h
  refine E_aload_n (n := 1) 0 rfl rfl rfl 0 rfl <| E_iconst (v := 2) (n := 2) 1 rfl rfl icz_2 <| E_iload_n (n := 3) 2 rfl rfl rfl 1 rfl <| E_imul (n := 4) 3 rfl rfl <| E_iconst (v := 1) (n := 5) 4 rfl rfl icz_1 <| E_iadd (n := 6) 5 rfl rfl <| E_iconst (v := 2) (n := 7) 6 rfl rfl icz_2 <| E_iload_n (n := 8) 7 rfl rfl rfl 2 rfl <| E_imul (n := 9) 8 rfl rfl <| E_iconst (v := 1) (n := 10) 9 rfl rfl icz_1 <| E_iadd (n := 11) 10 rfl rfl <| E_cV2r (n := 14) 11 rfl rfl co_12_313 rfl sh_133 rfl (K_RM_isHis m ((2 * x1) + 1) ((2 * x2) + 1) _ hq3) <| E_zreturn 12 rfl rfl hc4 (eS h)
theorem K_RM_square (m : Mem) (x1 : Int32) (x2 : Int32) (x3 : Int32) (R : Int32 × Mem) (h : RM_square m x1 x2 x3 = some R) : Mt M_RM_square [.ref 133, .int x1, .int x2, .int x3] m (qI R.1 R.2) := by
  refine Mt.of G_RM_square (Nat.le_of_ble_eq_true rfl) (E_sub (lv' := [(0, .ref 133), (1, .int x1), (2, .int x2), (3, .int x3)]) [0, 1, 2, 3] rfl ?_)
  unfold RM_square at h
  obtain ⟨m1, hm1, h⟩ := letM_ex h
  obtain ⟨v2, hq3, h⟩ := bI_ex h
  refine E_aload_n (n := 1) 0 rfl rfl rfl 0 rfl <| E_iconst (v := 0) (n := 2) 1 rfl rfl icz_0 <| E_pI (n := 5) 2 rfl rfl fp_12_1 sh_133 <| E_mem hm1 <| E_aload_n (n := 6) 3 rfl rfl rfl 0 rfl <| E_iload_n (n := 7) 4 rfl rfl rfl 1 rfl <| E_cV1r (n := 10) 5 rfl rfl co_12_256 rfl sh_133 rfl (K_RM_isLine m1 x1 _ hq3) <| E_if_eq (n := 13) (t := 21) 6 rfl rfl rfl (fun hc => ?_) (fun hc => ?_)
  · have h := ifp h hc
    refine E_iconst (v := (-1)) (n := 22) 11 rfl rfl icz_m1 <| E_ireturn 12 rfl rfl (eS h)
  · have h := ifn h hc
    refine E_iload_n (n := 14) 7 rfl rfl rfl 2 rfl <| E_iload_n (n := 15) 8 rfl rfl rfl 3 rfl <| E_dS2r (n := 18) 9 rfl rfl co_12_316 rfl rfl (K_RM_isSquare m1 x2 x3 _ rfl) <| E_if_ne (n := 21) (t := 23) 10 rfl rfl rfl (fun hc => ?_) (fun hc => ?_)
    · have h := ifn h hc
      obtain ⟨m4, hq5, h⟩ := bM_ex h
      obtain ⟨v6, m7, hq8, h⟩ := bV_ex h
      refine E_aload_n (n := 24) 13 rfl rfl rfl 0 rfl <| E_iload_n (n := 25) 14 rfl rfl rfl 1 rfl <| E_cV1v (n := 28) 15 rfl rfl co_12_295 rfl sh_133 rfl (K_RM_looks m1 x1 _ hq5) <| E_aload_n (n := 29) 16 rfl rfl rfl 0 rfl <| E_iload_n (n := 30) 17 rfl rfl rfl 2 rfl <| E_iload_n (n := 31) 18 rfl rfl rfl 3 rfl <| E_cV2r (n := 34) 19 rfl rfl co_12_319 rfl sh_133 rfl (K_RM_isSquareHis m4 x2 x3 _ hq8) <| E_if_eq (n := 37) (t := 41) 20 rfl rfl rfl (fun hc => ?_) (fun hc => ?_)
      · have h := ifp h hc
        refine E_iconst (v := 0) (n := 42) 23 rfl rfl icz_0 <| ?_
        refine E_ireturn 24 rfl rfl (eS h)
      · have h := ifn h hc
        refine E_iconst (v := 1) (n := 38) 21 rfl rfl icz_1 <| E_goto (t := 42) 22 rfl rfl <| ?_
        refine E_ireturn 24 rfl rfl (eS h)
    · have h := ifp h hc
      refine E_iconst (v := (-1)) (n := 22) 11 rfl rfl icz_m1 <| E_ireturn 12 rfl rfl (eS h)
theorem RM_maps_L9_ok (kx : Mem → Int32 → Option (Int32 × Mem)) (R : Int32 × Mem) (hx : ∀ (m : Mem) (x2 : Int32), kx m x2 = some R → E M_RM_maps 57 [(2, .int x2)] [] m (qI R.1 R.2)) : ∀ (n : Nat) (m : Mem) (x2 : Int32) (x3 : Int32), RM_maps_L9 kx n m x2 x3 = some R → E M_RM_maps 9 [(0, .ref 133), (2, .int x2), (3, .int x3)] [] m (qI R.1 R.2) := by
  intro n
  induction n with
  | zero =>
    intro m x2 x3 h
    exact absurd (show none = some R from h) (fun e => Option.some_ne_none R e.symm)
  | succ n ih =>
    intro m x2 x3 h
    rw [RM_maps_L9] at h
    refine E_iload_n (n := 10) 7 rfl rfl rfl 2 rfl <| E_sipush (v := 400) (n := 13) 8 rfl rfl spz_400 <| E_icmp_ge (n := 16) (t := 57) 9 rfl rfl rfl (fun hc => ?_) (fun hc => ?_)
    · have h := ifp h hc
      refine E_sub (lv' := [(2, .int x2)]) [1] rfl ?_
      exact hx m x2 h
    · have h := ifn h hc
      obtain ⟨v1, m2, hq3, h⟩ := bV_ex h
      obtain ⟨hc4, h⟩ := ift h
      obtain ⟨m5, hm5, h⟩ := letM_ex h
      refine E_aload_n (n := 17) 10 rfl rfl rfl 0 rfl <| E_gF (r := 141) (n := 20) 11 rfl rfl fg_12_53 sh_133 rfl <| E_iload_n (n := 21) 12 rfl rfl rfl 2 rfl <| E_aload_n (n := 22) 13 rfl rfl rfl 0 rfl <| E_iload_n (n := 23) 14 rfl rfl rfl 2 rfl <| E_bipush (v := 20) (n := 25) 15 rfl rfl bpz_20 <| E_irm (n := 26) 16 rfl rfl (by decide) <| E_iload_n (n := 27) 17 rfl rfl rfl 2 rfl <| E_bipush (v := 20) (n := 29) 18 rfl rfl bpz_20 <| E_idiv (n := 30) 19 rfl rfl (by decide) <| E_cV2r (n := 33) 20 rfl rfl co_12_319 rfl sh_133 rfl (K_RM_isSquareHis m (irm x3 20) (x3 / 20) _ hq3) <| E_zast (n := 34) 21 rfl rfl sh_141 hc4 <| E_mem hm5 <| E_iload_n (n := 35) 22 rfl rfl rfl 1 rfl <| E_aload_n (n := 36) 23 rfl rfl rfl 0 rfl <| E_gF (r := 141) (n := 39) 24 rfl rfl fg_12_53 sh_133 rfl <| E_iload_n (n := 40) 25 rfl rfl rfl 2 rfl <| E_zald (n := 41) 26 rfl rfl sh_141 hc4 <| E_if_eq (n := 44) (t := 48) 27 rfl rfl rfl (fun hc => ?_) (fun hc => ?_)
      · have h := ifp h hc
        refine E_iconst (v := 0) (n := 49) 30 rfl rfl icz_0 <| ?_
        obtain ⟨v6, hv6, h⟩ := letV_ex h
        refine E_iadd (n := 50) 31 rfl rfl <| E_top hv6 <| E_istore_n (lv' := [(0, .ref 133), (2, .int v6), (3, .int x3)]) (n := 51) 32 rfl rfl rfl (Nat.le_of_ble_eq_true rfl) [1, 0, 2] rfl <| E_iinc (v := (x3 + 1)) (lv' := [(0, .ref 133), (2, .int v6), (3, .int (x3 + 1))]) (n := 54) 33 rfl rfl 2 rfl (by rw [icz_1]) (Nat.le_of_ble_eq_true rfl) [1, 2, 0] rfl <| E_goto (t := 9) 34 rfl rfl <| ?_
        exact ih m5 v6 (x3 + 1) h
      · have h := ifn h hc
        refine E_iconst (v := 1) (n := 45) 28 rfl rfl icz_1 <| E_goto (t := 49) 29 rfl rfl <| ?_
        obtain ⟨v7, hv7, h⟩ := letV_ex h
        refine E_iadd (n := 50) 31 rfl rfl <| E_top hv7 <| E_istore_n (lv' := [(0, .ref 133), (2, .int v7), (3, .int x3)]) (n := 51) 32 rfl rfl rfl (Nat.le_of_ble_eq_true rfl) [1, 0, 2] rfl <| E_iinc (v := (x3 + 1)) (lv' := [(0, .ref 133), (2, .int v7), (3, .int (x3 + 1))]) (n := 54) 33 rfl rfl 2 rfl (by rw [icz_1]) (Nat.le_of_ble_eq_true rfl) [1, 2, 0] rfl <| E_goto (t := 9) 34 rfl rfl <| ?_
        exact ih m5 v7 (x3 + 1) h
theorem K_RM_maps (m : Mem) (x1 : Int32) (R : Int32 × Mem) (h : RM_maps m x1 = some R) : Mt M_RM_maps [.ref 133, .int x1] m (qI R.1 R.2) := by
  refine Mt.of G_RM_maps (Nat.le_of_ble_eq_true rfl) (E_sub (lv' := [(0, .ref 133), (1, .int x1)]) [0, 1] rfl ?_)
  unfold RM_maps at h
  obtain ⟨m1, hq2, h⟩ := bM_ex h
  refine E_aload_n (n := 1) 0 rfl rfl rfl 0 rfl <| E_iload_n (n := 2) 1 rfl rfl rfl 1 rfl <| E_cV1v (n := 5) 2 rfl rfl co_12_295 rfl sh_133 rfl (K_RM_looks m x1 _ hq2) <| E_iconst (v := 0) (n := 6) 3 rfl rfl icz_0 <| E_istore_n (lv' := [(0, .ref 133), (1, .int x1), (2, .int 0)]) (n := 7) 4 rfl rfl rfl (Nat.le_of_ble_eq_true rfl) [1, 2, 0] rfl <| E_iconst (v := 0) (n := 8) 5 rfl rfl icz_0 <| E_istore_n (lv' := [(0, .ref 133), (1, .int x1), (2, .int 0), (3, .int 0)]) (n := 9) 6 rfl rfl rfl (Nat.le_of_ble_eq_true rfl) [1, 2, 3, 0] rfl <| ?_
  refine E_sub (lv' := [(0, .ref 133), (2, .int 0), (3, .int 0)]) [0, 2, 3] rfl ?_
  refine RM_maps_L9_ok _ R ?_ FU m1 0 0 h
  intro m4 y3 h
  refine E_iload_n (n := 58) 35 rfl rfl rfl 0 rfl <| E_ireturn 36 rfl rfl (eS h)
theorem K_RM_acres (m : Mem) (x1 : Int32) (R : Int32 × Mem) (h : RM_acres m x1 = some R) : Mt M_RM_acres [.ref 133, .int x1] m (qI R.1 R.2) := by
  refine Mt.of G_RM_acres (Nat.le_of_ble_eq_true rfl) (E_sub (lv' := [(0, .ref 133), (1, .int x1)]) [0, 1] rfl ?_)
  unfold RM_acres at h
  obtain ⟨m1, hm1, h⟩ := letM_ex h
  obtain ⟨v2, hq3, h⟩ := bI_ex h
  refine E_aload_n (n := 1) 0 rfl rfl rfl 0 rfl <| E_iconst (v := 0) (n := 2) 1 rfl rfl icz_0 <| E_pI (n := 5) 2 rfl rfl fp_12_1 sh_133 <| E_mem hm1 <| E_aload_n (n := 6) 3 rfl rfl rfl 0 rfl <| E_iload_n (n := 7) 4 rfl rfl rfl 1 rfl <| E_cV1r (n := 10) 5 rfl rfl co_12_256 rfl sh_133 rfl (K_RM_isLine m1 x1 _ hq3) <| E_if_eq (n := 13) (t := 21) 6 rfl rfl rfl (fun hc => ?_) (fun hc => ?_)
  · have h := ifp h hc
    refine E_iconst (v := (-1)) (n := 22) 11 rfl rfl icz_m1 <| ?_
    refine E_ireturn 12 rfl rfl (eS h)
  · have h := ifn h hc
    obtain ⟨v4, m5, hq6, h⟩ := bV_ex h
    refine E_aload_n (n := 14) 7 rfl rfl rfl 0 rfl <| E_iload_n (n := 15) 8 rfl rfl rfl 1 rfl <| E_cV1r (n := 18) 9 rfl rfl co_12_322 rfl sh_133 rfl (K_RM_maps m1 x1 _ hq6) <| E_goto (t := 22) 10 rfl rfl <| ?_
    refine E_ireturn 12 rfl rfl (eS h)
theorem RM_beside_J47_ok (m : Mem) (x2 : Int32) (s0 : Int32) (s1 : Int32) (R : Int32) (h : RM_beside_J47 x2 s0 s1 = R) : E M_RM_beside 47 [(2, .int x2)] [.int s1, .int s0] m (qI R m) := by
  unfold RM_beside_J47 at h
  obtain ⟨v1, hv1, h⟩ := letV_ex h
  refine E_iadd (n := 48) 29 rfl rfl <| E_top hv1 <| E_istore_n (lv' := [(2, .int x2), (3, .int v1)]) (n := 49) 30 rfl rfl rfl (Nat.le_of_ble_eq_true rfl) [1, 0] rfl <| E_iload_n (n := 50) 31 rfl rfl rfl 0 rfl <| E_iload_n (n := 51) 32 rfl rfl rfl 1 rfl <| E_dS2r (n := 54) 33 rfl rfl co_12_316 rfl rfl (K_RM_isSquare m x2 v1 _ rfl) <| E_if_eq (n := 57) (t := 66) 34 rfl rfl rfl (fun hc => ?_) (fun hc => ?_)
  · have h := ifp h hc
    refine E_iconst (v := (-1)) (n := 67) 41 rfl rfl icz_m1 <| ?_
    refine E_ireturn 42 rfl rfl (eT h)
  · have h := ifn h hc
    refine E_bipush (v := 20) (n := 59) 35 rfl rfl bpz_20 <| E_iload_n (n := 60) 36 rfl rfl rfl 1 rfl <| E_imul (n := 61) 37 rfl rfl <| E_iload_n (n := 62) 38 rfl rfl rfl 0 rfl <| E_iadd (n := 63) 39 rfl rfl <| E_goto (t := 67) 40 rfl rfl <| ?_
    refine E_ireturn 42 rfl rfl (eT h)
theorem RM_beside_J23_ok (m : Mem) (x0 : Int32) (x1 : Int32) (s0 : Int32) (s1 : Int32) (R : Int32) (h : RM_beside_J23 x0 x1 s0 s1 = R) : E M_RM_beside 23 [(0, .int x0), (1, .int x1)] [.int s1, .int s0] m (qI R m) := by
  unfold RM_beside_J23 at h
  obtain ⟨v1, hv1, h⟩ := letV_ex h
  refine E_iadd (n := 24) 14 rfl rfl <| E_top hv1 <| E_istore_n (lv' := [(0, .int x0), (1, .int x1), (2, .int v1)]) (n := 25) 15 rfl rfl rfl (Nat.le_of_ble_eq_true rfl) [1, 2, 0] rfl <| E_iload_n (n := 26) 16 rfl rfl rfl 0 rfl <| E_bipush (v := 20) (n := 28) 17 rfl rfl bpz_20 <| E_idiv (n := 29) 18 rfl rfl (by decide) <| E_iload_n (n := 30) 19 rfl rfl rfl 1 rfl <| E_iconst (v := 2) (n := 31) 20 rfl rfl icz_2 <| E_icmp_ne (n := 34) (t := 38) 21 rfl rfl rfl (fun hc => ?_) (fun hc => ?_)
  · have h := ifn h hc
    refine E_iload_n (n := 39) 24 rfl rfl rfl 1 rfl <| E_if_ne (n := 42) (t := 46) 25 rfl rfl rfl (fun hc => ?_) (fun hc => ?_)
    · have h := ifn h hc
      refine E_iconst (v := 0) (n := 47) 28 rfl rfl icz_0 <| ?_
      refine E_sub (lv' := [(2, .int v1)]) [2] rfl ?_
      exact RM_beside_J47_ok m v1 (x0 / 20) 0 _ h
    · have h := ifp h hc
      refine E_iconst (v := (-1)) (n := 43) 26 rfl rfl icz_m1 <| E_goto (t := 47) 27 rfl rfl <| ?_
      refine E_sub (lv' := [(2, .int v1)]) [2] rfl ?_
      exact RM_beside_J47_ok m v1 (x0 / 20) (-1) _ h
  · have h := ifp h hc
    refine E_iconst (v := 1) (n := 35) 22 rfl rfl icz_1 <| E_goto (t := 47) 23 rfl rfl <| ?_
    refine E_sub (lv' := [(2, .int v1)]) [2] rfl ?_
    exact RM_beside_J47_ok m v1 (x0 / 20) 1 _ h
theorem K_RM_beside (m : Mem) (x0 : Int32) (x1 : Int32) (R : Int32) (h : RM_beside x0 x1 = R) : Mt M_RM_beside [.int x0, .int x1] m (qI R m) := by
  refine Mt.of G_RM_beside (Nat.le_of_ble_eq_true rfl) (E_sub (lv' := [(0, .int x0), (1, .int x1)]) [0, 1] rfl ?_)
  unfold RM_beside at h
  refine E_iload_n (n := 1) 0 rfl rfl rfl 0 rfl <| E_bipush (v := 20) (n := 3) 1 rfl rfl bpz_20 <| E_irm (n := 4) 2 rfl rfl (by decide) <| E_iload_n (n := 5) 3 rfl rfl rfl 1 rfl <| E_iconst (v := 1) (n := 6) 4 rfl rfl icz_1 <| E_icmp_ne (n := 9) (t := 13) 5 rfl rfl rfl (fun hc => ?_) (fun hc => ?_)
  · have h := ifn h hc
    refine E_iload_n (n := 14) 8 rfl rfl rfl 1 rfl <| E_iconst (v := 3) (n := 15) 9 rfl rfl icz_3 <| E_icmp_ne (n := 18) (t := 22) 10 rfl rfl rfl (fun hc => ?_) (fun hc => ?_)
    · have h := ifn h hc
      refine E_iconst (v := 0) (n := 23) 13 rfl rfl icz_0 <| ?_
      exact RM_beside_J23_ok m x0 x1 (irm x0 20) 0 _ h
    · have h := ifp h hc
      refine E_iconst (v := (-1)) (n := 19) 11 rfl rfl icz_m1 <| E_goto (t := 23) 12 rfl rfl <| ?_
      exact RM_beside_J23_ok m x0 x1 (irm x0 20) (-1) _ h
  · have h := ifp h hc
    refine E_iconst (v := 1) (n := 10) 6 rfl rfl icz_1 <| E_goto (t := 23) 7 rfl rfl <| ?_
    exact RM_beside_J23_ok m x0 x1 (irm x0 20) 1 _ h
theorem RM_border_L35_ok (x3 : Int32) (kx : Mem → Int32 → Option (Int32 × Mem)) (R : Int32 × Mem) (hx : ∀ (m : Mem) (x2 : Int32), kx m x2 = some R → E M_RM_border 87 [(0, .ref 133), (2, .int x2), (3, .int x3)] [] m (qI R.1 R.2)) : ∀ (n : Nat) (m : Mem) (x2 : Int32) (x4 : Int32), RM_border_L35 x3 kx n m x2 x4 = some R → E M_RM_border 35 [(0, .ref 133), (2, .int x2), (3, .int x3), (4, .int x4)] [] m (qI R.1 R.2) := by
  intro n
  induction n with
  | zero =>
    intro m x2 x4 h
    exact absurd (show none = some R from h) (fun e => Option.some_ne_none R e.symm)
  | succ n ih =>
    intro m x2 x4 h
    rw [RM_border_L35] at h
    refine E_iload (n := 37) 22 rfl rfl 3 rfl <| E_iconst (v := 4) (n := 38) 23 rfl rfl icz_4 <| E_icmp_ge (n := 41) (t := 87) 24 rfl rfl rfl (fun hc => ?_) (fun hc => ?_)
    · have h := ifp h hc
      refine E_sub (lv' := [(0, .ref 133), (2, .int x2), (3, .int x3)]) [0, 1, 2] rfl ?_
      exact hx m x2 h
    · have h := ifn h hc
      obtain ⟨hc1, h⟩ := ift h
      refine E_iload_n (n := 42) 25 rfl rfl rfl 1 rfl <| E_aload_n (n := 43) 26 rfl rfl rfl 0 rfl <| E_gF (r := 141) (n := 46) 27 rfl rfl fg_12_53 sh_133 rfl <| E_iload_n (n := 47) 28 rfl rfl rfl 2 rfl <| E_zald (n := 48) 29 rfl rfl sh_141 hc1 <| E_if_eq (n := 51) (t := 78) 30 rfl rfl rfl (fun hc => ?_) (fun hc => ?_)
      · have h := ifp h hc
        refine E_iconst (v := 0) (n := 79) 44 rfl rfl icz_0 <| ?_
        obtain ⟨v2, hv2, h⟩ := letV_ex h
        refine E_iadd (n := 80) 45 rfl rfl <| E_top hv2 <| E_istore_n (lv' := [(0, .ref 133), (2, .int v2), (3, .int x3), (4, .int x4)]) (n := 81) 46 rfl rfl rfl (Nat.le_of_ble_eq_true rfl) [1, 0, 2, 3] rfl <| E_iinc (v := (x4 + 1)) (lv' := [(0, .ref 133), (2, .int v2), (3, .int x3), (4, .int (x4 + 1))]) (n := 84) 47 rfl rfl 3 rfl (by rw [icz_1]) (Nat.le_of_ble_eq_true rfl) [1, 2, 3, 0] rfl <| E_goto (t := 35) 48 rfl rfl <| ?_
        exact ih m v2 (x4 + 1) h
      · have h := ifn h hc
        refine E_iload_n (n := 52) 31 rfl rfl rfl 2 rfl <| E_iload (n := 54) 32 rfl rfl 3 rfl <| E_dS2r (n := 57) 33 rfl rfl co_12_326 rfl rfl (K_RM_beside m x3 x4 _ rfl) <| E_if_lt (n := 60) (t := 74) 34 rfl rfl rfl (fun hc => ?_) (fun hc => ?_)
        · have h := ifp h hc
          refine E_iconst (v := 1) (n := 75) 42 rfl rfl icz_1 <| E_goto (t := 79) 43 rfl rfl <| ?_
          obtain ⟨v3, hv3, h⟩ := letV_ex h
          refine E_iadd (n := 80) 45 rfl rfl <| E_top hv3 <| E_istore_n (lv' := [(0, .ref 133), (2, .int v3), (3, .int x3), (4, .int x4)]) (n := 81) 46 rfl rfl rfl (Nat.le_of_ble_eq_true rfl) [1, 0, 2, 3] rfl <| E_iinc (v := (x4 + 1)) (lv' := [(0, .ref 133), (2, .int v3), (3, .int x3), (4, .int (x4 + 1))]) (n := 84) 47 rfl rfl 3 rfl (by rw [icz_1]) (Nat.le_of_ble_eq_true rfl) [1, 2, 3, 0] rfl <| E_goto (t := 35) 48 rfl rfl <| ?_
          exact ih m v3 (x4 + 1) h
        · have h := ifn h hc
          obtain ⟨hc4, h⟩ := ift h
          refine E_aload_n (n := 61) 35 rfl rfl rfl 0 rfl <| E_gF (r := 141) (n := 64) 36 rfl rfl fg_12_53 sh_133 rfl <| E_iload_n (n := 65) 37 rfl rfl rfl 2 rfl <| E_iload (n := 67) 38 rfl rfl 3 rfl <| E_dS2r (n := 70) 39 rfl rfl co_12_326 rfl rfl (K_RM_beside m x3 x4 _ rfl) <| E_zald (n := 71) 40 rfl rfl sh_141 hc4 <| E_if_ne (n := 74) (t := 78) 41 rfl rfl rfl (fun hc => ?_) (fun hc => ?_)
          · have h := ifn h hc
            refine E_iconst (v := 0) (n := 79) 44 rfl rfl icz_0 <| ?_
            obtain ⟨v5, hv5, h⟩ := letV_ex h
            refine E_iadd (n := 80) 45 rfl rfl <| E_top hv5 <| E_istore_n (lv' := [(0, .ref 133), (2, .int v5), (3, .int x3), (4, .int x4)]) (n := 81) 46 rfl rfl rfl (Nat.le_of_ble_eq_true rfl) [1, 0, 2, 3] rfl <| E_iinc (v := (x4 + 1)) (lv' := [(0, .ref 133), (2, .int v5), (3, .int x3), (4, .int (x4 + 1))]) (n := 84) 47 rfl rfl 3 rfl (by rw [icz_1]) (Nat.le_of_ble_eq_true rfl) [1, 2, 3, 0] rfl <| E_goto (t := 35) 48 rfl rfl <| ?_
            exact ih m v5 (x4 + 1) h
          · have h := ifp h hc
            refine E_iconst (v := 1) (n := 75) 42 rfl rfl icz_1 <| E_goto (t := 79) 43 rfl rfl <| ?_
            obtain ⟨v6, hv6, h⟩ := letV_ex h
            refine E_iadd (n := 80) 45 rfl rfl <| E_top hv6 <| E_istore_n (lv' := [(0, .ref 133), (2, .int v6), (3, .int x3), (4, .int x4)]) (n := 81) 46 rfl rfl rfl (Nat.le_of_ble_eq_true rfl) [1, 0, 2, 3] rfl <| E_iinc (v := (x4 + 1)) (lv' := [(0, .ref 133), (2, .int v6), (3, .int x3), (4, .int (x4 + 1))]) (n := 84) 47 rfl rfl 3 rfl (by rw [icz_1]) (Nat.le_of_ble_eq_true rfl) [1, 2, 3, 0] rfl <| E_goto (t := 35) 48 rfl rfl <| ?_
            exact ih m v6 (x4 + 1) h
theorem RM_border_L25_ok (kx : Mem → Int32 → Option (Int32 × Mem)) (R : Int32 × Mem) (hx : ∀ (m : Mem) (x2 : Int32), kx m x2 = some R → E M_RM_border 93 [(2, .int x2)] [] m (qI R.1 R.2)) : ∀ (n : Nat) (m : Mem) (x2 : Int32) (x3 : Int32), RM_border_L25 kx n m x2 x3 = some R → E M_RM_border 25 [(0, .ref 133), (2, .int x2), (3, .int x3)] [] m (qI R.1 R.2) := by
  intro n
  induction n with
  | zero =>
    intro m x2 x3 h
    exact absurd (show none = some R from h) (fun e => Option.some_ne_none R e.symm)
  | succ n ih =>
    intro m x2 x3 h
    rw [RM_border_L25] at h
    refine E_iload_n (n := 26) 17 rfl rfl rfl 2 rfl <| E_sipush (v := 400) (n := 29) 18 rfl rfl spz_400 <| E_icmp_ge (n := 32) (t := 93) 19 rfl rfl rfl (fun hc => ?_) (fun hc => ?_)
    · have h := ifp h hc
      refine E_sub (lv' := [(2, .int x2)]) [1] rfl ?_
      exact hx m x2 h
    · have h := ifn h hc
      refine E_iconst (v := 0) (n := 33) 20 rfl rfl icz_0 <| E_istore (lv' := [(0, .ref 133), (2, .int x2), (3, .int x3), (4, .int 0)]) (n := 35) 21 rfl rfl (Nat.le_of_ble_eq_true rfl) [1, 2, 3, 0] rfl <| ?_
      refine RM_border_L35_ok x3 _ R ?_ FU m x2 0 h
      intro m2 y1 h
      refine E_iinc (v := (x3 + 1)) (lv' := [(0, .ref 133), (2, .int y1), (3, .int (x3 + 1))]) (n := 90) 49 rfl rfl 2 rfl (by rw [icz_1]) (Nat.le_of_ble_eq_true rfl) [1, 2, 0] rfl <| E_goto (t := 25) 50 rfl rfl <| ?_
      exact ih m2 y1 (x3 + 1) h
theorem K_RM_border (m : Mem) (x1 : Int32) (R : Int32 × Mem) (h : RM_border m x1 = some R) : Mt M_RM_border [.ref 133, .int x1] m (qI R.1 R.2) := by
  refine Mt.of G_RM_border (Nat.le_of_ble_eq_true rfl) (E_sub (lv' := [(0, .ref 133), (1, .int x1)]) [0, 1] rfl ?_)
  unfold RM_border at h
  obtain ⟨m1, hm1, h⟩ := letM_ex h
  obtain ⟨v2, hq3, h⟩ := bI_ex h
  refine E_aload_n (n := 1) 0 rfl rfl rfl 0 rfl <| E_iconst (v := 0) (n := 2) 1 rfl rfl icz_0 <| E_pI (n := 5) 2 rfl rfl fp_12_1 sh_133 <| E_mem hm1 <| E_aload_n (n := 6) 3 rfl rfl rfl 0 rfl <| E_iload_n (n := 7) 4 rfl rfl rfl 1 rfl <| E_cV1r (n := 10) 5 rfl rfl co_12_256 rfl sh_133 rfl (K_RM_isLine m1 x1 _ hq3) <| E_if_ne (n := 13) (t := 15) 6 rfl rfl rfl (fun hc => ?_) (fun hc => ?_)
  · have h := ifn h hc
    obtain ⟨v4, m5, hq6, h⟩ := bV_ex h
    refine E_aload_n (n := 16) 9 rfl rfl rfl 0 rfl <| E_iload_n (n := 17) 10 rfl rfl rfl 1 rfl <| E_cV1r (n := 20) 11 rfl rfl co_12_322 rfl sh_133 rfl (K_RM_maps m1 x1 _ hq6) <| E_pop (n := 21) 12 rfl rfl rfl <| E_iconst (v := 0) (n := 22) 13 rfl rfl icz_0 <| E_istore_n (lv' := [(0, .ref 133), (1, .int x1), (2, .int 0)]) (n := 23) 14 rfl rfl rfl (Nat.le_of_ble_eq_true rfl) [1, 2, 0] rfl <| E_iconst (v := 0) (n := 24) 15 rfl rfl icz_0 <| E_istore_n (lv' := [(0, .ref 133), (1, .int x1), (2, .int 0), (3, .int 0)]) (n := 25) 16 rfl rfl rfl (Nat.le_of_ble_eq_true rfl) [1, 2, 3, 0] rfl <| ?_
    refine E_sub (lv' := [(0, .ref 133), (2, .int 0), (3, .int 0)]) [0, 2, 3] rfl ?_
    refine RM_border_L25_ok _ R ?_ FU m5 0 0 h
    intro m8 y7 h
    refine E_iload_n (n := 94) 51 rfl rfl rfl 0 rfl <| E_ireturn 52 rfl rfl (eS h)
  · have h := ifp h hc
    refine E_iconst (v := (-1)) (n := 14) 7 rfl rfl icz_m1 <| E_ireturn 8 rfl rfl (eS h)
theorem RM_within_L33_ok (x1 : Int32) (kx : Mem → Int32 → Option (Int32 × Mem)) (R : Int32 × Mem) (hx : ∀ (m : Mem) (x3 : Int32), kx m x3 = some R → E M_RM_within 108 [(3, .int x3)] [] m (qI R.1 R.2)) : ∀ (n : Nat) (m : Mem) (x3 : Int32) (x4 : Int32), RM_within_L33 x1 kx n m x3 x4 = some R → E M_RM_within 33 [(0, .ref 133), (1, .int x1), (3, .int x3), (4, .int x4)] [] m (qI R.1 R.2) := by
  intro n
  induction n with
  | zero =>
    intro m x3 x4 h
    exact absurd (show none = some R from h) (fun e => Option.some_ne_none R e.symm)
  | succ n ih =>
    intro m x3 x4 h
    rw [RM_within_L33] at h
    obtain ⟨hc1, h⟩ := ift h
    refine E_iload (n := 35) 20 rfl rfl 3 rfl <| E_aload_n (n := 36) 21 rfl rfl rfl 0 rfl <| E_gF (r := 135) (n := 39) 22 rfl rfl fg_12_33 sh_133 rfl <| E_bipush (v := 11) (n := 41) 23 rfl rfl bpz_11 <| E_iload_n (n := 42) 24 rfl rfl rfl 1 rfl <| E_iadd (n := 43) 25 rfl rfl <| E_iald (n := 44) 26 rfl rfl sh_135 hc1 <| E_icmp_ge (n := 47) (t := 108) 27 rfl rfl rfl (fun hc => ?_) (fun hc => ?_)
    · have h := ifp h hc
      refine E_sub (lv' := [(3, .int x3)]) [2] rfl ?_
      exact hx m x3 h
    · have h := ifn h hc
      obtain ⟨hc2, h⟩ := ift h
      obtain ⟨hc3, h⟩ := ift h
      obtain ⟨v4, m5, hq6, h⟩ := bV_ex h
      refine E_iload_n (n := 48) 28 rfl rfl rfl 2 rfl <| E_aload_n (n := 49) 29 rfl rfl rfl 0 rfl <| E_iconst (v := 2) (n := 50) 30 rfl rfl icz_2 <| E_aload_n (n := 51) 31 rfl rfl rfl 0 rfl <| E_gF (r := 135) (n := 54) 32 rfl rfl fg_12_33 sh_133 rfl <| E_bipush (v := 14) (n := 56) 33 rfl rfl bpz_14 <| E_bipush (v := 24) (n := 58) 34 rfl rfl bpz_24 <| E_iload_n (n := 59) 35 rfl rfl rfl 1 rfl <| E_imul (n := 60) 36 rfl rfl <| E_iadd (n := 61) 37 rfl rfl <| E_iconst (v := 2) (n := 62) 38 rfl rfl icz_2 <| E_iload (n := 64) 39 rfl rfl 3 rfl <| E_imul (n := 65) 40 rfl rfl <| E_iadd (n := 66) 41 rfl rfl <| E_iald (n := 67) 42 rfl rfl sh_135 hc2 <| E_imul (n := 68) 43 rfl rfl <| E_iconst (v := 2) (n := 69) 44 rfl rfl icz_2 <| E_aload_n (n := 70) 45 rfl rfl rfl 0 rfl <| E_gF (r := 135) (n := 73) 46 rfl rfl fg_12_33 sh_133 rfl <| E_bipush (v := 14) (n := 75) 47 rfl rfl bpz_14 <| E_bipush (v := 24) (n := 77) 48 rfl rfl bpz_24 <| E_iload_n (n := 78) 49 rfl rfl rfl 1 rfl <| E_imul (n := 79) 50 rfl rfl <| E_iadd (n := 80) 51 rfl rfl <| E_iconst (v := 2) (n := 81) 52 rfl rfl icz_2 <| E_iload (n := 83) 53 rfl rfl 3 rfl <| E_imul (n := 84) 54 rfl rfl <| E_iadd (n := 85) 55 rfl rfl <| E_iconst (v := 1) (n := 86) 56 rfl rfl icz_1 <| E_iadd (n := 87) 57 rfl rfl <| E_iald (n := 88) 58 rfl rfl sh_135 hc3 <| E_imul (n := 89) 59 rfl rfl <| E_cV2r (n := 92) 60 rfl rfl co_12_313 rfl sh_133 rfl (K_RM_isHis m (2 * (gI m 135 (ixn ((14 + (24 * x1)) + (2 * x4))))) (2 * (gI m 135 (ixn (((14 + (24 * x1)) + (2 * x4)) + 1)))) _ hq6) <| E_if_eq (n := 95) (t := 99) 61 rfl rfl rfl (fun hc => ?_) (fun hc => ?_)
      · have h := ifp h hc
        refine E_iconst (v := 0) (n := 100) 64 rfl rfl icz_0 <| ?_
        obtain ⟨v7, hv7, h⟩ := letV_ex h
        refine E_iadd (n := 101) 65 rfl rfl <| E_top hv7 <| E_istore_n (lv' := [(0, .ref 133), (1, .int x1), (3, .int v7), (4, .int x4)]) (n := 102) 66 rfl rfl rfl (Nat.le_of_ble_eq_true rfl) [1, 2, 0, 3] rfl <| E_iinc (v := (x4 + 1)) (lv' := [(0, .ref 133), (1, .int x1), (3, .int v7), (4, .int (x4 + 1))]) (n := 105) 67 rfl rfl 3 rfl (by rw [icz_1]) (Nat.le_of_ble_eq_true rfl) [1, 2, 3, 0] rfl <| E_goto (t := 33) 68 rfl rfl <| ?_
        exact ih m5 v7 (x4 + 1) h
      · have h := ifn h hc
        refine E_iconst (v := 1) (n := 96) 62 rfl rfl icz_1 <| E_goto (t := 100) 63 rfl rfl <| ?_
        obtain ⟨v8, hv8, h⟩ := letV_ex h
        refine E_iadd (n := 101) 65 rfl rfl <| E_top hv8 <| E_istore_n (lv' := [(0, .ref 133), (1, .int x1), (3, .int v8), (4, .int x4)]) (n := 102) 66 rfl rfl rfl (Nat.le_of_ble_eq_true rfl) [1, 2, 0, 3] rfl <| E_iinc (v := (x4 + 1)) (lv' := [(0, .ref 133), (1, .int x1), (3, .int v8), (4, .int (x4 + 1))]) (n := 105) 67 rfl rfl 3 rfl (by rw [icz_1]) (Nat.le_of_ble_eq_true rfl) [1, 2, 3, 0] rfl <| E_goto (t := 33) 68 rfl rfl <| ?_
        exact ih m5 v8 (x4 + 1) h
theorem K_RM_within (m : Mem) (x1 : Int32) (x2 : Int32) (R : Int32 × Mem) (h : RM_within m x1 x2 = some R) : Mt M_RM_within [.ref 133, .int x1, .int x2] m (qI R.1 R.2) := by
  refine Mt.of G_RM_within (Nat.le_of_ble_eq_true rfl) (E_sub (lv' := [(0, .ref 133), (1, .int x1), (2, .int x2)]) [0, 1, 2] rfl ?_)
  unfold RM_within at h
  obtain ⟨m1, hm1, h⟩ := letM_ex h
  obtain ⟨v2, hq3, h⟩ := bI_ex h
  refine E_aload_n (n := 1) 0 rfl rfl rfl 0 rfl <| E_iconst (v := 0) (n := 2) 1 rfl rfl icz_0 <| E_pI (n := 5) 2 rfl rfl fp_12_1 sh_133 <| E_mem hm1 <| E_aload_n (n := 6) 3 rfl rfl rfl 0 rfl <| E_iload_n (n := 7) 4 rfl rfl rfl 1 rfl <| E_cV1r (n := 10) 5 rfl rfl co_12_256 rfl sh_133 rfl (K_RM_isLine m1 x1 _ hq3) <| E_if_eq (n := 13) (t := 21) 6 rfl rfl rfl (fun hc => ?_) (fun hc => ?_)
  · have h := ifp h hc
    refine E_iconst (v := (-1)) (n := 22) 11 rfl rfl icz_m1 <| E_ireturn 12 rfl rfl (eS h)
  · have h := ifn h hc
    obtain ⟨v4, hq5, h⟩ := bI_ex h
    refine E_aload_n (n := 14) 7 rfl rfl rfl 0 rfl <| E_iload_n (n := 15) 8 rfl rfl rfl 2 rfl <| E_cV1r (n := 18) 9 rfl rfl co_12_256 rfl sh_133 rfl (K_RM_isLine m1 x2 _ hq5) <| E_if_ne (n := 21) (t := 23) 10 rfl rfl rfl (fun hc => ?_) (fun hc => ?_)
    · have h := ifn h hc
      obtain ⟨m6, hq7, h⟩ := bM_ex h
      refine E_aload_n (n := 24) 13 rfl rfl rfl 0 rfl <| E_iload_n (n := 25) 14 rfl rfl rfl 2 rfl <| E_cV1v (n := 28) 15 rfl rfl co_12_295 rfl sh_133 rfl (K_RM_looks m1 x2 _ hq7) <| E_iconst (v := 0) (n := 29) 16 rfl rfl icz_0 <| E_istore_n (lv' := [(0, .ref 133), (1, .int x1), (2, .int x2), (3, .int 0)]) (n := 30) 17 rfl rfl rfl (Nat.le_of_ble_eq_true rfl) [1, 2, 3, 0] rfl <| E_iconst (v := 0) (n := 31) 18 rfl rfl icz_0 <| E_istore (lv' := [(0, .ref 133), (1, .int x1), (2, .int x2), (3, .int 0), (4, .int 0)]) (n := 33) 19 rfl rfl (Nat.le_of_ble_eq_true rfl) [1, 2, 3, 4, 0] rfl <| ?_
      refine E_sub (lv' := [(0, .ref 133), (1, .int x1), (3, .int 0), (4, .int 0)]) [0, 1, 3, 4] rfl ?_
      refine RM_within_L33_ok x1 _ R ?_ FU m6 0 0 h
      intro m9 y8 h
      refine E_iload_n (n := 109) 69 rfl rfl rfl 0 rfl <| E_ireturn 70 rfl rfl (eS h)
    · have h := ifp h hc
      refine E_iconst (v := (-1)) (n := 22) 11 rfl rfl icz_m1 <| E_ireturn 12 rfl rfl (eS h)
theorem RM_claim_J244_ok (m : Mem) (R : Int32 × Mem) (h : RM_claim_J244 m = some R) : E M_RM_claim 244 [(0, .ref 133)] [] m (qI R.1 R.2) := by
  unfold RM_claim_J244 at h
  obtain ⟨m1, hq2, h⟩ := bM_ex h
  refine E_aload_n (n := 245) 137 rfl rfl rfl 0 rfl <| E_cV0v (n := 248) 138 rfl rfl co_12_200 rfl sh_133 rfl (K_RM_next m _ hq2) <| E_iconst (v := 1) (n := 249) 139 rfl rfl icz_1 <| E_zreturn 140 rfl rfl z1 (eS h)
theorem RM_claim_J180_ok (m : Mem) (x4 : Int32) (x5 : Int32) (R : Int32 × Mem) (h : RM_claim_J180 m x4 x5 = some R) : E M_RM_claim 180 [(0, .ref 133), (4, .int x4), (5, .int x5)] [] m (qI R.1 R.2) := by
  unfold RM_claim_J180 at h
  refine E_aload_n (n := 181) 107 rfl rfl rfl 0 rfl <| E_ldc2 (v := 6842739) (n := 184) 108 rfl rfl tw_1516 <| E_cV1r (n := 187) 109 rfl rfl co_12_225 rfl sh_133 rfl (K_RM_isWord m 6842739 _ rfl) <| E_if_eq (n := 190) (t := 205) 110 rfl rfl rfl (fun hc => ?_) (fun hc => ?_)
  · have h := ifp h hc
    refine E_aload_n (n := 206) 118 rfl rfl rfl 0 rfl <| E_ldc2 (v := 123563833652072) (n := 209) 119 rfl rfl tw_1517 <| E_cV1r (n := 212) 120 rfl rfl co_12_225 rfl sh_133 rfl (K_RM_isWord m 123563833652072 _ rfl) <| E_if_eq (n := 215) (t := 238) 121 rfl rfl rfl (fun hc => ?_) (fun hc => ?_)
    · have h := ifp h hc
      obtain ⟨v1, m2, hq3, h⟩ := bV_ex h
      obtain ⟨hc4, h⟩ := ift h
      refine E_aload_n (n := 239) 133 rfl rfl rfl 0 rfl <| E_iconst (v := 1) (n := 240) 134 rfl rfl icz_1 <| E_cV1r (n := 243) 135 rfl rfl co_12_197 rfl sh_133 rfl (K_RM_bad m 1 _ hq3) <| E_zreturn 136 rfl rfl hc4 (eS h)
    · have h := ifn h hc
      obtain ⟨v5, m6, hq7, h⟩ := bV_ex h
      refine E_aload_n (n := 216) 122 rfl rfl rfl 0 rfl <| E_aload_n (n := 217) 123 rfl rfl rfl 0 rfl <| E_iload (n := 219) 124 rfl rfl 1 rfl <| E_iload (n := 221) 125 rfl rfl 2 rfl <| E_cV2r (n := 224) 126 rfl rfl co_12_313 rfl sh_133 rfl (K_RM_isHis m x4 x5 _ hq7) <| E_if_ne (n := 227) (t := 231) 127 rfl rfl rfl (fun hc => ?_) (fun hc => ?_)
      · have h := ifn h hc
        refine E_iconst (v := 0) (n := 232) 130 rfl rfl icz_0 <| ?_
        obtain ⟨m8, hm8, h⟩ := letM_ex h
        refine E_pZ (n := 235) 131 rfl rfl fp_12_332 sh_133 z0 <| E_mem hm8 <| E_goto (t := 244) 132 rfl rfl <| ?_
        refine E_sub (lv' := [(0, .ref 133)]) [0] rfl ?_
        exact RM_claim_J244_ok m8 _ h
      · have h := ifp h hc
        refine E_iconst (v := 1) (n := 228) 128 rfl rfl icz_1 <| E_goto (t := 232) 129 rfl rfl <| ?_
        obtain ⟨m9, hm9, h⟩ := letM_ex h
        refine E_pZ (n := 235) 131 rfl rfl fp_12_332 sh_133 z1 <| E_mem hm9 <| E_goto (t := 244) 132 rfl rfl <| ?_
        refine E_sub (lv' := [(0, .ref 133)]) [0] rfl ?_
        exact RM_claim_J244_ok m9 _ h
  · have h := ifn h hc
    obtain ⟨v10, m11, hq12, h⟩ := bV_ex h
    obtain ⟨hc13, h⟩ := ift h
    obtain ⟨m14, hm14, h⟩ := letM_ex h
    refine E_aload_n (n := 191) 111 rfl rfl rfl 0 rfl <| E_aload_n (n := 192) 112 rfl rfl rfl 0 rfl <| E_iload (n := 194) 113 rfl rfl 1 rfl <| E_iload (n := 196) 114 rfl rfl 2 rfl <| E_cV2r (n := 199) 115 rfl rfl co_12_313 rfl sh_133 rfl (K_RM_isHis m x4 x5 _ hq12) <| E_pZ (n := 202) 116 rfl rfl fp_12_332 sh_133 hc13 <| E_mem hm14 <| E_goto (t := 244) 117 rfl rfl <| ?_
    refine E_sub (lv' := [(0, .ref 133)]) [0] rfl ?_
    exact RM_claim_J244_ok m14 _ h
theorem RM_claim_J151_ok (m : Mem) (x2 : Int32) (x4 : Int32) (x5 : Int32) (R : Int32 × Mem) (h : RM_claim_J151 m x2 x4 x5 = some R) : E M_RM_claim 151 [(0, .ref 133), (2, .int x2), (4, .int x4), (5, .int x5)] [] m (qI R.1 R.2) := by
  unfold RM_claim_J151 at h
  refine E_aload_n (n := 152) 94 rfl rfl rfl 0 rfl <| E_ldc2 (v := 28526) (n := 155) 95 rfl rfl tw_1524 <| E_cV1r (n := 158) 96 rfl rfl co_12_225 rfl sh_133 rfl (K_RM_isWord m 28526 _ rfl) <| E_if_eq (n := 161) (t := 180) 97 rfl rfl rfl (fun hc => ?_) (fun hc => ?_)
  · have h := ifp h hc
    refine E_sub (lv' := [(0, .ref 133), (4, .int x4), (5, .int x5)]) [0, 2, 3] rfl ?_
    exact RM_claim_J180_ok m x4 x5 _ h
  · have h := ifn h hc
    refine E_iload_n (n := 162) 98 rfl rfl rfl 1 rfl <| E_if_eq (n := 165) (t := 180) 99 rfl rfl rfl (fun hc => ?_) (fun hc => ?_)
    · have h := ifp h hc
      refine E_sub (lv' := [(0, .ref 133), (4, .int x4), (5, .int x5)]) [0, 2, 3] rfl ?_
      exact RM_claim_J180_ok m x4 x5 _ h
    · have h := ifn h hc
      obtain ⟨v1, hq2, h⟩ := bI_ex h
      obtain ⟨hc3, h⟩ := ift h
      obtain ⟨m4, hm4, h⟩ := letM_ex h
      refine E_aload_n (n := 166) 100 rfl rfl rfl 0 rfl <| E_aload_n (n := 167) 101 rfl rfl rfl 0 rfl <| E_iload (n := 169) 102 rfl rfl 2 rfl <| E_iload (n := 171) 103 rfl rfl 3 rfl <| E_cV2r (n := 174) 104 rfl rfl co_12_281 rfl sh_133 rfl (K_RM_isOnLine m x4 x5 _ hq2) <| E_pZ (n := 177) 105 rfl rfl fp_12_332 sh_133 hc3 <| E_mem hm4 <| E_goto (t := 244) 106 rfl rfl <| ?_
      refine E_sub (lv' := [(0, .ref 133)]) [0] rfl ?_
      exact RM_claim_J244_ok m4 _ h

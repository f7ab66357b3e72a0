theorem RM_claim_J44_ok (m : Mem) (x1 : Int32) (x2 : Int32) (s0 : Int32) (R : Int32 × Mem) (h : RM_claim_J44 m x1 x2 s0 = some R) : E M_RM_claim 44 [(0, .ref 133), (1, .int x1), (2, .int x2)] [.int s0] m (qI R.1 R.2) := by
  unfold RM_claim_J44 at h
  refine E_istore_n (lv' := [(0, .ref 133), (1, .int x1), (2, .int x2), (3, .int s0)]) (n := 45) 24 rfl rfl rfl (Nat.le_of_ble_eq_true rfl) [1, 2, 3, 0] rfl <| E_iload_n (n := 46) 25 rfl rfl rfl 3 rfl <| E_if_ge (n := 49) (t := 55) 26 rfl rfl rfl (fun hc => ?_) (fun hc => ?_)
  · have h := ifp h hc
    refine E_iload_n (n := 56) 31 rfl rfl rfl 1 rfl <| E_bipush (v := 30) (n := 58) 32 rfl rfl bpz_30 <| E_icmp_ne (n := 61) (t := 67) 33 rfl rfl rfl (fun hc => ?_) (fun hc => ?_)
    · have h := ifn h hc
      obtain ⟨m1, hq2, h⟩ := bM_ex h
      obtain ⟨hc3, h⟩ := ift h
      obtain ⟨v4, hv4, h⟩ := letV_ex h
      obtain ⟨hc5, h⟩ := ift h
      obtain ⟨v6, hv6, h⟩ := letV_ex h
      refine E_aload_n (n := 68) 38 rfl rfl rfl 0 rfl <| E_cV0v (n := 71) 39 rfl rfl co_12_200 rfl sh_133 rfl (K_RM_next m _ hq2) <| E_iconst (v := 2) (n := 72) 40 rfl rfl icz_2 <| E_aload_n (n := 73) 41 rfl rfl rfl 0 rfl <| E_gF (r := 135) (n := 76) 42 rfl rfl fg_12_33 sh_133 rfl <| E_bipush (v := 86) (n := 78) 43 rfl rfl bpz_86 <| E_iconst (v := 3) (n := 79) 44 rfl rfl icz_3 <| E_iload_n (n := 80) 45 rfl rfl rfl 3 rfl <| E_imul (n := 81) 46 rfl rfl <| E_iadd (n := 82) 47 rfl rfl <| E_iald (n := 83) 48 rfl rfl sh_135 hc3 <| E_imul (n := 84) 49 rfl rfl <| E_iconst (v := 1) (n := 85) 50 rfl rfl icz_1 <| E_iadd (n := 86) 51 rfl rfl <| E_top hv4 <| E_istore (lv' := [(0, .ref 133), (1, .int x1), (2, .int x2), (3, .int s0), (4, .int v4)]) (n := 88) 52 rfl rfl (Nat.le_of_ble_eq_true rfl) [1, 2, 3, 4, 0] rfl <| E_iconst (v := 2) (n := 89) 53 rfl rfl icz_2 <| E_aload_n (n := 90) 54 rfl rfl rfl 0 rfl <| E_gF (r := 135) (n := 93) 55 rfl rfl fg_12_33 sh_133 rfl <| E_bipush (v := 86) (n := 95) 56 rfl rfl bpz_86 <| E_iconst (v := 3) (n := 96) 57 rfl rfl icz_3 <| E_iload_n (n := 97) 58 rfl rfl rfl 3 rfl <| E_imul (n := 98) 59 rfl rfl <| E_iadd (n := 99) 60 rfl rfl <| E_iconst (v := 1) (n := 100) 61 rfl rfl icz_1 <| E_iadd (n := 101) 62 rfl rfl <| E_iald (n := 102) 63 rfl rfl sh_135 hc5 <| E_imul (n := 103) 64 rfl rfl <| E_iconst (v := 1) (n := 104) 65 rfl rfl icz_1 <| E_iadd (n := 105) 66 rfl rfl <| E_top hv6 <| E_istore (lv' := [(0, .ref 133), (1, .int x1), (2, .int x2), (3, .int s0), (4, .int v4), (5, .int v6)]) (n := 107) 67 rfl rfl (Nat.le_of_ble_eq_true rfl) [1, 2, 3, 4, 5, 0] rfl <| E_iload_n (n := 108) 68 rfl rfl rfl 2 rfl <| E_if_eq (n := 111) (t := 151) 69 rfl rfl rfl (fun hc => ?_) (fun hc => ?_)
      · have h := ifp h hc
        refine E_sub (lv' := [(0, .ref 133), (2, .int x2), (4, .int v4), (5, .int v6)]) [0, 2, 4, 5] rfl ?_
        exact RM_claim_J151_ok m1 x2 v4 v6 _ h
      · have h := ifn h hc
        obtain ⟨v7, m8, hq9, h⟩ := bV_ex h
        refine E_aload_n (n := 112) 70 rfl rfl rfl 0 rfl <| E_iconst (v := 0) (n := 113) 71 rfl rfl icz_0 <| E_bipush (v := 20) (n := 115) 72 rfl rfl bpz_20 <| E_cV2r (n := 118) 73 rfl rfl co_12_235 rfl sh_133 rfl (K_RM_takes m1 0 20 _ hq9) <| E_if_ne (n := 121) (t := 123) 74 rfl rfl rfl (fun hc => ?_) (fun hc => ?_)
        · have h := ifn h hc
          obtain ⟨v10, hv10, h⟩ := letV_ex h
          obtain ⟨v11, m12, hq13, h⟩ := bV_ex h
          refine E_iconst (v := 2) (n := 124) 77 rfl rfl icz_2 <| E_aload_n (n := 125) 78 rfl rfl rfl 0 rfl <| E_gI (n := 128) 79 rfl rfl fg_12_207 sh_133 <| E_imul (n := 129) 80 rfl rfl <| E_top hv10 <| E_istore (lv' := [(0, .ref 133), (1, .int x1), (2, .int x2), (3, .int s0), (4, .int v10), (5, .int v6)]) (n := 131) 81 rfl rfl (Nat.le_of_ble_eq_true rfl) [1, 2, 3, 4, 0, 5] rfl <| E_aload_n (n := 132) 82 rfl rfl rfl 0 rfl <| E_iconst (v := 0) (n := 133) 83 rfl rfl icz_0 <| E_bipush (v := 20) (n := 135) 84 rfl rfl bpz_20 <| E_cV2r (n := 138) 85 rfl rfl co_12_235 rfl sh_133 rfl (K_RM_takes m8 0 20 _ hq13) <| E_if_ne (n := 141) (t := 143) 86 rfl rfl rfl (fun hc => ?_) (fun hc => ?_)
          · have h := ifn h hc
            obtain ⟨v14, hv14, h⟩ := letV_ex h
            refine E_iconst (v := 2) (n := 144) 89 rfl rfl icz_2 <| E_aload_n (n := 145) 90 rfl rfl rfl 0 rfl <| E_gI (n := 148) 91 rfl rfl fg_12_207 sh_133 <| E_imul (n := 149) 92 rfl rfl <| E_top hv14 <| E_istore (lv' := [(0, .ref 133), (1, .int x1), (2, .int x2), (3, .int s0), (4, .int v10), (5, .int v14)]) (n := 151) 93 rfl rfl (Nat.le_of_ble_eq_true rfl) [1, 2, 3, 4, 5, 0] rfl <| ?_
            refine E_sub (lv' := [(0, .ref 133), (2, .int x2), (4, .int v10), (5, .int v14)]) [0, 2, 4, 5] rfl ?_
            exact RM_claim_J151_ok m12 x2 v10 v14 _ h
          · have h := ifp h hc
            refine E_iconst (v := 0) (n := 142) 87 rfl rfl icz_0 <| E_zreturn 88 rfl rfl z0 (eS h)
        · have h := ifp h hc
          refine E_iconst (v := 0) (n := 122) 75 rfl rfl icz_0 <| E_zreturn 76 rfl rfl z0 (eS h)
    · have h := ifp h hc
      obtain ⟨v15, m16, hq17, h⟩ := bV_ex h
      obtain ⟨hc18, h⟩ := ift h
      refine E_aload_n (n := 62) 34 rfl rfl rfl 0 rfl <| E_iconst (v := 4) (n := 63) 35 rfl rfl icz_4 <| E_cV1r (n := 66) 36 rfl rfl co_12_197 rfl sh_133 rfl (K_RM_bad m 4 _ hq17) <| E_zreturn 37 rfl rfl hc18 (eS h)
  · have h := ifn h hc
    obtain ⟨v19, m20, hq21, h⟩ := bV_ex h
    obtain ⟨hc22, h⟩ := ift h
    refine E_aload_n (n := 50) 27 rfl rfl rfl 0 rfl <| E_iconst (v := 3) (n := 51) 28 rfl rfl icz_3 <| E_cV1r (n := 54) 29 rfl rfl co_12_197 rfl sh_133 rfl (K_RM_bad m 3 _ hq21) <| E_zreturn 30 rfl rfl hc22 (eS h)
theorem RM_claim_J25_ok (m : Mem) (x1 : Int32) (x2 : Int32) (R : Int32 × Mem) (h : RM_claim_J25 m x1 x2 = some R) : E M_RM_claim 25 [(0, .ref 133), (1, .int x1), (2, .int x2)] [] m (qI R.1 R.2) := by
  unfold RM_claim_J25 at h
  refine E_iload_n (n := 26) 13 rfl rfl rfl 2 rfl <| E_if_eq (n := 29) (t := 33) 14 rfl rfl rfl (fun hc => ?_) (fun hc => ?_)
  · have h := ifp h hc
    obtain ⟨hc1, h⟩ := ift h
    obtain ⟨v2, hq3, h⟩ := bI_ex h
    refine E_aload_n (n := 34) 17 rfl rfl rfl 0 rfl <| E_iconst (v := 3) (n := 35) 18 rfl rfl icz_3 <| E_aload_n (n := 36) 19 rfl rfl rfl 0 rfl <| E_gF (r := 135) (n := 39) 20 rfl rfl fg_12_33 sh_133 rfl <| E_iconst (v := 1) (n := 40) 21 rfl rfl icz_1 <| E_iald (n := 41) 22 rfl rfl sh_135 hc1 <| E_cV2r (n := 44) 23 rfl rfl co_12_214 rfl sh_133 rfl (K_RM_find m 3 (gI m 135 (ixn 1)) _ hq3) <| ?_
    exact RM_claim_J44_ok m x1 x2 v2 _ h
  · have h := ifn h hc
    refine E_iconst (v := 0) (n := 30) 15 rfl rfl icz_0 <| E_goto (t := 44) 16 rfl rfl <| ?_
    exact RM_claim_J44_ok m x1 x2 0 _ h
theorem K_RM_claim (m : Mem) (x1 : Int32) (R : Int32 × Mem) (h : RM_claim m x1 = some R) : Mt M_RM_claim [.ref 133, .int x1] m (qI R.1 R.2) := by
  refine Mt.of G_RM_claim (Nat.le_of_ble_eq_true rfl) (E_sub (lv' := [(0, .ref 133), (1, .int x1)]) [0, 1] rfl ?_)
  unfold RM_claim at h
  obtain ⟨v1, hv1, h⟩ := letV_ex h
  refine E_aload_n (n := 1) 0 rfl rfl rfl 0 rfl <| E_ldc2 (v := 482905517684) (n := 4) 1 rfl rfl tw_1523 <| E_cV1r (n := 7) 2 rfl rfl co_12_225 rfl sh_133 rfl (K_RM_isWord m 482905517684 _ rfl) <| E_top hv1 <| E_istore_n (lv' := [(0, .ref 133), (1, .int x1), (2, .int v1)]) (n := 8) 3 rfl rfl rfl (Nat.le_of_ble_eq_true rfl) [1, 2, 0] rfl <| E_iload_n (n := 9) 4 rfl rfl rfl 2 rfl <| E_if_ne (n := 12) (t := 25) 5 rfl rfl rfl (fun hc => ?_) (fun hc => ?_)
  · have h := ifn h hc
    exact RM_claim_J25_ok m x1 v1 _ h
  · have h := ifp h hc
    obtain ⟨v2, hq3, h⟩ := bI_ex h
    refine E_aload_n (n := 13) 6 rfl rfl rfl 0 rfl <| E_cV0r (n := 16) 7 rfl rfl co_12_210 rfl sh_133 rfl (K_RM_isName m _ hq3) <| E_if_ne (n := 19) (t := 25) 8 rfl rfl rfl (fun hc => ?_) (fun hc => ?_)
    · have h := ifn h hc
      exact RM_claim_J25_ok m x1 v1 _ h
    · have h := ifp h hc
      obtain ⟨v4, m5, hq6, h⟩ := bV_ex h
      obtain ⟨hc7, h⟩ := ift h
      refine E_aload_n (n := 20) 9 rfl rfl rfl 0 rfl <| E_iconst (v := 1) (n := 21) 10 rfl rfl icz_1 <| E_cV1r (n := 24) 11 rfl rfl co_12_197 rfl sh_133 rfl (K_RM_bad m 1 _ hq6) <| E_zreturn 12 rfl rfl hc7 (eS h)
theorem RM_claims_L45_ok (kx : Mem → Int32 → Int32 → Option (Int32 × Mem)) (R : Int32 × Mem) (hx : ∀ (m : Mem) (x3 : Int32) (x4 : Int32), kx m x3 x4 = some R → E M_RM_claims 105 [(0, .ref 133), (3, .int x3), (4, .int x4)] [] m (qI R.1 R.2)) : ∀ (n : Nat) (m : Mem) (x2 : Int32) (x3 : Int32) (x4 : Int32), RM_claims_L45 kx n m x2 x3 x4 = some R → E M_RM_claims 45 [(0, .ref 133), (2, .int x2), (3, .int x3), (4, .int x4)] [] m (qI R.1 R.2) := by
  intro n
  induction n with
  | zero =>
    intro m x2 x3 x4 h
    exact absurd (show none = some R from h) (fun e => Option.some_ne_none R e.symm)
  | succ n ih =>
    intro m x2 x3 x4 h
    rw [RM_claims_L45] at h
    refine E_aload_n (n := 46) 26 rfl rfl rfl 0 rfl <| E_gI (n := 49) 27 rfl rfl fg_12_171 sh_133 <| E_if_eq (n := 52) (t := 105) 28 rfl rfl rfl (fun hc => ?_) (fun hc => ?_)
    · have h := ifp h hc
      refine E_sub (lv' := [(0, .ref 133), (3, .int x3), (4, .int x4)]) [0, 2, 3] rfl ?_
      exact hx m x3 x4 h
    · have h := ifn h hc
      obtain ⟨v1, m2, hq3, h⟩ := bV_ex h
      refine E_aload_n (n := 53) 29 rfl rfl rfl 0 rfl <| E_iload_n (n := 54) 30 rfl rfl rfl 1 rfl <| E_cV1r (n := 57) 31 rfl rfl co_12_329 rfl sh_133 rfl (K_RM_claim m x2 _ hq3) <| E_if_eq (n := 60) (t := 69) 32 rfl rfl rfl (fun hc => ?_) (fun hc => ?_)
      · have h := ifp h hc
        refine E_iconst (v := (-1)) (n := 70) 37 rfl rfl icz_m1 <| E_aload_n (n := 71) 38 rfl rfl rfl 0 rfl <| E_gI (n := 74) 39 rfl rfl fg_12_191 sh_133 <| E_isub (n := 75) 40 rfl rfl <| E_ireturn 41 rfl rfl (eS h)
      · have h := ifn h hc
        obtain ⟨v4, m5, hq6, h⟩ := bV_ex h
        refine E_aload_n (n := 61) 33 rfl rfl rfl 0 rfl <| E_bipush (v := 59) (n := 63) 34 rfl rfl bpz_59 <| E_cV1r (n := 66) 35 rfl rfl co_12_250 rfl sh_133 rfl (K_RM_sign m2 59 _ hq6) <| E_if_ne (n := 69) (t := 76) 36 rfl rfl rfl (fun hc => ?_) (fun hc => ?_)
        · have h := ifn h hc
          refine E_aload_n (n := 77) 42 rfl rfl rfl 0 rfl <| E_gI (n := 80) 43 rfl rfl fg_12_332 sh_133 <| E_if_ne (n := 83) (t := 99) 44 rfl rfl rfl (fun hc => ?_) (fun hc => ?_)
          · have h := ifn h hc
            refine E_iinc (v := (x2 + 1)) (lv' := [(0, .ref 133), (2, .int (x2 + 1)), (3, .int x3), (4, .int x4)]) (n := 102) 52 rfl rfl 1 rfl (by rw [icz_1]) (Nat.le_of_ble_eq_true rfl) [1, 0, 2, 3] rfl <| E_goto (t := 45) 53 rfl rfl <| ?_
            exact ih m5 (x2 + 1) x3 x4 h
          · have h := ifp h hc
            refine E_iinc (v := (x3 + 1)) (lv' := [(0, .ref 133), (2, .int x2), (3, .int (x3 + 1)), (4, .int x4)]) (n := 86) 45 rfl rfl 2 rfl (by rw [icz_1]) (Nat.le_of_ble_eq_true rfl) [1, 2, 0, 3] rfl <| E_iload (n := 88) 46 rfl rfl 3 rfl <| E_if_ge (n := 91) (t := 95) 47 rfl rfl rfl (fun hc => ?_) (fun hc => ?_)
            · have h := ifp h hc
              refine E_iload (n := 97) 50 rfl rfl 3 rfl <| ?_
              refine E_istore (lv' := [(0, .ref 133), (2, .int x2), (3, .int (x3 + 1)), (4, .int x4)]) (n := 99) 51 rfl rfl (Nat.le_of_ble_eq_true rfl) [1, 2, 3, 0] rfl <| ?_
              refine E_iinc (v := (x2 + 1)) (lv' := [(0, .ref 133), (2, .int (x2 + 1)), (3, .int (x3 + 1)), (4, .int x4)]) (n := 102) 52 rfl rfl 1 rfl (by rw [icz_1]) (Nat.le_of_ble_eq_true rfl) [1, 0, 2, 3] rfl <| E_goto (t := 45) 53 rfl rfl <| ?_
              exact ih m5 (x2 + 1) (x3 + 1) x4 h
            · have h := ifn h hc
              refine E_iload_n (n := 92) 48 rfl rfl rfl 1 rfl <| E_goto (t := 97) 49 rfl rfl <| ?_
              refine E_istore (lv' := [(0, .ref 133), (2, .int x2), (3, .int (x3 + 1)), (4, .int x2)]) (n := 99) 51 rfl rfl (Nat.le_of_ble_eq_true rfl) [1, 2, 3, 0] rfl <| ?_
              refine E_iinc (v := (x2 + 1)) (lv' := [(0, .ref 133), (2, .int (x2 + 1)), (3, .int (x3 + 1)), (4, .int x2)]) (n := 102) 52 rfl rfl 1 rfl (by rw [icz_1]) (Nat.le_of_ble_eq_true rfl) [1, 0, 2, 3] rfl <| E_goto (t := 45) 53 rfl rfl <| ?_
              exact ih m5 (x2 + 1) (x3 + 1) x2 h
        · have h := ifp h hc
          refine E_iconst (v := (-1)) (n := 70) 37 rfl rfl icz_m1 <| E_aload_n (n := 71) 38 rfl rfl rfl 0 rfl <| E_gI (n := 74) 39 rfl rfl fg_12_191 sh_133 <| E_isub (n := 75) 40 rfl rfl <| E_ireturn 41 rfl rfl (eS h)
theorem K_RM_claims (m : Mem) (x1 : Int32) (R : Int32 × Mem) (h : RM_claims m x1 = some R) : Mt M_RM_claims [.ref 133, .int x1] m (qI R.1 R.2) := by
  refine Mt.of G_RM_claims (Nat.le_of_ble_eq_true rfl) (E_sub (lv' := [(0, .ref 133), (1, .int x1)]) [0, 1] rfl ?_)
  unfold RM_claims at h
  obtain ⟨m1, hm1, h⟩ := letM_ex h
  obtain ⟨m2, hq3, h⟩ := bM_ex h
  obtain ⟨v4, hq5, h⟩ := bI_ex h
  refine E_aload_n (n := 1) 0 rfl rfl rfl 0 rfl <| E_iconst (v := 0) (n := 2) 1 rfl rfl icz_0 <| E_pI (n := 5) 2 rfl rfl fp_12_1 sh_133 <| E_mem hm1 <| E_aload_n (n := 6) 3 rfl rfl rfl 0 rfl <| E_sipush (v := 300) (n := 9) 4 rfl rfl spz_300 <| E_cV1v (n := 12) 5 rfl rfl co_12_241 rfl sh_133 rfl (K_RM_taken m1 300 _ hq3) <| E_aload_n (n := 13) 6 rfl rfl rfl 0 rfl <| E_iload_n (n := 14) 7 rfl rfl rfl 1 rfl <| E_cV1r (n := 17) 8 rfl rfl co_12_256 rfl sh_133 rfl (K_RM_isLine m2 x1 _ hq5) <| E_if_ne (n := 20) (t := 24) 9 rfl rfl rfl (fun hc => ?_) (fun hc => ?_)
  · have h := ifn h hc
    obtain ⟨m6, hm6, h⟩ := letM_ex h
    obtain ⟨m7, hq8, h⟩ := bM_ex h
    obtain ⟨m9, hq10, h⟩ := bM_ex h
    refine E_aload_n (n := 25) 12 rfl rfl rfl 0 rfl <| E_iconst (v := 0) (n := 26) 13 rfl rfl icz_0 <| E_pI (n := 29) 14 rfl rfl fp_12_188 sh_133 <| E_mem hm6 <| E_aload_n (n := 30) 15 rfl rfl rfl 0 rfl <| E_iload_n (n := 31) 16 rfl rfl rfl 1 rfl <| E_cV1v (n := 34) 17 rfl rfl co_12_295 rfl sh_133 rfl (K_RM_looks m6 x1 _ hq8) <| E_iconst (v := 0) (n := 35) 18 rfl rfl icz_0 <| E_istore_n (lv' := [(0, .ref 133), (1, .int x1), (2, .int 0)]) (n := 36) 19 rfl rfl rfl (Nat.le_of_ble_eq_true rfl) [1, 2, 0] rfl <| E_iconst (v := 0) (n := 37) 20 rfl rfl icz_0 <| E_istore_n (lv' := [(0, .ref 133), (1, .int x1), (2, .int 0), (3, .int 0)]) (n := 38) 21 rfl rfl rfl (Nat.le_of_ble_eq_true rfl) [1, 2, 3, 0] rfl <| E_iconst (v := (-1)) (n := 39) 22 rfl rfl icz_m1 <| E_istore (lv' := [(0, .ref 133), (1, .int x1), (2, .int 0), (3, .int 0), (4, .int (-1))]) (n := 41) 23 rfl rfl (Nat.le_of_ble_eq_true rfl) [1, 2, 3, 4, 0] rfl <| E_aload_n (n := 42) 24 rfl rfl rfl 0 rfl <| E_cV0v (n := 45) 25 rfl rfl co_12_200 rfl sh_133 rfl (K_RM_next m7 _ hq10) <| ?_
    refine E_sub (lv' := [(0, .ref 133), (2, .int 0), (3, .int 0), (4, .int (-1))]) [0, 2, 3, 4] rfl ?_
    refine RM_claims_L45_ok _ R ?_ FU m9 0 0 (-1) h
    intro m13 y11 y12 h
    obtain ⟨m14, hm14, h⟩ := letM_ex h
    refine E_aload_n (n := 106) 54 rfl rfl rfl 0 rfl <| E_iload (n := 108) 55 rfl rfl 2 rfl <| E_pI (n := 111) 56 rfl rfl fp_12_60 sh_133 <| E_mem hm14 <| E_iload_n (n := 112) 57 rfl rfl rfl 1 rfl <| E_ireturn 58 rfl rfl (eS h)
  · have h := ifp h hc
    refine E_sipush (v := (-2000)) (n := 23) 10 rfl rfl spz_m2000 <| E_ireturn 11 rfl rfl (eS h)
theorem K_RM_wrong (m : Mem) (R : Int32 × Mem) (h : RM_wrong m = some R) : Mt M_RM_wrong [.ref 133] m (qI R.1 R.2) := by
  refine Mt.of G_RM_wrong (Nat.le_of_ble_eq_true rfl) (E_sub (lv' := [(0, .ref 133)]) [0] rfl ?_)
  unfold RM_wrong at h
  obtain ⟨m1, hm1, h⟩ := letM_ex h
  refine E_aload_n (n := 1) 0 rfl rfl rfl 0 rfl <| E_iconst (v := 0) (n := 2) 1 rfl rfl icz_0 <| E_pI (n := 5) 2 rfl rfl fp_12_1 sh_133 <| E_mem hm1 <| E_aload_n (n := 6) 3 rfl rfl rfl 0 rfl <| E_gI (n := 9) 4 rfl rfl fg_12_60 sh_133 <| E_ireturn 5 rfl rfl (eS h)
theorem RM_loads_J85_ok (kr : Mem → Int32 → Int32 → Option (Int32 × Mem)) (kx : Mem → Int32 → Option (Int32 × Mem)) (m : Mem) (x2 : Int32) (x3 : Int32) (x4 : Int32) (s0 : Int32) (s1 : Int32) (R : Int32 × Mem) (hr : ∀ (m : Mem) (x3 : Int32) (x4 : Int32), kr m x3 x4 = some R → E M_RM_loads 34 [(0, .ref 133), (2, .int x2), (3, .int x3), (4, .int x4)] [] m (qI R.1 R.2)) (hx : ∀ (m : Mem) (x3 : Int32), kx m x3 = some R → E M_RM_loads 111 [(3, .int x3)] [] m (qI R.1 R.2)) (h : RM_loads_J85 kr kx m x2 x3 x4 s0 s1 = some R) : E M_RM_loads 85 [(0, .ref 133), (2, .int x2), (3, .int x3), (4, .int x4)] [.int s1, .int s0] m (qI R.1 R.2) := by
  unfold RM_loads_J85 at h
  refine E_icmp_ne (n := 88) (t := 105) 53 rfl rfl rfl (fun hc => ?_) (fun hc => ?_)
  · have h := ifn h hc
    refine E_iinc (v := (x4 + 1)) (lv' := [(0, .ref 133), (2, .int x2), (3, .int x3), (4, .int (x4 + 1))]) (n := 108) 67 rfl rfl 3 rfl (by rw [icz_1]) (Nat.le_of_ble_eq_true rfl) [1, 2, 3, 0] rfl <| E_goto (t := 34) 68 rfl rfl <| ?_
    exact hr m x3 (x4 + 1) h
  · have h := ifp h hc
    obtain ⟨hc1, h⟩ := ift h
    obtain ⟨v2, hv2, h⟩ := letV_ex h
    refine E_iload_n (n := 89) 54 rfl rfl rfl 2 rfl <| E_aload_n (n := 90) 55 rfl rfl rfl 0 rfl <| E_gF (r := 135) (n := 93) 56 rfl rfl fg_12_33 sh_133 rfl <| E_bipush (v := 86) (n := 95) 57 rfl rfl bpz_86 <| E_iconst (v := 3) (n := 96) 58 rfl rfl icz_3 <| E_iload (n := 98) 59 rfl rfl 3 rfl <| E_imul (n := 99) 60 rfl rfl <| E_iadd (n := 100) 61 rfl rfl <| E_iconst (v := 2) (n := 101) 62 rfl rfl icz_2 <| E_iadd (n := 102) 63 rfl rfl <| E_iald (n := 103) 64 rfl rfl sh_135 hc1 <| E_iadd (n := 104) 65 rfl rfl <| E_top hv2 <| E_istore_n (lv' := [(0, .ref 133), (2, .int x2), (3, .int v2), (4, .int x4)]) (n := 105) 66 rfl rfl rfl (Nat.le_of_ble_eq_true rfl) [1, 2, 0, 3] rfl <| ?_
    refine E_iinc (v := (x4 + 1)) (lv' := [(0, .ref 133), (2, .int x2), (3, .int v2), (4, .int (x4 + 1))]) (n := 108) 67 rfl rfl 3 rfl (by rw [icz_1]) (Nat.le_of_ble_eq_true rfl) [1, 2, 3, 0] rfl <| E_goto (t := 34) 68 rfl rfl <| ?_
    exact hr m v2 (x4 + 1) h
theorem RM_loads_L34_ok (x2 : Int32) (kx : Mem → Int32 → Option (Int32 × Mem)) (R : Int32 × Mem) (hx : ∀ (m : Mem) (x3 : Int32), kx m x3 = some R → E M_RM_loads 111 [(3, .int x3)] [] m (qI R.1 R.2)) : ∀ (n : Nat) (m : Mem) (x3 : Int32) (x4 : Int32), RM_loads_L34 x2 kx n m x3 x4 = some R → E M_RM_loads 34 [(0, .ref 133), (2, .int x2), (3, .int x3), (4, .int x4)] [] m (qI R.1 R.2) := by
  intro n
  induction n with
  | zero =>
    intro m x3 x4 h
    exact absurd (show none = some R from h) (fun e => Option.some_ne_none R e.symm)
  | succ n ih =>
    intro m x3 x4 h
    rw [RM_loads_L34] at h
    obtain ⟨hc1, h⟩ := ift h
    refine E_iload (n := 36) 21 rfl rfl 3 rfl <| E_aload_n (n := 37) 22 rfl rfl rfl 0 rfl <| E_gF (r := 135) (n := 40) 23 rfl rfl fg_12_33 sh_133 rfl <| E_iconst (v := 1) (n := 41) 24 rfl rfl icz_1 <| E_iald (n := 42) 25 rfl rfl sh_135 hc1 <| E_icmp_ge (n := 45) (t := 111) 26 rfl rfl rfl (fun hc => ?_) (fun hc => ?_)
    · have h := ifp h hc
      refine E_sub (lv' := [(3, .int x3)]) [2] rfl ?_
      exact hx m x3 h
    · have h := ifn h hc
      obtain ⟨hc2, h⟩ := ift h
      obtain ⟨hc3, h⟩ := ift h
      obtain ⟨v4, m5, hq6, h⟩ := bV_ex h
      refine E_aload_n (n := 46) 27 rfl rfl rfl 0 rfl <| E_aload_n (n := 47) 28 rfl rfl rfl 0 rfl <| E_gF (r := 135) (n := 50) 29 rfl rfl fg_12_33 sh_133 rfl <| E_bipush (v := 86) (n := 52) 30 rfl rfl bpz_86 <| E_iconst (v := 3) (n := 53) 31 rfl rfl icz_3 <| E_iload (n := 55) 32 rfl rfl 3 rfl <| E_imul (n := 56) 33 rfl rfl <| E_iadd (n := 57) 34 rfl rfl <| E_iald (n := 58) 35 rfl rfl sh_135 hc2 <| E_aload_n (n := 59) 36 rfl rfl rfl 0 rfl <| E_gF (r := 135) (n := 62) 37 rfl rfl fg_12_33 sh_133 rfl <| E_bipush (v := 86) (n := 64) 38 rfl rfl bpz_86 <| E_iconst (v := 3) (n := 65) 39 rfl rfl icz_3 <| E_iload (n := 67) 40 rfl rfl 3 rfl <| E_imul (n := 68) 41 rfl rfl <| E_iadd (n := 69) 42 rfl rfl <| E_iconst (v := 1) (n := 70) 43 rfl rfl icz_1 <| E_iadd (n := 71) 44 rfl rfl <| E_iald (n := 72) 45 rfl rfl sh_135 hc3 <| E_cV2r (n := 75) 46 rfl rfl co_12_319 rfl sh_133 rfl (K_RM_isSquareHis m (gI m 135 (ixn (86 + (3 * x4)))) (gI m 135 (ixn ((86 + (3 * x4)) + 1))) _ hq6) <| E_iload_n (n := 76) 47 rfl rfl rfl 1 rfl <| E_iconst (v := 1) (n := 77) 48 rfl rfl icz_1 <| E_icmp_ne (n := 80) (t := 84) 49 rfl rfl rfl (fun hc => ?_) (fun hc => ?_)
      · have h := ifn h hc
        refine E_iconst (v := 0) (n := 85) 52 rfl rfl icz_0 <| ?_
        exact RM_loads_J85_ok _ _ m5 x2 x3 x4 v4 0 _ ih hx h
      · have h := ifp h hc
        refine E_iconst (v := 1) (n := 81) 50 rfl rfl icz_1 <| E_goto (t := 85) 51 rfl rfl <| ?_
        exact RM_loads_J85_ok _ _ m5 x2 x3 x4 v4 1 _ ih hx h
theorem K_RM_loads (m : Mem) (x1 : Int32) (x2 : Int32) (R : Int32 × Mem) (h : RM_loads m x1 x2 = some R) : Mt M_RM_loads [.ref 133, .int x1, .int x2] m (qI R.1 R.2) := by
  refine Mt.of G_RM_loads (Nat.le_of_ble_eq_true rfl) (E_sub (lv' := [(0, .ref 133), (1, .int x1), (2, .int x2)]) [0, 1, 2] rfl ?_)
  unfold RM_loads at h
  obtain ⟨m1, hm1, h⟩ := letM_ex h
  obtain ⟨v2, hq3, h⟩ := bI_ex h
  refine E_aload_n (n := 1) 0 rfl rfl rfl 0 rfl <| E_iconst (v := 0) (n := 2) 1 rfl rfl icz_0 <| E_pI (n := 5) 2 rfl rfl fp_12_1 sh_133 <| E_mem hm1 <| E_aload_n (n := 6) 3 rfl rfl rfl 0 rfl <| E_iload_n (n := 7) 4 rfl rfl rfl 1 rfl <| E_cV1r (n := 10) 5 rfl rfl co_12_256 rfl sh_133 rfl (K_RM_isLine m1 x1 _ hq3) <| E_if_eq (n := 13) (t := 22) 6 rfl rfl rfl (fun hc => ?_) (fun hc => ?_)
  · have h := ifp h hc
    refine E_iconst (v := (-1)) (n := 23) 12 rfl rfl icz_m1 <| E_ireturn 13 rfl rfl (eS h)
  · have h := ifn h hc
    refine E_iload_n (n := 14) 7 rfl rfl rfl 2 rfl <| E_iconst (v := 0) (n := 15) 8 rfl rfl icz_0 <| E_iconst (v := 1) (n := 16) 9 rfl rfl icz_1 <| E_dS3r (n := 19) 10 rfl rfl co_12_203 rfl rfl (K_RM_isIn m1 x2 0 1 _ rfl) <| E_if_ne (n := 22) (t := 24) 11 rfl rfl rfl (fun hc => ?_) (fun hc => ?_)
    · have h := ifn h hc
      obtain ⟨m4, hq5, h⟩ := bM_ex h
      refine E_aload_n (n := 25) 14 rfl rfl rfl 0 rfl <| E_iload_n (n := 26) 15 rfl rfl rfl 1 rfl <| E_cV1v (n := 29) 16 rfl rfl co_12_295 rfl sh_133 rfl (K_RM_looks m1 x1 _ hq5) <| E_iconst (v := 0) (n := 30) 17 rfl rfl icz_0 <| E_istore_n (lv' := [(0, .ref 133), (1, .int x1), (2, .int x2), (3, .int 0)]) (n := 31) 18 rfl rfl rfl (Nat.le_of_ble_eq_true rfl) [1, 2, 3, 0] rfl <| E_iconst (v := 0) (n := 32) 19 rfl rfl icz_0 <| E_istore (lv' := [(0, .ref 133), (1, .int x1), (2, .int x2), (3, .int 0), (4, .int 0)]) (n := 34) 20 rfl rfl (Nat.le_of_ble_eq_true rfl) [1, 2, 3, 4, 0] rfl <| ?_
      refine E_sub (lv' := [(0, .ref 133), (2, .int x2), (3, .int 0), (4, .int 0)]) [0, 2, 3, 4] rfl ?_
      refine RM_loads_L34_ok x2 _ R ?_ FU m4 0 0 h
      intro m7 y6 h
      refine E_iload_n (n := 112) 69 rfl rfl rfl 0 rfl <| E_ireturn 70 rfl rfl (eS h)
    · have h := ifp h hc
      refine E_iconst (v := (-1)) (n := 23) 12 rfl rfl icz_m1 <| E_ireturn 13 rfl rfl (eS h)
theorem RM_heirOf_L5_ok (x1 : Int32) (x2 : Int32) (kx : Mem → Int32 → Option (Int32 × Mem)) (R : Int32 × Mem) (hx : ∀ (m : Mem) (x3 : Int32), kx m x3 = some R → E M_RM_heirOf 55 [(0, .ref 133), (3, .int x3)] [] m (qI R.1 R.2)) : ∀ (n : Nat) (m : Mem) (x3 : Int32) (x4 : Int32), RM_heirOf_L5 x1 x2 kx n m x3 x4 = some R → E M_RM_heirOf 5 [(0, .ref 133), (1, .int x1), (2, .int x2), (3, .int x3), (4, .int x4)] [] m (qI R.1 R.2) := by
  intro n
  induction n with
  | zero =>
    intro m x3 x4 h
    exact absurd (show none = some R from h) (fun e => Option.some_ne_none R e.symm)
  | succ n ih =>
    intro m x3 x4 h
    rw [RM_heirOf_L5] at h
    refine E_iload (n := 7) 4 rfl rfl 4 rfl <| E_iconst (v := 2) (n := 8) 5 rfl rfl icz_2 <| E_icmp_ge (n := 11) (t := 55) 6 rfl rfl rfl (fun hc => ?_) (fun hc => ?_)
    · have h := ifp h hc
      refine E_sub (lv' := [(0, .ref 133), (3, .int x3)]) [0, 3] rfl ?_
      exact hx m x3 h
    · have h := ifn h hc
      obtain ⟨v1, hq2, h⟩ := bI_ex h
      refine E_aload_n (n := 12) 7 rfl rfl rfl 0 rfl <| E_iload (n := 14) 8 rfl rfl 4 rfl <| E_cV1r (n := 17) 9 rfl rfl co_12_256 rfl sh_133 rfl (K_RM_isLine m x4 _ hq2) <| E_if_ne (n := 20) (t := 23) 10 rfl rfl rfl (fun hc => ?_) (fun hc => ?_)
      · have h := ifn h hc
        obtain ⟨m3, hq4, h⟩ := bM_ex h
        obtain ⟨v5, m6, hq7, h⟩ := bV_ex h
        refine E_aload_n (n := 24) 12 rfl rfl rfl 0 rfl <| E_iload (n := 26) 13 rfl rfl 4 rfl <| E_cV1v (n := 29) 14 rfl rfl co_12_295 rfl sh_133 rfl (K_RM_looks m x4 _ hq4) <| E_iload_n (n := 30) 15 rfl rfl rfl 3 rfl <| E_aload_n (n := 31) 16 rfl rfl rfl 0 rfl <| E_iload_n (n := 32) 17 rfl rfl rfl 1 rfl <| E_iload_n (n := 33) 18 rfl rfl rfl 2 rfl <| E_cV2r (n := 36) 19 rfl rfl co_12_319 rfl sh_133 rfl (K_RM_isSquareHis m3 x1 x2 _ hq7) <| E_if_eq (n := 39) (t := 46) 20 rfl rfl rfl (fun hc => ?_) (fun hc => ?_)
        · have h := ifp h hc
          refine E_iconst (v := 0) (n := 47) 25 rfl rfl icz_0 <| ?_
          obtain ⟨v8, hv8, h⟩ := letV_ex h
          refine E_iadd (n := 48) 26 rfl rfl <| E_top hv8 <| E_istore_n (lv' := [(0, .ref 133), (1, .int x1), (2, .int x2), (3, .int v8), (4, .int x4)]) (n := 49) 27 rfl rfl rfl (Nat.le_of_ble_eq_true rfl) [1, 2, 3, 0, 4] rfl <| ?_
          refine E_iinc (v := (x4 + 1)) (lv' := [(0, .ref 133), (1, .int x1), (2, .int x2), (3, .int v8), (4, .int (x4 + 1))]) (n := 52) 28 rfl rfl 4 rfl (by rw [icz_1]) (Nat.le_of_ble_eq_true rfl) [1, 2, 3, 4, 0] rfl <| E_goto (t := 5) 29 rfl rfl <| ?_
          exact ih m6 v8 (x4 + 1) h
        · have h := ifn h hc
          refine E_iconst (v := 1) (n := 40) 21 rfl rfl icz_1 <| E_iload (n := 42) 22 rfl rfl 4 rfl <| E_iadd (n := 43) 23 rfl rfl <| E_goto (t := 47) 24 rfl rfl <| ?_
          obtain ⟨v9, hv9, h⟩ := letV_ex h
          refine E_iadd (n := 48) 26 rfl rfl <| E_top hv9 <| E_istore_n (lv' := [(0, .ref 133), (1, .int x1), (2, .int x2), (3, .int v9), (4, .int x4)]) (n := 49) 27 rfl rfl rfl (Nat.le_of_ble_eq_true rfl) [1, 2, 3, 0, 4] rfl <| ?_
          refine E_iinc (v := (x4 + 1)) (lv' := [(0, .ref 133), (1, .int x1), (2, .int x2), (3, .int v9), (4, .int (x4 + 1))]) (n := 52) 28 rfl rfl 4 rfl (by rw [icz_1]) (Nat.le_of_ble_eq_true rfl) [1, 2, 3, 4, 0] rfl <| E_goto (t := 5) 29 rfl rfl <| ?_
          exact ih m6 v9 (x4 + 1) h
      · have h := ifp h hc
        refine E_goto (t := 49) 11 rfl rfl <| ?_
        refine E_iinc (v := (x4 + 1)) (lv' := [(0, .ref 133), (1, .int x1), (2, .int x2), (3, .int x3), (4, .int (x4 + 1))]) (n := 52) 28 rfl rfl 4 rfl (by rw [icz_1]) (Nat.le_of_ble_eq_true rfl) [1, 2, 3, 4, 0] rfl <| E_goto (t := 5) 29 rfl rfl <| ?_
        exact ih m x3 (x4 + 1) h
theorem K_RM_heirOf (m : Mem) (x1 : Int32) (x2 : Int32) (R : Int32 × Mem) (h : RM_heirOf m x1 x2 = some R) : Mt M_RM_heirOf [.ref 133, .int x1, .int x2] m (qI R.1 R.2) := by
  refine Mt.of G_RM_heirOf (Nat.le_of_ble_eq_true rfl) (E_sub (lv' := [(0, .ref 133), (1, .int x1), (2, .int x2)]) [0, 1, 2] rfl ?_)
  unfold RM_heirOf at h
  refine E_iconst (v := 0) (n := 1) 0 rfl rfl icz_0 <| E_istore_n (lv' := [(0, .ref 133), (1, .int x1), (2, .int x2), (3, .int 0)]) (n := 2) 1 rfl rfl rfl (Nat.le_of_ble_eq_true rfl) [1, 2, 3, 0] rfl <| E_iconst (v := 0) (n := 3) 2 rfl rfl icz_0 <| E_istore (lv' := [(0, .ref 133), (1, .int x1), (2, .int x2), (3, .int 0), (4, .int 0)]) (n := 5) 3 rfl rfl (Nat.le_of_ble_eq_true rfl) [1, 2, 3, 4, 0] rfl <| ?_
  refine RM_heirOf_L5_ok x1 x2 _ R ?_ FU m 0 0 h
  intro m2 y1 h
  obtain ⟨hc3, h⟩ := ift h
  refine E_aload_n (n := 56) 30 rfl rfl rfl 0 rfl <| E_gF (r := 135) (n := 59) 31 rfl rfl fg_12_33 sh_133 rfl <| E_bipush (v := 7) (n := 61) 32 rfl rfl bpz_7 <| E_iload_n (n := 62) 33 rfl rfl rfl 1 rfl <| E_iadd (n := 63) 34 rfl rfl <| E_iald (n := 64) 35 rfl rfl sh_135 hc3 <| E_ireturn 36 rfl rfl (eS h)
theorem K_RM_heir (m : Mem) (x1 : Int32) (x2 : Int32) (R : Int32 × Mem) (h : RM_heir m x1 x2 = some R) : Mt M_RM_heir [.ref 133, .int x1, .int x2] m (qI R.1 R.2) := by
  refine Mt.of G_RM_heir (Nat.le_of_ble_eq_true rfl) (E_sub (lv' := [(0, .ref 133), (1, .int x1), (2, .int x2)]) [0, 1, 2] rfl ?_)
  unfold RM_heir at h
  obtain ⟨m1, hm1, h⟩ := letM_ex h
  refine E_aload_n (n := 1) 0 rfl rfl rfl 0 rfl <| E_iconst (v := 0) (n := 2) 1 rfl rfl icz_0 <| E_pI (n := 5) 2 rfl rfl fp_12_1 sh_133 <| E_mem hm1 <| E_iload_n (n := 6) 3 rfl rfl rfl 1 rfl <| E_iload_n (n := 7) 4 rfl rfl rfl 2 rfl <| E_dS2r (n := 10) 5 rfl rfl co_12_316 rfl rfl (K_RM_isSquare m1 x1 x2 _ rfl) <| E_if_eq (n := 13) (t := 22) 6 rfl rfl rfl (fun hc => ?_) (fun hc => ?_)
  · have h := ifp h hc
    refine E_iconst (v := (-1)) (n := 23) 12 rfl rfl icz_m1 <| ?_
    refine E_ireturn 13 rfl rfl (eS h)
  · have h := ifn h hc
    obtain ⟨v2, m3, hq4, h⟩ := bV_ex h
    refine E_aload_n (n := 14) 7 rfl rfl rfl 0 rfl <| E_iload_n (n := 15) 8 rfl rfl rfl 1 rfl <| E_iload_n (n := 16) 9 rfl rfl rfl 2 rfl <| E_cV2r (n := 19) 10 rfl rfl co_12_336 rfl sh_133 rfl (K_RM_heirOf m1 x1 x2 _ hq4) <| E_goto (t := 23) 11 rfl rfl <| ?_
    refine E_ireturn 13 rfl rfl (eS h)
theorem RM_estate_L21_ok (x1 : Int32) (kx : Mem → Int32 → Option (Int32 × Mem)) (R : Int32 × Mem) (hx : ∀ (m : Mem) (x2 : Int32), kx m x2 = some R → E M_RM_estate 58 [(2, .int x2)] [] m (qI R.1 R.2)) : ∀ (n : Nat) (m : Mem) (x2 : Int32) (x3 : Int32), RM_estate_L21 x1 kx n m x2 x3 = some R → E M_RM_estate 21 [(0, .ref 133), (1, .int x1), (2, .int x2), (3, .int x3)] [] m (qI R.1 R.2) := by
  intro n
  induction n with
  | zero =>
    intro m x2 x3 h
    exact absurd (show none = some R from h) (fun e => Option.some_ne_none R e.symm)
  | succ n ih =>
    intro m x2 x3 h
    rw [RM_estate_L21] at h
    refine E_iload_n (n := 22) 14 rfl rfl rfl 3 rfl <| E_sipush (v := 400) (n := 25) 15 rfl rfl spz_400 <| E_icmp_ge (n := 28) (t := 58) 16 rfl rfl rfl (fun hc => ?_) (fun hc => ?_)
    · have h := ifp h hc
      refine E_sub (lv' := [(2, .int x2)]) [2] rfl ?_
      exact hx m x2 h
    · have h := ifn h hc
      obtain ⟨v1, m2, hq3, h⟩ := bV_ex h
      refine E_iload_n (n := 29) 17 rfl rfl rfl 2 rfl <| E_aload_n (n := 30) 18 rfl rfl rfl 0 rfl <| E_iload_n (n := 31) 19 rfl rfl rfl 3 rfl <| E_bipush (v := 20) (n := 33) 20 rfl rfl bpz_20 <| E_irm (n := 34) 21 rfl rfl (by decide) <| E_iload_n (n := 35) 22 rfl rfl rfl 3 rfl <| E_bipush (v := 20) (n := 37) 23 rfl rfl bpz_20 <| E_idiv (n := 38) 24 rfl rfl (by decide) <| E_cV2r (n := 41) 25 rfl rfl co_12_336 rfl sh_133 rfl (K_RM_heirOf m (irm x3 20) (x3 / 20) _ hq3) <| E_iload_n (n := 42) 26 rfl rfl rfl 1 rfl <| E_icmp_ne (n := 45) (t := 49) 27 rfl rfl rfl (fun hc => ?_) (fun hc => ?_)
      · have h := ifn h hc
        refine E_iconst (v := 0) (n := 50) 30 rfl rfl icz_0 <| ?_
        obtain ⟨v4, hv4, h⟩ := letV_ex h
        refine E_iadd (n := 51) 31 rfl rfl <| E_top hv4 <| E_istore_n (lv' := [(0, .ref 133), (1, .int x1), (2, .int v4), (3, .int x3)]) (n := 52) 32 rfl rfl rfl (Nat.le_of_ble_eq_true rfl) [1, 2, 0, 3] rfl <| E_iinc (v := (x3 + 1)) (lv' := [(0, .ref 133), (1, .int x1), (2, .int v4), (3, .int (x3 + 1))]) (n := 55) 33 rfl rfl 3 rfl (by rw [icz_1]) (Nat.le_of_ble_eq_true rfl) [1, 2, 3, 0] rfl <| E_goto (t := 21) 34 rfl rfl <| ?_
        exact ih m2 v4 (x3 + 1) h
      · have h := ifp h hc
        refine E_iconst (v := 1) (n := 46) 28 rfl rfl icz_1 <| E_goto (t := 50) 29 rfl rfl <| ?_
        obtain ⟨v5, hv5, h⟩ := letV_ex h
        refine E_iadd (n := 51) 31 rfl rfl <| E_top hv5 <| E_istore_n (lv' := [(0, .ref 133), (1, .int x1), (2, .int v5), (3, .int x3)]) (n := 52) 32 rfl rfl rfl (Nat.le_of_ble_eq_true rfl) [1, 2, 0, 3] rfl <| E_iinc (v := (x3 + 1)) (lv' := [(0, .ref 133), (1, .int x1), (2, .int v5), (3, .int (x3 + 1))]) (n := 55) 33 rfl rfl 3 rfl (by rw [icz_1]) (Nat.le_of_ble_eq_true rfl) [1, 2, 3, 0] rfl <| E_goto (t := 21) 34 rfl rfl <| ?_
        exact ih m2 v5 (x3 + 1) h
theorem K_RM_estate (m : Mem) (x1 : Int32) (R : Int32 × Mem) (h : RM_estate m x1 = some R) : Mt M_RM_estate [.ref 133, .int x1] m (qI R.1 R.2) := by
  refine Mt.of G_RM_estate (Nat.le_of_ble_eq_true rfl) (E_sub (lv' := [(0, .ref 133), (1, .int x1)]) [0, 1] rfl ?_)
  unfold RM_estate at h
  obtain ⟨m1, hm1, h⟩ := letM_ex h
  refine E_aload_n (n := 1) 0 rfl rfl rfl 0 rfl <| E_iconst (v := 0) (n := 2) 1 rfl rfl icz_0 <| E_pI (n := 5) 2 rfl rfl fp_12_1 sh_133 <| E_mem hm1 <| E_iload_n (n := 6) 3 rfl rfl rfl 1 rfl <| E_iconst (v := 0) (n := 7) 4 rfl rfl icz_0 <| E_bipush (v := 9) (n := 9) 5 rfl rfl bpz_9 <| E_dS3r (n := 12) 6 rfl rfl co_12_203 rfl rfl (K_RM_isIn m1 x1 0 9 _ rfl) <| E_if_ne (n := 15) (t := 17) 7 rfl rfl rfl (fun hc => ?_) (fun hc => ?_)
  · have h := ifn h hc
    refine E_iconst (v := 0) (n := 18) 10 rfl rfl icz_0 <| E_istore_n (lv' := [(0, .ref 133), (1, .int x1), (2, .int 0)]) (n := 19) 11 rfl rfl rfl (Nat.le_of_ble_eq_true rfl) [1, 2, 0] rfl <| E_iconst (v := 0) (n := 20) 12 rfl rfl icz_0 <| E_istore_n (lv' := [(0, .ref 133), (1, .int x1), (2, .int 0), (3, .int 0)]) (n := 21) 13 rfl rfl rfl (Nat.le_of_ble_eq_true rfl) [1, 2, 3, 0] rfl <| ?_
    refine RM_estate_L21_ok x1 _ R ?_ FU m1 0 0 h
    intro m3 y2 h
    refine E_iload_n (n := 59) 35 rfl rfl rfl 0 rfl <| E_ireturn 36 rfl rfl (eS h)
  · have h := ifp h hc
    refine E_iconst (v := (-1)) (n := 16) 8 rfl rfl icz_m1 <| E_ireturn 9 rfl rfl (eS h)
theorem RM_parts_L13_ok (kx : Mem → Option Mem) (R : Mem) (hx : ∀ (m : Mem), kx m = some R → E M_RM_parts 33 [(0, .ref 133)] [] m (qV R)) : ∀ (n : Nat) (m : Mem) (x2 : Int32), RM_parts_L13 kx n m x2 = some R → E M_RM_parts 13 [(0, .ref 133), (2, .int x2)] [] m (qV R) := by
  intro n
  induction n with
  | zero =>
    intro m x2 h
    exact absurd (show none = some R from h) (fun e => Option.some_ne_none R e.symm)
  | succ n ih =>
    intro m x2 h
    rw [RM_parts_L13] at h
    refine E_iload_n (n := 14) 9 rfl rfl rfl 1 rfl <| E_sipush (v := 400) (n := 17) 10 rfl rfl spz_400 <| E_icmp_ge (n := 20) (t := 33) 11 rfl rfl rfl (fun hc => ?_) (fun hc => ?_)
    · have h := ifp h hc
      refine E_sub (lv' := [(0, .ref 133)]) [0] rfl ?_
      exact hx m h
    · have h := ifn h hc
      obtain ⟨hc1, h⟩ := ift h
      obtain ⟨m2, hm2, h⟩ := letM_ex h
      refine E_aload_n (n := 21) 12 rfl rfl rfl 0 rfl <| E_gF (r := 143) (n := 24) 13 rfl rfl fg_12_63 sh_133 rfl <| E_iload_n (n := 25) 14 rfl rfl rfl 1 rfl <| E_iconst (v := (-1)) (n := 26) 15 rfl rfl icz_m1 <| E_iast (n := 27) 16 rfl rfl sh_143 hc1 <| E_mem hm2 <| E_iinc (v := (x2 + 1)) (lv' := [(0, .ref 133), (2, .int (x2 + 1))]) (n := 30) 17 rfl rfl 1 rfl (by rw [icz_1]) (Nat.le_of_ble_eq_true rfl) [1, 0] rfl <| E_goto (t := 13) 18 rfl rfl <| ?_
      exact ih m2 (x2 + 1) h
theorem RM_parts_L95_ok (x2 : Int32) (x4 : Int32) (kx : Mem → Int32 → Option Mem) (R : Mem) (hx : ∀ (m : Mem) (x3 : Int32), kx m x3 = some R → E M_RM_parts 177 [(0, .ref 133), (2, .int x2), (3, .int x3), (4, .int x4)] [] m (qV R)) : ∀ (n : Nat) (m : Mem) (x3 : Int32) (x5 : Int32), RM_parts_L95 x2 x4 kx n m x3 x5 = some R → E M_RM_parts 95 [(0, .ref 133), (2, .int x2), (3, .int x3), (4, .int x4), (5, .int x5)] [] m (qV R) := by
  intro n
  induction n with
  | zero =>
    intro m x3 x5 h
    exact absurd (show none = some R from h) (fun e => Option.some_ne_none R e.symm)
  | succ n ih =>
    intro m x3 x5 h
    rw [RM_parts_L95] at h
    refine E_iload (n := 97) 56 rfl rfl 4 rfl <| E_iconst (v := 4) (n := 98) 57 rfl rfl icz_4 <| E_icmp_ge (n := 101) (t := 177) 58 rfl rfl rfl (fun hc => ?_) (fun hc => ?_)
    · have h := ifp h hc
      refine E_sub (lv' := [(0, .ref 133), (2, .int x2), (3, .int x3), (4, .int x4)]) [0, 1, 2, 3] rfl ?_
      exact hx m x3 h
    · have h := ifn h hc
      obtain ⟨hc1, h⟩ := ift h
      obtain ⟨v2, hv2, h⟩ := letV_ex h
      refine E_aload_n (n := 102) 59 rfl rfl rfl 0 rfl <| E_gF (r := 144) (n := 105) 60 rfl rfl fg_12_66 sh_133 rfl <| E_iload (n := 107) 61 rfl rfl 3 rfl <| E_iald (n := 108) 62 rfl rfl sh_144 hc1 <| E_iload (n := 110) 63 rfl rfl 4 rfl <| E_dS2r (n := 113) 64 rfl rfl co_12_326 rfl rfl (K_RM_beside m (gI m 144 (ixn x4)) x5 _ rfl) <| E_top hv2 <| E_istore (lv' := [(0, .ref 133), (2, .int x2), (3, .int x3), (4, .int x4), (5, .int x5), (6, .int v2)]) (n := 115) 65 rfl rfl (Nat.le_of_ble_eq_true rfl) [1, 2, 3, 4, 5, 0] rfl <| E_iload (n := 117) 66 rfl rfl 5 rfl <| E_if_lt (n := 120) (t := 171) 67 rfl rfl rfl (fun hc => ?_) (fun hc => ?_)
      · have h := ifp h hc
        refine E_iinc (v := (x5 + 1)) (lv' := [(0, .ref 133), (2, .int x2), (3, .int x3), (4, .int x4), (5, .int (x5 + 1)), (6, .int v2)]) (n := 174) 95 rfl rfl 4 rfl (by rw [icz_1]) (Nat.le_of_ble_eq_true rfl) [1, 2, 3, 4, 0, 5] rfl <| E_goto (t := 95) 96 rfl rfl <| ?_
        refine E_sub (lv' := [(0, .ref 133), (2, .int x2), (3, .int x3), (4, .int x4), (5, .int (x5 + 1))]) [0, 1, 2, 3, 4] rfl ?_
        exact ih m x3 (x5 + 1) h
      · have h := ifn h hc
        obtain ⟨hc3, h⟩ := ift h
        refine E_aload_n (n := 121) 68 rfl rfl rfl 0 rfl <| E_gF (r := 143) (n := 124) 69 rfl rfl fg_12_63 sh_133 rfl <| E_iload (n := 126) 70 rfl rfl 5 rfl <| E_iald (n := 127) 71 rfl rfl sh_143 hc3 <| E_if_ge (n := 130) (t := 171) 72 rfl rfl rfl (fun hc => ?_) (fun hc => ?_)
        · have h := ifp h hc
          refine E_iinc (v := (x5 + 1)) (lv' := [(0, .ref 133), (2, .int x2), (3, .int x3), (4, .int x4), (5, .int (x5 + 1)), (6, .int v2)]) (n := 174) 95 rfl rfl 4 rfl (by rw [icz_1]) (Nat.le_of_ble_eq_true rfl) [1, 2, 3, 4, 0, 5] rfl <| E_goto (t := 95) 96 rfl rfl <| ?_
          refine E_sub (lv' := [(0, .ref 133), (2, .int x2), (3, .int x3), (4, .int x4), (5, .int (x5 + 1))]) [0, 1, 2, 3, 4] rfl ?_
          exact ih m x3 (x5 + 1) h
        · have h := ifn h hc
          obtain ⟨hc4, h⟩ := ift h
          refine E_aload_n (n := 131) 73 rfl rfl rfl 0 rfl <| E_gF (r := 141) (n := 134) 74 rfl rfl fg_12_53 sh_133 rfl <| E_iload (n := 136) 75 rfl rfl 5 rfl <| E_zald (n := 137) 76 rfl rfl sh_141 hc3 <| E_aload_n (n := 138) 77 rfl rfl rfl 0 rfl <| E_gF (r := 141) (n := 141) 78 rfl rfl fg_12_53 sh_133 rfl <| E_iload_n (n := 142) 79 rfl rfl rfl 1 rfl <| E_zald (n := 143) 80 rfl rfl sh_141 hc4 <| E_icmp_eq (n := 146) (t := 149) 81 rfl rfl rfl (fun hc => ?_) (fun hc => ?_)
          · have h := ifp h hc
            obtain ⟨m5, hm5, h⟩ := letM_ex h
            obtain ⟨hc6, h⟩ := ift h
            obtain ⟨m7, hm7, h⟩ := letM_ex h
            refine E_aload_n (n := 150) 83 rfl rfl rfl 0 rfl <| E_gF (r := 143) (n := 153) 84 rfl rfl fg_12_63 sh_133 rfl <| E_iload (n := 155) 85 rfl rfl 5 rfl <| E_aload_n (n := 156) 86 rfl rfl rfl 0 rfl <| E_gI (n := 159) 87 rfl rfl fg_12_339 sh_133 <| E_iast (n := 160) 88 rfl rfl sh_143 hc3 <| E_mem hm5 <| E_aload_n (n := 161) 89 rfl rfl rfl 0 rfl <| E_gF (r := 144) (n := 164) 90 rfl rfl fg_12_66 sh_133 rfl <| E_iload_n (n := 165) 91 rfl rfl rfl 2 rfl <| E_iload (n := 167) 92 rfl rfl 5 rfl <| E_iast (n := 168) 93 rfl rfl sh_144 hc6 <| E_mem hm7 <| E_iinc (v := (x3 + 1)) (lv' := [(0, .ref 133), (2, .int x2), (3, .int (x3 + 1)), (4, .int x4), (5, .int x5), (6, .int v2)]) (n := 171) 94 rfl rfl 2 rfl (by rw [icz_1]) (Nat.le_of_ble_eq_true rfl) [1, 2, 0, 3, 4, 5] rfl <| ?_
            refine E_iinc (v := (x5 + 1)) (lv' := [(0, .ref 133), (2, .int x2), (3, .int (x3 + 1)), (4, .int x4), (5, .int (x5 + 1)), (6, .int v2)]) (n := 174) 95 rfl rfl 4 rfl (by rw [icz_1]) (Nat.le_of_ble_eq_true rfl) [1, 2, 3, 4, 0, 5] rfl <| E_goto (t := 95) 96 rfl rfl <| ?_
            refine E_sub (lv' := [(0, .ref 133), (2, .int x2), (3, .int (x3 + 1)), (4, .int x4), (5, .int (x5 + 1))]) [0, 1, 2, 3, 4] rfl ?_
            exact ih m7 (x3 + 1) (x5 + 1) h
          · have h := ifn h hc
            refine E_goto (t := 171) 82 rfl rfl <| ?_
            refine E_iinc (v := (x5 + 1)) (lv' := [(0, .ref 133), (2, .int x2), (3, .int x3), (4, .int x4), (5, .int (x5 + 1)), (6, .int v2)]) (n := 174) 95 rfl rfl 4 rfl (by rw [icz_1]) (Nat.le_of_ble_eq_true rfl) [1, 2, 3, 4, 0, 5] rfl <| E_goto (t := 95) 96 rfl rfl <| ?_
            refine E_sub (lv' := [(0, .ref 133), (2, .int x2), (3, .int x3), (4, .int x4), (5, .int (x5 + 1))]) [0, 1, 2, 3, 4] rfl ?_
            exact ih m x3 (x5 + 1) h
theorem RM_parts_L86_ok (x2 : Int32) (kx : Mem → Int32 → Option Mem) (R : Mem) (hx : ∀ (m : Mem) (x3 : Int32), kx m x3 = some R → E M_RM_parts 183 [(0, .ref 133), (2, .int x2), (3, .int x3)] [] m (qV R)) : ∀ (n : Nat) (m : Mem) (x3 : Int32) (x4 : Int32), RM_parts_L86 x2 kx n m x3 x4 = some R → E M_RM_parts 86 [(0, .ref 133), (2, .int x2), (3, .int x3), (4, .int x4)] [] m (qV R) := by
  intro n
  induction n with
  | zero =>
    intro m x3 x4 h
    exact absurd (show none = some R from h) (fun e => Option.some_ne_none R e.symm)
  | succ n ih =>
    intro m x3 x4 h
    rw [RM_parts_L86] at h
    refine E_iload (n := 88) 51 rfl rfl 3 rfl <| E_iload_n (n := 89) 52 rfl rfl rfl 2 rfl <| E_icmp_ge (n := 92) (t := 183) 53 rfl rfl rfl (fun hc => ?_) (fun hc => ?_)
    · have h := ifp h hc
      refine E_sub (lv' := [(0, .ref 133), (2, .int x2), (3, .int x3)]) [0, 1, 2] rfl ?_
      exact hx m x3 h
    · have h := ifn h hc
      refine E_iconst (v := 0) (n := 93) 54 rfl rfl icz_0 <| E_istore (lv' := [(0, .ref 133), (2, .int x2), (3, .int x3), (4, .int x4), (5, .int 0)]) (n := 95) 55 rfl rfl (Nat.le_of_ble_eq_true rfl) [1, 2, 3, 4, 0] rfl <| ?_
      refine RM_parts_L95_ok x2 x4 _ R ?_ FU m x3 0 h
      intro m2 y1 h
      refine E_iinc (v := (x4 + 1)) (lv' := [(0, .ref 133), (2, .int x2), (3, .int y1), (4, .int (x4 + 1))]) (n := 180) 97 rfl rfl 3 rfl (by rw [icz_1]) (Nat.le_of_ble_eq_true rfl) [1, 2, 3, 0] rfl <| E_goto (t := 86) 98 rfl rfl <| ?_
      exact ih m2 y1 (x4 + 1) h
theorem RM_parts_L35_ok (kx : Mem → Option Mem) (R : Mem) (hx : ∀ (m : Mem), kx m = some R → E M_RM_parts 209 [] [] m (qV R)) : ∀ (n : Nat) (m : Mem) (x2 : Int32), RM_parts_L35 kx n m x2 = some R → E M_RM_parts 35 [(0, .ref 133), (2, .int x2)] [] m (qV R) := by
  intro n
  induction n with
  | zero =>
    intro m x2 h
    exact absurd (show none = some R from h) (fun e => Option.some_ne_none R e.symm)
  | succ n ih =>
    intro m x2 h
    rw [RM_parts_L35] at h
    refine E_iload_n (n := 36) 21 rfl rfl rfl 1 rfl <| E_sipush (v := 400) (n := 39) 22 rfl rfl spz_400 <| E_icmp_ge (n := 42) (t := 209) 23 rfl rfl rfl (fun hc => ?_) (fun hc => ?_)
    · have h := ifp h hc
      refine E_sub (lv' := []) [] rfl ?_
      exact hx m h
    · have h := ifn h hc
      obtain ⟨hc1, h⟩ := ift h
      refine E_aload_n (n := 43) 24 rfl rfl rfl 0 rfl <| E_gF (r := 143) (n := 46) 25 rfl rfl fg_12_63 sh_133 rfl <| E_iload_n (n := 47) 26 rfl rfl rfl 1 rfl <| E_iald (n := 48) 27 rfl rfl sh_143 hc1 <| E_if_lt (n := 51) (t := 54) 28 rfl rfl rfl (fun hc => ?_) (fun hc => ?_)
      · have h := ifp h hc
        obtain ⟨hc2, h⟩ := ift h
        obtain ⟨m3, hm3, h⟩ := letM_ex h
        obtain ⟨m4, hm4, h⟩ := letM_ex h
        obtain ⟨hc5, h⟩ := ift h
        obtain ⟨m6, hm6, h⟩ := letM_ex h
        refine E_aload_n (n := 55) 30 rfl rfl rfl 0 rfl <| E_gF (r := 145) (n := 58) 31 rfl rfl fg_12_69 sh_133 rfl <| E_aload_n (n := 59) 32 rfl rfl rfl 0 rfl <| E_gI (n := 62) 33 rfl rfl fg_12_339 sh_133 <| E_iload_n (n := 63) 34 rfl rfl rfl 1 rfl <| E_iast (n := 64) 35 rfl rfl sh_145 hc2 <| E_mem hm3 <| E_aload_n (n := 65) 36 rfl rfl rfl 0 rfl <| E_gF (r := 143) (n := 68) 37 rfl rfl fg_12_63 sh_133 rfl <| E_iload_n (n := 69) 38 rfl rfl rfl 1 rfl <| E_aload_n (n := 70) 39 rfl rfl rfl 0 rfl <| E_gI (n := 73) 40 rfl rfl fg_12_339 sh_133 <| E_iast (n := 74) 41 rfl rfl sh_143 hc1 <| E_mem hm4 <| E_aload_n (n := 75) 42 rfl rfl rfl 0 rfl <| E_gF (r := 144) (n := 78) 43 rfl rfl fg_12_66 sh_133 rfl <| E_iconst (v := 0) (n := 79) 44 rfl rfl icz_0 <| E_iload_n (n := 80) 45 rfl rfl rfl 1 rfl <| E_iast (n := 81) 46 rfl rfl sh_144 hc5 <| E_mem hm6 <| E_iconst (v := 1) (n := 82) 47 rfl rfl icz_1 <| E_istore_n (lv' := [(0, .ref 133), (2, .int x2), (3, .int 1)]) (n := 83) 48 rfl rfl rfl (Nat.le_of_ble_eq_true rfl) [1, 2, 0] rfl <| E_iconst (v := 0) (n := 84) 49 rfl rfl icz_0 <| E_istore (lv' := [(0, .ref 133), (2, .int x2), (3, .int 1), (4, .int 0)]) (n := 86) 50 rfl rfl (Nat.le_of_ble_eq_true rfl) [1, 2, 3, 0] rfl <| ?_
        refine RM_parts_L86_ok x2 _ R ?_ FU m6 1 0 h
        intro m8 y7 h
        obtain ⟨hc9, h⟩ := ift h
        obtain ⟨m10, hm10, h⟩ := letM_ex h
        obtain ⟨m11, hm11, h⟩ := letM_ex h
        refine E_aload_n (n := 184) 99 rfl rfl rfl 0 rfl <| E_gF (r := 146) (n := 187) 100 rfl rfl fg_12_72 sh_133 rfl <| E_aload_n (n := 188) 101 rfl rfl rfl 0 rfl <| E_gI (n := 191) 102 rfl rfl fg_12_339 sh_133 <| E_iload_n (n := 192) 103 rfl rfl rfl 2 rfl <| E_iast (n := 193) 104 rfl rfl sh_146 hc9 <| E_mem hm10 <| E_aload_n (n := 194) 105 rfl rfl rfl 0 rfl <| E_dup (n := 195) 106 rfl rfl rfl <| E_gI (n := 198) 107 rfl rfl fg_12_339 sh_133 <| E_iconst (v := 1) (n := 199) 108 rfl rfl icz_1 <| E_iadd (n := 200) 109 rfl rfl <| E_pI (n := 203) 110 rfl rfl fp_12_339 sh_133 <| E_mem hm11 <| ?_
        refine E_iinc (v := (x2 + 1)) (lv' := [(0, .ref 133), (2, .int (x2 + 1)), (3, .int y7)]) (n := 206) 111 rfl rfl 1 rfl (by rw [icz_1]) (Nat.le_of_ble_eq_true rfl) [1, 0, 2] rfl <| E_goto (t := 35) 112 rfl rfl <| ?_
        refine E_sub (lv' := [(0, .ref 133), (2, .int (x2 + 1))]) [0, 1] rfl ?_
        exact ih m11 (x2 + 1) h
      · have h := ifn h hc
        refine E_goto (t := 203) 29 rfl rfl <| ?_
        refine E_iinc (v := (x2 + 1)) (lv' := [(0, .ref 133), (2, .int (x2 + 1))]) (n := 206) 111 rfl rfl 1 rfl (by rw [icz_1]) (Nat.le_of_ble_eq_true rfl) [1, 0] rfl <| E_goto (t := 35) 112 rfl rfl <| ?_
        exact ih m (x2 + 1) h
theorem K_RM_parts (m : Mem) (x1 : Int32) (R : Mem) (h : RM_parts m x1 = some R) : Mt M_RM_parts [.ref 133, .int x1] m (qV R) := by
  refine Mt.of G_RM_parts (Nat.le_of_ble_eq_true rfl) (E_sub (lv' := [(0, .ref 133), (1, .int x1)]) [0, 1] rfl ?_)
  unfold RM_parts at h
  obtain ⟨v1, m2, hq3, h⟩ := bV_ex h
  obtain ⟨m4, hm4, h⟩ := letM_ex h
  refine E_aload_n (n := 1) 0 rfl rfl rfl 0 rfl <| E_iload_n (n := 2) 1 rfl rfl rfl 1 rfl <| E_cV1r (n := 5) 2 rfl rfl co_12_322 rfl sh_133 rfl (K_RM_maps m x1 _ hq3) <| E_pop (n := 6) 3 rfl rfl rfl <| E_aload_n (n := 7) 4 rfl rfl rfl 0 rfl <| E_iconst (v := 0) (n := 8) 5 rfl rfl icz_0 <| E_pI (n := 11) 6 rfl rfl fp_12_339 sh_133 <| E_mem hm4 <| E_iconst (v := 0) (n := 12) 7 rfl rfl icz_0 <| E_istore_n (lv' := [(0, .ref 133), (1, .int x1), (2, .int 0)]) (n := 13) 8 rfl rfl rfl (Nat.le_of_ble_eq_true rfl) [1, 2, 0] rfl <| ?_
  refine E_sub (lv' := [(0, .ref 133), (2, .int 0)]) [0, 2] rfl ?_
  refine RM_parts_L13_ok _ R ?_ FU m4 0 h
  intro m5 h
  refine E_iconst (v := 0) (n := 34) 19 rfl rfl icz_0 <| E_istore_n (lv' := [(0, .ref 133), (2, .int 0)]) (n := 35) 20 rfl rfl rfl (Nat.le_of_ble_eq_true rfl) [1, 0] rfl <| ?_
  refine RM_parts_L35_ok _ R ?_ FU m5 0 h
  intro m6 h
  refine E_return 113 rfl rfl (eV h)
theorem K_RM_pieces (m : Mem) (x1 : Int32) (R : Int32 × Mem) (h : RM_pieces m x1 = some R) : Mt M_RM_pieces [.ref 133, .int x1] m (qI R.1 R.2) := by
  refine Mt.of G_RM_pieces (Nat.le_of_ble_eq_true rfl) (E_sub (lv' := [(0, .ref 133), (1, .int x1)]) [0, 1] rfl ?_)
  unfold RM_pieces at h
  obtain ⟨m1, hm1, h⟩ := letM_ex h
  obtain ⟨v2, hq3, h⟩ := bI_ex h
  refine E_aload_n (n := 1) 0 rfl rfl rfl 0 rfl <| E_iconst (v := 0) (n := 2) 1 rfl rfl icz_0 <| E_pI (n := 5) 2 rfl rfl fp_12_1 sh_133 <| E_mem hm1 <| E_aload_n (n := 6) 3 rfl rfl rfl 0 rfl <| E_iload_n (n := 7) 4 rfl rfl rfl 1 rfl <| E_cV1r (n := 10) 5 rfl rfl co_12_256 rfl sh_133 rfl (K_RM_isLine m1 x1 _ hq3) <| E_if_ne (n := 13) (t := 15) 6 rfl rfl rfl (fun hc => ?_) (fun hc => ?_)
  · have h := ifn h hc
    obtain ⟨m4, hq5, h⟩ := bM_ex h
    refine E_aload_n (n := 16) 9 rfl rfl rfl 0 rfl <| E_iload_n (n := 17) 10 rfl rfl rfl 1 rfl <| E_cV1v (n := 20) 11 rfl rfl co_12_342 rfl sh_133 rfl (K_RM_parts m1 x1 _ hq5) <| E_aload_n (n := 21) 12 rfl rfl rfl 0 rfl <| E_gI (n := 24) 13 rfl rfl fg_12_339 sh_133 <| E_ireturn 14 rfl rfl (eS h)
  · have h := ifp h hc
    refine E_iconst (v := (-1)) (n := 14) 7 rfl rfl icz_m1 <| E_ireturn 8 rfl rfl (eS h)
theorem RM_besides_L2_ok (x1 : Int32) (kx : Mem → Option (Int32 × Mem)) (R : Int32 × Mem) (hx : ∀ (m : Mem), kx m = some R → E M_RM_besides 23 [(0, .ref 133), (1, .int x1)] [] m (qI R.1 R.2)) : ∀ (n : Nat) (m : Mem) (x2 : Int32), RM_besides_L2 x1 kx n m x2 = some R → E M_RM_besides 2 [(0, .ref 133), (1, .int x1), (2, .int x2)] [] m (qI R.1 R.2) := by
  intro n
  induction n with
  | zero =>
    intro m x2 h
    exact absurd (show none = some R from h) (fun e => Option.some_ne_none R e.symm)
  | succ n ih =>
    intro m x2 h
    rw [RM_besides_L2] at h
    refine E_iload_n (n := 3) 2 rfl rfl rfl 2 rfl <| E_aload_n (n := 4) 3 rfl rfl rfl 0 rfl <| E_gI (n := 7) 4 rfl rfl fg_12_339 sh_133 <| E_icmp_ge (n := 10) (t := 23) 5 rfl rfl rfl (fun hc => ?_) (fun hc => ?_)
    · have h := ifp h hc
      refine E_sub (lv' := [(0, .ref 133), (1, .int x1)]) [0, 1] rfl ?_
      exact hx m h
    · have h := ifn h hc
      obtain ⟨hc1, h⟩ := ift h
      obtain ⟨m2, hm2, h⟩ := letM_ex h
      refine E_aload_n (n := 11) 6 rfl rfl rfl 0 rfl <| E_gF (r := 147) (n := 14) 7 rfl rfl fg_12_75 sh_133 rfl <| E_iload_n (n := 15) 8 rfl rfl rfl 2 rfl <| E_iconst (v := 0) (n := 16) 9 rfl rfl icz_0 <| E_zast (n := 17) 10 rfl rfl sh_147 hc1 <| E_mem hm2 <| E_iinc (v := (x2 + 1)) (lv' := [(0, .ref 133), (1, .int x1), (2, .int (x2 + 1))]) (n := 20) 11 rfl rfl 2 rfl (by rw [icz_1]) (Nat.le_of_ble_eq_true rfl) [1, 2, 0] rfl <| E_goto (t := 2) 12 rfl rfl <| ?_
      exact ih m2 (x2 + 1) h
theorem RM_besides_L50_ok (x1 : Int32) (x3 : Int32) (kx : Mem → Int32 → Option (Int32 × Mem)) (R : Int32 × Mem) (hx : ∀ (m : Mem) (x2 : Int32), kx m x2 = some R → E M_RM_besides 120 [(0, .ref 133), (1, .int x1), (2, .int x2), (3, .int x3)] [] m (qI R.1 R.2)) : ∀ (n : Nat) (m : Mem) (x2 : Int32) (x4 : Int32), RM_besides_L50 x1 x3 kx n m x2 x4 = some R → E M_RM_besides 50 [(0, .ref 133), (1, .int x1), (2, .int x2), (3, .int x3), (4, .int x4)] [] m (qI R.1 R.2) := by
  intro n
  induction n with
  | zero =>
    intro m x2 x4 h
    exact absurd (show none = some R from h) (fun e => Option.some_ne_none R e.symm)
  | succ n ih =>
    intro m x2 x4 h
    rw [RM_besides_L50] at h
    refine E_iload (n := 52) 29 rfl rfl 4 rfl <| E_iconst (v := 4) (n := 53) 30 rfl rfl icz_4 <| E_icmp_ge (n := 56) (t := 120) 31 rfl rfl rfl (fun hc => ?_) (fun hc => ?_)
    · have h := ifp h hc
      refine E_sub (lv' := [(0, .ref 133), (1, .int x1), (2, .int x2), (3, .int x3)]) [0, 1, 2, 3] rfl ?_
      exact hx m x2 h
    · have h := ifn h hc
      obtain ⟨v1, hv1, h⟩ := letV_ex h
      refine E_iload_n (n := 57) 32 rfl rfl rfl 3 rfl <| E_iload (n := 59) 33 rfl rfl 4 rfl <| E_dS2r (n := 62) 34 rfl rfl co_12_326 rfl rfl (K_RM_beside m x3 x4 _ rfl) <| E_top hv1 <| E_istore (lv' := [(0, .ref 133), (1, .int x1), (2, .int x2), (3, .int x3), (4, .int x4), (5, .int v1)]) (n := 64) 35 rfl rfl (Nat.le_of_ble_eq_true rfl) [1, 2, 3, 4, 5, 0] rfl <| E_iload (n := 66) 36 rfl rfl 5 rfl <| E_if_lt (n := 69) (t := 114) 37 rfl rfl rfl (fun hc => ?_) (fun hc => ?_)
      · have h := ifp h hc
        refine E_iinc (v := (x4 + 1)) (lv' := [(0, .ref 133), (1, .int x1), (2, .int x2), (3, .int x3), (4, .int (x4 + 1)), (5, .int v1)]) (n := 117) 62 rfl rfl 4 rfl (by rw [icz_1]) (Nat.le_of_ble_eq_true rfl) [1, 2, 3, 4, 0, 5] rfl <| E_goto (t := 50) 63 rfl rfl <| ?_
        refine E_sub (lv' := [(0, .ref 133), (1, .int x1), (2, .int x2), (3, .int x3), (4, .int (x4 + 1))]) [0, 1, 2, 3, 4] rfl ?_
        exact ih m x2 (x4 + 1) h
      · have h := ifn h hc
        obtain ⟨hc2, h⟩ := ift h
        refine E_aload_n (n := 70) 38 rfl rfl rfl 0 rfl <| E_gF (r := 143) (n := 73) 39 rfl rfl fg_12_63 sh_133 rfl <| E_iload (n := 75) 40 rfl rfl 5 rfl <| E_iald (n := 76) 41 rfl rfl sh_143 hc2 <| E_iload_n (n := 77) 42 rfl rfl rfl 1 rfl <| E_icmp_eq (n := 80) (t := 114) 43 rfl rfl rfl (fun hc => ?_) (fun hc => ?_)
        · have h := ifp h hc
          refine E_iinc (v := (x4 + 1)) (lv' := [(0, .ref 133), (1, .int x1), (2, .int x2), (3, .int x3), (4, .int (x4 + 1)), (5, .int v1)]) (n := 117) 62 rfl rfl 4 rfl (by rw [icz_1]) (Nat.le_of_ble_eq_true rfl) [1, 2, 3, 4, 0, 5] rfl <| E_goto (t := 50) 63 rfl rfl <| ?_
          refine E_sub (lv' := [(0, .ref 133), (1, .int x1), (2, .int x2), (3, .int x3), (4, .int (x4 + 1))]) [0, 1, 2, 3, 4] rfl ?_
          exact ih m x2 (x4 + 1) h
        · have h := ifn h hc
          obtain ⟨hc3, h⟩ := ift h
          refine E_aload_n (n := 81) 44 rfl rfl rfl 0 rfl <| E_gF (r := 147) (n := 84) 45 rfl rfl fg_12_75 sh_133 rfl <| E_aload_n (n := 85) 46 rfl rfl rfl 0 rfl <| E_gF (r := 143) (n := 88) 47 rfl rfl fg_12_63 sh_133 rfl <| E_iload (n := 90) 48 rfl rfl 5 rfl <| E_iald (n := 91) 49 rfl rfl sh_143 hc2 <| E_zald (n := 92) 50 rfl rfl sh_147 hc3 <| E_if_eq (n := 95) (t := 98) 51 rfl rfl rfl (fun hc => ?_) (fun hc => ?_)
          · have h := ifp h hc
            obtain ⟨m4, hm4, h⟩ := letM_ex h
            refine E_aload_n (n := 99) 53 rfl rfl rfl 0 rfl <| E_gF (r := 147) (n := 102) 54 rfl rfl fg_12_75 sh_133 rfl <| E_aload_n (n := 103) 55 rfl rfl rfl 0 rfl <| E_gF (r := 143) (n := 106) 56 rfl rfl fg_12_63 sh_133 rfl <| E_iload (n := 108) 57 rfl rfl 5 rfl <| E_iald (n := 109) 58 rfl rfl sh_143 hc2 <| E_iconst (v := 1) (n := 110) 59 rfl rfl icz_1 <| E_zast (n := 111) 60 rfl rfl sh_147 hc3 <| E_mem hm4 <| E_iinc (v := (x2 + 1)) (lv' := [(0, .ref 133), (1, .int x1), (2, .int (x2 + 1)), (3, .int x3), (4, .int x4), (5, .int v1)]) (n := 114) 61 rfl rfl 2 rfl (by rw [icz_1]) (Nat.le_of_ble_eq_true rfl) [1, 2, 0, 3, 4, 5] rfl <| ?_
            refine E_iinc (v := (x4 + 1)) (lv' := [(0, .ref 133), (1, .int x1), (2, .int (x2 + 1)), (3, .int x3), (4, .int (x4 + 1)), (5, .int v1)]) (n := 117) 62 rfl rfl 4 rfl (by rw [icz_1]) (Nat.le_of_ble_eq_true rfl) [1, 2, 3, 4, 0, 5] rfl <| E_goto (t := 50) 63 rfl rfl <| ?_
            refine E_sub (lv' := [(0, .ref 133), (1, .int x1), (2, .int (x2 + 1)), (3, .int x3), (4, .int (x4 + 1))]) [0, 1, 2, 3, 4] rfl ?_
            exact ih m4 (x2 + 1) (x4 + 1) h
          · have h := ifn h hc
            refine E_goto (t := 114) 52 rfl rfl <| ?_
            refine E_iinc (v := (x4 + 1)) (lv' := [(0, .ref 133), (1, .int x1), (2, .int x2), (3, .int x3), (4, .int (x4 + 1)), (5, .int v1)]) (n := 117) 62 rfl rfl 4 rfl (by rw [icz_1]) (Nat.le_of_ble_eq_true rfl) [1, 2, 3, 4, 0, 5] rfl <| E_goto (t := 50) 63 rfl rfl <| ?_
            refine E_sub (lv' := [(0, .ref 133), (1, .int x1), (2, .int x2), (3, .int x3), (4, .int (x4 + 1))]) [0, 1, 2, 3, 4] rfl ?_
            exact ih m x2 (x4 + 1) h
theorem RM_besides_L27_ok (x1 : Int32) (kx : Mem → Int32 → Option (Int32 × Mem)) (R : Int32 × Mem) (hx : ∀ (m : Mem) (x2 : Int32), kx m x2 = some R → E M_RM_besides 126 [(2, .int x2)] [] m (qI R.1 R.2)) : ∀ (n : Nat) (m : Mem) (x2 : Int32) (x3 : Int32), RM_besides_L27 x1 kx n m x2 x3 = some R → E M_RM_besides 27 [(0, .ref 133), (1, .int x1), (2, .int x2), (3, .int x3)] [] m (qI R.1 R.2) := by
  intro n
  induction n with
  | zero =>
    intro m x2 x3 h
    exact absurd (show none = some R from h) (fun e => Option.some_ne_none R e.symm)
  | succ n ih =>
    intro m x2 x3 h
    rw [RM_besides_L27] at h
    refine E_iload_n (n := 28) 17 rfl rfl rfl 3 rfl <| E_sipush (v := 400) (n := 31) 18 rfl rfl spz_400 <| E_icmp_ge (n := 34) (t := 126) 19 rfl rfl rfl (fun hc => ?_) (fun hc => ?_)
    · have h := ifp h hc
      refine E_sub (lv' := [(2, .int x2)]) [2] rfl ?_
      exact hx m x2 h
    · have h := ifn h hc
      obtain ⟨hc1, h⟩ := ift h
      refine E_aload_n (n := 35) 20 rfl rfl rfl 0 rfl <| E_gF (r := 143) (n := 38) 21 rfl rfl fg_12_63 sh_133 rfl <| E_iload_n (n := 39) 22 rfl rfl rfl 3 rfl <| E_iald (n := 40) 23 rfl rfl sh_143 hc1 <| E_iload_n (n := 41) 24 rfl rfl rfl 1 rfl <| E_icmp_eq (n := 44) (t := 47) 25 rfl rfl rfl (fun hc => ?_) (fun hc => ?_)
      · have h := ifp h hc
        refine E_iconst (v := 0) (n := 48) 27 rfl rfl icz_0 <| E_istore (lv' := [(0, .ref 133), (1, .int x1), (2, .int x2), (3, .int x3), (4, .int 0)]) (n := 50) 28 rfl rfl (Nat.le_of_ble_eq_true rfl) [1, 2, 3, 4, 0] rfl <| ?_
        refine RM_besides_L50_ok x1 x3 _ R ?_ FU m x2 0 h
        intro m3 y2 h
        refine E_iinc (v := (x3 + 1)) (lv' := [(0, .ref 133), (1, .int x1), (2, .int y2), (3, .int (x3 + 1))]) (n := 123) 64 rfl rfl 3 rfl (by rw [icz_1]) (Nat.le_of_ble_eq_true rfl) [1, 2, 3, 0] rfl <| E_goto (t := 27) 65 rfl rfl <| ?_
        exact ih m3 y2 (x3 + 1) h
      · have h := ifn h hc
        refine E_goto (t := 120) 26 rfl rfl <| ?_
        refine E_iinc (v := (x3 + 1)) (lv' := [(0, .ref 133), (1, .int x1), (2, .int x2), (3, .int (x3 + 1))]) (n := 123) 64 rfl rfl 3 rfl (by rw [icz_1]) (Nat.le_of_ble_eq_true rfl) [1, 2, 3, 0] rfl <| E_goto (t := 27) 65 rfl rfl <| ?_
        exact ih m x2 (x3 + 1) h
theorem K_RM_besides (m : Mem) (x1 : Int32) (R : Int32 × Mem) (h : RM_besides m x1 = some R) : Mt M_RM_besides [.ref 133, .int x1] m (qI R.1 R.2) := by
  refine Mt.of G_RM_besides (Nat.le_of_ble_eq_true rfl) (E_sub (lv' := [(0, .ref 133), (1, .int x1)]) [0, 1] rfl ?_)
  unfold RM_besides at h
  refine E_iconst (v := 0) (n := 1) 0 rfl rfl icz_0 <| E_istore_n (lv' := [(0, .ref 133), (1, .int x1), (2, .int 0)]) (n := 2) 1 rfl rfl rfl (Nat.le_of_ble_eq_true rfl) [1, 2, 0] rfl <| ?_
  refine RM_besides_L2_ok x1 _ R ?_ FU m 0 h
  intro m1 h
  refine E_iconst (v := 0) (n := 24) 13 rfl rfl icz_0 <| E_istore_n (lv' := [(0, .ref 133), (1, .int x1), (2, .int 0)]) (n := 25) 14 rfl rfl rfl (Nat.le_of_ble_eq_true rfl) [1, 2, 0] rfl <| E_iconst (v := 0) (n := 26) 15 rfl rfl icz_0 <| E_istore_n (lv' := [(0, .ref 133), (1, .int x1), (2, .int 0), (3, .int 0)]) (n := 27) 16 rfl rfl rfl (Nat.le_of_ble_eq_true rfl) [1, 2, 3, 0] rfl <| ?_
  refine RM_besides_L27_ok x1 _ R ?_ FU m1 0 0 h
  intro m3 y2 h
  refine E_iload_n (n := 127) 66 rfl rfl rfl 0 rfl <| E_ireturn 67 rfl rfl (eS h)
theorem K_RM_piece (m : Mem) (x1 : Int32) (x2 : Int32) (x3 : Int32) (R : Int32 × Mem) (h : RM_piece m x1 x2 x3 = some R) : Mt M_RM_piece [.ref 133, .int x1, .int x2, .int x3] m (qI R.1 R.2) := by
  refine Mt.of G_RM_piece (Nat.le_of_ble_eq_true rfl) (E_sub (lv' := [(0, .ref 133), (1, .int x1), (2, .int x2), (3, .int x3)]) [0, 1, 2, 3] rfl ?_)
  unfold RM_piece at h
  obtain ⟨m1, hm1, h⟩ := letM_ex h
  obtain ⟨v2, hq3, h⟩ := bI_ex h
  refine E_aload_n (n := 1) 0 rfl rfl rfl 0 rfl <| E_iconst (v := 0) (n := 2) 1 rfl rfl icz_0 <| E_pI (n := 5) 2 rfl rfl fp_12_1 sh_133 <| E_mem hm1 <| E_aload_n (n := 6) 3 rfl rfl rfl 0 rfl <| E_iload_n (n := 7) 4 rfl rfl rfl 1 rfl <| E_cV1r (n := 10) 5 rfl rfl co_12_256 rfl sh_133 rfl (K_RM_isLine m1 x1 _ hq3) <| E_if_eq (n := 13) (t := 22) 6 rfl rfl rfl (fun hc => ?_) (fun hc => ?_)
  · have h := ifp h hc
    refine E_iconst (v := (-1)) (n := 23) 12 rfl rfl icz_m1 <| E_ireturn 13 rfl rfl (eS h)
  · have h := ifn h hc
    refine E_iload_n (n := 14) 7 rfl rfl rfl 3 rfl <| E_iconst (v := 0) (n := 15) 8 rfl rfl icz_0 <| E_iconst (v := 4) (n := 16) 9 rfl rfl icz_4 <| E_dS3r (n := 19) 10 rfl rfl co_12_203 rfl rfl (K_RM_isIn m1 x3 0 4 _ rfl) <| E_if_ne (n := 22) (t := 24) 11 rfl rfl rfl (fun hc => ?_) (fun hc => ?_)
    · have h := ifn h hc
      obtain ⟨m4, hq5, h⟩ := bM_ex h
      refine E_aload_n (n := 25) 14 rfl rfl rfl 0 rfl <| E_iload_n (n := 26) 15 rfl rfl rfl 1 rfl <| E_cV1v (n := 29) 16 rfl rfl co_12_342 rfl sh_133 rfl (K_RM_parts m1 x1 _ hq5) <| E_iload_n (n := 30) 17 rfl rfl rfl 2 rfl <| E_iconst (v := 0) (n := 31) 18 rfl rfl icz_0 <| E_aload_n (n := 32) 19 rfl rfl rfl 0 rfl <| E_gI (n := 35) 20 rfl rfl fg_12_339 sh_133 <| E_iconst (v := 1) (n := 36) 21 rfl rfl icz_1 <| E_isub (n := 37) 22 rfl rfl <| E_dS3r (n := 40) 23 rfl rfl co_12_203 rfl rfl (K_RM_isIn m4 x2 0 ((gI m4 133 33) - 1) _ rfl) <| E_if_ne (n := 43) (t := 45) 24 rfl rfl rfl (fun hc => ?_) (fun hc => ?_)
      · have h := ifn h hc
        obtain ⟨hc6, h⟩ := ift h
        obtain ⟨v7, hv7, h⟩ := letV_ex h
        refine E_aload_n (n := 46) 27 rfl rfl rfl 0 rfl <| E_gF (r := 145) (n := 49) 28 rfl rfl fg_12_69 sh_133 rfl <| E_iload_n (n := 50) 29 rfl rfl rfl 2 rfl <| E_iald (n := 51) 30 rfl rfl sh_145 hc6 <| E_top hv7 <| E_istore (lv' := [(0, .ref 133), (1, .int x1), (2, .int x2), (3, .int x3), (4, .int v7)]) (n := 53) 31 rfl rfl (Nat.le_of_ble_eq_true rfl) [1, 2, 3, 4, 0] rfl <| E_iload_n (n := 54) 32 rfl rfl rfl 3 rfl <| E_if_ne (n := 57) (t := 66) 33 rfl rfl rfl (fun hc => ?_) (fun hc => ?_)
        · have h := ifn h hc
          refine E_iload_n (n := 67) 39 rfl rfl rfl 3 rfl <| E_iconst (v := 1) (n := 68) 40 rfl rfl icz_1 <| E_icmp_ne (n := 71) (t := 89) 41 rfl rfl rfl (fun hc => ?_) (fun hc => ?_)
          · have h := ifn h hc
            refine E_iload_n (n := 90) 51 rfl rfl rfl 3 rfl <| E_iconst (v := 2) (n := 91) 52 rfl rfl icz_2 <| E_icmp_ne (n := 94) (t := 102) 53 rfl rfl rfl (fun hc => ?_) (fun hc => ?_)
            · have h := ifn h hc
              refine E_iload_n (n := 103) 58 rfl rfl rfl 3 rfl <| E_iconst (v := 3) (n := 104) 59 rfl rfl icz_3 <| E_icmp_ne (n := 107) (t := 115) 60 rfl rfl rfl (fun hc => ?_) (fun hc => ?_)
              · have h := ifn h hc
                obtain ⟨v8, m9, hq10, h⟩ := bV_ex h
                refine E_aload_n (n := 116) 65 rfl rfl rfl 0 rfl <| E_iload_n (n := 117) 66 rfl rfl rfl 2 rfl <| E_cV1r (n := 120) 67 rfl rfl co_12_345 rfl sh_133 rfl (K_RM_besides m4 x2 _ hq10) <| ?_
                refine E_ireturn 68 rfl rfl (eS h)
              · have h := ifp h hc
                refine E_iload (n := 109) 61 rfl rfl 4 rfl <| E_bipush (v := 20) (n := 111) 62 rfl rfl bpz_20 <| E_idiv (n := 112) 63 rfl rfl (by decide) <| E_goto (t := 120) 64 rfl rfl <| ?_
                refine E_ireturn 68 rfl rfl (eS h)
            · have h := ifp h hc
              refine E_iload (n := 96) 54 rfl rfl 4 rfl <| E_bipush (v := 20) (n := 98) 55 rfl rfl bpz_20 <| E_irm (n := 99) 56 rfl rfl (by decide) <| E_goto (t := 120) 57 rfl rfl <| ?_
              refine E_ireturn 68 rfl rfl (eS h)
          · have h := ifp h hc
            obtain ⟨hc11, h⟩ := ift h
            refine E_aload_n (n := 72) 42 rfl rfl rfl 0 rfl <| E_gF (r := 141) (n := 75) 43 rfl rfl fg_12_53 sh_133 rfl <| E_iload (n := 77) 44 rfl rfl 4 rfl <| E_zald (n := 78) 45 rfl rfl sh_141 hc11 <| E_if_eq (n := 81) (t := 85) 46 rfl rfl rfl (fun hc => ?_) (fun hc => ?_)
            · have h := ifp h hc
              refine E_iconst (v := 0) (n := 86) 49 rfl rfl icz_0 <| E_goto (t := 120) 50 rfl rfl <| ?_
              refine E_ireturn 68 rfl rfl (eS h)
            · have h := ifn h hc
              refine E_iconst (v := 1) (n := 82) 47 rfl rfl icz_1 <| E_goto (t := 120) 48 rfl rfl <| ?_
              refine E_ireturn 68 rfl rfl (eS h)
        · have h := ifp h hc
          refine E_aload_n (n := 58) 34 rfl rfl rfl 0 rfl <| E_gF (r := 146) (n := 61) 35 rfl rfl fg_12_72 sh_133 rfl <| E_iload_n (n := 62) 36 rfl rfl rfl 2 rfl <| E_iald (n := 63) 37 rfl rfl sh_146 hc6 <| E_goto (t := 120) 38 rfl rfl <| ?_
          refine E_ireturn 68 rfl rfl (eS h)
      · have h := ifp h hc
        refine E_iconst (v := (-1)) (n := 44) 25 rfl rfl icz_m1 <| E_ireturn 26 rfl rfl (eS h)
    · have h := ifp h hc
      refine E_iconst (v := (-1)) (n := 23) 12 rfl rfl icz_m1 <| E_ireturn 13 rfl rfl (eS h)
theorem K_RM_pieceAt (m : Mem) (x1 : Int32) (x2 : Int32) (x3 : Int32) (R : Int32 × Mem) (h : RM_pieceAt m x1 x2 x3 = some R) : Mt M_RM_pieceAt [.ref 133, .int x1, .int x2, .int x3] m (qI R.1 R.2) := by
  refine Mt.of G_RM_pieceAt (Nat.le_of_ble_eq_true rfl) (E_sub (lv' := [(0, .ref 133), (1, .int x1), (2, .int x2), (3, .int x3)]) [0, 1, 2, 3] rfl ?_)
  unfold RM_pieceAt at h
  obtain ⟨m1, hm1, h⟩ := letM_ex h
  obtain ⟨v2, hq3, h⟩ := bI_ex h
  refine E_aload_n (n := 1) 0 rfl rfl rfl 0 rfl <| E_iconst (v := 0) (n := 2) 1 rfl rfl icz_0 <| E_pI (n := 5) 2 rfl rfl fp_12_1 sh_133 <| E_mem hm1 <| E_aload_n (n := 6) 3 rfl rfl rfl 0 rfl <| E_iload_n (n := 7) 4 rfl rfl rfl 1 rfl <| E_cV1r (n := 10) 5 rfl rfl co_12_256 rfl sh_133 rfl (K_RM_isLine m1 x1 _ hq3) <| E_if_eq (n := 13) (t := 21) 6 rfl rfl rfl (fun hc => ?_) (fun hc => ?_)
  · have h := ifp h hc
    refine E_iconst (v := (-1)) (n := 22) 11 rfl rfl icz_m1 <| E_ireturn 12 rfl rfl (eS h)
  · have h := ifn h hc
    refine E_iload_n (n := 14) 7 rfl rfl rfl 2 rfl <| E_iload_n (n := 15) 8 rfl rfl rfl 3 rfl <| E_dS2r (n := 18) 9 rfl rfl co_12_316 rfl rfl (K_RM_isSquare m1 x2 x3 _ rfl) <| E_if_ne (n := 21) (t := 23) 10 rfl rfl rfl (fun hc => ?_) (fun hc => ?_)
    · have h := ifn h hc
      obtain ⟨m4, hq5, h⟩ := bM_ex h
      obtain ⟨hc6, h⟩ := ift h
      refine E_aload_n (n := 24) 13 rfl rfl rfl 0 rfl <| E_iload_n (n := 25) 14 rfl rfl rfl 1 rfl <| E_cV1v (n := 28) 15 rfl rfl co_12_342 rfl sh_133 rfl (K_RM_parts m1 x1 _ hq5) <| E_aload_n (n := 29) 16 rfl rfl rfl 0 rfl <| E_gF (r := 143) (n := 32) 17 rfl rfl fg_12_63 sh_133 rfl <| E_bipush (v := 20) (n := 34) 18 rfl rfl bpz_20 <| E_iload_n (n := 35) 19 rfl rfl rfl 3 rfl <| E_imul (n := 36) 20 rfl rfl <| E_iload_n (n := 37) 21 rfl rfl rfl 2 rfl <| E_iadd (n := 38) 22 rfl rfl <| E_iald (n := 39) 23 rfl rfl sh_143 hc6 <| E_ireturn 24 rfl rfl (eS h)
    · have h := ifp h hc
      refine E_iconst (v := (-1)) (n := 22) 11 rfl rfl icz_m1 <| E_ireturn 12 rfl rfl (eS h)
theorem RM_crossings_J198_ok (kr : Int32 → Int32 → Option Int32) (kx : Int32 → Option Int32) (m : Mem) (x1 : Int32) (x2 : Int32) (x3 : Int32) (x4 : Int32) (x5 : Int32) (x10 : Int32) (x12 : Int32) (x13 : Int32) (R : Int32) (hr : ∀ (x4 : Int32) (x5 : Int32), kr x4 x5 = some R → E M_RM_crossings 6 [(0, .ref 133), (1, .int x1), (2, .int x2), (3, .int x3), (4, .int x4), (5, .int x5)] [] m (qI R m)) (hx : ∀ (x4 : Int32), kx x4 = some R → E M_RM_crossings 236 [(4, .int x4)] [] m (qI R m)) (h : RM_crossings_J198 kr kx m x1 x2 x3 x4 x5 x10 x12 x13 = some R) : E M_RM_crossings 198 [(0, .ref 133), (1, .int x1), (2, .int x2), (3, .int x3), (4, .int x4), (5, .int x5), (10, .int x10), (12, .int x12), (13, .int x13)] [] m (qI R m) := by
  unfold RM_crossings_J198 at h
  refine E_iload (n := 200) 108 rfl rfl 4 rfl <| E_iload (n := 202) 109 rfl rfl 8 rfl <| E_iload (n := 204) 110 rfl rfl 6 rfl <| E_iload (n := 206) 111 rfl rfl 7 rfl <| E_imul (n := 207) 112 rfl rfl <| E_icmp_le (n := 210) (t := 226) 113 rfl rfl rfl (fun hc => ?_) (fun hc => ?_)
  · have h := ifp h hc
    refine E_iconst (v := 0) (n := 227) 123 rfl rfl icz_0 <| ?_
    obtain ⟨v1, hv1, h⟩ := letV_ex h
    refine E_iadd (n := 228) 124 rfl rfl <| E_top hv1 <| E_istore (lv' := [(0, .ref 133), (1, .int x1), (2, .int x2), (3, .int x3), (4, .int v1), (5, .int x5), (10, .int x10), (12, .int x12), (13, .int x13)]) (n := 230) 125 rfl rfl (Nat.le_of_ble_eq_true rfl) [1, 2, 3, 4, 0, 5, 6, 7, 8] rfl <| ?_
    refine E_iinc (v := (x5 + 1)) (lv' := [(0, .ref 133), (1, .int x1), (2, .int x2), (3, .int x3), (4, .int v1), (5, .int (x5 + 1)), (10, .int x10), (12, .int x12), (13, .int x13)]) (n := 233) 126 rfl rfl 5 rfl (by rw [icz_1]) (Nat.le_of_ble_eq_true rfl) [1, 2, 3, 4, 5, 0, 6, 7, 8] rfl <| E_goto (t := 6) 127 rfl rfl <| ?_
    refine E_sub (lv' := [(0, .ref 133), (1, .int x1), (2, .int x2), (3, .int x3), (4, .int v1), (5, .int (x5 + 1))]) [0, 1, 2, 3, 4, 5] rfl ?_
    exact hr v1 (x5 + 1) h
  · have h := ifn h hc
    refine E_iload (n := 212) 114 rfl rfl 8 rfl <| E_iload (n := 214) 115 rfl rfl 6 rfl <| E_iconst (v := 2) (n := 215) 116 rfl rfl icz_2 <| E_iadd (n := 216) 117 rfl rfl <| E_iload (n := 218) 118 rfl rfl 7 rfl <| E_imul (n := 219) 119 rfl rfl <| E_icmp_gt (n := 222) (t := 226) 120 rfl rfl rfl (fun hc => ?_) (fun hc => ?_)
    · have h := ifp h hc
      refine E_iconst (v := 0) (n := 227) 123 rfl rfl icz_0 <| ?_
      obtain ⟨v2, hv2, h⟩ := letV_ex h
      refine E_iadd (n := 228) 124 rfl rfl <| E_top hv2 <| E_istore (lv' := [(0, .ref 133), (1, .int x1), (2, .int x2), (3, .int x3), (4, .int v2), (5, .int x5), (10, .int x10), (12, .int x12), (13, .int x13)]) (n := 230) 125 rfl rfl (Nat.le_of_ble_eq_true rfl) [1, 2, 3, 4, 0, 5, 6, 7, 8] rfl <| ?_
      refine E_iinc (v := (x5 + 1)) (lv' := [(0, .ref 133), (1, .int x1), (2, .int x2), (3, .int x3), (4, .int v2), (5, .int (x5 + 1)), (10, .int x10), (12, .int x12), (13, .int x13)]) (n := 233) 126 rfl rfl 5 rfl (by rw [icz_1]) (Nat.le_of_ble_eq_true rfl) [1, 2, 3, 4, 5, 0, 6, 7, 8] rfl <| E_goto (t := 6) 127 rfl rfl <| ?_
      refine E_sub (lv' := [(0, .ref 133), (1, .int x1), (2, .int x2), (3, .int x3), (4, .int v2), (5, .int (x5 + 1))]) [0, 1, 2, 3, 4, 5] rfl ?_
      exact hr v2 (x5 + 1) h
    · have h := ifn h hc
      refine E_iconst (v := 1) (n := 223) 121 rfl rfl icz_1 <| E_goto (t := 227) 122 rfl rfl <| ?_
      obtain ⟨v3, hv3, h⟩ := letV_ex h
      refine E_iadd (n := 228) 124 rfl rfl <| E_top hv3 <| E_istore (lv' := [(0, .ref 133), (1, .int x1), (2, .int x2), (3, .int x3), (4, .int v3), (5, .int x5), (10, .int x10), (12, .int x12), (13, .int x13)]) (n := 230) 125 rfl rfl (Nat.le_of_ble_eq_true rfl) [1, 2, 3, 4, 0, 5, 6, 7, 8] rfl <| ?_
      refine E_iinc (v := (x5 + 1)) (lv' := [(0, .ref 133), (1, .int x1), (2, .int x2), (3, .int x3), (4, .int v3), (5, .int (x5 + 1)), (10, .int x10), (12, .int x12), (13, .int x13)]) (n := 233) 126 rfl rfl 5 rfl (by rw [icz_1]) (Nat.le_of_ble_eq_true rfl) [1, 2, 3, 4, 5, 0, 6, 7, 8] rfl <| E_goto (t := 6) 127 rfl rfl <| ?_
      refine E_sub (lv' := [(0, .ref 133), (1, .int x1), (2, .int x2), (3, .int x3), (4, .int v3), (5, .int (x5 + 1))]) [0, 1, 2, 3, 4, 5] rfl ?_
      exact hr v3 (x5 + 1) h
theorem RM_crossings_J135_ok (kr : Int32 → Int32 → Option Int32) (kx : Int32 → Option Int32) (m : Mem) (x1 : Int32) (x2 : Int32) (x3 : Int32) (x4 : Int32) (x5 : Int32) (x6 : Int32) (x7 : Int32) (x8 : Int32) (x9 : Int32) (x10 : Int32) (s0 : Int32) (R : Int32) (hr : ∀ (x4 : Int32) (x5 : Int32), kr x4 x5 = some R → E M_RM_crossings 6 [(0, .ref 133), (1, .int x1), (2, .int x2), (3, .int x3), (4, .int x4), (5, .int x5)] [] m (qI R m)) (hx : ∀ (x4 : Int32), kx x4 = some R → E M_RM_crossings 236 [(4, .int x4)] [] m (qI R m)) (h : RM_crossings_J135 kr kx m x1 x2 x3 x4 x5 x6 x7 x8 x9 x10 s0 = some R) : E M_RM_crossings 135 [(0, .ref 133), (1, .int x1), (2, .int x2), (3, .int x3), (4, .int x4), (5, .int x5), (6, .int x6), (7, .int x7), (8, .int x8), (9, .int x9), (10, .int x10)] [.int s0] m (qI R m) := by
  unfold RM_crossings_J135 at h
  obtain ⟨v1, hv1, h⟩ := letV_ex h
  refine E_istore (lv' := [(0, .ref 133), (1, .int x1), (2, .int x2), (3, .int x3), (4, .int x4), (5, .int x5), (6, .int x6), (7, .int x7), (8, .int x8), (9, .int x9), (10, .int x10), (11, .int s0)]) (n := 137) 75 rfl rfl (Nat.le_of_ble_eq_true rfl) [1, 2, 3, 4, 5, 6, 7, 8, 9, 10, 11, 0] rfl <| E_iload (n := 139) 76 rfl rfl 9 rfl <| E_iload (n := 141) 77 rfl rfl 7 rfl <| E_isub (n := 142) 78 rfl rfl <| E_top hv1 <| E_istore (lv' := [(0, .ref 133), (1, .int x1), (2, .int x2), (3, .int x3), (4, .int x4), (5, .int x5), (6, .int x6), (7, .int x7), (8, .int x8), (9, .int x9), (10, .int x10), (11, .int s0), (12, .int v1)]) (n := 144) 79 rfl rfl (Nat.le_of_ble_eq_true rfl) [1, 2, 3, 4, 5, 6, 7, 8, 9, 10, 11, 12, 0] rfl <| E_iload (n := 146) 80 rfl rfl 12 rfl <| E_if_eq (n := 149) (t := 230) 81 rfl rfl rfl (fun hc => ?_) (fun hc => ?_)
  · have h := ifp h hc
    refine E_iinc (v := (x5 + 1)) (lv' := [(0, .ref 133), (1, .int x1), (2, .int x2), (3, .int x3), (4, .int x4), (5, .int (x5 + 1)), (6, .int x6), (7, .int x7), (8, .int x8), (9, .int x9), (10, .int x10), (11, .int s0), (12, .int v1)]) (n := 233) 126 rfl rfl 5 rfl (by rw [icz_1]) (Nat.le_of_ble_eq_true rfl) [1, 2, 3, 4, 5, 0, 6, 7, 8, 9, 10, 11, 12] rfl <| E_goto (t := 6) 127 rfl rfl <| ?_
    refine E_sub (lv' := [(0, .ref 133), (1, .int x1), (2, .int x2), (3, .int x3), (4, .int x4), (5, .int (x5 + 1))]) [0, 1, 2, 3, 4, 5] rfl ?_
    exact hr x4 (x5 + 1) h
  · have h := ifn h hc
    obtain ⟨v2, hq3, h⟩ := bI_ex h
    refine E_iload (n := 151) 82 rfl rfl 11 rfl <| E_iload (n := 153) 83 rfl rfl 7 rfl <| E_iload (n := 155) 84 rfl rfl 9 rfl <| E_dS3r (n := 158) 85 rfl rfl co_12_269 rfl rfl (K_RM_isBetween m s0 x7 x9 _ hq3) <| E_if_ne (n := 161) (t := 164) 86 rfl rfl rfl (fun hc => ?_) (fun hc => ?_)
    · have h := ifn h hc
      obtain ⟨v4, hv4, h⟩ := letV_ex h
      refine E_iload (n := 166) 88 rfl rfl 6 rfl <| E_iload (n := 168) 89 rfl rfl 12 rfl <| E_imul (n := 169) 90 rfl rfl <| E_iload (n := 171) 91 rfl rfl 11 rfl <| E_iload (n := 173) 92 rfl rfl 7 rfl <| E_isub (n := 174) 93 rfl rfl <| E_iload (n := 176) 94 rfl rfl 8 rfl <| E_iload (n := 178) 95 rfl rfl 6 rfl <| E_isub (n := 179) 96 rfl rfl <| E_imul (n := 180) 97 rfl rfl <| E_iadd (n := 181) 98 rfl rfl <| E_top hv4 <| E_istore (lv' := [(0, .ref 133), (1, .int x1), (2, .int x2), (3, .int x3), (4, .int x4), (5, .int x5), (6, .int x6), (7, .int x7), (8, .int x8), (9, .int x9), (10, .int x10), (11, .int s0), (12, .int v1), (13, .int v4)]) (n := 183) 99 rfl rfl (Nat.le_of_ble_eq_true rfl) [1, 2, 3, 4, 5, 6, 7, 8, 9, 10, 11, 12, 13, 0] rfl <| E_iload (n := 185) 100 rfl rfl 12 rfl <| E_if_ge (n := 188) (t := 198) 101 rfl rfl rfl (fun hc => ?_) (fun hc => ?_)
      · have h := ifp h hc
        refine E_sub (lv' := [(0, .ref 133), (1, .int x1), (2, .int x2), (3, .int x3), (4, .int x4), (5, .int x5), (10, .int x10), (12, .int v1), (13, .int v4)]) [0, 1, 2, 3, 4, 5, 10, 12, 13] rfl ?_
        exact RM_crossings_J198_ok _ _ m x1 x2 x3 x4 x5 x10 v1 v4 _ hr hx h
      · have h := ifn h hc
        obtain ⟨v5, hv5, h⟩ := letV_ex h
        obtain ⟨v6, hv6, h⟩ := letV_ex h
        refine E_iload (n := 190) 102 rfl rfl 13 rfl <| E_ineg (n := 191) 103 rfl rfl <| E_top hv5 <| E_istore (lv' := [(0, .ref 133), (1, .int x1), (2, .int x2), (3, .int x3), (4, .int x4), (5, .int x5), (6, .int x6), (7, .int x7), (8, .int x8), (9, .int x9), (10, .int x10), (11, .int s0), (12, .int v1), (13, .int v5)]) (n := 193) 104 rfl rfl (Nat.le_of_ble_eq_true rfl) [1, 2, 3, 4, 5, 6, 7, 8, 9, 10, 11, 12, 13, 0] rfl <| E_iload (n := 195) 105 rfl rfl 12 rfl <| E_ineg (n := 196) 106 rfl rfl <| E_top hv6 <| E_istore (lv' := [(0, .ref 133), (1, .int x1), (2, .int x2), (3, .int x3), (4, .int x4), (5, .int x5), (6, .int x6), (7, .int x7), (8, .int x8), (9, .int x9), (10, .int x10), (11, .int s0), (12, .int v6), (13, .int v5)]) (n := 198) 107 rfl rfl (Nat.le_of_ble_eq_true rfl) [1, 2, 3, 4, 5, 6, 7, 8, 9, 10, 11, 12, 0, 13] rfl <| ?_
        refine E_sub (lv' := [(0, .ref 133), (1, .int x1), (2, .int x2), (3, .int x3), (4, .int x4), (5, .int x5), (10, .int x10), (12, .int v6), (13, .int v5)]) [0, 1, 2, 3, 4, 5, 10, 12, 13] rfl ?_
        exact RM_crossings_J198_ok _ _ m x1 x2 x3 x4 x5 x10 v6 v5 _ hr hx h
    · have h := ifp h hc
      refine E_goto (t := 230) 87 rfl rfl <| ?_
      refine E_iinc (v := (x5 + 1)) (lv' := [(0, .ref 133), (1, .int x1), (2, .int x2), (3, .int x3), (4, .int x4), (5, .int (x5 + 1)), (6, .int x6), (7, .int x7), (8, .int x8), (9, .int x9), (10, .int x10), (11, .int s0), (12, .int v1)]) (n := 233) 126 rfl rfl 5 rfl (by rw [icz_1]) (Nat.le_of_ble_eq_true rfl) [1, 2, 3, 4, 5, 0, 6, 7, 8, 9, 10, 11, 12] rfl <| E_goto (t := 6) 127 rfl rfl <| ?_
      refine E_sub (lv' := [(0, .ref 133), (1, .int x1), (2, .int x2), (3, .int x3), (4, .int x4), (5, .int (x5 + 1))]) [0, 1, 2, 3, 4, 5] rfl ?_
      exact hr x4 (x5 + 1) h
theorem RM_crossings_J124_ok (kr : Int32 → Int32 → Option Int32) (kx : Int32 → Option Int32) (m : Mem) (x1 : Int32) (x2 : Int32) (x3 : Int32) (x4 : Int32) (x5 : Int32) (x6 : Int32) (x7 : Int32) (x8 : Int32) (x9 : Int32) (s0 : Int32) (R : Int32) (hr : ∀ (x4 : Int32) (x5 : Int32), kr x4 x5 = some R → E M_RM_crossings 6 [(0, .ref 133), (1, .int x1), (2, .int x2), (3, .int x3), (4, .int x4), (5, .int x5)] [] m (qI R m)) (hx : ∀ (x4 : Int32), kx x4 = some R → E M_RM_crossings 236 [(4, .int x4)] [] m (qI R m)) (h : RM_crossings_J124 kr kx m x1 x2 x3 x4 x5 x6 x7 x8 x9 s0 = some R) : E M_RM_crossings 124 [(0, .ref 133), (1, .int x1), (2, .int x2), (3, .int x3), (4, .int x4), (5, .int x5), (6, .int x6), (7, .int x7), (8, .int x8), (9, .int x9)] [.int s0] m (qI R m) := by
  unfold RM_crossings_J124 at h
  refine E_istore (lv' := [(0, .ref 133), (1, .int x1), (2, .int x2), (3, .int x3), (4, .int x4), (5, .int x5), (6, .int x6), (7, .int x7), (8, .int x8), (9, .int x9), (10, .int s0)]) (n := 126) 69 rfl rfl (Nat.le_of_ble_eq_true rfl) [1, 2, 3, 4, 5, 6, 7, 8, 9, 10, 0] rfl <| E_iload_n (n := 127) 70 rfl rfl rfl 3 rfl <| E_if_eq (n := 130) (t := 134) 71 rfl rfl rfl (fun hc => ?_) (fun hc => ?_)
  · have h := ifp h hc
    refine E_iload_n (n := 135) 74 rfl rfl rfl 1 rfl <| ?_
    exact RM_crossings_J135_ok _ _ m x1 x2 x3 x4 x5 x6 x7 x8 x9 s0 x1 _ hr hx h
  · have h := ifn h hc
    refine E_iload_n (n := 131) 72 rfl rfl rfl 2 rfl <| E_goto (t := 135) 73 rfl rfl <| ?_
    exact RM_crossings_J135_ok _ _ m x1 x2 x3 x4 x5 x6 x7 x8 x9 s0 x2 _ hr hx h
theorem RM_crossings_J113_ok (kr : Int32 → Int32 → Option Int32) (kx : Int32 → Option Int32) (m : Mem) (x1 : Int32) (x2 : Int32) (x3 : Int32) (x4 : Int32) (x5 : Int32) (x6 : Int32) (x7 : Int32) (x8 : Int32) (s0 : Int32) (R : Int32) (hr : ∀ (x4 : Int32) (x5 : Int32), kr x4 x5 = some R → E M_RM_crossings 6 [(0, .ref 133), (1, .int x1), (2, .int x2), (3, .int x3), (4, .int x4), (5, .int x5)] [] m (qI R m)) (hx : ∀ (x4 : Int32), kx x4 = some R → E M_RM_crossings 236 [(4, .int x4)] [] m (qI R m)) (h : RM_crossings_J113 kr kx m x1 x2 x3 x4 x5 x6 x7 x8 s0 = some R) : E M_RM_crossings 113 [(0, .ref 133), (1, .int x1), (2, .int x2), (3, .int x3), (4, .int x4), (5, .int x5), (6, .int x6), (7, .int x7), (8, .int x8)] [.int s0] m (qI R m) := by
  unfold RM_crossings_J113 at h
  refine E_istore (lv' := [(0, .ref 133), (1, .int x1), (2, .int x2), (3, .int x3), (4, .int x4), (5, .int x5), (6, .int x6), (7, .int x7), (8, .int x8), (9, .int s0)]) (n := 115) 63 rfl rfl (Nat.le_of_ble_eq_true rfl) [1, 2, 3, 4, 5, 6, 7, 8, 9, 0] rfl <| E_iload_n (n := 116) 64 rfl rfl rfl 3 rfl <| E_if_eq (n := 119) (t := 123) 65 rfl rfl rfl (fun hc => ?_) (fun hc => ?_)
  · have h := ifp h hc
    refine E_iload_n (n := 124) 68 rfl rfl rfl 2 rfl <| ?_
    exact RM_crossings_J124_ok _ _ m x1 x2 x3 x4 x5 x6 x7 x8 s0 x2 _ hr hx h
  · have h := ifn h hc
    refine E_iload_n (n := 120) 66 rfl rfl rfl 1 rfl <| E_goto (t := 124) 67 rfl rfl <| ?_
    exact RM_crossings_J124_ok _ _ m x1 x2 x3 x4 x5 x6 x7 x8 s0 x1 _ hr hx h
theorem RM_crossings_J86_ok (kr : Int32 → Int32 → Option Int32) (kx : Int32 → Option Int32) (m : Mem) (x1 : Int32) (x2 : Int32) (x3 : Int32) (x4 : Int32) (x5 : Int32) (x6 : Int32) (x7 : Int32) (s0 : Int32) (R : Int32) (hr : ∀ (x4 : Int32) (x5 : Int32), kr x4 x5 = some R → E M_RM_crossings 6 [(0, .ref 133), (1, .int x1), (2, .int x2), (3, .int x3), (4, .int x4), (5, .int x5)] [] m (qI R m)) (hx : ∀ (x4 : Int32), kx x4 = some R → E M_RM_crossings 236 [(4, .int x4)] [] m (qI R m)) (h : RM_crossings_J86 kr kx m x1 x2 x3 x4 x5 x6 x7 s0 = some R) : E M_RM_crossings 86 [(0, .ref 133), (1, .int x1), (2, .int x2), (3, .int x3), (4, .int x4), (5, .int x5), (6, .int x6), (7, .int x7)] [.int s0] m (qI R m) := by
  unfold RM_crossings_J86 at h
  refine E_istore (lv' := [(0, .ref 133), (1, .int x1), (2, .int x2), (3, .int x3), (4, .int x4), (5, .int x5), (6, .int x6), (7, .int x7), (8, .int s0)]) (n := 88) 47 rfl rfl (Nat.le_of_ble_eq_true rfl) [1, 2, 3, 4, 5, 6, 7, 8, 0] rfl <| E_iload_n (n := 89) 48 rfl rfl rfl 3 rfl <| E_if_eq (n := 92) (t := 104) 49 rfl rfl rfl (fun hc => ?_) (fun hc => ?_)
  · have h := ifp h hc
    obtain ⟨hc1, h⟩ := ift h
    refine E_aload_n (n := 105) 57 rfl rfl rfl 0 rfl <| E_gF (r := 139) (n := 108) 58 rfl rfl fg_12_47 sh_133 rfl <| E_iload (n := 110) 59 rfl rfl 5 rfl <| E_iconst (v := 1) (n := 111) 60 rfl rfl icz_1 <| E_iadd (n := 112) 61 rfl rfl <| E_iald (n := 113) 62 rfl rfl sh_139 hc1 <| ?_
    exact RM_crossings_J113_ok _ _ m x1 x2 x3 x4 x5 x6 x7 s0 (gI m 139 (ixn (x5 + 1))) _ hr hx h
  · have h := ifn h hc
    obtain ⟨hc2, h⟩ := ift h
    refine E_aload_n (n := 93) 50 rfl rfl rfl 0 rfl <| E_gF (r := 140) (n := 96) 51 rfl rfl fg_12_50 sh_133 rfl <| E_iload (n := 98) 52 rfl rfl 5 rfl <| E_iconst (v := 1) (n := 99) 53 rfl rfl icz_1 <| E_iadd (n := 100) 54 rfl rfl <| E_iald (n := 101) 55 rfl rfl sh_140 hc2 <| E_goto (t := 113) 56 rfl rfl <| ?_
    exact RM_crossings_J113_ok _ _ m x1 x2 x3 x4 x5 x6 x7 s0 (gI m 140 (ixn (x5 + 1))) _ hr hx h
theorem RM_crossings_J59_ok (kr : Int32 → Int32 → Option Int32) (kx : Int32 → Option Int32) (m : Mem) (x1 : Int32) (x2 : Int32) (x3 : Int32) (x4 : Int32) (x5 : Int32) (x6 : Int32) (s0 : Int32) (R : Int32) (hr : ∀ (x4 : Int32) (x5 : Int32), kr x4 x5 = some R → E M_RM_crossings 6 [(0, .ref 133), (1, .int x1), (2, .int x2), (3, .int x3), (4, .int x4), (5, .int x5)] [] m (qI R m)) (hx : ∀ (x4 : Int32), kx x4 = some R → E M_RM_crossings 236 [(4, .int x4)] [] m (qI R m)) (h : RM_crossings_J59 kr kx m x1 x2 x3 x4 x5 x6 s0 = some R) : E M_RM_crossings 59 [(0, .ref 133), (1, .int x1), (2, .int x2), (3, .int x3), (4, .int x4), (5, .int x5), (6, .int x6)] [.int s0] m (qI R m) := by
  unfold RM_crossings_J59 at h
  refine E_istore (lv' := [(0, .ref 133), (1, .int x1), (2, .int x2), (3, .int x3), (4, .int x4), (5, .int x5), (6, .int x6), (7, .int s0)]) (n := 61) 31 rfl rfl (Nat.le_of_ble_eq_true rfl) [1, 2, 3, 4, 5, 6, 7, 0] rfl <| E_iload_n (n := 62) 32 rfl rfl rfl 3 rfl <| E_if_eq (n := 65) (t := 77) 33 rfl rfl rfl (fun hc => ?_) (fun hc => ?_)
  · have h := ifp h hc
    obtain ⟨hc1, h⟩ := ift h
    refine E_aload_n (n := 78) 41 rfl rfl rfl 0 rfl <| E_gF (r := 140) (n := 81) 42 rfl rfl fg_12_50 sh_133 rfl <| E_iload (n := 83) 43 rfl rfl 5 rfl <| E_iconst (v := 1) (n := 84) 44 rfl rfl icz_1 <| E_iadd (n := 85) 45 rfl rfl <| E_iald (n := 86) 46 rfl rfl sh_140 hc1 <| ?_
    exact RM_crossings_J86_ok _ _ m x1 x2 x3 x4 x5 x6 s0 (gI m 140 (ixn (x5 + 1))) _ hr hx h
  · have h := ifn h hc
    obtain ⟨hc2, h⟩ := ift h
    refine E_aload_n (n := 66) 34 rfl rfl rfl 0 rfl <| E_gF (r := 139) (n := 69) 35 rfl rfl fg_12_47 sh_133 rfl <| E_iload (n := 71) 36 rfl rfl 5 rfl <| E_iconst (v := 1) (n := 72) 37 rfl rfl icz_1 <| E_iadd (n := 73) 38 rfl rfl <| E_iald (n := 74) 39 rfl rfl sh_139 hc2 <| E_goto (t := 86) 40 rfl rfl <| ?_
    exact RM_crossings_J86_ok _ _ m x1 x2 x3 x4 x5 x6 s0 (gI m 139 (ixn (x5 + 1))) _ hr hx h
theorem RM_crossings_J36_ok (kr : Int32 → Int32 → Option Int32) (kx : Int32 → Option Int32) (m : Mem) (x1 : Int32) (x2 : Int32) (x3 : Int32) (x4 : Int32) (x5 : Int32) (s0 : Int32) (R : Int32) (hr : ∀ (x4 : Int32) (x5 : Int32), kr x4 x5 = some R → E M_RM_crossings 6 [(0, .ref 133), (1, .int x1), (2, .int x2), (3, .int x3), (4, .int x4), (5, .int x5)] [] m (qI R m)) (hx : ∀ (x4 : Int32), kx x4 = some R → E M_RM_crossings 236 [(4, .int x4)] [] m (qI R m)) (h : RM_crossings_J36 kr kx m x1 x2 x3 x4 x5 s0 = some R) : E M_RM_crossings 36 [(0, .ref 133), (1, .int x1), (2, .int x2), (3, .int x3), (4, .int x4), (5, .int x5)] [.int s0] m (qI R m) := by
  unfold RM_crossings_J36 at h
  refine E_istore (lv' := [(0, .ref 133), (1, .int x1), (2, .int x2), (3, .int x3), (4, .int x4), (5, .int x5), (6, .int s0)]) (n := 38) 19 rfl rfl (Nat.le_of_ble_eq_true rfl) [1, 2, 3, 4, 5, 6, 0] rfl <| E_iload_n (n := 39) 20 rfl rfl rfl 3 rfl <| E_if_eq (n := 42) (t := 52) 21 rfl rfl rfl (fun hc => ?_) (fun hc => ?_)
  · have h := ifp h hc
    obtain ⟨hc1, h⟩ := ift h
    refine E_aload_n (n := 53) 27 rfl rfl rfl 0 rfl <| E_gF (r := 139) (n := 56) 28 rfl rfl fg_12_47 sh_133 rfl <| E_iload (n := 58) 29 rfl rfl 5 rfl <| E_iald (n := 59) 30 rfl rfl sh_139 hc1 <| ?_
    exact RM_crossings_J59_ok _ _ m x1 x2 x3 x4 x5 s0 (gI m 139 (ixn x5)) _ hr hx h
  · have h := ifn h hc
    obtain ⟨hc2, h⟩ := ift h
    refine E_aload_n (n := 43) 22 rfl rfl rfl 0 rfl <| E_gF (r := 140) (n := 46) 23 rfl rfl fg_12_50 sh_133 rfl <| E_iload (n := 48) 24 rfl rfl 5 rfl <| E_iald (n := 49) 25 rfl rfl sh_140 hc2 <| E_goto (t := 59) 26 rfl rfl <| ?_
    exact RM_crossings_J59_ok _ _ m x1 x2 x3 x4 x5 s0 (gI m 140 (ixn x5)) _ hr hx h
theorem RM_crossings_L6_ok (m : Mem) (x1 : Int32) (x2 : Int32) (x3 : Int32) (kx : Int32 → Option Int32) (R : Int32) (hx : ∀ (x4 : Int32), kx x4 = some R → E M_RM_crossings 236 [(4, .int x4)] [] m (qI R m)) : ∀ (n : Nat) (x4 : Int32) (x5 : Int32), RM_crossings_L6 m x1 x2 x3 kx n x4 x5 = some R → E M_RM_crossings 6 [(0, .ref 133), (1, .int x1), (2, .int x2), (3, .int x3), (4, .int x4), (5, .int x5)] [] m (qI R m) := by
  intro n
  induction n with
  | zero =>
    intro x4 x5 h
    exact absurd (show none = some R from h) (fun e => Option.some_ne_none R e.symm)
  | succ n ih =>
    intro x4 x5 h
    rw [RM_crossings_L6] at h
    refine E_iload (n := 8) 4 rfl rfl 5 rfl <| E_aload_n (n := 9) 5 rfl rfl rfl 0 rfl <| E_gI (n := 12) 6 rfl rfl fg_12_259 sh_133 <| E_icmp_ge (n := 15) (t := 236) 7 rfl rfl rfl (fun hc => ?_) (fun hc => ?_)
    · have h := ifp h hc
      refine E_sub (lv' := [(4, .int x4)]) [4] rfl ?_
      exact hx x4 h
    · have h := ifn h hc
      refine E_iload_n (n := 16) 8 rfl rfl rfl 3 rfl <| E_if_eq (n := 19) (t := 29) 9 rfl rfl rfl (fun hc => ?_) (fun hc => ?_)
      · have h := ifp h hc
        obtain ⟨hc1, h⟩ := ift h
        refine E_aload_n (n := 30) 15 rfl rfl rfl 0 rfl <| E_gF (r := 140) (n := 33) 16 rfl rfl fg_12_50 sh_133 rfl <| E_iload (n := 35) 17 rfl rfl 5 rfl <| E_iald (n := 36) 18 rfl rfl sh_140 hc1 <| ?_
        exact RM_crossings_J36_ok _ _ m x1 x2 x3 x4 x5 (gI m 140 (ixn x5)) _ ih hx h
      · have h := ifn h hc
        obtain ⟨hc2, h⟩ := ift h
        refine E_aload_n (n := 20) 10 rfl rfl rfl 0 rfl <| E_gF (r := 139) (n := 23) 11 rfl rfl fg_12_47 sh_133 rfl <| E_iload (n := 25) 12 rfl rfl 5 rfl <| E_iald (n := 26) 13 rfl rfl sh_139 hc2 <| E_goto (t := 36) 14 rfl rfl <| ?_
        exact RM_crossings_J36_ok _ _ m x1 x2 x3 x4 x5 (gI m 139 (ixn x5)) _ ih hx h
theorem K_RM_crossings (m : Mem) (x1 : Int32) (x2 : Int32) (x3 : Int32) (R : Int32) (h : RM_crossings m x1 x2 x3 = some R) : Mt M_RM_crossings [.ref 133, .int x1, .int x2, .int x3] m (qI R m) := by
  refine Mt.of G_RM_crossings (Nat.le_of_ble_eq_true rfl) (E_sub (lv' := [(0, .ref 133), (1, .int x1), (2, .int x2), (3, .int x3)]) [0, 1, 2, 3] rfl ?_)
  unfold RM_crossings at h
  refine E_iconst (v := 0) (n := 1) 0 rfl rfl icz_0 <| E_istore (lv' := [(0, .ref 133), (1, .int x1), (2, .int x2), (3, .int x3), (4, .int 0)]) (n := 3) 1 rfl rfl (Nat.le_of_ble_eq_true rfl) [1, 2, 3, 4, 0] rfl <| E_iconst (v := 0) (n := 4) 2 rfl rfl icz_0 <| E_istore (lv' := [(0, .ref 133), (1, .int x1), (2, .int x2), (3, .int x3), (4, .int 0), (5, .int 0)]) (n := 6) 3 rfl rfl (Nat.le_of_ble_eq_true rfl) [1, 2, 3, 4, 5, 0] rfl <| ?_
  refine RM_crossings_L6_ok m x1 x2 x3 _ R ?_ FU 0 0 h
  intro y1 h
  refine E_iload (n := 238) 128 rfl rfl 0 rfl <| E_ireturn 129 rfl rfl (eP h)
theorem RM_crossesOf_J48_ok (m : Mem) (s1 : Int32) (s2 : Int32) (s3 : Int32) (R : Int32) (h : RM_crossesOf_J48 m s1 s2 s3 = some R) : E M_RM_crossesOf 48 [] [.int s3, .int s2, .int s1, .ref 133] m (qI R m) := by
  unfold RM_crossesOf_J48 at h
  obtain ⟨v1, hq2, h⟩ := bI_ex h
  refine E_cV3r (n := 51) 34 rfl rfl co_12_348 rfl sh_133 rfl (K_RM_crossings m s1 s2 s3 _ hq2) <| E_ireturn 35 rfl rfl (eP h)
theorem RM_crossesOf_J18_ok (m : Mem) (x2 : Int32) (s0 : Int32) (R : Int32) (h : RM_crossesOf_J18 m x2 s0 = some R) : E M_RM_crossesOf 18 [(0, .ref 133), (2, .int x2)] [.int s0] m (qI R m) := by
  unfold RM_crossesOf_J18 at h
  refine E_istore_n (lv' := [(0, .ref 133), (2, .int x2), (3, .int s0)]) (n := 19) 10 rfl rfl rfl (Nat.le_of_ble_eq_true rfl) [1, 2, 0] rfl <| E_aload_n (n := 20) 11 rfl rfl rfl 0 rfl <| E_iconst (v := 2) (n := 21) 12 rfl rfl icz_2 <| E_iload_n (n := 22) 13 rfl rfl rfl 2 rfl <| E_bipush (v := 20) (n := 24) 14 rfl rfl bpz_20 <| E_irm (n := 25) 15 rfl rfl (by decide) <| E_imul (n := 26) 16 rfl rfl <| E_iconst (v := 1) (n := 27) 17 rfl rfl icz_1 <| E_iadd (n := 28) 18 rfl rfl <| E_iconst (v := 2) (n := 29) 19 rfl rfl icz_2 <| E_iload_n (n := 30) 20 rfl rfl rfl 2 rfl <| E_bipush (v := 20) (n := 32) 21 rfl rfl bpz_20 <| E_idiv (n := 33) 22 rfl rfl (by decide) <| E_imul (n := 34) 23 rfl rfl <| E_iconst (v := 1) (n := 35) 24 rfl rfl icz_1 <| E_iadd (n := 36) 25 rfl rfl <| E_iload_n (n := 37) 26 rfl rfl rfl 1 rfl <| E_iconst (v := 2) (n := 38) 27 rfl rfl icz_2 <| E_irm (n := 39) 28 rfl rfl (by decide) <| E_iconst (v := 1) (n := 40) 29 rfl rfl icz_1 <| E_icmp_ne (n := 43) (t := 47) 30 rfl rfl rfl (fun hc => ?_) (fun hc => ?_)
  · have h := ifn h hc
    refine E_iconst (v := 0) (n := 48) 33 rfl rfl icz_0 <| ?_
    refine E_sub (lv' := []) [] rfl ?_
    exact RM_crossesOf_J48_ok m ((2 * (irm s0 20)) + 1) ((2 * (s0 / 20)) + 1) 0 _ h
  · have h := ifp h hc
    refine E_iconst (v := 1) (n := 44) 31 rfl rfl icz_1 <| E_goto (t := 48) 32 rfl rfl <| ?_
    refine E_sub (lv' := []) [] rfl ?_
    exact RM_crossesOf_J48_ok m ((2 * (irm s0 20)) + 1) ((2 * (s0 / 20)) + 1) 1 _ h
theorem RM_crossesOf_J9_ok (m : Mem) (x1 : Int32) (x2 : Int32) (R : Int32) (h : RM_crossesOf_J9 m x1 x2 = some R) : E M_RM_crossesOf 9 [(0, .ref 133), (1, .int x1), (2, .int x2)] [] m (qI R m) := by
  unfold RM_crossesOf_J9 at h
  refine E_iload_n (n := 10) 5 rfl rfl rfl 1 rfl <| E_iload_n (n := 11) 6 rfl rfl rfl 2 rfl <| E_dS2r (n := 14) 7 rfl rfl co_12_326 rfl rfl (K_RM_beside m x1 x2 _ rfl) <| E_goto (t := 18) 8 rfl rfl <| ?_
  refine E_sub (lv' := [(0, .ref 133), (2, .int x2)]) [0, 2] rfl ?_
  exact RM_crossesOf_J18_ok m x2 (RM_beside x1 x2) _ h
theorem K_RM_crossesOf (m : Mem) (x1 : Int32) (x2 : Int32) (R : Int32) (h : RM_crossesOf m x1 x2 = some R) : Mt M_RM_crossesOf [.ref 133, .int x1, .int x2] m (qI R m) := by
  refine Mt.of G_RM_crossesOf (Nat.le_of_ble_eq_true rfl) (E_sub (lv' := [(0, .ref 133), (1, .int x1), (2, .int x2)]) [0, 1, 2] rfl ?_)
  unfold RM_crossesOf at h
  refine E_iload_n (n := 1) 0 rfl rfl rfl 2 rfl <| E_if_eq (n := 4) (t := 9) 1 rfl rfl rfl (fun hc => ?_) (fun hc => ?_)
  · have h := ifp h hc
    exact RM_crossesOf_J9_ok m x1 x2 _ h
  · have h := ifn h hc
    refine E_iload_n (n := 5) 2 rfl rfl rfl 2 rfl <| E_iconst (v := 3) (n := 6) 3 rfl rfl icz_3 <| E_icmp_ne (n := 9) (t := 17) 4 rfl rfl rfl (fun hc => ?_) (fun hc => ?_)
    · have h := ifn h hc
      refine E_iload_n (n := 18) 9 rfl rfl rfl 1 rfl <| ?_
      refine E_sub (lv' := [(0, .ref 133), (2, .int x2)]) [0, 2] rfl ?_
      exact RM_crossesOf_J18_ok m x2 x1 _ h
    · have h := ifp h hc
      exact RM_crossesOf_J9_ok m x1 x2 _ h
theorem K_RM_crosses (m : Mem) (x1 : Int32) (x2 : Int32) (x3 : Int32) (x4 : Int32) (R : Int32 × Mem) (h : RM_crosses m x1 x2 x3 x4 = some R) : Mt M_RM_crosses [.ref 133, .int x1, .int x2, .int x3, .int x4] m (qI R.1 R.2) := by
  refine Mt.of G_RM_crosses (Nat.le_of_ble_eq_true rfl) (E_sub (lv' := [(0, .ref 133), (1, .int x1), (2, .int x2), (3, .int x3), (4, .int x4)]) [0, 1, 2, 3, 4] rfl ?_)
  unfold RM_crosses at h
  obtain ⟨m1, hm1, h⟩ := letM_ex h
  obtain ⟨v2, hq3, h⟩ := bI_ex h
  refine E_aload_n (n := 1) 0 rfl rfl rfl 0 rfl <| E_iconst (v := 0) (n := 2) 1 rfl rfl icz_0 <| E_pI (n := 5) 2 rfl rfl fp_12_1 sh_133 <| E_mem hm1 <| E_aload_n (n := 6) 3 rfl rfl rfl 0 rfl <| E_iload_n (n := 7) 4 rfl rfl rfl 1 rfl <| E_cV1r (n := 10) 5 rfl rfl co_12_256 rfl sh_133 rfl (K_RM_isLine m1 x1 _ hq3) <| E_if_eq (n := 13) (t := 45) 6 rfl rfl rfl (fun hc => ?_) (fun hc => ?_)
  · have h := ifp h hc
    refine E_iconst (v := (-1)) (n := 46) 24 rfl rfl icz_m1 <| E_ireturn 25 rfl rfl (eS h)
  · have h := ifn h hc
    refine E_iload_n (n := 14) 7 rfl rfl rfl 2 rfl <| E_iload_n (n := 15) 8 rfl rfl rfl 3 rfl <| E_dS2r (n := 18) 9 rfl rfl co_12_316 rfl rfl (K_RM_isSquare m1 x2 x3 _ rfl) <| E_if_eq (n := 21) (t := 45) 10 rfl rfl rfl (fun hc => ?_) (fun hc => ?_)
    · have h := ifp h hc
      refine E_iconst (v := (-1)) (n := 46) 24 rfl rfl icz_m1 <| E_ireturn 25 rfl rfl (eS h)
    · have h := ifn h hc
      refine E_iload (n := 23) 11 rfl rfl 4 rfl <| E_iconst (v := 0) (n := 24) 12 rfl rfl icz_0 <| E_iconst (v := 3) (n := 25) 13 rfl rfl icz_3 <| E_dS3r (n := 28) 14 rfl rfl co_12_203 rfl rfl (K_RM_isIn m1 x4 0 3 _ rfl) <| E_if_eq (n := 31) (t := 45) 15 rfl rfl rfl (fun hc => ?_) (fun hc => ?_)
      · have h := ifp h hc
        refine E_iconst (v := (-1)) (n := 46) 24 rfl rfl icz_m1 <| E_ireturn 25 rfl rfl (eS h)
      · have h := ifn h hc
        refine E_bipush (v := 20) (n := 33) 16 rfl rfl bpz_20 <| E_iload_n (n := 34) 17 rfl rfl rfl 3 rfl <| E_imul (n := 35) 18 rfl rfl <| E_iload_n (n := 36) 19 rfl rfl rfl 2 rfl <| E_iadd (n := 37) 20 rfl rfl <| E_iload (n := 39) 21 rfl rfl 4 rfl <| E_dS2r (n := 42) 22 rfl rfl co_12_326 rfl rfl (K_RM_beside m1 ((20 * x3) + x2) x4 _ rfl) <| E_if_ge (n := 45) (t := 47) 23 rfl rfl rfl (fun hc => ?_) (fun hc => ?_)
        · have h := ifp h hc
          obtain ⟨m4, hq5, h⟩ := bM_ex h
          obtain ⟨v6, hq7, h⟩ := bI_ex h
          refine E_aload_n (n := 48) 26 rfl rfl rfl 0 rfl <| E_iload_n (n := 49) 27 rfl rfl rfl 1 rfl <| E_cV1v (n := 52) 28 rfl rfl co_12_295 rfl sh_133 rfl (K_RM_looks m1 x1 _ hq5) <| E_aload_n (n := 53) 29 rfl rfl rfl 0 rfl <| E_bipush (v := 20) (n := 55) 30 rfl rfl bpz_20 <| E_iload_n (n := 56) 31 rfl rfl rfl 3 rfl <| E_imul (n := 57) 32 rfl rfl <| E_iload_n (n := 58) 33 rfl rfl rfl 2 rfl <| E_iadd (n := 59) 34 rfl rfl <| E_iload (n := 61) 35 rfl rfl 4 rfl <| E_cV2r (n := 64) 36 rfl rfl co_12_352 rfl sh_133 rfl (K_RM_crossesOf m4 ((20 * x3) + x2) x4 _ hq7) <| E_ireturn 37 rfl rfl (eS h)
        · have h := ifn h hc
          refine E_iconst (v := (-1)) (n := 46) 24 rfl rfl icz_m1 <| E_ireturn 25 rfl rfl (eS h)

theorem K_RM_dirOfWord (m : Mem) (R : Int32) (h : RM_dirOfWord m = R) : Mt M_RM_dirOfWord [.ref 133] m (qI R m) := by
  refine Mt.of G_RM_dirOfWord (Nat.le_of_ble_eq_true rfl) (E_sub (lv' := [(0, .ref 133)]) [0] rfl ?_)
  unfold RM_dirOfWord at h
  refine E_aload_n (n := 1) 0 rfl rfl rfl 0 rfl <| E_ldc2 (v := 110) (n := 4) 1 rfl rfl tw_1519 <| E_cV1r (n := 7) 2 rfl rfl co_12_225 rfl sh_133 rfl (K_RM_isWord m 110 _ rfl) <| E_if_eq (n := 10) (t := 14) 3 rfl rfl rfl (fun hc => ?_) (fun hc => ?_)
  · have h := ifp h hc
    refine E_aload_n (n := 15) 6 rfl rfl rfl 0 rfl <| E_ldc2 (v := 101) (n := 18) 7 rfl rfl tw_1520 <| E_cV1r (n := 21) 8 rfl rfl co_12_225 rfl sh_133 rfl (K_RM_isWord m 101 _ rfl) <| E_if_eq (n := 24) (t := 28) 9 rfl rfl rfl (fun hc => ?_) (fun hc => ?_)
    · have h := ifp h hc
      refine E_aload_n (n := 29) 12 rfl rfl rfl 0 rfl <| E_ldc2 (v := 115) (n := 32) 13 rfl rfl tw_1521 <| E_cV1r (n := 35) 14 rfl rfl co_12_225 rfl sh_133 rfl (K_RM_isWord m 115 _ rfl) <| E_if_eq (n := 38) (t := 42) 15 rfl rfl rfl (fun hc => ?_) (fun hc => ?_)
      · have h := ifp h hc
        refine E_aload_n (n := 43) 18 rfl rfl rfl 0 rfl <| E_ldc2 (v := 119) (n := 46) 19 rfl rfl tw_1522 <| E_cV1r (n := 49) 20 rfl rfl co_12_225 rfl sh_133 rfl (K_RM_isWord m 119 _ rfl) <| E_if_eq (n := 52) (t := 56) 21 rfl rfl rfl (fun hc => ?_) (fun hc => ?_)
        · have h := ifp h hc
          refine E_iconst (v := (-1)) (n := 57) 24 rfl rfl icz_m1 <| ?_
          refine E_ireturn 25 rfl rfl (eT h)
        · have h := ifn h hc
          refine E_iconst (v := 3) (n := 53) 22 rfl rfl icz_3 <| E_goto (t := 57) 23 rfl rfl <| ?_
          refine E_ireturn 25 rfl rfl (eT h)
      · have h := ifn h hc
        refine E_iconst (v := 2) (n := 39) 16 rfl rfl icz_2 <| E_goto (t := 57) 17 rfl rfl <| ?_
        refine E_ireturn 25 rfl rfl (eT h)
    · have h := ifn h hc
      refine E_iconst (v := 1) (n := 25) 10 rfl rfl icz_1 <| E_goto (t := 57) 11 rfl rfl <| ?_
      refine E_ireturn 25 rfl rfl (eT h)
  · have h := ifn h hc
    refine E_iconst (v := 0) (n := 11) 4 rfl rfl icz_0 <| E_goto (t := 57) 5 rfl rfl <| ?_
    refine E_ireturn 25 rfl rfl (eT h)
theorem RM_walk_L142_ok (x6 : Int32) (x7 : Int32) (kx : Mem → Int32 → Int32 → Int32 → Option (Int32 × Mem)) (R : Int32 × Mem) (hx : ∀ (m : Mem) (x3 : Int32) (x4 : Int32) (x5 : Int32), kx m x3 x4 x5 = some R → E M_RM_walk 198 [(0, .ref 133), (3, .int x3), (4, .int x4), (5, .int x5)] [] m (qI R.1 R.2)) : ∀ (n : Nat) (m : Mem) (x3 : Int32) (x4 : Int32) (x5 : Int32) (x8 : Int32), RM_walk_L142 x6 x7 kx n m x3 x4 x5 x8 = some R → E M_RM_walk 142 [(0, .ref 133), (3, .int x3), (4, .int x4), (5, .int x5), (6, .int x6), (7, .int x7), (8, .int x8)] [] m (qI R.1 R.2) := by
  intro n
  induction n with
  | zero =>
    intro m x3 x4 x5 x8 h
    exact absurd (show none = some R from h) (fun e => Option.some_ne_none R e.symm)
  | succ n ih =>
    intro m x3 x4 x5 x8 h
    rw [RM_walk_L142] at h
    refine E_iload (n := 144) 84 rfl rfl 6 rfl <| E_aload_n (n := 145) 85 rfl rfl rfl 0 rfl <| E_gI (n := 148) 86 rfl rfl fg_12_207 sh_133 <| E_icmp_ge (n := 151) (t := 198) 87 rfl rfl rfl (fun hc => ?_) (fun hc => ?_)
    · have h := ifp h hc
      refine E_sub (lv' := [(0, .ref 133), (3, .int x3), (4, .int x4), (5, .int x5)]) [0, 1, 2, 3] rfl ?_
      exact hx m x3 x4 x5 h
    · have h := ifn h hc
      refine E_iload_n (n := 152) 88 rfl rfl rfl 1 rfl <| E_iload (n := 154) 89 rfl rfl 4 rfl <| E_dS2r (n := 157) 90 rfl rfl co_12_326 rfl rfl (K_RM_beside m x3 x6 _ rfl) <| E_if_ge (n := 160) (t := 170) 91 rfl rfl rfl (fun hc => ?_) (fun hc => ?_)
      · have h := ifp h hc
        obtain ⟨v1, hq2, h⟩ := bI_ex h
        obtain ⟨v3, hv3, h⟩ := letV_ex h
        obtain ⟨v4, hv4, h⟩ := letV_ex h
        refine E_iload (n := 172) 99 rfl rfl 2 rfl <| E_aload_n (n := 173) 100 rfl rfl rfl 0 rfl <| E_iload_n (n := 174) 101 rfl rfl rfl 1 rfl <| E_iload (n := 176) 102 rfl rfl 4 rfl <| E_cV2r (n := 179) 103 rfl rfl co_12_352 rfl sh_133 rfl (K_RM_crossesOf m x3 x6 _ hq2) <| E_iadd (n := 180) 104 rfl rfl <| E_top hv3 <| E_istore (lv' := [(0, .ref 133), (3, .int x3), (4, .int v3), (5, .int x5), (6, .int x6), (7, .int x7), (8, .int x8)]) (n := 182) 105 rfl rfl (Nat.le_of_ble_eq_true rfl) [1, 2, 0, 3, 4, 5, 6] rfl <| E_iload_n (n := 183) 106 rfl rfl rfl 1 rfl <| E_iload (n := 185) 107 rfl rfl 4 rfl <| E_dS2r (n := 188) 108 rfl rfl co_12_326 rfl rfl (K_RM_beside m x3 x6 _ rfl) <| E_top hv4 <| E_istore_n (lv' := [(0, .ref 133), (3, .int v4), (4, .int v3), (5, .int x5), (6, .int x6), (7, .int x7), (8, .int x8)]) (n := 189) 109 rfl rfl rfl (Nat.le_of_ble_eq_true rfl) [1, 0, 2, 3, 4, 5, 6] rfl <| E_iinc (v := (x5 + 1)) (lv' := [(0, .ref 133), (3, .int v4), (4, .int v3), (5, .int (x5 + 1)), (6, .int x6), (7, .int x7), (8, .int x8)]) (n := 192) 110 rfl rfl 3 rfl (by rw [icz_1]) (Nat.le_of_ble_eq_true rfl) [1, 2, 3, 0, 4, 5, 6] rfl <| E_iinc (v := (x8 + 1)) (lv' := [(0, .ref 133), (3, .int v4), (4, .int v3), (5, .int (x5 + 1)), (6, .int x6), (7, .int x7), (8, .int (x8 + 1))]) (n := 195) 111 rfl rfl 6 rfl (by rw [icz_1]) (Nat.le_of_ble_eq_true rfl) [1, 2, 3, 4, 5, 6, 0] rfl <| E_goto (t := 142) 112 rfl rfl <| ?_
        exact ih m v4 v3 (x5 + 1) (x8 + 1) h
      · have h := ifn h hc
        obtain ⟨m5, hm5, h⟩ := letM_ex h
        refine E_aload_n (n := 161) 92 rfl rfl rfl 0 rfl <| E_iconst (v := 5) (n := 162) 93 rfl rfl icz_5 <| E_pI (n := 165) 94 rfl rfl fp_12_188 sh_133 <| E_mem hm5 <| E_iconst (v := (-1)) (n := 166) 95 rfl rfl icz_m1 <| E_iload (n := 168) 96 rfl rfl 5 rfl <| E_isub (n := 169) 97 rfl rfl <| E_ireturn 98 rfl rfl (eS h)
theorem RM_walk_L81_ok (kx : Mem → Int32 → Int32 → Int32 → Option (Int32 × Mem)) (R : Int32 × Mem) (hx : ∀ (m : Mem) (x3 : Int32) (x4 : Int32) (x5 : Int32), kx m x3 x4 x5 = some R → E M_RM_walk 217 [(0, .ref 133), (3, .int x3), (4, .int x4), (5, .int x5)] [] m (qI R.1 R.2)) : ∀ (n : Nat) (m : Mem) (x3 : Int32) (x4 : Int32) (x5 : Int32), RM_walk_L81 kx n m x3 x4 x5 = some R → E M_RM_walk 81 [(0, .ref 133), (3, .int x3), (4, .int x4), (5, .int x5)] [] m (qI R.1 R.2) := by
  intro n
  induction n with
  | zero =>
    intro m x3 x4 x5 h
    exact absurd (show none = some R from h) (fun e => Option.some_ne_none R e.symm)
  | succ n ih =>
    intro m x3 x4 x5 h
    rw [RM_walk_L81] at h
    refine E_aload_n (n := 82) 50 rfl rfl rfl 0 rfl <| E_gI (n := 85) 51 rfl rfl fg_12_171 sh_133 <| E_if_eq (n := 88) (t := 217) 52 rfl rfl rfl (fun hc => ?_) (fun hc => ?_)
    · have h := ifp h hc
      exact hx m x3 x4 x5 h
    · have h := ifn h hc
      obtain ⟨v1, hv1, h⟩ := letV_ex h
      refine E_aload_n (n := 89) 53 rfl rfl rfl 0 rfl <| E_cV0r (n := 92) 54 rfl rfl co_12_355 rfl sh_133 rfl (K_RM_dirOfWord m _ rfl) <| E_top hv1 <| E_istore (lv' := [(0, .ref 133), (3, .int x3), (4, .int x4), (5, .int x5), (6, .int v1)]) (n := 94) 55 rfl rfl (Nat.le_of_ble_eq_true rfl) [1, 2, 3, 4, 0] rfl <| E_iload (n := 96) 56 rfl rfl 4 rfl <| E_if_ge (n := 99) (t := 112) 57 rfl rfl rfl (fun hc => ?_) (fun hc => ?_)
      · have h := ifp h hc
        obtain ⟨v2, hv2, h⟩ := letV_ex h
        obtain ⟨m3, hq4, h⟩ := bM_ex h
        obtain ⟨v5, m6, hq7, h⟩ := bV_ex h
        refine E_aload_n (n := 113) 67 rfl rfl rfl 0 rfl <| E_gI (n := 116) 68 rfl rfl fg_12_165 sh_133 <| E_top hv2 <| E_istore (lv' := [(0, .ref 133), (3, .int x3), (4, .int x4), (5, .int x5), (6, .int v1), (7, .int v2)]) (n := 118) 69 rfl rfl (Nat.le_of_ble_eq_true rfl) [1, 2, 3, 4, 5, 0] rfl <| E_aload_n (n := 119) 70 rfl rfl rfl 0 rfl <| E_cV0v (n := 122) 71 rfl rfl co_12_200 rfl sh_133 rfl (K_RM_next m _ hq4) <| E_aload_n (n := 123) 72 rfl rfl rfl 0 rfl <| E_iconst (v := 1) (n := 124) 73 rfl rfl icz_1 <| E_bipush (v := 20) (n := 126) 74 rfl rfl bpz_20 <| E_cV2r (n := 129) 75 rfl rfl co_12_235 rfl sh_133 rfl (K_RM_takes m3 1 20 _ hq7) <| E_if_ne (n := 132) (t := 139) 76 rfl rfl rfl (fun hc => ?_) (fun hc => ?_)
        · have h := ifn h hc
          refine E_iconst (v := 0) (n := 140) 82 rfl rfl icz_0 <| E_istore (lv' := [(0, .ref 133), (3, .int x3), (4, .int x4), (5, .int x5), (6, .int v1), (7, .int v2), (8, .int 0)]) (n := 142) 83 rfl rfl (Nat.le_of_ble_eq_true rfl) [1, 2, 3, 4, 5, 6, 0] rfl <| ?_
          refine RM_walk_L142_ok v1 v2 _ R ?_ FU m6 x3 x4 x5 0 h
          intro m11 y8 y9 y10 h
          obtain ⟨v12, m13, hq14, h⟩ := bV_ex h
          refine E_aload_n (n := 199) 113 rfl rfl rfl 0 rfl <| E_bipush (v := 59) (n := 201) 114 rfl rfl bpz_59 <| E_cV1r (n := 204) 115 rfl rfl co_12_250 rfl sh_133 rfl (K_RM_sign m11 59 _ hq14) <| E_if_ne (n := 207) (t := 214) 116 rfl rfl rfl (fun hc => ?_) (fun hc => ?_)
          · have h := ifn h hc
            refine E_goto (t := 81) 122 rfl rfl <| ?_
            exact ih m13 y8 y9 y10 h
          · have h := ifp h hc
            refine E_iconst (v := (-1)) (n := 208) 117 rfl rfl icz_m1 <| E_aload_n (n := 209) 118 rfl rfl rfl 0 rfl <| E_gI (n := 212) 119 rfl rfl fg_12_191 sh_133 <| E_isub (n := 213) 120 rfl rfl <| E_ireturn 121 rfl rfl (eS h)
        · have h := ifp h hc
          refine E_iconst (v := (-1)) (n := 133) 77 rfl rfl icz_m1 <| E_aload_n (n := 134) 78 rfl rfl rfl 0 rfl <| E_gI (n := 137) 79 rfl rfl fg_12_191 sh_133 <| E_isub (n := 138) 80 rfl rfl <| E_ireturn 81 rfl rfl (eS h)
      · have h := ifn h hc
        obtain ⟨v15, m16, hq17, h⟩ := bV_ex h
        refine E_aload_n (n := 100) 58 rfl rfl rfl 0 rfl <| E_iconst (v := 1) (n := 101) 59 rfl rfl icz_1 <| E_cV1r (n := 104) 60 rfl rfl co_12_197 rfl sh_133 rfl (K_RM_bad m 1 _ hq17) <| E_pop (n := 105) 61 rfl rfl rfl <| E_iconst (v := (-1)) (n := 106) 62 rfl rfl icz_m1 <| E_aload_n (n := 107) 63 rfl rfl rfl 0 rfl <| E_gI (n := 110) 64 rfl rfl fg_12_191 sh_133 <| E_isub (n := 111) 65 rfl rfl <| E_ireturn 66 rfl rfl (eS h)
theorem K_RM_walk (m : Mem) (x1 : Int32) (x2 : Int32) (R : Int32 × Mem) (h : RM_walk m x1 x2 = some R) : Mt M_RM_walk [.ref 133, .int x1, .int x2] m (qI R.1 R.2) := by
  refine Mt.of G_RM_walk (Nat.le_of_ble_eq_true rfl) (E_sub (lv' := [(0, .ref 133), (1, .int x1), (2, .int x2)]) [0, 1, 2] rfl ?_)
  unfold RM_walk at h
  obtain ⟨m1, hm1, h⟩ := letM_ex h
  obtain ⟨m2, hq3, h⟩ := bM_ex h
  obtain ⟨v4, hq5, h⟩ := bI_ex h
  refine E_aload_n (n := 1) 0 rfl rfl rfl 0 rfl <| E_iconst (v := 0) (n := 2) 1 rfl rfl icz_0 <| E_pI (n := 5) 2 rfl rfl fp_12_1 sh_133 <| E_mem hm1 <| E_aload_n (n := 6) 3 rfl rfl rfl 0 rfl <| E_sipush (v := 300) (n := 9) 4 rfl rfl spz_300 <| E_cV1v (n := 12) 5 rfl rfl co_12_241 rfl sh_133 rfl (K_RM_taken m1 300 _ hq3) <| E_aload_n (n := 13) 6 rfl rfl rfl 0 rfl <| E_iload_n (n := 14) 7 rfl rfl rfl 1 rfl <| E_cV1r (n := 17) 8 rfl rfl co_12_256 rfl sh_133 rfl (K_RM_isLine m2 x1 _ hq5) <| E_if_eq (n := 20) (t := 28) 9 rfl rfl rfl (fun hc => ?_) (fun hc => ?_)
  · have h := ifp h hc
    refine E_sipush (v := (-2000)) (n := 31) 14 rfl rfl spz_m2000 <| E_ireturn 15 rfl rfl (eS h)
  · have h := ifn h hc
    obtain ⟨v6, hq7, h⟩ := bI_ex h
    refine E_aload_n (n := 21) 10 rfl rfl rfl 0 rfl <| E_iload_n (n := 22) 11 rfl rfl rfl 2 rfl <| E_cV1r (n := 25) 12 rfl rfl co_12_298 rfl sh_133 rfl (K_RM_isHay m2 x2 _ hq7) <| E_if_ne (n := 28) (t := 32) 13 rfl rfl rfl (fun hc => ?_) (fun hc => ?_)
    · have h := ifn h hc
      obtain ⟨m8, hm8, h⟩ := letM_ex h
      obtain ⟨m9, hq10, h⟩ := bM_ex h
      obtain ⟨hc11, h⟩ := ift h
      obtain ⟨hc12, h⟩ := ift h
      obtain ⟨v13, hv13, h⟩ := letV_ex h
      obtain ⟨m14, hq15, h⟩ := bM_ex h
      refine E_aload_n (n := 33) 16 rfl rfl rfl 0 rfl <| E_iconst (v := 0) (n := 34) 17 rfl rfl icz_0 <| E_pI (n := 37) 18 rfl rfl fp_12_188 sh_133 <| E_mem hm8 <| E_aload_n (n := 38) 19 rfl rfl rfl 0 rfl <| E_iload_n (n := 39) 20 rfl rfl rfl 1 rfl <| E_cV1v (n := 42) 21 rfl rfl co_12_295 rfl sh_133 rfl (K_RM_looks m8 x1 _ hq10) <| E_bipush (v := 20) (n := 44) 22 rfl rfl bpz_20 <| E_aload_n (n := 45) 23 rfl rfl rfl 0 rfl <| E_gF (r := 135) (n := 48) 24 rfl rfl fg_12_33 sh_133 rfl <| E_bipush (v := 86) (n := 50) 25 rfl rfl bpz_86 <| E_iconst (v := 3) (n := 51) 26 rfl rfl icz_3 <| E_iload_n (n := 52) 27 rfl rfl rfl 2 rfl <| E_imul (n := 53) 28 rfl rfl <| E_iadd (n := 54) 29 rfl rfl <| E_iconst (v := 1) (n := 55) 30 rfl rfl icz_1 <| E_iadd (n := 56) 31 rfl rfl <| E_iald (n := 57) 32 rfl rfl sh_135 hc11 <| E_imul (n := 58) 33 rfl rfl <| E_aload_n (n := 59) 34 rfl rfl rfl 0 rfl <| E_gF (r := 135) (n := 62) 35 rfl rfl fg_12_33 sh_133 rfl <| E_bipush (v := 86) (n := 64) 36 rfl rfl bpz_86 <| E_iconst (v := 3) (n := 65) 37 rfl rfl icz_3 <| E_iload_n (n := 66) 38 rfl rfl rfl 2 rfl <| E_imul (n := 67) 39 rfl rfl <| E_iadd (n := 68) 40 rfl rfl <| E_iald (n := 69) 41 rfl rfl sh_135 hc12 <| E_iadd (n := 70) 42 rfl rfl <| E_top hv13 <| E_istore_n (lv' := [(0, .ref 133), (1, .int x1), (2, .int x2), (3, .int v13)]) (n := 71) 43 rfl rfl rfl (Nat.le_of_ble_eq_true rfl) [1, 2, 3, 0] rfl <| E_iconst (v := 0) (n := 72) 44 rfl rfl icz_0 <| E_istore (lv' := [(0, .ref 133), (1, .int x1), (2, .int x2), (3, .int v13), (4, .int 0)]) (n := 74) 45 rfl rfl (Nat.le_of_ble_eq_true rfl) [1, 2, 3, 4, 0] rfl <| E_iconst (v := 0) (n := 75) 46 rfl rfl icz_0 <| E_istore (lv' := [(0, .ref 133), (1, .int x1), (2, .int x2), (3, .int v13), (4, .int 0), (5, .int 0)]) (n := 77) 47 rfl rfl (Nat.le_of_ble_eq_true rfl) [1, 2, 3, 4, 5, 0] rfl <| E_aload_n (n := 78) 48 rfl rfl rfl 0 rfl <| E_cV0v (n := 81) 49 rfl rfl co_12_200 rfl sh_133 rfl (K_RM_next m9 _ hq15) <| ?_
      refine E_sub (lv' := [(0, .ref 133), (3, .int v13), (4, .int 0), (5, .int 0)]) [0, 3, 4, 5] rfl ?_
      refine RM_walk_L81_ok _ R ?_ FU m14 v13 0 0 h
      intro m19 y16 y17 y18 h
      obtain ⟨hc20, h⟩ := ift h
      obtain ⟨m21, hm21, h⟩ := letM_ex h
      obtain ⟨hc22, h⟩ := ift h
      obtain ⟨m23, hm23, h⟩ := letM_ex h
      obtain ⟨hc24, h⟩ := ift h
      obtain ⟨m25, hm25, h⟩ := letM_ex h
      obtain ⟨m26, hm26, h⟩ := letM_ex h
      refine E_aload_n (n := 218) 123 rfl rfl rfl 0 rfl <| E_gF (r := 148) (n := 221) 124 rfl rfl fg_12_78 sh_133 rfl <| E_iconst (v := 0) (n := 222) 125 rfl rfl icz_0 <| E_iload_n (n := 223) 126 rfl rfl rfl 1 rfl <| E_bipush (v := 20) (n := 225) 127 rfl rfl bpz_20 <| E_irm (n := 226) 128 rfl rfl (by decide) <| E_iast (n := 227) 129 rfl rfl sh_148 hc20 <| E_mem hm21 <| E_aload_n (n := 228) 130 rfl rfl rfl 0 rfl <| E_gF (r := 148) (n := 231) 131 rfl rfl fg_12_78 sh_133 rfl <| E_iconst (v := 1) (n := 232) 132 rfl rfl icz_1 <| E_iload_n (n := 233) 133 rfl rfl rfl 1 rfl <| E_bipush (v := 20) (n := 235) 134 rfl rfl bpz_20 <| E_idiv (n := 236) 135 rfl rfl (by decide) <| E_iast (n := 237) 136 rfl rfl sh_148 hc22 <| E_mem hm23 <| E_aload_n (n := 238) 137 rfl rfl rfl 0 rfl <| E_gF (r := 148) (n := 241) 138 rfl rfl fg_12_78 sh_133 rfl <| E_iconst (v := 2) (n := 242) 139 rfl rfl icz_2 <| E_iload (n := 244) 140 rfl rfl 3 rfl <| E_iast (n := 245) 141 rfl rfl sh_148 hc24 <| E_mem hm25 <| E_aload_n (n := 246) 142 rfl rfl rfl 0 rfl <| E_iconst (v := 1) (n := 247) 143 rfl rfl icz_1 <| E_pZ (n := 250) 144 rfl rfl fp_12_358 sh_133 z1 <| E_mem hm26 <| E_iload (n := 252) 145 rfl rfl 2 rfl <| E_ireturn 146 rfl rfl (eS h)
    · have h := ifp h hc
      refine E_sipush (v := (-2000)) (n := 31) 14 rfl rfl spz_m2000 <| E_ireturn 15 rfl rfl (eS h)
theorem K_RM_walked (m : Mem) (x1 : Int32) (R : Int32 × Mem) (h : RM_walked m x1 = some R) : Mt M_RM_walked [.ref 133, .int x1] m (qI R.1 R.2) := by
  refine Mt.of G_RM_walked (Nat.le_of_ble_eq_true rfl) (E_sub (lv' := [(0, .ref 133), (1, .int x1)]) [0, 1] rfl ?_)
  unfold RM_walked at h
  obtain ⟨m1, hm1, h⟩ := letM_ex h
  refine E_aload_n (n := 1) 0 rfl rfl rfl 0 rfl <| E_iconst (v := 0) (n := 2) 1 rfl rfl icz_0 <| E_pI (n := 5) 2 rfl rfl fp_12_1 sh_133 <| E_mem hm1 <| E_aload_n (n := 6) 3 rfl rfl rfl 0 rfl <| E_gI (n := 9) 4 rfl rfl fg_12_358 sh_133 <| E_if_eq (n := 12) (t := 30) 5 rfl rfl rfl (fun hc => ?_) (fun hc => ?_)
  · have h := ifp h hc
    refine E_iconst (v := (-1)) (n := 31) 16 rfl rfl icz_m1 <| ?_
    refine E_ireturn 17 rfl rfl (eS h)
  · have h := ifn h hc
    refine E_iload_n (n := 13) 6 rfl rfl rfl 1 rfl <| E_iconst (v := 0) (n := 14) 7 rfl rfl icz_0 <| E_iconst (v := 2) (n := 15) 8 rfl rfl icz_2 <| E_dS3r (n := 18) 9 rfl rfl co_12_203 rfl rfl (K_RM_isIn m1 x1 0 2 _ rfl) <| E_if_eq (n := 21) (t := 30) 10 rfl rfl rfl (fun hc => ?_) (fun hc => ?_)
    · have h := ifp h hc
      refine E_iconst (v := (-1)) (n := 31) 16 rfl rfl icz_m1 <| ?_
      refine E_ireturn 17 rfl rfl (eS h)
    · have h := ifn h hc
      obtain ⟨hc2, h⟩ := ift h
      refine E_aload_n (n := 22) 11 rfl rfl rfl 0 rfl <| E_gF (r := 148) (n := 25) 12 rfl rfl fg_12_78 sh_133 rfl <| E_iload_n (n := 26) 13 rfl rfl rfl 1 rfl <| E_iald (n := 27) 14 rfl rfl sh_148 hc2 <| E_goto (t := 31) 15 rfl rfl <| ?_
      refine E_ireturn 17 rfl rfl (eS h)
theorem RM_least_L40_ok (x2 : Int32) (x3 : Int32) (kx : Mem → Option (Int32 × Mem)) (R : Int32 × Mem) (hx : ∀ (m : Mem), kx m = some R → E M_RM_least 64 [(0, .ref 133), (2, .int x2), (3, .int x3)] [] m (qI R.1 R.2)) : ∀ (n : Nat) (m : Mem) (x4 : Int32), RM_least_L40 x2 x3 kx n m x4 = some R → E M_RM_least 40 [(0, .ref 133), (2, .int x2), (3, .int x3), (4, .int x4)] [] m (qI R.1 R.2) := by
  intro n
  induction n with
  | zero =>
    intro m x4 h
    exact absurd (show none = some R from h) (fun e => Option.some_ne_none R e.symm)
  | succ n ih =>
    intro m x4 h
    rw [RM_least_L40] at h
    refine E_iload (n := 42) 23 rfl rfl 3 rfl <| E_sipush (v := 400) (n := 45) 24 rfl rfl spz_400 <| E_icmp_ge (n := 48) (t := 64) 25 rfl rfl rfl (fun hc => ?_) (fun hc => ?_)
    · have h := ifp h hc
      refine E_sub (lv' := [(0, .ref 133), (2, .int x2), (3, .int x3)]) [0, 1, 2] rfl ?_
      exact hx m h
    · have h := ifn h hc
      obtain ⟨hc1, h⟩ := ift h
      obtain ⟨m2, hm2, h⟩ := letM_ex h
      refine E_aload_n (n := 49) 26 rfl rfl rfl 0 rfl <| E_gF (r := 149) (n := 52) 27 rfl rfl fg_12_81 sh_133 rfl <| E_iload (n := 54) 28 rfl rfl 3 rfl <| E_ldcw (v := 100000000) (n := 57) 29 rfl rfl tw_1966 <| E_iast (n := 58) 30 rfl rfl sh_149 hc1 <| E_mem hm2 <| E_iinc (v := (x4 + 1)) (lv' := [(0, .ref 133), (2, .int x2), (3, .int x3), (4, .int (x4 + 1))]) (n := 61) 31 rfl rfl 3 rfl (by rw [icz_1]) (Nat.le_of_ble_eq_true rfl) [1, 2, 3, 0] rfl <| E_goto (t := 40) 32 rfl rfl <| ?_
      exact ih m2 (x4 + 1) h
set_option maxRecDepth 10000 in
theorem RM_least_L123_ok (x3 : Int32) (x5 : Int32) (kx : Mem → Int32 → Option (Int32 × Mem)) (R : Int32 × Mem) (hx : ∀ (m : Mem) (x4 : Int32), kx m x4 = some R → E M_RM_least 235 [(0, .ref 133), (3, .int x3), (4, .int x4), (5, .int x5)] [] m (qI R.1 R.2)) : ∀ (n : Nat) (m : Mem) (x4 : Int32) (x6 : Int32), RM_least_L123 x3 x5 kx n m x4 x6 = some R → E M_RM_least 123 [(0, .ref 133), (3, .int x3), (4, .int x4), (5, .int x5), (6, .int x6)] [] m (qI R.1 R.2) := by
  intro n
  induction n with
  | zero =>
    intro m x4 x6 h
    exact absurd (show none = some R from h) (fun e => Option.some_ne_none R e.symm)
  | succ n ih =>
    intro m x4 x6 h
    rw [RM_least_L123] at h
    refine E_iload (n := 125) 71 rfl rfl 4 rfl <| E_iconst (v := 4) (n := 126) 72 rfl rfl icz_4 <| E_icmp_ge (n := 129) (t := 235) 73 rfl rfl rfl (fun hc => ?_) (fun hc => ?_)
    · have h := ifp h hc
      refine E_sub (lv' := [(0, .ref 133), (3, .int x3), (4, .int x4), (5, .int x5)]) [0, 1, 2, 3] rfl ?_
      exact hx m x4 h
    · have h := ifn h hc
      obtain ⟨v1, hv1, h⟩ := letV_ex h
      refine E_iload (n := 131) 74 rfl rfl 3 rfl <| E_iload (n := 133) 75 rfl rfl 4 rfl <| E_dS2r (n := 136) 76 rfl rfl co_12_326 rfl rfl (K_RM_beside m x5 x6 _ rfl) <| E_top hv1 <| E_istore (lv' := [(0, .ref 133), (3, .int x3), (4, .int x4), (5, .int x5), (6, .int x6), (7, .int v1)]) (n := 138) 77 rfl rfl (Nat.le_of_ble_eq_true rfl) [1, 2, 3, 4, 5, 0] rfl <| E_iload (n := 140) 78 rfl rfl 5 rfl <| E_if_lt (n := 143) (t := 229) 79 rfl rfl rfl (fun hc => ?_) (fun hc => ?_)
      · have h := ifp h hc
        refine E_iinc (v := (x6 + 1)) (lv' := [(0, .ref 133), (3, .int x3), (4, .int x4), (5, .int x5), (6, .int (x6 + 1)), (7, .int v1)]) (n := 232) 126 rfl rfl 4 rfl (by rw [icz_1]) (Nat.le_of_ble_eq_true rfl) [1, 2, 3, 4, 0, 5] rfl <| E_goto (t := 123) 127 rfl rfl <| ?_
        refine E_sub (lv' := [(0, .ref 133), (3, .int x3), (4, .int x4), (5, .int x5), (6, .int (x6 + 1))]) [0, 1, 2, 3, 4] rfl ?_
        exact ih m x4 (x6 + 1) h
      · have h := ifn h hc
        obtain ⟨hc2, h⟩ := ift h
        refine E_aload_n (n := 144) 80 rfl rfl rfl 0 rfl <| E_gF (r := 149) (n := 147) 81 rfl rfl fg_12_81 sh_133 rfl <| E_iload (n := 149) 82 rfl rfl 3 rfl <| E_iald (n := 150) 83 rfl rfl sh_149 hc2 <| E_ldcw (v := 100000000) (n := 153) 84 rfl rfl tw_1966 <| E_icmp_ge (n := 156) (t := 229) 85 rfl rfl rfl (fun hc => ?_) (fun hc => ?_)
        · have h := ifp h hc
          refine E_iinc (v := (x6 + 1)) (lv' := [(0, .ref 133), (3, .int x3), (4, .int x4), (5, .int x5), (6, .int (x6 + 1)), (7, .int v1)]) (n := 232) 126 rfl rfl 4 rfl (by rw [icz_1]) (Nat.le_of_ble_eq_true rfl) [1, 2, 3, 4, 0, 5] rfl <| E_goto (t := 123) 127 rfl rfl <| ?_
          refine E_sub (lv' := [(0, .ref 133), (3, .int x3), (4, .int x4), (5, .int x5), (6, .int (x6 + 1))]) [0, 1, 2, 3, 4] rfl ?_
          exact ih m x4 (x6 + 1) h
        · have h := ifn h hc
          obtain ⟨hc3, h⟩ := ift h
          refine E_aload_n (n := 157) 86 rfl rfl rfl 0 rfl <| E_gF (r := 149) (n := 160) 87 rfl rfl fg_12_81 sh_133 rfl <| E_iload (n := 162) 88 rfl rfl 3 rfl <| E_iald (n := 163) 89 rfl rfl sh_149 hc2 <| E_iconst (v := 1) (n := 164) 90 rfl rfl icz_1 <| E_iadd (n := 165) 91 rfl rfl <| E_aload_n (n := 166) 92 rfl rfl rfl 0 rfl <| E_gF (r := 149) (n := 169) 93 rfl rfl fg_12_81 sh_133 rfl <| E_iload (n := 171) 94 rfl rfl 5 rfl <| E_iald (n := 172) 95 rfl rfl sh_149 hc3 <| E_icmp_lt (n := 175) (t := 178) 96 rfl rfl rfl (fun hc => ?_) (fun hc => ?_)
          · have h := ifp h hc
            obtain ⟨v4, hq5, h⟩ := bI_ex h
            obtain ⟨v6, hv6, h⟩ := letV_ex h
            refine E_aload_n (n := 179) 98 rfl rfl rfl 0 rfl <| E_gF (r := 149) (n := 182) 99 rfl rfl fg_12_81 sh_133 rfl <| E_iload (n := 184) 100 rfl rfl 3 rfl <| E_iald (n := 185) 101 rfl rfl sh_149 hc2 <| E_sipush (v := 1000) (n := 188) 102 rfl rfl spz_1000 <| E_aload_n (n := 189) 103 rfl rfl rfl 0 rfl <| E_iload (n := 191) 104 rfl rfl 3 rfl <| E_iload (n := 193) 105 rfl rfl 4 rfl <| E_cV2r (n := 196) 106 rfl rfl co_12_352 rfl sh_133 rfl (K_RM_crossesOf m x5 x6 _ hq5) <| E_imul (n := 197) 107 rfl rfl <| E_iadd (n := 198) 108 rfl rfl <| E_iconst (v := 1) (n := 199) 109 rfl rfl icz_1 <| E_iadd (n := 200) 110 rfl rfl <| E_top hv6 <| E_istore (lv' := [(0, .ref 133), (3, .int x3), (4, .int x4), (5, .int x5), (6, .int x6), (7, .int v1), (8, .int v6)]) (n := 202) 111 rfl rfl (Nat.le_of_ble_eq_true rfl) [1, 2, 3, 4, 5, 6, 0] rfl <| E_iload (n := 204) 112 rfl rfl 6 rfl <| E_aload_n (n := 205) 113 rfl rfl rfl 0 rfl <| E_gF (r := 149) (n := 208) 114 rfl rfl fg_12_81 sh_133 rfl <| E_iload (n := 210) 115 rfl rfl 5 rfl <| E_iald (n := 211) 116 rfl rfl sh_149 hc3 <| E_icmp_lt (n := 214) (t := 217) 117 rfl rfl rfl (fun hc => ?_) (fun hc => ?_)
            · have h := ifp h hc
              obtain ⟨m7, hm7, h⟩ := letM_ex h
              refine E_aload_n (n := 218) 119 rfl rfl rfl 0 rfl <| E_gF (r := 149) (n := 221) 120 rfl rfl fg_12_81 sh_133 rfl <| E_iload (n := 223) 121 rfl rfl 5 rfl <| E_iload (n := 225) 122 rfl rfl 6 rfl <| E_iast (n := 226) 123 rfl rfl sh_149 hc3 <| E_mem hm7 <| E_iconst (v := 1) (n := 227) 124 rfl rfl icz_1 <| E_istore (lv' := [(0, .ref 133), (3, .int x3), (4, .int 1), (5, .int x5), (6, .int x6), (7, .int v1), (8, .int v6)]) (n := 229) 125 rfl rfl (Nat.le_of_ble_eq_true rfl) [1, 2, 0, 3, 4, 5, 6] rfl <| ?_
              refine E_iinc (v := (x6 + 1)) (lv' := [(0, .ref 133), (3, .int x3), (4, .int 1), (5, .int x5), (6, .int (x6 + 1)), (7, .int v1), (8, .int v6)]) (n := 232) 126 rfl rfl 4 rfl (by rw [icz_1]) (Nat.le_of_ble_eq_true rfl) [1, 2, 3, 4, 0, 5, 6] rfl <| E_goto (t := 123) 127 rfl rfl <| ?_
              refine E_sub (lv' := [(0, .ref 133), (3, .int x3), (4, .int 1), (5, .int x5), (6, .int (x6 + 1))]) [0, 1, 2, 3, 4] rfl ?_
              exact ih m7 1 (x6 + 1) h
            · have h := ifn h hc
              refine E_goto (t := 229) 118 rfl rfl <| ?_
              refine E_iinc (v := (x6 + 1)) (lv' := [(0, .ref 133), (3, .int x3), (4, .int x4), (5, .int x5), (6, .int (x6 + 1)), (7, .int v1), (8, .int v6)]) (n := 232) 126 rfl rfl 4 rfl (by rw [icz_1]) (Nat.le_of_ble_eq_true rfl) [1, 2, 3, 4, 0, 5, 6] rfl <| E_goto (t := 123) 127 rfl rfl <| ?_
              refine E_sub (lv' := [(0, .ref 133), (3, .int x3), (4, .int x4), (5, .int x5), (6, .int (x6 + 1))]) [0, 1, 2, 3, 4] rfl ?_
              exact ih m x4 (x6 + 1) h
          · have h := ifn h hc
            refine E_goto (t := 229) 97 rfl rfl <| ?_
            refine E_iinc (v := (x6 + 1)) (lv' := [(0, .ref 133), (3, .int x3), (4, .int x4), (5, .int x5), (6, .int (x6 + 1)), (7, .int v1)]) (n := 232) 126 rfl rfl 4 rfl (by rw [icz_1]) (Nat.le_of_ble_eq_true rfl) [1, 2, 3, 4, 0, 5] rfl <| E_goto (t := 123) 127 rfl rfl <| ?_
            refine E_sub (lv' := [(0, .ref 133), (3, .int x3), (4, .int x4), (5, .int x5), (6, .int (x6 + 1))]) [0, 1, 2, 3, 4] rfl ?_
            exact ih m x4 (x6 + 1) h
theorem RM_least_L112_ok (x3 : Int32) (kx : Mem → Int32 → Option (Int32 × Mem)) (R : Int32 × Mem) (hx : ∀ (m : Mem) (x4 : Int32), kx m x4 = some R → E M_RM_least 241 [(0, .ref 133), (3, .int x3), (4, .int x4)] [] m (qI R.1 R.2)) : ∀ (n : Nat) (m : Mem) (x4 : Int32) (x5 : Int32), RM_least_L112 x3 kx n m x4 x5 = some R → E M_RM_least 112 [(0, .ref 133), (3, .int x3), (4, .int x4), (5, .int x5)] [] m (qI R.1 R.2) := by
  intro n
  induction n with
  | zero =>
    intro m x4 x5 h
    exact absurd (show none = some R from h) (fun e => Option.some_ne_none R e.symm)
  | succ n ih =>
    intro m x4 x5 h
    rw [RM_least_L112] at h
    refine E_iload (n := 114) 66 rfl rfl 3 rfl <| E_sipush (v := 400) (n := 117) 67 rfl rfl spz_400 <| E_icmp_ge (n := 120) (t := 241) 68 rfl rfl rfl (fun hc => ?_) (fun hc => ?_)
    · have h := ifp h hc
      refine E_sub (lv' := [(0, .ref 133), (3, .int x3), (4, .int x4)]) [0, 1, 2] rfl ?_
      exact hx m x4 h
    · have h := ifn h hc
      refine E_iconst (v := 0) (n := 121) 69 rfl rfl icz_0 <| E_istore (lv' := [(0, .ref 133), (3, .int x3), (4, .int x4), (5, .int x5), (6, .int 0)]) (n := 123) 70 rfl rfl (Nat.le_of_ble_eq_true rfl) [1, 2, 3, 4, 0] rfl <| ?_
      refine RM_least_L123_ok x3 x5 _ R ?_ FU m x4 0 h
      intro m2 y1 h
      refine E_iinc (v := (x5 + 1)) (lv' := [(0, .ref 133), (3, .int x3), (4, .int y1), (5, .int (x5 + 1))]) (n := 238) 128 rfl rfl 3 rfl (by rw [icz_1]) (Nat.le_of_ble_eq_true rfl) [1, 2, 3, 0] rfl <| E_goto (t := 112) 129 rfl rfl <| ?_
      exact ih m2 y1 (x5 + 1) h
theorem RM_least_L101_ok (x3 : Int32) (kx : Mem → Option (Int32 × Mem)) (R : Int32 × Mem) (hx : ∀ (m : Mem), kx m = some R → E M_RM_least 244 [(0, .ref 133), (3, .int x3)] [] m (qI R.1 R.2)) : ∀ (n : Nat) (m : Mem) (x4 : Int32), RM_least_L101 x3 kx n m x4 = some R → E M_RM_least 101 [(0, .ref 133), (3, .int x3), (4, .int x4)] [] m (qI R.1 R.2) := by
  intro n
  induction n with
  | zero =>
    intro m x4 h
    exact absurd (show none = some R from h) (fun e => Option.some_ne_none R e.symm)
  | succ n ih =>
    intro m x4 h
    rw [RM_least_L101] at h
    refine E_iload (n := 103) 60 rfl rfl 2 rfl <| E_if_eq (n := 106) (t := 244) 61 rfl rfl rfl (fun hc => ?_) (fun hc => ?_)
    · have h := ifp h hc
      refine E_sub (lv' := [(0, .ref 133), (3, .int x3)]) [0, 1] rfl ?_
      exact hx m h
    · have h := ifn h hc
      refine E_iconst (v := 0) (n := 107) 62 rfl rfl icz_0 <| E_istore (lv' := [(0, .ref 133), (3, .int x3), (4, .int 0)]) (n := 109) 63 rfl rfl (Nat.le_of_ble_eq_true rfl) [1, 2, 0] rfl <| E_iconst (v := 0) (n := 110) 64 rfl rfl icz_0 <| E_istore (lv' := [(0, .ref 133), (3, .int x3), (4, .int 0), (5, .int 0)]) (n := 112) 65 rfl rfl (Nat.le_of_ble_eq_true rfl) [1, 2, 3, 0] rfl <| ?_
      refine RM_least_L112_ok x3 _ R ?_ FU m 0 0 h
      intro m2 y1 h
      refine E_goto (t := 101) 130 rfl rfl <| ?_
      exact ih m2 y1 h
theorem K_RM_least (m : Mem) (x1 : Int32) (x2 : Int32) (x3 : Int32) (R : Int32 × Mem) (h : RM_least m x1 x2 x3 = some R) : Mt M_RM_least [.ref 133, .int x1, .int x2, .int x3] m (qI R.1 R.2) := by
  refine Mt.of G_RM_least (Nat.le_of_ble_eq_true rfl) (E_sub (lv' := [(0, .ref 133), (1, .int x1), (2, .int x2), (3, .int x3)]) [0, 1, 2, 3] rfl ?_)
  unfold RM_least at h
  obtain ⟨m1, hm1, h⟩ := letM_ex h
  obtain ⟨v2, hq3, h⟩ := bI_ex h
  refine E_aload_n (n := 1) 0 rfl rfl rfl 0 rfl <| E_iconst (v := 0) (n := 2) 1 rfl rfl icz_0 <| E_pI (n := 5) 2 rfl rfl fp_12_1 sh_133 <| E_mem hm1 <| E_aload_n (n := 6) 3 rfl rfl rfl 0 rfl <| E_iload_n (n := 7) 4 rfl rfl rfl 1 rfl <| E_cV1r (n := 10) 5 rfl rfl co_12_256 rfl sh_133 rfl (K_RM_isLine m1 x1 _ hq3) <| E_if_eq (n := 13) (t := 30) 6 rfl rfl rfl (fun hc => ?_) (fun hc => ?_)
  · have h := ifp h hc
    refine E_iconst (v := (-1)) (n := 31) 16 rfl rfl icz_m1 <| E_ireturn 17 rfl rfl (eS h)
  · have h := ifn h hc
    obtain ⟨v4, hq5, h⟩ := bI_ex h
    refine E_aload_n (n := 14) 7 rfl rfl rfl 0 rfl <| E_iload_n (n := 15) 8 rfl rfl rfl 2 rfl <| E_cV1r (n := 18) 9 rfl rfl co_12_298 rfl sh_133 rfl (K_RM_isHay m1 x2 _ hq5) <| E_if_eq (n := 21) (t := 30) 10 rfl rfl rfl (fun hc => ?_) (fun hc => ?_)
    · have h := ifp h hc
      refine E_iconst (v := (-1)) (n := 31) 16 rfl rfl icz_m1 <| E_ireturn 17 rfl rfl (eS h)
    · have h := ifn h hc
      refine E_iload_n (n := 22) 11 rfl rfl rfl 3 rfl <| E_iconst (v := 0) (n := 23) 12 rfl rfl icz_0 <| E_iconst (v := 1) (n := 24) 13 rfl rfl icz_1 <| E_dS3r (n := 27) 14 rfl rfl co_12_203 rfl rfl (K_RM_isIn m1 x3 0 1 _ rfl) <| E_if_ne (n := 30) (t := 32) 15 rfl rfl rfl (fun hc => ?_) (fun hc => ?_)
      · have h := ifn h hc
        obtain ⟨m6, hq7, h⟩ := bM_ex h
        refine E_aload_n (n := 33) 18 rfl rfl rfl 0 rfl <| E_iload_n (n := 34) 19 rfl rfl rfl 1 rfl <| E_cV1v (n := 37) 20 rfl rfl co_12_295 rfl sh_133 rfl (K_RM_looks m1 x1 _ hq7) <| E_iconst (v := 0) (n := 38) 21 rfl rfl icz_0 <| E_istore (lv' := [(0, .ref 133), (1, .int x1), (2, .int x2), (3, .int x3), (4, .int 0)]) (n := 40) 22 rfl rfl (Nat.le_of_ble_eq_true rfl) [1, 2, 3, 4, 0] rfl <| ?_
        refine E_sub (lv' := [(0, .ref 133), (2, .int x2), (3, .int x3), (4, .int 0)]) [0, 2, 3, 4] rfl ?_
        refine RM_least_L40_ok x2 x3 _ R ?_ FU m6 0 h
        intro m8 h
        obtain ⟨hc9, h⟩ := ift h
        obtain ⟨hc10, h⟩ := ift h
        obtain ⟨hc11, h⟩ := ift h
        obtain ⟨m12, hm12, h⟩ := letM_ex h
        refine E_aload_n (n := 65) 33 rfl rfl rfl 0 rfl <| E_gF (r := 149) (n := 68) 34 rfl rfl fg_12_81 sh_133 rfl <| E_bipush (v := 20) (n := 70) 35 rfl rfl bpz_20 <| E_aload_n (n := 71) 36 rfl rfl rfl 0 rfl <| E_gF (r := 135) (n := 74) 37 rfl rfl fg_12_33 sh_133 rfl <| E_bipush (v := 86) (n := 76) 38 rfl rfl bpz_86 <| E_iconst (v := 3) (n := 77) 39 rfl rfl icz_3 <| E_iload_n (n := 78) 40 rfl rfl rfl 1 rfl <| E_imul (n := 79) 41 rfl rfl <| E_iadd (n := 80) 42 rfl rfl <| E_iconst (v := 1) (n := 81) 43 rfl rfl icz_1 <| E_iadd (n := 82) 44 rfl rfl <| E_iald (n := 83) 45 rfl rfl sh_135 hc9 <| E_imul (n := 84) 46 rfl rfl <| E_aload_n (n := 85) 47 rfl rfl rfl 0 rfl <| E_gF (r := 135) (n := 88) 48 rfl rfl fg_12_33 sh_133 rfl <| E_bipush (v := 86) (n := 90) 49 rfl rfl bpz_86 <| E_iconst (v := 3) (n := 91) 50 rfl rfl icz_3 <| E_iload_n (n := 92) 51 rfl rfl rfl 1 rfl <| E_imul (n := 93) 52 rfl rfl <| E_iadd (n := 94) 53 rfl rfl <| E_iald (n := 95) 54 rfl rfl sh_135 hc10 <| E_iadd (n := 96) 55 rfl rfl <| E_iconst (v := 0) (n := 97) 56 rfl rfl icz_0 <| E_iast (n := 98) 57 rfl rfl sh_149 hc11 <| E_mem hm12 <| E_iconst (v := 1) (n := 99) 58 rfl rfl icz_1 <| E_istore (lv' := [(0, .ref 133), (2, .int x2), (3, .int x3), (4, .int 1)]) (n := 101) 59 rfl rfl (Nat.le_of_ble_eq_true rfl) [1, 2, 3, 0] rfl <| ?_
        refine E_sub (lv' := [(0, .ref 133), (3, .int x3), (4, .int 1)]) [0, 2, 3] rfl ?_
        refine RM_least_L101_ok x3 _ R ?_ FU m12 1 h
        intro m13 h
        obtain ⟨hc14, h⟩ := ift h
        obtain ⟨hc15, h⟩ := ift h
        obtain ⟨hc16, h⟩ := ift h
        obtain ⟨v17, hv17, h⟩ := letV_ex h
        refine E_aload_n (n := 245) 131 rfl rfl rfl 0 rfl <| E_gF (r := 149) (n := 248) 132 rfl rfl fg_12_81 sh_133 rfl <| E_bipush (v := 20) (n := 250) 133 rfl rfl bpz_20 <| E_aload_n (n := 251) 134 rfl rfl rfl 0 rfl <| E_gF (r := 135) (n := 254) 135 rfl rfl fg_12_33 sh_133 rfl <| E_iconst (v := 3) (n := 255) 136 rfl rfl icz_3 <| E_iald (n := 256) 137 rfl rfl sh_135 hc14 <| E_imul (n := 257) 138 rfl rfl <| E_aload_n (n := 258) 139 rfl rfl rfl 0 rfl <| E_gF (r := 135) (n := 261) 140 rfl rfl fg_12_33 sh_133 rfl <| E_iconst (v := 2) (n := 262) 141 rfl rfl icz_2 <| E_iald (n := 263) 142 rfl rfl sh_135 hc15 <| E_iadd (n := 264) 143 rfl rfl <| E_iald (n := 265) 144 rfl rfl sh_149 hc16 <| E_top hv17 <| E_istore (lv' := [(0, .ref 133), (3, .int x3), (5, .int v17)]) (n := 267) 145 rfl rfl (Nat.le_of_ble_eq_true rfl) [1, 2, 0] rfl <| E_iload_n (n := 268) 146 rfl rfl rfl 1 rfl <| E_if_ne (n := 271) (t := 280) 147 rfl rfl rfl (fun hc => ?_) (fun hc => ?_)
        · have h := ifn h hc
          refine E_iload (n := 282) 152 rfl rfl 2 rfl <| E_sipush (v := 1000) (n := 285) 153 rfl rfl spz_1000 <| E_irm (n := 286) 154 rfl rfl (by decide) <| ?_
          refine E_ireturn 155 rfl rfl (eS h)
        · have h := ifp h hc
          refine E_iload (n := 273) 148 rfl rfl 2 rfl <| E_sipush (v := 1000) (n := 276) 149 rfl rfl spz_1000 <| E_idiv (n := 277) 150 rfl rfl (by decide) <| E_goto (t := 286) 151 rfl rfl <| ?_
          refine E_ireturn 155 rfl rfl (eS h)
      · have h := ifp h hc
        refine E_iconst (v := (-1)) (n := 31) 16 rfl rfl icz_m1 <| E_ireturn 17 rfl rfl (eS h)
theorem RM_stiles_J130_ok (kr : Mem → Int32 → Int32 → Option (Int32 × Mem)) (kx : Mem → Int32 → Option (Int32 × Mem)) (m : Mem) (x2 : Int32) (x3 : Int32) (x4 : Int32) (x5 : Int32) (x7 : Int32) (s0 : Int32) (R : Int32 × Mem) (hr : ∀ (m : Mem) (x6 : Int32) (x7 : Int32), kr m x6 x7 = some R → E M_RM_stiles 77 [(0, .ref 133), (2, .int x2), (3, .int x3), (4, .int x4), (5, .int x5), (6, .int x6), (7, .int x7)] [] m (qI R.1 R.2)) (hx : ∀ (m : Mem) (x6 : Int32), kx m x6 = some R → E M_RM_stiles 144 [(0, .ref 133), (2, .int x2), (3, .int x3), (4, .int x4), (5, .int x5), (6, .int x6)] [] m (qI R.1 R.2)) (h : RM_stiles_J130 kr kx m x2 x3 x4 x5 x7 s0 = some R) : E M_RM_stiles 130 [(0, .ref 133), (2, .int x2), (3, .int x3), (4, .int x4), (5, .int x5), (7, .int x7)] [.int s0] m (qI R.1 R.2) := by
  unfold RM_stiles_J130 at h
  obtain ⟨v1, hv1, h⟩ := letV_ex h
  refine E_istore (lv' := [(0, .ref 133), (2, .int x2), (3, .int x3), (4, .int x4), (5, .int x5), (6, .int s0), (7, .int x7)]) (n := 132) 74 rfl rfl (Nat.le_of_ble_eq_true rfl) [1, 2, 3, 4, 5, 0, 6] rfl <| E_iload (n := 134) 75 rfl rfl 6 rfl <| E_iconst (v := 1) (n := 135) 76 rfl rfl icz_1 <| E_isub (n := 136) 77 rfl rfl <| E_iload (n := 138) 78 rfl rfl 3 rfl <| E_iand (n := 139) 79 rfl rfl <| E_top hv1 <| E_istore (lv' := [(0, .ref 133), (2, .int x2), (3, .int x3), (4, .int x4), (5, .int x5), (6, .int s0), (7, .int v1)]) (n := 141) 80 rfl rfl (Nat.le_of_ble_eq_true rfl) [1, 2, 3, 4, 5, 6, 0] rfl <| E_goto (t := 77) 81 rfl rfl <| ?_
  exact hr m s0 v1 h
theorem RM_stiles_L77_ok (x2 : Int32) (x3 : Int32) (x4 : Int32) (x5 : Int32) (kx : Mem → Int32 → Option (Int32 × Mem)) (R : Int32 × Mem) (hx : ∀ (m : Mem) (x6 : Int32), kx m x6 = some R → E M_RM_stiles 144 [(0, .ref 133), (2, .int x2), (3, .int x3), (4, .int x4), (5, .int x5), (6, .int x6)] [] m (qI R.1 R.2)) : ∀ (n : Nat) (m : Mem) (x6 : Int32) (x7 : Int32), RM_stiles_L77 x2 x3 x4 x5 kx n m x6 x7 = some R → E M_RM_stiles 77 [(0, .ref 133), (2, .int x2), (3, .int x3), (4, .int x4), (5, .int x5), (6, .int x6), (7, .int x7)] [] m (qI R.1 R.2) := by
  intro n
  induction n with
  | zero =>
    intro m x6 x7 h
    exact absurd (show none = some R from h) (fun e => Option.some_ne_none R e.symm)
  | succ n ih =>
    intro m x6 x7 h
    rw [RM_stiles_L77] at h
    refine E_iload (n := 79) 46 rfl rfl 6 rfl <| E_if_le (n := 82) (t := 144) 47 rfl rfl rfl (fun hc => ?_) (fun hc => ?_)
    · have h := ifp h hc
      refine E_sub (lv' := [(0, .ref 133), (2, .int x2), (3, .int x3), (4, .int x4), (5, .int x5), (6, .int x6)]) [0, 1, 2, 3, 4, 5] rfl ?_
      exact hx m x6 h
    · have h := ifn h hc
      obtain ⟨hc1, h⟩ := ift h
      obtain ⟨hc2, h⟩ := ift h
      obtain ⟨v3, hv3, h⟩ := letV_ex h
      refine E_aload_n (n := 83) 48 rfl rfl rfl 0 rfl <| E_gF (r := 150) (n := 86) 49 rfl rfl fg_12_85 sh_133 rfl <| E_sipush (v := 400) (n := 89) 50 rfl rfl spz_400 <| E_iload (n := 91) 51 rfl rfl 6 rfl <| E_imul (n := 92) 52 rfl rfl <| E_iload (n := 94) 53 rfl rfl 4 rfl <| E_iadd (n := 95) 54 rfl rfl <| E_iald (n := 96) 55 rfl rfl sh_150 hc1 <| E_aload_n (n := 97) 56 rfl rfl rfl 0 rfl <| E_gF (r := 150) (n := 100) 57 rfl rfl fg_12_85 sh_133 rfl <| E_sipush (v := 400) (n := 103) 58 rfl rfl spz_400 <| E_iload (n := 105) 59 rfl rfl 3 rfl <| E_iload (n := 107) 60 rfl rfl 6 rfl <| E_ixor (n := 108) 61 rfl rfl <| E_imul (n := 109) 62 rfl rfl <| E_iload (n := 111) 63 rfl rfl 4 rfl <| E_iadd (n := 112) 64 rfl rfl <| E_iald (n := 113) 65 rfl rfl sh_150 hc2 <| E_iadd (n := 114) 66 rfl rfl <| E_top hv3 <| E_istore (lv' := [(0, .ref 133), (2, .int x2), (3, .int x3), (4, .int x4), (5, .int x5), (6, .int x6), (7, .int x7), (8, .int v3)]) (n := 116) 67 rfl rfl (Nat.le_of_ble_eq_true rfl) [1, 2, 3, 4, 5, 6, 7, 0] rfl <| E_iload (n := 118) 68 rfl rfl 7 rfl <| E_iload (n := 120) 69 rfl rfl 5 rfl <| E_icmp_ge (n := 123) (t := 128) 70 rfl rfl rfl (fun hc => ?_) (fun hc => ?_)
      · have h := ifp h hc
        refine E_iload (n := 130) 73 rfl rfl 5 rfl <| ?_
        refine E_sub (lv' := [(0, .ref 133), (2, .int x2), (3, .int x3), (4, .int x4), (5, .int x5), (7, .int x7)]) [0, 1, 2, 3, 4, 6] rfl ?_
        exact RM_stiles_J130_ok _ _ m x2 x3 x4 x5 x7 x6 _ ih hx h
      · have h := ifn h hc
        refine E_iload (n := 125) 71 rfl rfl 7 rfl <| E_goto (t := 130) 72 rfl rfl <| ?_
        refine E_sub (lv' := [(0, .ref 133), (2, .int x2), (3, .int x3), (4, .int x4), (5, .int x5), (7, .int x7)]) [0, 1, 2, 3, 4, 6] rfl ?_
        exact RM_stiles_J130_ok _ _ m x2 x3 x4 x5 x7 v3 _ ih hx h
theorem RM_stiles_L147_ok (x2 : Int32) (x3 : Int32) (x4 : Int32) (x5 : Int32) (kx : Mem → Int32 → Option (Int32 × Mem)) (R : Int32 × Mem) (hx : ∀ (m : Mem) (x6 : Int32), kx m x6 = some R → E M_RM_stiles 211 [(0, .ref 133), (2, .int x2), (3, .int x3), (4, .int x4), (5, .int x5), (6, .int x6)] [] m (qI R.1 R.2)) : ∀ (n : Nat) (m : Mem) (x6 : Int32) (x7 : Int32), RM_stiles_L147 x2 x3 x4 x5 kx n m x6 x7 = some R → E M_RM_stiles 147 [(0, .ref 133), (2, .int x2), (3, .int x3), (4, .int x4), (5, .int x5), (6, .int x6), (7, .int x7)] [] m (qI R.1 R.2) := by
  intro n
  induction n with
  | zero =>
    intro m x6 x7 h
    exact absurd (show none = some R from h) (fun e => Option.some_ne_none R e.symm)
  | succ n ih =>
    intro m x6 x7 h
    rw [RM_stiles_L147] at h
    refine E_iload (n := 149) 84 rfl rfl 6 rfl <| E_iload_n (n := 150) 85 rfl rfl rfl 1 rfl <| E_icmp_ge (n := 153) (t := 211) 86 rfl rfl rfl (fun hc => ?_) (fun hc => ?_)
    · have h := ifp h hc
      refine E_sub (lv' := [(0, .ref 133), (2, .int x2), (3, .int x3), (4, .int x4), (5, .int x5), (6, .int x6)]) [0, 1, 2, 3, 4, 5] rfl ?_
      exact hx m x6 h
    · have h := ifn h hc
      refine E_iload (n := 155) 87 rfl rfl 3 rfl <| E_iconst (v := 1) (n := 156) 88 rfl rfl icz_1 <| E_iload (n := 158) 89 rfl rfl 6 rfl <| E_jshl (n := 159) 90 rfl rfl <| E_icmp_ne (n := 162) (t := 205) 91 rfl rfl rfl (fun hc => ?_) (fun hc => ?_)
      · have h := ifn h hc
        refine E_iinc (v := (x7 + 1)) (lv' := [(0, .ref 133), (2, .int x2), (3, .int x3), (4, .int x4), (5, .int x5), (6, .int x6), (7, .int (x7 + 1))]) (n := 208) 120 rfl rfl 6 rfl (by rw [icz_1]) (Nat.le_of_ble_eq_true rfl) [1, 2, 3, 4, 5, 6, 0] rfl <| E_goto (t := 147) 121 rfl rfl <| ?_
        exact ih m x6 (x7 + 1) h
      · have h := ifp h hc
        obtain ⟨hc1, h⟩ := ift h
        obtain ⟨hc2, h⟩ := ift h
        obtain ⟨hc3, h⟩ := ift h
        refine E_aload_n (n := 163) 92 rfl rfl rfl 0 rfl <| E_gF (r := 143) (n := 166) 93 rfl rfl fg_12_63 sh_133 rfl <| E_bipush (v := 20) (n := 168) 94 rfl rfl bpz_20 <| E_aload_n (n := 169) 95 rfl rfl rfl 0 rfl <| E_gF (r := 135) (n := 172) 96 rfl rfl fg_12_33 sh_133 rfl <| E_bipush (v := 86) (n := 174) 97 rfl rfl bpz_86 <| E_iconst (v := 3) (n := 175) 98 rfl rfl icz_3 <| E_iload (n := 177) 99 rfl rfl 6 rfl <| E_imul (n := 178) 100 rfl rfl <| E_iadd (n := 179) 101 rfl rfl <| E_iconst (v := 1) (n := 180) 102 rfl rfl icz_1 <| E_iadd (n := 181) 103 rfl rfl <| E_iald (n := 182) 104 rfl rfl sh_135 hc1 <| E_imul (n := 183) 105 rfl rfl <| E_aload_n (n := 184) 106 rfl rfl rfl 0 rfl <| E_gF (r := 135) (n := 187) 107 rfl rfl fg_12_33 sh_133 rfl <| E_bipush (v := 86) (n := 189) 108 rfl rfl bpz_86 <| E_iconst (v := 3) (n := 190) 109 rfl rfl icz_3 <| E_iload (n := 192) 110 rfl rfl 6 rfl <| E_imul (n := 193) 111 rfl rfl <| E_iadd (n := 194) 112 rfl rfl <| E_iald (n := 195) 113 rfl rfl sh_135 hc2 <| E_iadd (n := 196) 114 rfl rfl <| E_iald (n := 197) 115 rfl rfl sh_143 hc3 <| E_iload (n := 199) 116 rfl rfl 4 rfl <| E_icmp_ne (n := 202) (t := 205) 117 rfl rfl rfl (fun hc => ?_) (fun hc => ?_)
        · have h := ifn h hc
          refine E_iinc (v := (x7 + 1)) (lv' := [(0, .ref 133), (2, .int x2), (3, .int x3), (4, .int x4), (5, .int x5), (6, .int x6), (7, .int (x7 + 1))]) (n := 208) 120 rfl rfl 6 rfl (by rw [icz_1]) (Nat.le_of_ble_eq_true rfl) [1, 2, 3, 4, 5, 6, 0] rfl <| E_goto (t := 147) 121 rfl rfl <| ?_
          exact ih m x6 (x7 + 1) h
        · have h := ifp h hc
          refine E_iconst (v := 0) (n := 203) 118 rfl rfl icz_0 <| E_istore (lv' := [(0, .ref 133), (2, .int x2), (3, .int x3), (4, .int x4), (5, .int x5), (6, .int 0), (7, .int x7)]) (n := 205) 119 rfl rfl (Nat.le_of_ble_eq_true rfl) [1, 2, 3, 4, 5, 0, 6] rfl <| ?_
          refine E_iinc (v := (x7 + 1)) (lv' := [(0, .ref 133), (2, .int x2), (3, .int x3), (4, .int x4), (5, .int x5), (6, .int 0), (7, .int (x7 + 1))]) (n := 208) 120 rfl rfl 6 rfl (by rw [icz_1]) (Nat.le_of_ble_eq_true rfl) [1, 2, 3, 4, 5, 6, 0] rfl <| E_goto (t := 147) 121 rfl rfl <| ?_
          exact ih m 0 (x7 + 1) h
theorem RM_stiles_L54_ok (x2 : Int32) (x3 : Int32) (x4 : Int32) (kx : Mem → Option (Int32 × Mem)) (R : Int32 × Mem) (hx : ∀ (m : Mem), kx m = some R → E M_RM_stiles 233 [(0, .ref 133), (2, .int x2), (3, .int x3), (4, .int x4)] [] m (qI R.1 R.2)) : ∀ (n : Nat) (m : Mem) (x5 : Int32), RM_stiles_L54 x2 x3 x4 kx n m x5 = some R → E M_RM_stiles 54 [(0, .ref 133), (2, .int x2), (3, .int x3), (4, .int x4), (5, .int x5)] [] m (qI R.1 R.2) := by
  intro n
  induction n with
  | zero =>
    intro m x5 h
    exact absurd (show none = some R from h) (fun e => Option.some_ne_none R e.symm)
  | succ n ih =>
    intro m x5 h
    rw [RM_stiles_L54] at h
    refine E_iload (n := 56) 34 rfl rfl 4 rfl <| E_aload_n (n := 57) 35 rfl rfl rfl 0 rfl <| E_gI (n := 60) 36 rfl rfl fg_12_339 sh_133 <| E_icmp_ge (n := 63) (t := 233) 37 rfl rfl rfl (fun hc => ?_) (fun hc => ?_)
    · have h := ifp h hc
      refine E_sub (lv' := [(0, .ref 133), (2, .int x2), (3, .int x3), (4, .int x4)]) [0, 1, 2, 3] rfl ?_
      exact hx m h
    · have h := ifn h hc
      obtain ⟨v1, hv1, h⟩ := letV_ex h
      refine E_ldcw (v := 100000000) (n := 66) 38 rfl rfl tw_1966 <| E_istore (lv' := [(0, .ref 133), (2, .int x2), (3, .int x3), (4, .int x4), (5, .int x5), (6, .int 100000000)]) (n := 68) 39 rfl rfl (Nat.le_of_ble_eq_true rfl) [1, 2, 3, 4, 5, 0] rfl <| E_iload (n := 70) 40 rfl rfl 3 rfl <| E_iconst (v := 1) (n := 71) 41 rfl rfl icz_1 <| E_isub (n := 72) 42 rfl rfl <| E_iload (n := 74) 43 rfl rfl 3 rfl <| E_iand (n := 75) 44 rfl rfl <| E_top hv1 <| E_istore (lv' := [(0, .ref 133), (2, .int x2), (3, .int x3), (4, .int x4), (5, .int x5), (6, .int 100000000), (7, .int v1)]) (n := 77) 45 rfl rfl (Nat.le_of_ble_eq_true rfl) [1, 2, 3, 4, 5, 6, 0] rfl <| ?_
      refine RM_stiles_L77_ok x2 x3 x4 x5 _ R ?_ FU m 100000000 v1 h
      intro m3 y2 h
      refine E_iconst (v := 0) (n := 145) 82 rfl rfl icz_0 <| E_istore (lv' := [(0, .ref 133), (2, .int x2), (3, .int x3), (4, .int x4), (5, .int x5), (6, .int y2), (7, .int 0)]) (n := 147) 83 rfl rfl (Nat.le_of_ble_eq_true rfl) [1, 2, 3, 4, 5, 6, 0] rfl <| ?_
      refine RM_stiles_L147_ok x2 x3 x4 x5 _ R ?_ FU m3 y2 0 h
      intro m5 y4 h
      obtain ⟨hc6, h⟩ := ift h
      obtain ⟨m7, hm7, h⟩ := letM_ex h
      refine E_aload_n (n := 212) 122 rfl rfl rfl 0 rfl <| E_gF (r := 150) (n := 215) 123 rfl rfl fg_12_85 sh_133 rfl <| E_sipush (v := 400) (n := 218) 124 rfl rfl spz_400 <| E_iload (n := 220) 125 rfl rfl 3 rfl <| E_imul (n := 221) 126 rfl rfl <| E_iload (n := 223) 127 rfl rfl 4 rfl <| E_iadd (n := 224) 128 rfl rfl <| E_iload (n := 226) 129 rfl rfl 5 rfl <| E_iast (n := 227) 130 rfl rfl sh_150 hc6 <| E_mem hm7 <| E_iinc (v := (x5 + 1)) (lv' := [(0, .ref 133), (2, .int x2), (3, .int x3), (4, .int x4), (5, .int (x5 + 1)), (6, .int y4)]) (n := 230) 131 rfl rfl 4 rfl (by rw [icz_1]) (Nat.le_of_ble_eq_true rfl) [1, 2, 3, 4, 0, 5] rfl <| E_goto (t := 54) 132 rfl rfl <| ?_
      refine E_sub (lv' := [(0, .ref 133), (2, .int x2), (3, .int x3), (4, .int x4), (5, .int (x5 + 1))]) [0, 1, 2, 3, 4] rfl ?_
      exact ih m7 (x5 + 1) h
set_option maxRecDepth 10000 in
theorem RM_stiles_L258_ok (x2 : Int32) (x3 : Int32) (x4 : Int32) (x6 : Int32) (kx : Mem → Int32 → Option (Int32 × Mem)) (R : Int32 × Mem) (hx : ∀ (m : Mem) (x5 : Int32), kx m x5 = some R → E M_RM_stiles 390 [(0, .ref 133), (2, .int x2), (3, .int x3), (4, .int x4), (5, .int x5), (6, .int x6)] [] m (qI R.1 R.2)) : ∀ (n : Nat) (m : Mem) (x5 : Int32) (x7 : Int32), RM_stiles_L258 x2 x3 x4 x6 kx n m x5 x7 = some R → E M_RM_stiles 258 [(0, .ref 133), (2, .int x2), (3, .int x3), (4, .int x4), (5, .int x5), (6, .int x6), (7, .int x7)] [] m (qI R.1 R.2) := by
  intro n
  induction n with
  | zero =>
    intro m x5 x7 h
    exact absurd (show none = some R from h) (fun e => Option.some_ne_none R e.symm)
  | succ n ih =>
    intro m x5 x7 h
    rw [RM_stiles_L258] at h
    refine E_iload (n := 260) 146 rfl rfl 6 rfl <| E_iconst (v := 4) (n := 261) 147 rfl rfl icz_4 <| E_icmp_ge (n := 264) (t := 390) 148 rfl rfl rfl (fun hc => ?_) (fun hc => ?_)
    · have h := ifp h hc
      refine E_sub (lv' := [(0, .ref 133), (2, .int x2), (3, .int x3), (4, .int x4), (5, .int x5), (6, .int x6)]) [0, 1, 2, 3, 4, 5] rfl ?_
      exact hx m x5 h
    · have h := ifn h hc
      obtain ⟨v1, hv1, h⟩ := letV_ex h
      refine E_iload (n := 266) 149 rfl rfl 5 rfl <| E_iload (n := 268) 150 rfl rfl 6 rfl <| E_dS2r (n := 271) 151 rfl rfl co_12_326 rfl rfl (K_RM_beside m x6 x7 _ rfl) <| E_top hv1 <| E_istore (lv' := [(0, .ref 133), (2, .int x2), (3, .int x3), (4, .int x4), (5, .int x5), (6, .int x6), (7, .int x7), (8, .int v1)]) (n := 273) 152 rfl rfl (Nat.le_of_ble_eq_true rfl) [1, 2, 3, 4, 5, 6, 7, 0] rfl <| E_iload (n := 275) 153 rfl rfl 7 rfl <| E_if_lt (n := 278) (t := 384) 154 rfl rfl rfl (fun hc => ?_) (fun hc => ?_)
      · have h := ifp h hc
        refine E_iinc (v := (x7 + 1)) (lv' := [(0, .ref 133), (2, .int x2), (3, .int x3), (4, .int x4), (5, .int x5), (6, .int x6), (7, .int (x7 + 1)), (8, .int v1)]) (n := 387) 216 rfl rfl 6 rfl (by rw [icz_1]) (Nat.le_of_ble_eq_true rfl) [1, 2, 3, 4, 5, 6, 0, 7] rfl <| E_goto (t := 258) 217 rfl rfl <| ?_
        refine E_sub (lv' := [(0, .ref 133), (2, .int x2), (3, .int x3), (4, .int x4), (5, .int x5), (6, .int x6), (7, .int (x7 + 1))]) [0, 1, 2, 3, 4, 5, 6] rfl ?_
        exact ih m x5 (x7 + 1) h
      · have h := ifn h hc
        obtain ⟨hc2, h⟩ := ift h
        obtain ⟨hc3, h⟩ := ift h
        refine E_aload_n (n := 279) 155 rfl rfl rfl 0 rfl <| E_gF (r := 143) (n := 282) 156 rfl rfl fg_12_63 sh_133 rfl <| E_iload (n := 284) 157 rfl rfl 7 rfl <| E_iald (n := 285) 158 rfl rfl sh_143 hc2 <| E_aload_n (n := 286) 159 rfl rfl rfl 0 rfl <| E_gF (r := 143) (n := 289) 160 rfl rfl fg_12_63 sh_133 rfl <| E_iload (n := 291) 161 rfl rfl 5 rfl <| E_iald (n := 292) 162 rfl rfl sh_143 hc3 <| E_icmp_eq (n := 295) (t := 384) 163 rfl rfl rfl (fun hc => ?_) (fun hc => ?_)
        · have h := ifp h hc
          refine E_iinc (v := (x7 + 1)) (lv' := [(0, .ref 133), (2, .int x2), (3, .int x3), (4, .int x4), (5, .int x5), (6, .int x6), (7, .int (x7 + 1)), (8, .int v1)]) (n := 387) 216 rfl rfl 6 rfl (by rw [icz_1]) (Nat.le_of_ble_eq_true rfl) [1, 2, 3, 4, 5, 6, 0, 7] rfl <| E_goto (t := 258) 217 rfl rfl <| ?_
          refine E_sub (lv' := [(0, .ref 133), (2, .int x2), (3, .int x3), (4, .int x4), (5, .int x5), (6, .int x6), (7, .int (x7 + 1))]) [0, 1, 2, 3, 4, 5, 6] rfl ?_
          exact ih m x5 (x7 + 1) h
        · have h := ifn h hc
          obtain ⟨hc4, h⟩ := ift h
          obtain ⟨hc5, h⟩ := ift h
          refine E_aload_n (n := 296) 164 rfl rfl rfl 0 rfl <| E_gF (r := 150) (n := 299) 165 rfl rfl fg_12_85 sh_133 rfl <| E_sipush (v := 400) (n := 302) 166 rfl rfl spz_400 <| E_iload (n := 304) 167 rfl rfl 3 rfl <| E_imul (n := 305) 168 rfl rfl <| E_aload_n (n := 306) 169 rfl rfl rfl 0 rfl <| E_gF (r := 143) (n := 309) 170 rfl rfl fg_12_63 sh_133 rfl <| E_iload (n := 311) 171 rfl rfl 5 rfl <| E_iald (n := 312) 172 rfl rfl sh_143 hc3 <| E_iadd (n := 313) 173 rfl rfl <| E_iald (n := 314) 174 rfl rfl sh_150 hc4 <| E_iconst (v := 1) (n := 315) 175 rfl rfl icz_1 <| E_iadd (n := 316) 176 rfl rfl <| E_aload_n (n := 317) 177 rfl rfl rfl 0 rfl <| E_gF (r := 150) (n := 320) 178 rfl rfl fg_12_85 sh_133 rfl <| E_sipush (v := 400) (n := 323) 179 rfl rfl spz_400 <| E_iload (n := 325) 180 rfl rfl 3 rfl <| E_imul (n := 326) 181 rfl rfl <| E_aload_n (n := 327) 182 rfl rfl rfl 0 rfl <| E_gF (r := 143) (n := 330) 183 rfl rfl fg_12_63 sh_133 rfl <| E_iload (n := 332) 184 rfl rfl 7 rfl <| E_iald (n := 333) 185 rfl rfl sh_143 hc2 <| E_iadd (n := 334) 186 rfl rfl <| E_iald (n := 335) 187 rfl rfl sh_150 hc5 <| E_icmp_lt (n := 338) (t := 341) 188 rfl rfl rfl (fun hc => ?_) (fun hc => ?_)
          · have h := ifp h hc
            obtain ⟨m6, hm6, h⟩ := letM_ex h
            refine E_aload_n (n := 342) 190 rfl rfl rfl 0 rfl <| E_gF (r := 150) (n := 345) 191 rfl rfl fg_12_85 sh_133 rfl <| E_sipush (v := 400) (n := 348) 192 rfl rfl spz_400 <| E_iload (n := 350) 193 rfl rfl 3 rfl <| E_imul (n := 351) 194 rfl rfl <| E_aload_n (n := 352) 195 rfl rfl rfl 0 rfl <| E_gF (r := 143) (n := 355) 196 rfl rfl fg_12_63 sh_133 rfl <| E_iload (n := 357) 197 rfl rfl 7 rfl <| E_iald (n := 358) 198 rfl rfl sh_143 hc2 <| E_iadd (n := 359) 199 rfl rfl <| E_aload_n (n := 360) 200 rfl rfl rfl 0 rfl <| E_gF (r := 150) (n := 363) 201 rfl rfl fg_12_85 sh_133 rfl <| E_sipush (v := 400) (n := 366) 202 rfl rfl spz_400 <| E_iload (n := 368) 203 rfl rfl 3 rfl <| E_imul (n := 369) 204 rfl rfl <| E_aload_n (n := 370) 205 rfl rfl rfl 0 rfl <| E_gF (r := 143) (n := 373) 206 rfl rfl fg_12_63 sh_133 rfl <| E_iload (n := 375) 207 rfl rfl 5 rfl <| E_iald (n := 376) 208 rfl rfl sh_143 hc3 <| E_iadd (n := 377) 209 rfl rfl <| E_iald (n := 378) 210 rfl rfl sh_150 hc4 <| E_iconst (v := 1) (n := 379) 211 rfl rfl icz_1 <| E_iadd (n := 380) 212 rfl rfl <| E_iast (n := 381) 213 rfl rfl sh_150 hc5 <| E_mem hm6 <| E_iconst (v := 1) (n := 382) 214 rfl rfl icz_1 <| E_istore (lv' := [(0, .ref 133), (2, .int x2), (3, .int x3), (4, .int x4), (5, .int 1), (6, .int x6), (7, .int x7), (8, .int v1)]) (n := 384) 215 rfl rfl (Nat.le_of_ble_eq_true rfl) [1, 2, 3, 4, 0, 5, 6, 7] rfl <| ?_
            refine E_iinc (v := (x7 + 1)) (lv' := [(0, .ref 133), (2, .int x2), (3, .int x3), (4, .int x4), (5, .int 1), (6, .int x6), (7, .int (x7 + 1)), (8, .int v1)]) (n := 387) 216 rfl rfl 6 rfl (by rw [icz_1]) (Nat.le_of_ble_eq_true rfl) [1, 2, 3, 4, 5, 6, 0, 7] rfl <| E_goto (t := 258) 217 rfl rfl <| ?_
            refine E_sub (lv' := [(0, .ref 133), (2, .int x2), (3, .int x3), (4, .int x4), (5, .int 1), (6, .int x6), (7, .int (x7 + 1))]) [0, 1, 2, 3, 4, 5, 6] rfl ?_
            exact ih m6 1 (x7 + 1) h
          · have h := ifn h hc
            refine E_goto (t := 384) 189 rfl rfl <| ?_
            refine E_iinc (v := (x7 + 1)) (lv' := [(0, .ref 133), (2, .int x2), (3, .int x3), (4, .int x4), (5, .int x5), (6, .int x6), (7, .int (x7 + 1)), (8, .int v1)]) (n := 387) 216 rfl rfl 6 rfl (by rw [icz_1]) (Nat.le_of_ble_eq_true rfl) [1, 2, 3, 4, 5, 6, 0, 7] rfl <| E_goto (t := 258) 217 rfl rfl <| ?_
            refine E_sub (lv' := [(0, .ref 133), (2, .int x2), (3, .int x3), (4, .int x4), (5, .int x5), (6, .int x6), (7, .int (x7 + 1))]) [0, 1, 2, 3, 4, 5, 6] rfl ?_
            exact ih m x5 (x7 + 1) h
theorem RM_stiles_L247_ok (x2 : Int32) (x3 : Int32) (x4 : Int32) (kx : Mem → Int32 → Option (Int32 × Mem)) (R : Int32 × Mem) (hx : ∀ (m : Mem) (x5 : Int32), kx m x5 = some R → E M_RM_stiles 396 [(0, .ref 133), (2, .int x2), (3, .int x3), (4, .int x4), (5, .int x5)] [] m (qI R.1 R.2)) : ∀ (n : Nat) (m : Mem) (x5 : Int32) (x6 : Int32), RM_stiles_L247 x2 x3 x4 kx n m x5 x6 = some R → E M_RM_stiles 247 [(0, .ref 133), (2, .int x2), (3, .int x3), (4, .int x4), (5, .int x5), (6, .int x6)] [] m (qI R.1 R.2) := by
  intro n
  induction n with
  | zero =>
    intro m x5 x6 h
    exact absurd (show none = some R from h) (fun e => Option.some_ne_none R e.symm)
  | succ n ih =>
    intro m x5 x6 h
    rw [RM_stiles_L247] at h
    refine E_iload (n := 249) 141 rfl rfl 5 rfl <| E_sipush (v := 400) (n := 252) 142 rfl rfl spz_400 <| E_icmp_ge (n := 255) (t := 396) 143 rfl rfl rfl (fun hc => ?_) (fun hc => ?_)
    · have h := ifp h hc
      refine E_sub (lv' := [(0, .ref 133), (2, .int x2), (3, .int x3), (4, .int x4), (5, .int x5)]) [0, 1, 2, 3, 4] rfl ?_
      exact hx m x5 h
    · have h := ifn h hc
      refine E_iconst (v := 0) (n := 256) 144 rfl rfl icz_0 <| E_istore (lv' := [(0, .ref 133), (2, .int x2), (3, .int x3), (4, .int x4), (5, .int x5), (6, .int x6), (7, .int 0)]) (n := 258) 145 rfl rfl (Nat.le_of_ble_eq_true rfl) [1, 2, 3, 4, 5, 6, 0] rfl <| ?_
      refine RM_stiles_L258_ok x2 x3 x4 x6 _ R ?_ FU m x5 0 h
      intro m2 y1 h
      refine E_iinc (v := (x6 + 1)) (lv' := [(0, .ref 133), (2, .int x2), (3, .int x3), (4, .int x4), (5, .int y1), (6, .int (x6 + 1))]) (n := 393) 218 rfl rfl 5 rfl (by rw [icz_1]) (Nat.le_of_ble_eq_true rfl) [1, 2, 3, 4, 5, 0] rfl <| E_goto (t := 247) 219 rfl rfl <| ?_
      exact ih m2 y1 (x6 + 1) h
theorem RM_stiles_L236_ok (x2 : Int32) (x3 : Int32) (x4 : Int32) (kx : Mem → Option (Int32 × Mem)) (R : Int32 × Mem) (hx : ∀ (m : Mem), kx m = some R → E M_RM_stiles 399 [(0, .ref 133), (2, .int x2), (3, .int x3), (4, .int x4)] [] m (qI R.1 R.2)) : ∀ (n : Nat) (m : Mem) (x5 : Int32), RM_stiles_L236 x2 x3 x4 kx n m x5 = some R → E M_RM_stiles 236 [(0, .ref 133), (2, .int x2), (3, .int x3), (4, .int x4), (5, .int x5)] [] m (qI R.1 R.2) := by
  intro n
  induction n with
  | zero =>
    intro m x5 h
    exact absurd (show none = some R from h) (fun e => Option.some_ne_none R e.symm)
  | succ n ih =>
    intro m x5 h
    rw [RM_stiles_L236] at h
    refine E_iload (n := 238) 135 rfl rfl 4 rfl <| E_if_eq (n := 241) (t := 399) 136 rfl rfl rfl (fun hc => ?_) (fun hc => ?_)
    · have h := ifp h hc
      refine E_sub (lv' := [(0, .ref 133), (2, .int x2), (3, .int x3), (4, .int x4)]) [0, 1, 2, 3] rfl ?_
      exact hx m h
    · have h := ifn h hc
      refine E_iconst (v := 0) (n := 242) 137 rfl rfl icz_0 <| E_istore (lv' := [(0, .ref 133), (2, .int x2), (3, .int x3), (4, .int x4), (5, .int 0)]) (n := 244) 138 rfl rfl (Nat.le_of_ble_eq_true rfl) [1, 2, 3, 4, 0] rfl <| E_iconst (v := 0) (n := 245) 139 rfl rfl icz_0 <| E_istore (lv' := [(0, .ref 133), (2, .int x2), (3, .int x3), (4, .int x4), (5, .int 0), (6, .int 0)]) (n := 247) 140 rfl rfl (Nat.le_of_ble_eq_true rfl) [1, 2, 3, 4, 5, 0] rfl <| ?_
      refine RM_stiles_L247_ok x2 x3 x4 _ R ?_ FU m 0 0 h
      intro m2 y1 h
      refine E_goto (t := 236) 220 rfl rfl <| ?_
      exact ih m2 y1 h
theorem RM_stiles_L45_ok (x2 : Int32) (x3 : Int32) (kx : Mem → Option (Int32 × Mem)) (R : Int32 × Mem) (hx : ∀ (m : Mem), kx m = some R → E M_RM_stiles 405 [(0, .ref 133), (2, .int x2), (3, .int x3)] [] m (qI R.1 R.2)) : ∀ (n : Nat) (m : Mem) (x4 : Int32), RM_stiles_L45 x2 x3 kx n m x4 = some R → E M_RM_stiles 45 [(0, .ref 133), (2, .int x2), (3, .int x3), (4, .int x4)] [] m (qI R.1 R.2) := by
  intro n
  induction n with
  | zero =>
    intro m x4 h
    exact absurd (show none = some R from h) (fun e => Option.some_ne_none R e.symm)
  | succ n ih =>
    intro m x4 h
    rw [RM_stiles_L45] at h
    refine E_iload (n := 47) 29 rfl rfl 3 rfl <| E_iload_n (n := 48) 30 rfl rfl rfl 2 rfl <| E_icmp_ge (n := 51) (t := 405) 31 rfl rfl rfl (fun hc => ?_) (fun hc => ?_)
    · have h := ifp h hc
      refine E_sub (lv' := [(0, .ref 133), (2, .int x2), (3, .int x3)]) [0, 1, 2] rfl ?_
      exact hx m h
    · have h := ifn h hc
      refine E_iconst (v := 0) (n := 52) 32 rfl rfl icz_0 <| E_istore (lv' := [(0, .ref 133), (2, .int x2), (3, .int x3), (4, .int x4), (5, .int 0)]) (n := 54) 33 rfl rfl (Nat.le_of_ble_eq_true rfl) [1, 2, 3, 4, 0] rfl <| ?_
      refine RM_stiles_L54_ok x2 x3 x4 _ R ?_ FU m 0 h
      intro m1 h
      refine E_iconst (v := 1) (n := 234) 133 rfl rfl icz_1 <| E_istore (lv' := [(0, .ref 133), (2, .int x2), (3, .int x3), (4, .int x4), (5, .int 1)]) (n := 236) 134 rfl rfl (Nat.le_of_ble_eq_true rfl) [1, 2, 3, 4, 0] rfl <| ?_
      refine RM_stiles_L236_ok x2 x3 x4 _ R ?_ FU m1 1 h
      intro m2 h
      refine E_iinc (v := (x4 + 1)) (lv' := [(0, .ref 133), (2, .int x2), (3, .int x3), (4, .int (x4 + 1))]) (n := 402) 221 rfl rfl 3 rfl (by rw [icz_1]) (Nat.le_of_ble_eq_true rfl) [1, 2, 3, 0] rfl <| E_goto (t := 45) 222 rfl rfl <| ?_
      exact ih m2 (x4 + 1) h
theorem K_RM_stiles (m : Mem) (x1 : Int32) (R : Int32 × Mem) (h : RM_stiles m x1 = some R) : Mt M_RM_stiles [.ref 133, .int x1] m (qI R.1 R.2) := by
  refine Mt.of G_RM_stiles (Nat.le_of_ble_eq_true rfl) (E_sub (lv' := [(0, .ref 133), (1, .int x1)]) [0, 1] rfl ?_)
  unfold RM_stiles at h
  obtain ⟨m1, hm1, h⟩ := letM_ex h
  obtain ⟨v2, hq3, h⟩ := bI_ex h
  refine E_aload_n (n := 1) 0 rfl rfl rfl 0 rfl <| E_iconst (v := 0) (n := 2) 1 rfl rfl icz_0 <| E_pI (n := 5) 2 rfl rfl fp_12_1 sh_133 <| E_mem hm1 <| E_aload_n (n := 6) 3 rfl rfl rfl 0 rfl <| E_iload_n (n := 7) 4 rfl rfl rfl 1 rfl <| E_cV1r (n := 10) 5 rfl rfl co_12_256 rfl sh_133 rfl (K_RM_isLine m1 x1 _ hq3) <| E_if_eq (n := 13) (t := 24) 6 rfl rfl rfl (fun hc => ?_) (fun hc => ?_)
  · have h := ifp h hc
    refine E_iconst (v := (-1)) (n := 25) 13 rfl rfl icz_m1 <| E_ireturn 14 rfl rfl (eS h)
  · have h := ifn h hc
    obtain ⟨hc4, h⟩ := ift h
    refine E_aload_n (n := 14) 7 rfl rfl rfl 0 rfl <| E_gF (r := 135) (n := 17) 8 rfl rfl fg_12_33 sh_133 rfl <| E_iconst (v := 1) (n := 18) 9 rfl rfl icz_1 <| E_iald (n := 19) 10 rfl rfl sh_135 hc4 <| E_bipush (v := 6) (n := 21) 11 rfl rfl bpz_6 <| E_icmp_le (n := 24) (t := 26) 12 rfl rfl rfl (fun hc => ?_) (fun hc => ?_)
    · have h := ifp h hc
      obtain ⟨m5, hq6, h⟩ := bM_ex h
      obtain ⟨v7, hv7, h⟩ := letV_ex h
      obtain ⟨v8, hv8, h⟩ := letV_ex h
      refine E_aload_n (n := 27) 15 rfl rfl rfl 0 rfl <| E_iload_n (n := 28) 16 rfl rfl rfl 1 rfl <| E_cV1v (n := 31) 17 rfl rfl co_12_342 rfl sh_133 rfl (K_RM_parts m1 x1 _ hq6) <| E_aload_n (n := 32) 18 rfl rfl rfl 0 rfl <| E_gF (r := 135) (n := 35) 19 rfl rfl fg_12_33 sh_133 rfl <| E_iconst (v := 1) (n := 36) 20 rfl rfl icz_1 <| E_iald (n := 37) 21 rfl rfl sh_135 hc4 <| E_top hv7 <| E_istore_n (lv' := [(0, .ref 133), (1, .int x1), (2, .int v7)]) (n := 38) 22 rfl rfl rfl (Nat.le_of_ble_eq_true rfl) [1, 2, 0] rfl <| E_iconst (v := 1) (n := 39) 23 rfl rfl icz_1 <| E_iload_n (n := 40) 24 rfl rfl rfl 2 rfl <| E_jshl (n := 41) 25 rfl rfl <| E_top hv8 <| E_istore_n (lv' := [(0, .ref 133), (1, .int x1), (2, .int v7), (3, .int v8)]) (n := 42) 26 rfl rfl rfl (Nat.le_of_ble_eq_true rfl) [1, 2, 3, 0] rfl <| E_iconst (v := 1) (n := 43) 27 rfl rfl icz_1 <| E_istore (lv' := [(0, .ref 133), (1, .int x1), (2, .int v7), (3, .int v8), (4, .int 1)]) (n := 45) 28 rfl rfl (Nat.le_of_ble_eq_true rfl) [1, 2, 3, 4, 0] rfl <| ?_
      refine E_sub (lv' := [(0, .ref 133), (2, .int v7), (3, .int v8), (4, .int 1)]) [0, 2, 3, 4] rfl ?_
      refine RM_stiles_L45_ok v7 v8 _ R ?_ FU m5 1 h
      intro m9 h
      refine E_iload_n (n := 406) 223 rfl rfl rfl 1 rfl <| E_if_ne (n := 409) (t := 413) 224 rfl rfl rfl (fun hc => ?_) (fun hc => ?_)
      · have h := ifn h hc
        obtain ⟨hc10, h⟩ := ift h
        obtain ⟨hc11, h⟩ := ift h
        obtain ⟨hc12, h⟩ := ift h
        obtain ⟨hc13, h⟩ := ift h
        refine E_aload_n (n := 414) 227 rfl rfl rfl 0 rfl <| E_gF (r := 150) (n := 417) 228 rfl rfl fg_12_85 sh_133 rfl <| E_sipush (v := 400) (n := 420) 229 rfl rfl spz_400 <| E_iload_n (n := 421) 230 rfl rfl rfl 2 rfl <| E_iconst (v := 1) (n := 422) 231 rfl rfl icz_1 <| E_isub (n := 423) 232 rfl rfl <| E_imul (n := 424) 233 rfl rfl <| E_aload_n (n := 425) 234 rfl rfl rfl 0 rfl <| E_gF (r := 143) (n := 428) 235 rfl rfl fg_12_63 sh_133 rfl <| E_bipush (v := 20) (n := 430) 236 rfl rfl bpz_20 <| E_aload_n (n := 431) 237 rfl rfl rfl 0 rfl <| E_gF (r := 135) (n := 434) 238 rfl rfl fg_12_33 sh_133 rfl <| E_iconst (v := 3) (n := 435) 239 rfl rfl icz_3 <| E_iald (n := 436) 240 rfl rfl sh_135 hc10 <| E_imul (n := 437) 241 rfl rfl <| E_aload_n (n := 438) 242 rfl rfl rfl 0 rfl <| E_gF (r := 135) (n := 441) 243 rfl rfl fg_12_33 sh_133 rfl <| E_iconst (v := 2) (n := 442) 244 rfl rfl icz_2 <| E_iald (n := 443) 245 rfl rfl sh_135 hc11 <| E_iadd (n := 444) 246 rfl rfl <| E_iald (n := 445) 247 rfl rfl sh_143 hc12 <| E_iadd (n := 446) 248 rfl rfl <| E_iald (n := 447) 249 rfl rfl sh_150 hc13 <| ?_
        refine E_ireturn 250 rfl rfl (eS h)
      · have h := ifp h hc
        refine E_iconst (v := 0) (n := 410) 225 rfl rfl icz_0 <| E_goto (t := 447) 226 rfl rfl <| ?_
        refine E_ireturn 250 rfl rfl (eS h)
    · have h := ifn h hc
      refine E_iconst (v := (-1)) (n := 25) 13 rfl rfl icz_m1 <| E_ireturn 14 rfl rfl (eS h)
theorem RM_keep_L47_ok (kx : Mem → Option Mem) (R : Mem) (hx : ∀ (m : Mem), kx m = some R → E M_RM_keep 79 [(0, .ref 133)] [] m (qV R)) : ∀ (n : Nat) (m : Mem) (x1 : Int32), RM_keep_L47 kx n m x1 = some R → E M_RM_keep 47 [(0, .ref 133), (1, .int x1)] [] m (qV R) := by
  intro n
  induction n with
  | zero =>
    intro m x1 h
    exact absurd (show none = some R from h) (fun e => Option.some_ne_none R e.symm)
  | succ n ih =>
    intro m x1 h
    rw [RM_keep_L47] at h
    refine E_iload_n (n := 48) 26 rfl rfl rfl 1 rfl <| E_bipush (v := 116) (n := 50) 27 rfl rfl bpz_116 <| E_icmp_ge (n := 53) (t := 79) 28 rfl rfl rfl (fun hc => ?_) (fun hc => ?_)
    · have h := ifp h hc
      refine E_sub (lv' := [(0, .ref 133)]) [0] rfl ?_
      exact hx m h
    · have h := ifn h hc
      obtain ⟨hc1, h⟩ := ift h
      obtain ⟨hc2, h⟩ := ift h
      obtain ⟨m3, hm3, h⟩ := letM_ex h
      refine E_aload_n (n := 54) 29 rfl rfl rfl 0 rfl <| E_gF (r := 151) (n := 57) 30 rfl rfl fg_12_88 sh_133 rfl <| E_bipush (v := 116) (n := 59) 31 rfl rfl bpz_116 <| E_aload_n (n := 60) 32 rfl rfl rfl 0 rfl <| E_gI (n := 63) 33 rfl rfl fg_12_253 sh_133 <| E_imul (n := 64) 34 rfl rfl <| E_iload_n (n := 65) 35 rfl rfl rfl 1 rfl <| E_iadd (n := 66) 36 rfl rfl <| E_aload_n (n := 67) 37 rfl rfl rfl 0 rfl <| E_gF (r := 135) (n := 70) 38 rfl rfl fg_12_33 sh_133 rfl <| E_iload_n (n := 71) 39 rfl rfl rfl 1 rfl <| E_iald (n := 72) 40 rfl rfl sh_135 hc1 <| E_iast (n := 73) 41 rfl rfl sh_151 hc2 <| E_mem hm3 <| E_iinc (v := (x1 + 1)) (lv' := [(0, .ref 133), (1, .int (x1 + 1))]) (n := 76) 42 rfl rfl 1 rfl (by rw [icz_1]) (Nat.le_of_ble_eq_true rfl) [1, 0] rfl <| E_goto (t := 47) 43 rfl rfl <| ?_
      exact ih m3 (x1 + 1) h
theorem RM_keep_J45_ok (m : Mem) (R : Mem) (h : RM_keep_J45 m = some R) : E M_RM_keep 45 [(0, .ref 133)] [] m (qV R) := by
  unfold RM_keep_J45 at h
  refine E_iconst (v := 0) (n := 46) 24 rfl rfl icz_0 <| E_istore_n (lv' := [(0, .ref 133), (1, .int 0)]) (n := 47) 25 rfl rfl rfl (Nat.le_of_ble_eq_true rfl) [1, 0] rfl <| ?_
  refine RM_keep_L47_ok _ R ?_ FU m 0 h
  intro m1 h
  obtain ⟨m2, hm2, h⟩ := letM_ex h
  refine E_aload_n (n := 80) 44 rfl rfl rfl 0 rfl <| E_dup (n := 81) 45 rfl rfl rfl <| E_gI (n := 84) 46 rfl rfl fg_12_253 sh_133 <| E_iconst (v := 1) (n := 85) 47 rfl rfl icz_1 <| E_iadd (n := 86) 48 rfl rfl <| E_pI (n := 89) 49 rfl rfl fp_12_253 sh_133 <| E_mem hm2 <| E_return 50 rfl rfl (eV h)
theorem RM_keep_L11_ok (kx : Mem → Option Mem) (R : Mem) (hx : ∀ (m : Mem), kx m = some R → E M_RM_keep 39 [(0, .ref 133)] [] m (qV R)) : ∀ (n : Nat) (m : Mem) (x1 : Int32), RM_keep_L11 kx n m x1 = some R → E M_RM_keep 11 [(0, .ref 133), (1, .int x1)] [] m (qV R) := by
  intro n
  induction n with
  | zero =>
    intro m x1 h
    exact absurd (show none = some R from h) (fun e => Option.some_ne_none R e.symm)
  | succ n ih =>
    intro m x1 h
    rw [RM_keep_L11] at h
    refine E_iload_n (n := 12) 6 rfl rfl rfl 1 rfl <| E_sipush (v := 812) (n := 15) 7 rfl rfl spz_812 <| E_icmp_ge (n := 18) (t := 39) 8 rfl rfl rfl (fun hc => ?_) (fun hc => ?_)
    · have h := ifp h hc
      refine E_sub (lv' := [(0, .ref 133)]) [0] rfl ?_
      exact hx m h
    · have h := ifn h hc
      obtain ⟨hc1, h⟩ := ift h
      obtain ⟨hc2, h⟩ := ift h
      obtain ⟨m3, hm3, h⟩ := letM_ex h
      refine E_aload_n (n := 19) 9 rfl rfl rfl 0 rfl <| E_gF (r := 151) (n := 22) 10 rfl rfl fg_12_88 sh_133 rfl <| E_iload_n (n := 23) 11 rfl rfl rfl 1 rfl <| E_aload_n (n := 24) 12 rfl rfl rfl 0 rfl <| E_gF (r := 151) (n := 27) 13 rfl rfl fg_12_88 sh_133 rfl <| E_iload_n (n := 28) 14 rfl rfl rfl 1 rfl <| E_bipush (v := 116) (n := 30) 15 rfl rfl bpz_116 <| E_iadd (n := 31) 16 rfl rfl <| E_iald (n := 32) 17 rfl rfl sh_151 hc1 <| E_iast (n := 33) 18 rfl rfl sh_151 hc2 <| E_mem hm3 <| E_iinc (v := (x1 + 1)) (lv' := [(0, .ref 133), (1, .int (x1 + 1))]) (n := 36) 19 rfl rfl 1 rfl (by rw [icz_1]) (Nat.le_of_ble_eq_true rfl) [1, 0] rfl <| E_goto (t := 11) 20 rfl rfl <| ?_
      exact ih m3 (x1 + 1) h
theorem K_RM_keep (m : Mem) (R : Mem) (h : RM_keep m = some R) : Mt M_RM_keep [.ref 133] m (qV R) := by
  refine Mt.of G_RM_keep (Nat.le_of_ble_eq_true rfl) (E_sub (lv' := [(0, .ref 133)]) [0] rfl ?_)
  unfold RM_keep at h
  refine E_aload_n (n := 1) 0 rfl rfl rfl 0 rfl <| E_gI (n := 4) 1 rfl rfl fg_12_253 sh_133 <| E_bipush (v := 8) (n := 6) 2 rfl rfl bpz_8 <| E_icmp_ne (n := 9) (t := 45) 3 rfl rfl rfl (fun hc => ?_) (fun hc => ?_)
  · have h := ifn h hc
    exact RM_keep_J45_ok m _ h
  · have h := ifp h hc
    refine E_iconst (v := 0) (n := 10) 4 rfl rfl icz_0 <| E_istore_n (lv' := [(0, .ref 133), (1, .int 0)]) (n := 11) 5 rfl rfl rfl (Nat.le_of_ble_eq_true rfl) [1, 0] rfl <| ?_
    refine RM_keep_L11_ok _ R ?_ FU m 0 h
    intro m1 h
    obtain ⟨m2, hm2, h⟩ := letM_ex h
    refine E_aload_n (n := 40) 21 rfl rfl rfl 0 rfl <| E_bipush (v := 7) (n := 42) 22 rfl rfl bpz_7 <| E_pI (n := 45) 23 rfl rfl fp_12_253 sh_133 <| E_mem hm2 <| ?_
    exact RM_keep_J45_ok m2 _ h
theorem RM_undo_L26_ok (kx : Mem → Option (Int32 × Mem)) (R : Int32 × Mem) (hx : ∀ (m : Mem), kx m = some R → E M_RM_undo 58 [(0, .ref 133)] [] m (qI R.1 R.2)) : ∀ (n : Nat) (m : Mem) (x1 : Int32), RM_undo_L26 kx n m x1 = some R → E M_RM_undo 26 [(0, .ref 133), (1, .int x1)] [] m (qI R.1 R.2) := by
  intro n
  induction n with
  | zero =>
    intro m x1 h
    exact absurd (show none = some R from h) (fun e => Option.some_ne_none R e.symm)
  | succ n ih =>
    intro m x1 h
    rw [RM_undo_L26] at h
    refine E_iload_n (n := 27) 16 rfl rfl rfl 1 rfl <| E_bipush (v := 116) (n := 29) 17 rfl rfl bpz_116 <| E_icmp_ge (n := 32) (t := 58) 18 rfl rfl rfl (fun hc => ?_) (fun hc => ?_)
    · have h := ifp h hc
      refine E_sub (lv' := [(0, .ref 133)]) [0] rfl ?_
      exact hx m h
    · have h := ifn h hc
      obtain ⟨hc1, h⟩ := ift h
      obtain ⟨hc2, h⟩ := ift h
      obtain ⟨m3, hm3, h⟩ := letM_ex h
      refine E_aload_n (n := 33) 19 rfl rfl rfl 0 rfl <| E_gF (r := 135) (n := 36) 20 rfl rfl fg_12_33 sh_133 rfl <| E_iload_n (n := 37) 21 rfl rfl rfl 1 rfl <| E_aload_n (n := 38) 22 rfl rfl rfl 0 rfl <| E_gF (r := 151) (n := 41) 23 rfl rfl fg_12_88 sh_133 rfl <| E_bipush (v := 116) (n := 43) 24 rfl rfl bpz_116 <| E_aload_n (n := 44) 25 rfl rfl rfl 0 rfl <| E_gI (n := 47) 26 rfl rfl fg_12_253 sh_133 <| E_imul (n := 48) 27 rfl rfl <| E_iload_n (n := 49) 28 rfl rfl rfl 1 rfl <| E_iadd (n := 50) 29 rfl rfl <| E_iald (n := 51) 30 rfl rfl sh_151 hc1 <| E_iast (n := 52) 31 rfl rfl sh_135 hc2 <| E_mem hm3 <| E_iinc (v := (x1 + 1)) (lv' := [(0, .ref 133), (1, .int (x1 + 1))]) (n := 55) 32 rfl rfl 1 rfl (by rw [icz_1]) (Nat.le_of_ble_eq_true rfl) [1, 0] rfl <| E_goto (t := 26) 33 rfl rfl <| ?_
      exact ih m3 (x1 + 1) h
theorem K_RM_undo (m : Mem) (R : Int32 × Mem) (h : RM_undo m = some R) : Mt M_RM_undo [.ref 133] m (qI R.1 R.2) := by
  refine Mt.of G_RM_undo (Nat.le_of_ble_eq_true rfl) (E_sub (lv' := [(0, .ref 133)]) [0] rfl ?_)
  unfold RM_undo at h
  obtain ⟨m1, hm1, h⟩ := letM_ex h
  refine E_aload_n (n := 1) 0 rfl rfl rfl 0 rfl <| E_iconst (v := 0) (n := 2) 1 rfl rfl icz_0 <| E_pI (n := 5) 2 rfl rfl fp_12_1 sh_133 <| E_mem hm1 <| E_aload_n (n := 6) 3 rfl rfl rfl 0 rfl <| E_gI (n := 9) 4 rfl rfl fg_12_253 sh_133 <| E_if_ne (n := 12) (t := 14) 5 rfl rfl rfl (fun hc => ?_) (fun hc => ?_)
  · have h := ifn h hc
    obtain ⟨m2, hm2, h⟩ := letM_ex h
    refine E_aload_n (n := 15) 8 rfl rfl rfl 0 rfl <| E_dup (n := 16) 9 rfl rfl rfl <| E_gI (n := 19) 10 rfl rfl fg_12_253 sh_133 <| E_iconst (v := 1) (n := 20) 11 rfl rfl icz_1 <| E_isub (n := 21) 12 rfl rfl <| E_pI (n := 24) 13 rfl rfl fp_12_253 sh_133 <| E_mem hm2 <| E_iconst (v := 0) (n := 25) 14 rfl rfl icz_0 <| E_istore_n (lv' := [(0, .ref 133), (1, .int 0)]) (n := 26) 15 rfl rfl rfl (Nat.le_of_ble_eq_true rfl) [1, 0] rfl <| ?_
    refine RM_undo_L26_ok _ R ?_ FU m2 0 h
    intro m3 h
    refine E_aload_n (n := 59) 34 rfl rfl rfl 0 rfl <| E_gI (n := 62) 35 rfl rfl fg_12_253 sh_133 <| E_ireturn 36 rfl rfl (eS h)
  · have h := ifp h hc
    refine E_iconst (v := (-1)) (n := 13) 6 rfl rfl icz_m1 <| E_ireturn 7 rfl rfl (eS h)
theorem K_RM_isAt (m : Mem) (x1 : Int32) (x2 : Int32) (x3 : Int32) (x4 : Int32) (R : Int32) (h : RM_isAt m x1 x2 x3 x4 = some R) : Mt M_RM_isAt [.ref 133, .int x1, .int x2, .int x3, .int x4] m (qI R m) := by
  refine Mt.of G_RM_isAt (Nat.le_of_ble_eq_true rfl) (E_sub (lv' := [(0, .ref 133), (1, .int x1), (2, .int x2), (3, .int x3), (4, .int x4)]) [0, 1, 2, 3, 4] rfl ?_)
  unfold RM_isAt at h
  obtain ⟨hc1, h⟩ := ift h
  refine E_aload_n (n := 1) 0 rfl rfl rfl 0 rfl <| E_gF (r := 135) (n := 4) 1 rfl rfl fg_12_33 sh_133 rfl <| E_bipush (v := 14) (n := 6) 2 rfl rfl bpz_14 <| E_bipush (v := 24) (n := 8) 3 rfl rfl bpz_24 <| E_iload_n (n := 9) 4 rfl rfl rfl 1 rfl <| E_imul (n := 10) 5 rfl rfl <| E_iadd (n := 11) 6 rfl rfl <| E_iconst (v := 2) (n := 12) 7 rfl rfl icz_2 <| E_iload_n (n := 13) 8 rfl rfl rfl 2 rfl <| E_imul (n := 14) 9 rfl rfl <| E_iadd (n := 15) 10 rfl rfl <| E_iald (n := 16) 11 rfl rfl sh_135 hc1 <| E_iload_n (n := 17) 12 rfl rfl rfl 3 rfl <| E_icmp_ne (n := 20) (t := 47) 13 rfl rfl rfl (fun hc => ?_) (fun hc => ?_)
  · have h := ifn h hc
    refine E_iconst (v := 0) (n := 48) 32 rfl rfl icz_0 <| ?_
    refine E_zreturn 33 rfl rfl z0 (eP h)
  · have h := ifp h hc
    obtain ⟨hc2, h⟩ := ift h
    refine E_aload_n (n := 21) 14 rfl rfl rfl 0 rfl <| E_gF (r := 135) (n := 24) 15 rfl rfl fg_12_33 sh_133 rfl <| E_bipush (v := 14) (n := 26) 16 rfl rfl bpz_14 <| E_bipush (v := 24) (n := 28) 17 rfl rfl bpz_24 <| E_iload_n (n := 29) 18 rfl rfl rfl 1 rfl <| E_imul (n := 30) 19 rfl rfl <| E_iadd (n := 31) 20 rfl rfl <| E_iconst (v := 2) (n := 32) 21 rfl rfl icz_2 <| E_iload_n (n := 33) 22 rfl rfl rfl 2 rfl <| E_imul (n := 34) 23 rfl rfl <| E_iadd (n := 35) 24 rfl rfl <| E_iconst (v := 1) (n := 36) 25 rfl rfl icz_1 <| E_iadd (n := 37) 26 rfl rfl <| E_iald (n := 38) 27 rfl rfl sh_135 hc2 <| E_iload (n := 40) 28 rfl rfl 4 rfl <| E_icmp_ne (n := 43) (t := 47) 29 rfl rfl rfl (fun hc => ?_) (fun hc => ?_)
    · have h := ifn h hc
      refine E_iconst (v := 0) (n := 48) 32 rfl rfl icz_0 <| ?_
      refine E_zreturn 33 rfl rfl z0 (eP h)
    · have h := ifp h hc
      refine E_iconst (v := 1) (n := 44) 30 rfl rfl icz_1 <| E_goto (t := 48) 31 rfl rfl <| ?_
      refine E_zreturn 33 rfl rfl z1 (eP h)
theorem K_RM_canMove (m : Mem) (x1 : Int32) (x2 : Int32) (x3 : Int32) (x4 : Int32) (R : Int32) (h : RM_canMove m x1 x2 x3 x4 = some R) : Mt M_RM_canMove [.ref 133, .int x1, .int x2, .int x3, .int x4] m (qI R m) := by
  refine Mt.of G_RM_canMove (Nat.le_of_ble_eq_true rfl) (E_sub (lv' := [(0, .ref 133), (1, .int x1), (2, .int x2), (3, .int x3), (4, .int x4)]) [0, 1, 2, 3, 4] rfl ?_)
  unfold RM_canMove at h
  obtain ⟨hc1, h⟩ := ift h
  obtain ⟨v2, hv2, h⟩ := letV_ex h
  refine E_aload_n (n := 1) 0 rfl rfl rfl 0 rfl <| E_gF (r := 135) (n := 4) 1 rfl rfl fg_12_33 sh_133 rfl <| E_bipush (v := 11) (n := 6) 2 rfl rfl bpz_11 <| E_iload_n (n := 7) 3 rfl rfl rfl 1 rfl <| E_iadd (n := 8) 4 rfl rfl <| E_iald (n := 9) 5 rfl rfl sh_135 hc1 <| E_top hv2 <| E_istore (lv' := [(0, .ref 133), (1, .int x1), (2, .int x2), (3, .int x3), (4, .int x4), (5, .int v2)]) (n := 11) 6 rfl rfl (Nat.le_of_ble_eq_true rfl) [1, 2, 3, 4, 5, 0] rfl <| E_iload_n (n := 12) 7 rfl rfl rfl 3 rfl <| E_iload (n := 14) 8 rfl rfl 4 rfl <| E_dS2r (n := 17) 9 rfl rfl co_12_310 rfl rfl (K_RM_isPoint m x3 x4 _ rfl) <| E_if_eq (n := 20) (t := 73) 10 rfl rfl rfl (fun hc => ?_) (fun hc => ?_)
  · have h := ifp h hc
    refine E_iconst (v := 0) (n := 74) 44 rfl rfl icz_0 <| ?_
    refine E_zreturn 45 rfl rfl z0 (eP h)
  · have h := ifn h hc
    obtain ⟨v3, hq4, h⟩ := bI_ex h
    refine E_aload_n (n := 21) 11 rfl rfl rfl 0 rfl <| E_iload_n (n := 22) 12 rfl rfl rfl 1 rfl <| E_iload_n (n := 23) 13 rfl rfl rfl 2 rfl <| E_iload_n (n := 24) 14 rfl rfl rfl 3 rfl <| E_iload (n := 26) 15 rfl rfl 4 rfl <| E_cV4r (n := 29) 16 rfl rfl co_12_362 rfl sh_133 rfl (K_RM_isAt m x1 x2 x3 x4 _ hq4) <| E_if_ne (n := 32) (t := 73) 17 rfl rfl rfl (fun hc => ?_) (fun hc => ?_)
    · have h := ifn h hc
      refine E_iconst (v := 0) (n := 74) 44 rfl rfl icz_0 <| ?_
      refine E_zreturn 45 rfl rfl z0 (eP h)
    · have h := ifp h hc
      obtain ⟨hc5, h⟩ := ift h
      obtain ⟨v6, hq7, h⟩ := bI_ex h
      refine E_aload_n (n := 33) 18 rfl rfl rfl 0 rfl <| E_iload_n (n := 34) 19 rfl rfl rfl 1 rfl <| E_iload_n (n := 35) 20 rfl rfl rfl 2 rfl <| E_iconst (v := 1) (n := 36) 21 rfl rfl icz_1 <| E_iadd (n := 37) 22 rfl rfl <| E_iload (n := 39) 23 rfl rfl 5 rfl <| E_irm (n := 40) 24 rfl rfl hc5 <| E_iload_n (n := 41) 25 rfl rfl rfl 3 rfl <| E_iload (n := 43) 26 rfl rfl 4 rfl <| E_cV4r (n := 46) 27 rfl rfl co_12_362 rfl sh_133 rfl (K_RM_isAt m x1 (irm (x2 + 1) v2) x3 x4 _ hq7) <| E_if_ne (n := 49) (t := 73) 28 rfl rfl rfl (fun hc => ?_) (fun hc => ?_)
      · have h := ifn h hc
        refine E_iconst (v := 0) (n := 74) 44 rfl rfl icz_0 <| ?_
        refine E_zreturn 45 rfl rfl z0 (eP h)
      · have h := ifp h hc
        obtain ⟨v8, hq9, h⟩ := bI_ex h
        refine E_aload_n (n := 50) 29 rfl rfl rfl 0 rfl <| E_iload_n (n := 51) 30 rfl rfl rfl 1 rfl <| E_iload_n (n := 52) 31 rfl rfl rfl 2 rfl <| E_iload (n := 54) 32 rfl rfl 5 rfl <| E_iadd (n := 55) 33 rfl rfl <| E_iconst (v := 1) (n := 56) 34 rfl rfl icz_1 <| E_isub (n := 57) 35 rfl rfl <| E_iload (n := 59) 36 rfl rfl 5 rfl <| E_irm (n := 60) 37 rfl rfl hc5 <| E_iload_n (n := 61) 38 rfl rfl rfl 3 rfl <| E_iload (n := 63) 39 rfl rfl 4 rfl <| E_cV4r (n := 66) 40 rfl rfl co_12_362 rfl sh_133 rfl (K_RM_isAt m x1 (irm ((x2 + v2) - 1) v2) x3 x4 _ hq9) <| E_if_ne (n := 69) (t := 73) 41 rfl rfl rfl (fun hc => ?_) (fun hc => ?_)
        · have h := ifn h hc
          refine E_iconst (v := 0) (n := 74) 44 rfl rfl icz_0 <| ?_
          refine E_zreturn 45 rfl rfl z0 (eP h)
        · have h := ifp h hc
          refine E_iconst (v := 1) (n := 70) 42 rfl rfl icz_1 <| E_goto (t := 74) 43 rfl rfl <| ?_
          refine E_zreturn 45 rfl rfl z1 (eP h)
theorem K_RM_puts (m : Mem) (x1 : Int32) (x2 : Int32) (x3 : Int32) (x4 : Int32) (R : Mem) (h : RM_puts m x1 x2 x3 x4 = some R) : Mt M_RM_puts [.ref 133, .int x1, .int x2, .int x3, .int x4] m (qV R) := by
  refine Mt.of G_RM_puts (Nat.le_of_ble_eq_true rfl) (E_sub (lv' := [(0, .ref 133), (1, .int x1), (2, .int x2), (3, .int x3), (4, .int x4)]) [0, 1, 2, 3, 4] rfl ?_)
  unfold RM_puts at h
  obtain ⟨hc1, h⟩ := ift h
  obtain ⟨m2, hm2, h⟩ := letM_ex h
  obtain ⟨hc3, h⟩ := ift h
  obtain ⟨m4, hm4, h⟩ := letM_ex h
  refine E_aload_n (n := 1) 0 rfl rfl rfl 0 rfl <| E_gF (r := 135) (n := 4) 1 rfl rfl fg_12_33 sh_133 rfl <| E_bipush (v := 14) (n := 6) 2 rfl rfl bpz_14 <| E_bipush (v := 24) (n := 8) 3 rfl rfl bpz_24 <| E_iload_n (n := 9) 4 rfl rfl rfl 1 rfl <| E_imul (n := 10) 5 rfl rfl <| E_iadd (n := 11) 6 rfl rfl <| E_iconst (v := 2) (n := 12) 7 rfl rfl icz_2 <| E_iload_n (n := 13) 8 rfl rfl rfl 2 rfl <| E_imul (n := 14) 9 rfl rfl <| E_iadd (n := 15) 10 rfl rfl <| E_iload_n (n := 16) 11 rfl rfl rfl 3 rfl <| E_iast (n := 17) 12 rfl rfl sh_135 hc1 <| E_mem hm2 <| E_aload_n (n := 18) 13 rfl rfl rfl 0 rfl <| E_gF (r := 135) (n := 21) 14 rfl rfl fg_12_33 sh_133 rfl <| E_bipush (v := 14) (n := 23) 15 rfl rfl bpz_14 <| E_bipush (v := 24) (n := 25) 16 rfl rfl bpz_24 <| E_iload_n (n := 26) 17 rfl rfl rfl 1 rfl <| E_imul (n := 27) 18 rfl rfl <| E_iadd (n := 28) 19 rfl rfl <| E_iconst (v := 2) (n := 29) 20 rfl rfl icz_2 <| E_iload_n (n := 30) 21 rfl rfl rfl 2 rfl <| E_imul (n := 31) 22 rfl rfl <| E_iadd (n := 32) 23 rfl rfl <| E_iconst (v := 1) (n := 33) 24 rfl rfl icz_1 <| E_iadd (n := 34) 25 rfl rfl <| E_iload (n := 36) 26 rfl rfl 4 rfl <| E_iast (n := 37) 27 rfl rfl sh_135 hc3 <| E_mem hm4 <| E_return 28 rfl rfl (eV h)
theorem K_RM_move (m : Mem) (x1 : Int32) (x2 : Int32) (x3 : Int32) (x4 : Int32) (R : Int32 × Mem) (h : RM_move m x1 x2 x3 x4 = some R) : Mt M_RM_move [.ref 133, .int x1, .int x2, .int x3, .int x4] m (qI R.1 R.2) := by
  refine Mt.of G_RM_move (Nat.le_of_ble_eq_true rfl) (E_sub (lv' := [(0, .ref 133), (1, .int x1), (2, .int x2), (3, .int x3), (4, .int x4)]) [0, 1, 2, 3, 4] rfl ?_)
  unfold RM_move at h
  obtain ⟨m1, hm1, h⟩ := letM_ex h
  obtain ⟨v2, hq3, h⟩ := bI_ex h
  refine E_aload_n (n := 1) 0 rfl rfl rfl 0 rfl <| E_iconst (v := 0) (n := 2) 1 rfl rfl icz_0 <| E_pI (n := 5) 2 rfl rfl fp_12_1 sh_133 <| E_mem hm1 <| E_aload_n (n := 6) 3 rfl rfl rfl 0 rfl <| E_iload_n (n := 7) 4 rfl rfl rfl 1 rfl <| E_iload_n (n := 8) 5 rfl rfl rfl 2 rfl <| E_cV2r (n := 11) 6 rfl rfl co_12_288 rfl sh_133 rfl (K_RM_isCorner m1 x1 x2 _ hq3) <| E_if_eq (n := 14) (t := 26) 7 rfl rfl rfl (fun hc => ?_) (fun hc => ?_)
  · have h := ifp h hc
    refine E_iconst (v := 0) (n := 27) 15 rfl rfl icz_0 <| E_zreturn 16 rfl rfl z0 (eS h)
  · have h := ifn h hc
    obtain ⟨v4, hq5, h⟩ := bI_ex h
    refine E_aload_n (n := 15) 8 rfl rfl rfl 0 rfl <| E_iload_n (n := 16) 9 rfl rfl rfl 1 rfl <| E_iload_n (n := 17) 10 rfl rfl rfl 2 rfl <| E_iload_n (n := 18) 11 rfl rfl rfl 3 rfl <| E_iload (n := 20) 12 rfl rfl 4 rfl <| E_cV4r (n := 23) 13 rfl rfl co_12_366 rfl sh_133 rfl (K_RM_canMove m1 x1 x2 x3 x4 _ hq5) <| E_if_ne (n := 26) (t := 28) 14 rfl rfl rfl (fun hc => ?_) (fun hc => ?_)
    · have h := ifn h hc
      obtain ⟨m6, hq7, h⟩ := bM_ex h
      obtain ⟨m8, hq9, h⟩ := bM_ex h
      obtain ⟨hc10, h⟩ := ift h
      obtain ⟨m11, hm11, h⟩ := letM_ex h
      refine E_aload_n (n := 29) 17 rfl rfl rfl 0 rfl <| E_cV0v (n := 32) 18 rfl rfl co_12_369 rfl sh_133 rfl (K_RM_keep m1 _ hq7) <| E_aload_n (n := 33) 19 rfl rfl rfl 0 rfl <| E_iload_n (n := 34) 20 rfl rfl rfl 1 rfl <| E_iload_n (n := 35) 21 rfl rfl rfl 2 rfl <| E_iload_n (n := 36) 22 rfl rfl rfl 3 rfl <| E_iload (n := 38) 23 rfl rfl 4 rfl <| E_cV4v (n := 41) 24 rfl rfl co_12_372 rfl sh_133 rfl (K_RM_puts m6 x1 x2 x3 x4 _ hq9) <| E_aload_n (n := 42) 25 rfl rfl rfl 0 rfl <| E_gF (r := 135) (n := 45) 26 rfl rfl fg_12_33 sh_133 rfl <| E_bipush (v := 6) (n := 47) 27 rfl rfl bpz_6 <| E_dup2 (n := 48) 28 rfl rfl rfl rfl <| E_iald (n := 49) 29 rfl rfl sh_135 hc10 <| E_iconst (v := 1) (n := 50) 30 rfl rfl icz_1 <| E_iadd (n := 51) 31 rfl rfl <| E_iast (n := 52) 32 rfl rfl sh_135 hc10 <| E_mem hm11 <| E_iconst (v := 1) (n := 53) 33 rfl rfl icz_1 <| E_zreturn 34 rfl rfl z1 (eS h)
    · have h := ifp h hc
      refine E_iconst (v := 0) (n := 27) 15 rfl rfl icz_0 <| E_zreturn 16 rfl rfl z0 (eS h)
theorem RM_shift_L48_ok (x1 : Int32) (x2 : Int32) (x3 : Int32) (kx : Mem → Option (Int32 × Mem)) (R : Int32 × Mem) (hx : ∀ (m : Mem), kx m = some R → E M_RM_shift 116 [(0, .ref 133), (1, .int x1), (2, .int x2), (3, .int x3)] [] m (qI R.1 R.2)) : ∀ (n : Nat) (m : Mem) (x4 : Int32), RM_shift_L48 x1 x2 x3 kx n m x4 = some R → E M_RM_shift 48 [(0, .ref 133), (1, .int x1), (2, .int x2), (3, .int x3), (4, .int x4)] [] m (qI R.1 R.2) := by
  intro n
  induction n with
  | zero =>
    intro m x4 h
    exact absurd (show none = some R from h) (fun e => Option.some_ne_none R e.symm)
  | succ n ih =>
    intro m x4 h
    rw [RM_shift_L48] at h
    obtain ⟨hc1, h⟩ := ift h
    refine E_iload (n := 50) 25 rfl rfl 4 rfl <| E_aload_n (n := 51) 26 rfl rfl rfl 0 rfl <| E_gF (r := 135) (n := 54) 27 rfl rfl fg_12_33 sh_133 rfl <| E_bipush (v := 11) (n := 56) 28 rfl rfl bpz_11 <| E_iload_n (n := 57) 29 rfl rfl rfl 1 rfl <| E_iadd (n := 58) 30 rfl rfl <| E_iald (n := 59) 31 rfl rfl sh_135 hc1 <| E_icmp_ge (n := 62) (t := 116) 32 rfl rfl rfl (fun hc => ?_) (fun hc => ?_)
    · have h := ifp h hc
      refine E_sub (lv' := [(0, .ref 133), (1, .int x1), (2, .int x2), (3, .int x3)]) [0, 1, 2, 3] rfl ?_
      exact hx m h
    · have h := ifn h hc
      obtain ⟨hc2, h⟩ := ift h
      obtain ⟨hc3, h⟩ := ift h
      refine E_aload_n (n := 63) 33 rfl rfl rfl 0 rfl <| E_gF (r := 135) (n := 66) 34 rfl rfl fg_12_33 sh_133 rfl <| E_bipush (v := 14) (n := 68) 35 rfl rfl bpz_14 <| E_bipush (v := 24) (n := 70) 36 rfl rfl bpz_24 <| E_iload_n (n := 71) 37 rfl rfl rfl 1 rfl <| E_imul (n := 72) 38 rfl rfl <| E_iadd (n := 73) 39 rfl rfl <| E_iconst (v := 2) (n := 74) 40 rfl rfl icz_2 <| E_iload (n := 76) 41 rfl rfl 4 rfl <| E_imul (n := 77) 42 rfl rfl <| E_iadd (n := 78) 43 rfl rfl <| E_iald (n := 79) 44 rfl rfl sh_135 hc2 <| E_iload_n (n := 80) 45 rfl rfl rfl 2 rfl <| E_iadd (n := 81) 46 rfl rfl <| E_aload_n (n := 82) 47 rfl rfl rfl 0 rfl <| E_gF (r := 135) (n := 85) 48 rfl rfl fg_12_33 sh_133 rfl <| E_bipush (v := 14) (n := 87) 49 rfl rfl bpz_14 <| E_bipush (v := 24) (n := 89) 50 rfl rfl bpz_24 <| E_iload_n (n := 90) 51 rfl rfl rfl 1 rfl <| E_imul (n := 91) 52 rfl rfl <| E_iadd (n := 92) 53 rfl rfl <| E_iconst (v := 2) (n := 93) 54 rfl rfl icz_2 <| E_iload (n := 95) 55 rfl rfl 4 rfl <| E_imul (n := 96) 56 rfl rfl <| E_iadd (n := 97) 57 rfl rfl <| E_iconst (v := 1) (n := 98) 58 rfl rfl icz_1 <| E_iadd (n := 99) 59 rfl rfl <| E_iald (n := 100) 60 rfl rfl sh_135 hc3 <| E_iload_n (n := 101) 61 rfl rfl rfl 3 rfl <| E_iadd (n := 102) 62 rfl rfl <| E_dS2r (n := 105) 63 rfl rfl co_12_310 rfl rfl (K_RM_isPoint m ((gI m 135 (ixn ((14 + (24 * x1)) + (2 * x4)))) + x2) ((gI m 135 (ixn (((14 + (24 * x1)) + (2 * x4)) + 1))) + x3) _ rfl) <| E_if_ne (n := 108) (t := 110) 64 rfl rfl rfl (fun hc => ?_) (fun hc => ?_)
      · have h := ifn h hc
        refine E_iinc (v := (x4 + 1)) (lv' := [(0, .ref 133), (1, .int x1), (2, .int x2), (3, .int x3), (4, .int (x4 + 1))]) (n := 113) 67 rfl rfl 4 rfl (by rw [icz_1]) (Nat.le_of_ble_eq_true rfl) [1, 2, 3, 4, 0] rfl <| E_goto (t := 48) 68 rfl rfl <| ?_
        exact ih m (x4 + 1) h
      · have h := ifp h hc
        refine E_iconst (v := 0) (n := 109) 65 rfl rfl icz_0 <| E_zreturn 66 rfl rfl z0 (eS h)
theorem RM_shift_L123_ok (x1 : Int32) (x2 : Int32) (x3 : Int32) (kx : Mem → Option (Int32 × Mem)) (R : Int32 × Mem) (hx : ∀ (m : Mem), kx m = some R → E M_RM_shift 190 [(0, .ref 133), (1, .int x1)] [] m (qI R.1 R.2)) : ∀ (n : Nat) (m : Mem) (x4 : Int32), RM_shift_L123 x1 x2 x3 kx n m x4 = some R → E M_RM_shift 123 [(0, .ref 133), (1, .int x1), (2, .int x2), (3, .int x3), (4, .int x4)] [] m (qI R.1 R.2) := by
  intro n
  induction n with
  | zero =>
    intro m x4 h
    exact absurd (show none = some R from h) (fun e => Option.some_ne_none R e.symm)
  | succ n ih =>
    intro m x4 h
    rw [RM_shift_L123] at h
    obtain ⟨hc1, h⟩ := ift h
    refine E_iload (n := 125) 73 rfl rfl 4 rfl <| E_aload_n (n := 126) 74 rfl rfl rfl 0 rfl <| E_gF (r := 135) (n := 129) 75 rfl rfl fg_12_33 sh_133 rfl <| E_bipush (v := 11) (n := 131) 76 rfl rfl bpz_11 <| E_iload_n (n := 132) 77 rfl rfl rfl 1 rfl <| E_iadd (n := 133) 78 rfl rfl <| E_iald (n := 134) 79 rfl rfl sh_135 hc1 <| E_icmp_ge (n := 137) (t := 190) 80 rfl rfl rfl (fun hc => ?_) (fun hc => ?_)
    · have h := ifp h hc
      refine E_sub (lv' := [(0, .ref 133), (1, .int x1)]) [0, 1] rfl ?_
      exact hx m h
    · have h := ifn h hc
      obtain ⟨hc2, h⟩ := ift h
      obtain ⟨hc3, h⟩ := ift h
      obtain ⟨m4, hq5, h⟩ := bM_ex h
      refine E_aload_n (n := 138) 81 rfl rfl rfl 0 rfl <| E_iload_n (n := 139) 82 rfl rfl rfl 1 rfl <| E_iload (n := 141) 83 rfl rfl 4 rfl <| E_aload_n (n := 142) 84 rfl rfl rfl 0 rfl <| E_gF (r := 135) (n := 145) 85 rfl rfl fg_12_33 sh_133 rfl <| E_bipush (v := 14) (n := 147) 86 rfl rfl bpz_14 <| E_bipush (v := 24) (n := 149) 87 rfl rfl bpz_24 <| E_iload_n (n := 150) 88 rfl rfl rfl 1 rfl <| E_imul (n := 151) 89 rfl rfl <| E_iadd (n := 152) 90 rfl rfl <| E_iconst (v := 2) (n := 153) 91 rfl rfl icz_2 <| E_iload (n := 155) 92 rfl rfl 4 rfl <| E_imul (n := 156) 93 rfl rfl <| E_iadd (n := 157) 94 rfl rfl <| E_iald (n := 158) 95 rfl rfl sh_135 hc2 <| E_iload_n (n := 159) 96 rfl rfl rfl 2 rfl <| E_iadd (n := 160) 97 rfl rfl <| E_aload_n (n := 161) 98 rfl rfl rfl 0 rfl <| E_gF (r := 135) (n := 164) 99 rfl rfl fg_12_33 sh_133 rfl <| E_bipush (v := 14) (n := 166) 100 rfl rfl bpz_14 <| E_bipush (v := 24) (n := 168) 101 rfl rfl bpz_24 <| E_iload_n (n := 169) 102 rfl rfl rfl 1 rfl <| E_imul (n := 170) 103 rfl rfl <| E_iadd (n := 171) 104 rfl rfl <| E_iconst (v := 2) (n := 172) 105 rfl rfl icz_2 <| E_iload (n := 174) 106 rfl rfl 4 rfl <| E_imul (n := 175) 107 rfl rfl <| E_iadd (n := 176) 108 rfl rfl <| E_iconst (v := 1) (n := 177) 109 rfl rfl icz_1 <| E_iadd (n := 178) 110 rfl rfl <| E_iald (n := 179) 111 rfl rfl sh_135 hc3 <| E_iload_n (n := 180) 112 rfl rfl rfl 3 rfl <| E_iadd (n := 181) 113 rfl rfl <| E_cV4v (n := 184) 114 rfl rfl co_12_372 rfl sh_133 rfl (K_RM_puts m x1 x4 ((gI m 135 (ixn ((14 + (24 * x1)) + (2 * x4)))) + x2) ((gI m 135 (ixn (((14 + (24 * x1)) + (2 * x4)) + 1))) + x3) _ hq5) <| E_iinc (v := (x4 + 1)) (lv' := [(0, .ref 133), (1, .int x1), (2, .int x2), (3, .int x3), (4, .int (x4 + 1))]) (n := 187) 115 rfl rfl 4 rfl (by rw [icz_1]) (Nat.le_of_ble_eq_true rfl) [1, 2, 3, 4, 0] rfl <| E_goto (t := 123) 116 rfl rfl <| ?_
      exact ih m4 (x4 + 1) h
theorem RM_shift_J21_ok (m : Mem) (x1 : Int32) (x2 : Int32) (x3 : Int32) (R : Int32 × Mem) (h : RM_shift_J21 m x1 x2 x3 = some R) : E M_RM_shift 21 [(0, .ref 133), (1, .int x1), (2, .int x2), (3, .int x3)] [] m (qI R.1 R.2) := by
  unfold RM_shift_J21 at h
  refine E_iload_n (n := 22) 11 rfl rfl rfl 2 rfl <| E_bipush (v := (-20)) (n := 24) 12 rfl rfl bpz_m20 <| E_bipush (v := 20) (n := 26) 13 rfl rfl bpz_20 <| E_dS3r (n := 29) 14 rfl rfl co_12_203 rfl rfl (K_RM_isIn m x2 (-20) 20 _ rfl) <| E_if_eq (n := 32) (t := 43) 15 rfl rfl rfl (fun hc => ?_) (fun hc => ?_)
  · have h := ifp h hc
    refine E_iconst (v := 0) (n := 44) 21 rfl rfl icz_0 <| E_zreturn 22 rfl rfl z0 (eS h)
  · have h := ifn h hc
    refine E_iload_n (n := 33) 16 rfl rfl rfl 3 rfl <| E_bipush (v := (-20)) (n := 35) 17 rfl rfl bpz_m20 <| E_bipush (v := 20) (n := 37) 18 rfl rfl bpz_20 <| E_dS3r (n := 40) 19 rfl rfl co_12_203 rfl rfl (K_RM_isIn m x3 (-20) 20 _ rfl) <| E_if_ne (n := 43) (t := 45) 20 rfl rfl rfl (fun hc => ?_) (fun hc => ?_)
    · have h := ifn h hc
      refine E_iconst (v := 0) (n := 46) 23 rfl rfl icz_0 <| E_istore (lv' := [(0, .ref 133), (1, .int x1), (2, .int x2), (3, .int x3), (4, .int 0)]) (n := 48) 24 rfl rfl (Nat.le_of_ble_eq_true rfl) [1, 2, 3, 4, 0] rfl <| ?_
      refine RM_shift_L48_ok x1 x2 x3 _ R ?_ FU m 0 h
      intro m1 h
      obtain ⟨m2, hq3, h⟩ := bM_ex h
      refine E_aload_n (n := 117) 69 rfl rfl rfl 0 rfl <| E_cV0v (n := 120) 70 rfl rfl co_12_369 rfl sh_133 rfl (K_RM_keep m1 _ hq3) <| E_iconst (v := 0) (n := 121) 71 rfl rfl icz_0 <| E_istore (lv' := [(0, .ref 133), (1, .int x1), (2, .int x2), (3, .int x3), (4, .int 0)]) (n := 123) 72 rfl rfl (Nat.le_of_ble_eq_true rfl) [1, 2, 3, 4, 0] rfl <| ?_
      refine RM_shift_L123_ok x1 x2 x3 _ R ?_ FU m2 0 h
      intro m4 h
      obtain ⟨hc5, h⟩ := ift h
      obtain ⟨hc6, h⟩ := ift h
      obtain ⟨m7, hm7, h⟩ := letM_ex h
      refine E_aload_n (n := 191) 117 rfl rfl rfl 0 rfl <| E_gF (r := 135) (n := 194) 118 rfl rfl fg_12_33 sh_133 rfl <| E_bipush (v := 6) (n := 196) 119 rfl rfl bpz_6 <| E_dup2 (n := 197) 120 rfl rfl rfl rfl <| E_iald (n := 198) 121 rfl rfl sh_135 hc5 <| E_aload_n (n := 199) 122 rfl rfl rfl 0 rfl <| E_gF (r := 135) (n := 202) 123 rfl rfl fg_12_33 sh_133 rfl <| E_bipush (v := 11) (n := 204) 124 rfl rfl bpz_11 <| E_iload_n (n := 205) 125 rfl rfl rfl 1 rfl <| E_iadd (n := 206) 126 rfl rfl <| E_iald (n := 207) 127 rfl rfl sh_135 hc6 <| E_iadd (n := 208) 128 rfl rfl <| E_iast (n := 209) 129 rfl rfl sh_135 hc5 <| E_mem hm7 <| E_iconst (v := 1) (n := 210) 130 rfl rfl icz_1 <| E_zreturn 131 rfl rfl z1 (eS h)
    · have h := ifp h hc
      refine E_iconst (v := 0) (n := 44) 21 rfl rfl icz_0 <| E_zreturn 22 rfl rfl z0 (eS h)
theorem K_RM_shift (m : Mem) (x1 : Int32) (x2 : Int32) (x3 : Int32) (R : Int32 × Mem) (h : RM_shift m x1 x2 x3 = some R) : Mt M_RM_shift [.ref 133, .int x1, .int x2, .int x3] m (qI R.1 R.2) := by
  refine Mt.of G_RM_shift (Nat.le_of_ble_eq_true rfl) (E_sub (lv' := [(0, .ref 133), (1, .int x1), (2, .int x2), (3, .int x3)]) [0, 1, 2, 3] rfl ?_)
  unfold RM_shift at h
  obtain ⟨m1, hm1, h⟩ := letM_ex h
  obtain ⟨v2, hq3, h⟩ := bI_ex h
  refine E_aload_n (n := 1) 0 rfl rfl rfl 0 rfl <| E_iconst (v := 0) (n := 2) 1 rfl rfl icz_0 <| E_pI (n := 5) 2 rfl rfl fp_12_1 sh_133 <| E_mem hm1 <| E_aload_n (n := 6) 3 rfl rfl rfl 0 rfl <| E_iload_n (n := 7) 4 rfl rfl rfl 1 rfl <| E_cV1r (n := 10) 5 rfl rfl co_12_256 rfl sh_133 rfl (K_RM_isLine m1 x1 _ hq3) <| E_if_eq (n := 13) (t := 43) 6 rfl rfl rfl (fun hc => ?_) (fun hc => ?_)
  · have h := ifp h hc
    refine E_iconst (v := 0) (n := 44) 21 rfl rfl icz_0 <| E_zreturn 22 rfl rfl z0 (eS h)
  · have h := ifn h hc
    refine E_iload_n (n := 14) 7 rfl rfl rfl 2 rfl <| E_if_ne (n := 17) (t := 21) 8 rfl rfl rfl (fun hc => ?_) (fun hc => ?_)
    · have h := ifn h hc
      exact RM_shift_J21_ok m1 x1 x2 x3 _ h
    · have h := ifp h hc
      refine E_iload_n (n := 18) 9 rfl rfl rfl 3 rfl <| E_if_eq (n := 21) (t := 43) 10 rfl rfl rfl (fun hc => ?_) (fun hc => ?_)
      · have h := ifp h hc
        refine E_iconst (v := 0) (n := 44) 21 rfl rfl icz_0 <| E_zreturn 22 rfl rfl z0 (eS h)
      · have h := ifn h hc
        exact RM_shift_J21_ok m1 x1 x2 x3 _ h

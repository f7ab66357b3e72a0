theorem RM_next_J293_ok (m : Mem) (x2 : Int32) (s1 : Int32) (s2 : Int32) (R : Mem) (h : RM_next_J293 m x2 s1 s2 = some R) : E M_RM_next 293 [(2, .int x2)] [.int s2, .int s1, .ref 133] m (qV R) := by
  unfold RM_next_J293 at h
  refine E_icmp_le (n := 296) (t := 300) 155 rfl rfl rfl (fun hc => ?_) (fun hc => ?_)
  · have h := ifp h hc
    refine E_iload_n (n := 301) 158 rfl rfl rfl 0 rfl <| E_if_eq (n := 304) (t := 308) 159 rfl rfl rfl (fun hc => ?_) (fun hc => ?_)
    · have h := ifp h hc
      refine E_iconst (v := 2) (n := 309) 162 rfl rfl icz_2 <| ?_
      obtain ⟨m1, hm1, h⟩ := letM_ex h
      refine E_pI (n := 312) 163 rfl rfl fp_12_171 sh_133 <| E_mem hm1 <| E_return 164 rfl rfl (eV h)
    · have h := ifn h hc
      refine E_iconst (v := 1) (n := 305) 160 rfl rfl icz_1 <| E_goto (t := 309) 161 rfl rfl <| ?_
      obtain ⟨m2, hm2, h⟩ := letM_ex h
      refine E_pI (n := 312) 163 rfl rfl fp_12_171 sh_133 <| E_mem hm2 <| E_return 164 rfl rfl (eV h)
  · have h := ifn h hc
    refine E_iconst (v := 4) (n := 297) 156 rfl rfl icz_4 <| E_goto (t := 309) 157 rfl rfl <| ?_
    obtain ⟨m3, hm3, h⟩ := letM_ex h
    refine E_pI (n := 312) 163 rfl rfl fp_12_171 sh_133 <| E_mem hm3 <| E_return 164 rfl rfl (eV h)
theorem RM_next_J140_ok (m : Mem) (x1 : Int32) (R : Mem) (h : RM_next_J140 m x1 = some R) : E M_RM_next 140 [(0, .ref 133), (1, .int x1)] [] m (qV R) := by
  unfold RM_next_J140 at h
  obtain ⟨v1, hv1, h⟩ := letV_ex h
  obtain ⟨m2, hm2, h⟩ := letM_ex h
  obtain ⟨m3, hm3, h⟩ := letM_ex h
  refine E_iload_n (n := 141) 73 rfl rfl rfl 1 rfl <| E_dS1r (n := 144) 74 rfl rfl co_12_174 rfl rfl (K_RM_isSmall m x1 _ rfl) <| E_top hv1 <| E_istore_n (lv' := [(0, .ref 133), (1, .int x1), (2, .int v1)]) (n := 145) 75 rfl rfl rfl (Nat.le_of_ble_eq_true rfl) [1, 2, 0] rfl <| E_iconst (v := 1) (n := 146) 76 rfl rfl icz_1 <| E_istore_n (lv' := [(0, .ref 133), (1, .int x1), (2, .int v1), (3, .int 1)]) (n := 147) 77 rfl rfl rfl (Nat.le_of_ble_eq_true rfl) [1, 2, 3, 0] rfl <| E_aload_n (n := 148) 78 rfl rfl rfl 0 rfl <| E_lconst (v := 0) (n := 149) 79 rfl rfl (by decide) <| E_pJ (n := 152) 80 rfl rfl fp_12_184 sh_133 <| E_mem hm2 <| E_aload_n (n := 153) 81 rfl rfl rfl 0 rfl <| E_iconst (v := 0) (n := 154) 82 rfl rfl icz_0 <| E_pI (n := 157) 83 rfl rfl fp_12_181 sh_133 <| E_mem hm3 <| ?_
  refine E_sub (lv' := [(0, .ref 133), (2, .int v1), (3, .int 1)]) [0, 2, 3] rfl ?_
  refine RM_next_L157_ok v1 _ R ?_ FU m3 1 h
  intro m5 y4 h
  refine E_aload_n (n := 275) 145 rfl rfl rfl 0 rfl <| E_iload_n (n := 276) 146 rfl rfl rfl 2 rfl <| E_if_eq (n := 279) (t := 296) 147 rfl rfl rfl (fun hc => ?_) (fun hc => ?_)
  · have h := ifp h hc
    refine E_iconst (v := 4) (n := 297) 156 rfl rfl icz_4 <| E_goto (t := 309) 157 rfl rfl <| ?_
    obtain ⟨m6, hm6, h⟩ := letM_ex h
    refine E_pI (n := 312) 163 rfl rfl fp_12_171 sh_133 <| E_mem hm6 <| E_return 164 rfl rfl (eV h)
  · have h := ifn h hc
    refine E_aload_n (n := 280) 148 rfl rfl rfl 0 rfl <| E_gI (n := 283) 149 rfl rfl fg_12_168 sh_133 <| E_iload_n (n := 284) 150 rfl rfl rfl 1 rfl <| E_if_eq (n := 287) (t := 292) 151 rfl rfl rfl (fun hc => ?_) (fun hc => ?_)
    · have h := ifp h hc
      refine E_iconst (v := 2) (n := 293) 154 rfl rfl icz_2 <| ?_
      refine E_sub (lv' := [(2, .int v1)]) [1] rfl ?_
      exact RM_next_J293_ok m5 v1 (gI m5 133 12) 2 _ h
    · have h := ifn h hc
      refine E_bipush (v := 7) (n := 289) 152 rfl rfl bpz_7 <| E_goto (t := 293) 153 rfl rfl <| ?_
      refine E_sub (lv' := [(2, .int v1)]) [1] rfl ?_
      exact RM_next_J293_ok m5 v1 (gI m5 133 12) 7 _ h
theorem RM_next_J121_ok (m : Mem) (x1 : Int32) (s1 : Int32) (R : Mem) (h : RM_next_J121 m x1 s1 = some R) : E M_RM_next 121 [(0, .ref 133), (1, .int x1)] [.int s1, .ref 133] m (qV R) := by
  unfold RM_next_J121 at h
  obtain ⟨m1, hm1, h⟩ := letM_ex h
  obtain ⟨m2, hm2, h⟩ := letM_ex h
  obtain ⟨m3, hm3, h⟩ := letM_ex h
  refine E_pI (n := 124) 62 rfl rfl fp_12_171 sh_133 <| E_mem hm1 <| E_aload_n (n := 125) 63 rfl rfl rfl 0 rfl <| E_iload_n (n := 126) 64 rfl rfl rfl 1 rfl <| E_pI (n := 129) 65 rfl rfl fp_12_181 sh_133 <| E_mem hm2 <| E_aload_n (n := 130) 66 rfl rfl rfl 0 rfl <| E_dup (n := 131) 67 rfl rfl rfl <| E_gI (n := 134) 68 rfl rfl fg_12_21 sh_133 <| E_iconst (v := 1) (n := 135) 69 rfl rfl icz_1 <| E_iadd (n := 136) 70 rfl rfl <| E_pI (n := 139) 71 rfl rfl fp_12_21 sh_133 <| E_mem hm3 <| E_return 72 rfl rfl (eV h)
theorem RM_next_J80_ok (m : Mem) (R : Mem) (h : RM_next_J80 m = some R) : E M_RM_next 80 [(0, .ref 133)] [] m (qV R) := by
  unfold RM_next_J80 at h
  obtain ⟨v1, hq2, h⟩ := bI_ex h
  refine E_aload_n (n := 81) 40 rfl rfl rfl 0 rfl <| E_cV0r (n := 84) 41 rfl rfl co_12_161 rfl sh_133 rfl (K_RM_peek m _ hq2) <| E_istore_n (lv' := [(0, .ref 133), (1, .int v1)]) (n := 85) 42 rfl rfl rfl (Nat.le_of_ble_eq_true rfl) [1, 0] rfl <| E_iload_n (n := 86) 43 rfl rfl rfl 1 rfl <| E_if_ge (n := 89) (t := 95) 44 rfl rfl rfl (fun hc => ?_) (fun hc => ?_)
  · have h := ifp h hc
    refine E_iload_n (n := 96) 49 rfl rfl rfl 1 rfl <| E_dS1r (n := 99) 50 rfl rfl co_12_174 rfl rfl (K_RM_isSmall m v1 _ rfl) <| E_if_ne (n := 102) (t := 140) 51 rfl rfl rfl (fun hc => ?_) (fun hc => ?_)
    · have h := ifn h hc
      exact RM_next_J140_ok m v1 _ h
    · have h := ifp h hc
      refine E_iload_n (n := 103) 52 rfl rfl rfl 1 rfl <| E_dS1r (n := 106) 53 rfl rfl co_12_178 rfl rfl (K_RM_isDigit m v1 _ rfl) <| E_if_ne (n := 109) (t := 140) 54 rfl rfl rfl (fun hc => ?_) (fun hc => ?_)
      · have h := ifn h hc
        exact RM_next_J140_ok m v1 _ h
      · have h := ifp h hc
        refine E_aload_n (n := 110) 55 rfl rfl rfl 0 rfl <| E_iload_n (n := 111) 56 rfl rfl rfl 1 rfl <| E_bipush (v := 59) (n := 113) 57 rfl rfl bpz_59 <| E_icmp_ne (n := 116) (t := 120) 58 rfl rfl rfl (fun hc => ?_) (fun hc => ?_)
        · have h := ifn h hc
          refine E_iconst (v := 4) (n := 121) 61 rfl rfl icz_4 <| ?_
          exact RM_next_J121_ok m v1 4 _ h
        · have h := ifp h hc
          refine E_iconst (v := 3) (n := 117) 59 rfl rfl icz_3 <| E_goto (t := 121) 60 rfl rfl <| ?_
          exact RM_next_J121_ok m v1 3 _ h
  · have h := ifn h hc
    obtain ⟨m3, hm3, h⟩ := letM_ex h
    refine E_aload_n (n := 90) 45 rfl rfl rfl 0 rfl <| E_iconst (v := 0) (n := 91) 46 rfl rfl icz_0 <| E_pI (n := 94) 47 rfl rfl fp_12_171 sh_133 <| E_mem hm3 <| E_return 48 rfl rfl (eV h)
theorem K_RM_next (m : Mem) (R : Mem) (h : RM_next m = some R) : Mt M_RM_next [.ref 133] m (qV R) := by
  refine Mt.of G_RM_next (Nat.le_of_ble_eq_true rfl) (E_sub (lv' := [(0, .ref 133)]) [0] rfl ?_)
  unfold RM_next at h
  refine RM_next_L0_ok _ R ?_ FU m h
  intro m1 h
  obtain ⟨m2, hm2, h⟩ := letM_ex h
  obtain ⟨m3, hm3, h⟩ := letM_ex h
  refine E_aload_n (n := 32) 15 rfl rfl rfl 0 rfl <| E_aload_n (n := 33) 16 rfl rfl rfl 0 rfl <| E_gI (n := 36) 17 rfl rfl fg_12_21 sh_133 <| E_pI (n := 39) 18 rfl rfl fp_12_165 sh_133 <| E_mem hm2 <| E_aload_n (n := 40) 19 rfl rfl rfl 0 rfl <| E_iconst (v := 0) (n := 41) 20 rfl rfl icz_0 <| E_pI (n := 44) 21 rfl rfl fp_12_168 sh_133 <| E_mem hm3 <| E_aload_n (n := 45) 22 rfl rfl rfl 0 rfl <| E_gI (n := 48) 23 rfl rfl fg_12_18 sh_133 <| E_aload_n (n := 49) 24 rfl rfl rfl 0 rfl <| E_gI (n := 52) 25 rfl rfl fg_12_24 sh_133 <| E_icmp_le (n := 55) (t := 80) 26 rfl rfl rfl (fun hc => ?_) (fun hc => ?_)
  · have h := ifp h hc
    exact RM_next_J80_ok m3 _ h
  · have h := ifn h hc
    refine E_aload_n (n := 56) 27 rfl rfl rfl 0 rfl <| E_gI (n := 59) 28 rfl rfl fg_12_21 sh_133 <| E_aload_n (n := 60) 29 rfl rfl rfl 0 rfl <| E_gI (n := 63) 30 rfl rfl fg_12_24 sh_133 <| E_icmp_lt (n := 66) (t := 80) 31 rfl rfl rfl (fun hc => ?_) (fun hc => ?_)
    · have h := ifp h hc
      exact RM_next_J80_ok m3 _ h
    · have h := ifn h hc
      obtain ⟨m4, hm4, h⟩ := letM_ex h
      obtain ⟨m5, hm5, h⟩ := letM_ex h
      refine E_aload_n (n := 67) 32 rfl rfl rfl 0 rfl <| E_aload_n (n := 68) 33 rfl rfl rfl 0 rfl <| E_gI (n := 71) 34 rfl rfl fg_12_24 sh_133 <| E_pI (n := 74) 35 rfl rfl fp_12_165 sh_133 <| E_mem hm4 <| E_aload_n (n := 75) 36 rfl rfl rfl 0 rfl <| E_iconst (v := 4) (n := 76) 37 rfl rfl icz_4 <| E_pI (n := 79) 38 rfl rfl fp_12_171 sh_133 <| E_mem hm5 <| E_return 39 rfl rfl (eV h)
theorem K_RM_bad (m : Mem) (x1 : Int32) (R : Int32 × Mem) (h : RM_bad m x1 = some R) : Mt M_RM_bad [.ref 133, .int x1] m (qI R.1 R.2) := by
  refine Mt.of G_RM_bad (Nat.le_of_ble_eq_true rfl) (E_sub (lv' := [(0, .ref 133), (1, .int x1)]) [0, 1] rfl ?_)
  unfold RM_bad at h
  obtain ⟨m1, hm1, h⟩ := letM_ex h
  obtain ⟨m2, hm2, h⟩ := letM_ex h
  refine E_aload_n (n := 1) 0 rfl rfl rfl 0 rfl <| E_iload_n (n := 2) 1 rfl rfl rfl 1 rfl <| E_pI (n := 5) 2 rfl rfl fp_12_188 sh_133 <| E_mem hm1 <| E_aload_n (n := 6) 3 rfl rfl rfl 0 rfl <| E_aload_n (n := 7) 4 rfl rfl rfl 0 rfl <| E_gI (n := 10) 5 rfl rfl fg_12_165 sh_133 <| E_pI (n := 13) 6 rfl rfl fp_12_191 sh_133 <| E_mem hm2 <| E_iconst (v := 0) (n := 14) 7 rfl rfl icz_0 <| E_zreturn 8 rfl rfl z0 (eS h)
theorem K_RM_isWord (m : Mem) (x1 : Int64) (R : Int32) (h : RM_isWord m x1 = R) : Mt M_RM_isWord [.ref 133, .long x1] m (qI R m) := by
  refine Mt.of G_RM_isWord (Nat.le_of_ble_eq_true rfl) (E_sub (lv' := [(0, .ref 133), (1, .long x1)]) [0, 1] rfl ?_)
  unfold RM_isWord at h
  refine E_aload_n (n := 1) 0 rfl rfl rfl 0 rfl <| E_gI (n := 4) 1 rfl rfl fg_12_171 sh_133 <| E_iconst (v := 1) (n := 5) 2 rfl rfl icz_1 <| E_icmp_ne (n := 8) (t := 21) 3 rfl rfl rfl (fun hc => ?_) (fun hc => ?_)
  · have h := ifn h hc
    refine E_iconst (v := 0) (n := 22) 11 rfl rfl icz_0 <| ?_
    refine E_zreturn 12 rfl rfl z0 (eT h)
  · have h := ifp h hc
    refine E_aload_n (n := 9) 4 rfl rfl rfl 0 rfl <| E_gJ (n := 12) 5 rfl rfl fg_12_184 sh_133 <| E_lload_n (n := 13) 6 rfl rfl rfl 1 rfl <| E_lcmp (n := 14) 7 rfl rfl <| E_if_ne (n := 17) (t := 21) 8 rfl rfl rfl (fun hc => ?_) (fun hc => ?_)
    · have h := ifn h hc
      refine E_iconst (v := 0) (n := 22) 11 rfl rfl icz_0 <| ?_
      refine E_zreturn 12 rfl rfl z0 (eT h)
    · have h := ifp h hc
      refine E_iconst (v := 1) (n := 18) 9 rfl rfl icz_1 <| E_goto (t := 22) 10 rfl rfl <| ?_
      refine E_zreturn 12 rfl rfl z1 (eT h)
theorem K_RM_isSign (m : Mem) (x1 : Int32) (R : Int32) (h : RM_isSign m x1 = R) : Mt M_RM_isSign [.ref 133, .int x1] m (qI R m) := by
  refine Mt.of G_RM_isSign (Nat.le_of_ble_eq_true rfl) (E_sub (lv' := [(0, .ref 133), (1, .int x1)]) [0, 1] rfl ?_)
  unfold RM_isSign at h
  refine E_aload_n (n := 1) 0 rfl rfl rfl 0 rfl <| E_gI (n := 4) 1 rfl rfl fg_12_171 sh_133 <| E_iconst (v := 3) (n := 5) 2 rfl rfl icz_3 <| E_icmp_ne (n := 8) (t := 20) 3 rfl rfl rfl (fun hc => ?_) (fun hc => ?_)
  · have h := ifn h hc
    refine E_iconst (v := 0) (n := 21) 10 rfl rfl icz_0 <| ?_
    refine E_zreturn 11 rfl rfl z0 (eT h)
  · have h := ifp h hc
    refine E_aload_n (n := 9) 4 rfl rfl rfl 0 rfl <| E_gI (n := 12) 5 rfl rfl fg_12_181 sh_133 <| E_iload_n (n := 13) 6 rfl rfl rfl 1 rfl <| E_icmp_ne (n := 16) (t := 20) 7 rfl rfl rfl (fun hc => ?_) (fun hc => ?_)
    · have h := ifn h hc
      refine E_iconst (v := 0) (n := 21) 10 rfl rfl icz_0 <| ?_
      refine E_zreturn 11 rfl rfl z0 (eT h)
    · have h := ifp h hc
      refine E_iconst (v := 1) (n := 17) 8 rfl rfl icz_1 <| E_goto (t := 21) 9 rfl rfl <| ?_
      refine E_zreturn 11 rfl rfl z1 (eT h)
theorem K_RM_sign (m : Mem) (x1 : Int32) (R : Int32 × Mem) (h : RM_sign m x1 = some R) : Mt M_RM_sign [.ref 133, .int x1] m (qI R.1 R.2) := by
  refine Mt.of G_RM_sign (Nat.le_of_ble_eq_true rfl) (E_sub (lv' := [(0, .ref 133), (1, .int x1)]) [0, 1] rfl ?_)
  unfold RM_sign at h
  refine E_aload_n (n := 1) 0 rfl rfl rfl 0 rfl <| E_iload_n (n := 2) 1 rfl rfl rfl 1 rfl <| E_cV1r (n := 5) 2 rfl rfl co_12_194 rfl sh_133 rfl (K_RM_isSign m x1 _ rfl) <| E_if_ne (n := 8) (t := 14) 3 rfl rfl rfl (fun hc => ?_) (fun hc => ?_)
  · have h := ifn h hc
    obtain ⟨m1, hq2, h⟩ := bM_ex h
    refine E_aload_n (n := 15) 8 rfl rfl rfl 0 rfl <| E_cV0v (n := 18) 9 rfl rfl co_12_200 rfl sh_133 rfl (K_RM_next m _ hq2) <| E_iconst (v := 1) (n := 19) 10 rfl rfl icz_1 <| E_zreturn 11 rfl rfl z1 (eS h)
  · have h := ifp h hc
    obtain ⟨v3, m4, hq5, h⟩ := bV_ex h
    obtain ⟨hc6, h⟩ := ift h
    refine E_aload_n (n := 9) 4 rfl rfl rfl 0 rfl <| E_iconst (v := 1) (n := 10) 5 rfl rfl icz_1 <| E_cV1r (n := 13) 6 rfl rfl co_12_197 rfl sh_133 rfl (K_RM_bad m 1 _ hq5) <| E_zreturn 7 rfl rfl hc6 (eS h)
theorem RM_isName_L16_ok (m : Mem) (kx : Int32 → Option Int32) (R : Int32) (hx : ∀ (x1 : Int32), kx x1 = some R → E M_RM_isName 52 [(1, .int x1)] [] m (qI R m)) : ∀ (n : Nat) (x1 : Int32) (x2 : Int32), RM_isName_L16 m kx n x1 x2 = some R → E M_RM_isName 16 [(0, .ref 133), (1, .int x1), (2, .int x2)] [] m (qI R m) := by
  intro n
  induction n with
  | zero =>
    intro x1 x2 h
    exact absurd (show none = some R from h) (fun e => Option.some_ne_none R e.symm)
  | succ n ih =>
    intro x1 x2 h
    rw [RM_isName_L16] at h
    refine E_iload_n (n := 17) 10 rfl rfl rfl 2 rfl <| E_bipush (v := 17) (n := 19) 11 rfl rfl bpz_17 <| E_icmp_ge (n := 22) (t := 52) 12 rfl rfl rfl (fun hc => ?_) (fun hc => ?_)
    · have h := ifp h hc
      refine E_sub (lv' := [(1, .int x1)]) [1] rfl ?_
      exact hx x1 h
    · have h := ifn h hc
      refine E_iload_n (n := 23) 13 rfl rfl rfl 1 rfl <| E_if_eq (n := 26) (t := 44) 14 rfl rfl rfl (fun hc => ?_) (fun hc => ?_)
      · have h := ifp h hc
        refine E_iconst (v := 0) (n := 45) 25 rfl rfl icz_0 <| ?_
        refine E_istore_n (lv' := [(0, .ref 133), (1, .int 0), (2, .int x2)]) (n := 46) 26 rfl rfl rfl (Nat.le_of_ble_eq_true rfl) [1, 0, 2] rfl <| E_iinc (v := (x2 + 1)) (lv' := [(0, .ref 133), (1, .int 0), (2, .int (x2 + 1))]) (n := 49) 27 rfl rfl 2 rfl (by rw [icz_1]) (Nat.le_of_ble_eq_true rfl) [1, 2, 0] rfl <| E_goto (t := 16) 28 rfl rfl <| ?_
        exact ih 0 (x2 + 1) h
      · have h := ifn h hc
        obtain ⟨hc1, h⟩ := ift h
        refine E_aload_n (n := 27) 15 rfl rfl rfl 0 rfl <| E_gJ (n := 30) 16 rfl rfl fg_12_184 sh_133 <| E_aload_n (n := 31) 17 rfl rfl rfl 0 rfl <| E_gF (r := 138) (n := 34) 18 rfl rfl fg_12_44 sh_133 rfl <| E_iload_n (n := 35) 19 rfl rfl rfl 2 rfl <| E_lald (n := 36) 20 rfl rfl sh_138 hc1 <| E_lcmp (n := 37) 21 rfl rfl <| E_if_eq (n := 40) (t := 44) 22 rfl rfl rfl (fun hc => ?_) (fun hc => ?_)
        · have h := ifp h hc
          refine E_iconst (v := 0) (n := 45) 25 rfl rfl icz_0 <| ?_
          refine E_istore_n (lv' := [(0, .ref 133), (1, .int 0), (2, .int x2)]) (n := 46) 26 rfl rfl rfl (Nat.le_of_ble_eq_true rfl) [1, 0, 2] rfl <| E_iinc (v := (x2 + 1)) (lv' := [(0, .ref 133), (1, .int 0), (2, .int (x2 + 1))]) (n := 49) 27 rfl rfl 2 rfl (by rw [icz_1]) (Nat.le_of_ble_eq_true rfl) [1, 2, 0] rfl <| E_goto (t := 16) 28 rfl rfl <| ?_
          exact ih 0 (x2 + 1) h
        · have h := ifn h hc
          refine E_iconst (v := 1) (n := 41) 23 rfl rfl icz_1 <| E_goto (t := 45) 24 rfl rfl <| ?_
          refine E_istore_n (lv' := [(0, .ref 133), (1, .int 1), (2, .int x2)]) (n := 46) 26 rfl rfl rfl (Nat.le_of_ble_eq_true rfl) [1, 0, 2] rfl <| E_iinc (v := (x2 + 1)) (lv' := [(0, .ref 133), (1, .int 1), (2, .int (x2 + 1))]) (n := 49) 27 rfl rfl 2 rfl (by rw [icz_1]) (Nat.le_of_ble_eq_true rfl) [1, 2, 0] rfl <| E_goto (t := 16) 28 rfl rfl <| ?_
          exact ih 1 (x2 + 1) h
theorem RM_isName_J13_ok (m : Mem) (s0 : Int32) (R : Int32) (h : RM_isName_J13 m s0 = some R) : E M_RM_isName 13 [(0, .ref 133)] [.int s0] m (qI R m) := by
  unfold RM_isName_J13 at h
  refine E_istore_n (lv' := [(0, .ref 133), (1, .int s0)]) (n := 14) 7 rfl rfl rfl (Nat.le_of_ble_eq_true rfl) [1, 0] rfl <| E_iconst (v := 0) (n := 15) 8 rfl rfl icz_0 <| E_istore_n (lv' := [(0, .ref 133), (1, .int s0), (2, .int 0)]) (n := 16) 9 rfl rfl rfl (Nat.le_of_ble_eq_true rfl) [1, 2, 0] rfl <| ?_
  refine RM_isName_L16_ok m _ R ?_ FU s0 0 h
  intro y1 h
  obtain ⟨hc2, h⟩ := ift h
  refine E_iload_n (n := 53) 29 rfl rfl rfl 0 rfl <| E_zreturn 30 rfl rfl hc2 (eP h)
theorem K_RM_isName (m : Mem) (R : Int32) (h : RM_isName m = some R) : Mt M_RM_isName [.ref 133] m (qI R m) := by
  refine Mt.of G_RM_isName (Nat.le_of_ble_eq_true rfl) (E_sub (lv' := [(0, .ref 133)]) [0] rfl ?_)
  unfold RM_isName at h
  refine E_aload_n (n := 1) 0 rfl rfl rfl 0 rfl <| E_gI (n := 4) 1 rfl rfl fg_12_171 sh_133 <| E_iconst (v := 1) (n := 5) 2 rfl rfl icz_1 <| E_icmp_ne (n := 8) (t := 12) 3 rfl rfl rfl (fun hc => ?_) (fun hc => ?_)
  · have h := ifn h hc
    refine E_iconst (v := 0) (n := 13) 6 rfl rfl icz_0 <| ?_
    exact RM_isName_J13_ok m 0 _ h
  · have h := ifp h hc
    refine E_iconst (v := 1) (n := 9) 4 rfl rfl icz_1 <| E_goto (t := 13) 5 rfl rfl <| ?_
    exact RM_isName_J13_ok m 1 _ h
theorem K_RM_takes (m : Mem) (x1 : Int32) (x2 : Int32) (R : Int32 × Mem) (h : RM_takes m x1 x2 = some R) : Mt M_RM_takes [.ref 133, .int x1, .int x2] m (qI R.1 R.2) := by
  refine Mt.of G_RM_takes (Nat.le_of_ble_eq_true rfl) (E_sub (lv' := [(0, .ref 133), (1, .int x1), (2, .int x2)]) [0, 1, 2] rfl ?_)
  unfold RM_takes at h
  refine E_aload_n (n := 1) 0 rfl rfl rfl 0 rfl <| E_gI (n := 4) 1 rfl rfl fg_12_171 sh_133 <| E_iconst (v := 2) (n := 5) 2 rfl rfl icz_2 <| E_icmp_eq (n := 8) (t := 14) 3 rfl rfl rfl (fun hc => ?_) (fun hc => ?_)
  · have h := ifp h hc
    refine E_aload_n (n := 15) 8 rfl rfl rfl 0 rfl <| E_gI (n := 18) 9 rfl rfl fg_12_181 sh_133 <| E_iload_n (n := 19) 10 rfl rfl rfl 1 rfl <| E_iload_n (n := 20) 11 rfl rfl rfl 2 rfl <| E_dS3r (n := 23) 12 rfl rfl co_12_203 rfl rfl (K_RM_isIn m (gI m 133 13) x1 x2 _ rfl) <| E_if_ne (n := 26) (t := 32) 13 rfl rfl rfl (fun hc => ?_) (fun hc => ?_)
    · have h := ifn h hc
      obtain ⟨m1, hm1, h⟩ := letM_ex h
      obtain ⟨m2, hq3, h⟩ := bM_ex h
      refine E_aload_n (n := 33) 18 rfl rfl rfl 0 rfl <| E_aload_n (n := 34) 19 rfl rfl rfl 0 rfl <| E_gI (n := 37) 20 rfl rfl fg_12_181 sh_133 <| E_pI (n := 40) 21 rfl rfl fp_12_207 sh_133 <| E_mem hm1 <| E_aload_n (n := 41) 22 rfl rfl rfl 0 rfl <| E_cV0v (n := 44) 23 rfl rfl co_12_200 rfl sh_133 rfl (K_RM_next m1 _ hq3) <| E_iconst (v := 1) (n := 45) 24 rfl rfl icz_1 <| E_zreturn 25 rfl rfl z1 (eS h)
    · have h := ifp h hc
      obtain ⟨v4, m5, hq6, h⟩ := bV_ex h
      obtain ⟨hc7, h⟩ := ift h
      refine E_aload_n (n := 27) 14 rfl rfl rfl 0 rfl <| E_iconst (v := 2) (n := 28) 15 rfl rfl icz_2 <| E_cV1r (n := 31) 16 rfl rfl co_12_197 rfl sh_133 rfl (K_RM_bad m 2 _ hq6) <| E_zreturn 17 rfl rfl hc7 (eS h)
  · have h := ifn h hc
    obtain ⟨v8, m9, hq10, h⟩ := bV_ex h
    obtain ⟨hc11, h⟩ := ift h
    refine E_aload_n (n := 9) 4 rfl rfl rfl 0 rfl <| E_iconst (v := 1) (n := 10) 5 rfl rfl icz_1 <| E_cV1r (n := 13) 6 rfl rfl co_12_197 rfl sh_133 rfl (K_RM_bad m 1 _ hq10) <| E_zreturn 7 rfl rfl hc11 (eS h)
theorem RM_find_L2_ok (m : Mem) (x1 : Int32) (x2 : Int32) (kx : Option Int32) (R : Int32) (hx : kx = some R → E M_RM_find 31 [] [] m (qI R m)) : ∀ (n : Nat) (x3 : Int32), RM_find_L2 m x1 x2 kx n x3 = some R → E M_RM_find 2 [(0, .ref 133), (1, .int x1), (2, .int x2), (3, .int x3)] [] m (qI R m) := by
  intro n
  induction n with
  | zero =>
    intro x3 h
    exact absurd (show none = some R from h) (fun e => Option.some_ne_none R e.symm)
  | succ n ih =>
    intro x3 h
    rw [RM_find_L2] at h
    refine E_iload_n (n := 3) 2 rfl rfl rfl 3 rfl <| E_iload_n (n := 4) 3 rfl rfl rfl 2 rfl <| E_icmp_ge (n := 7) (t := 31) 4 rfl rfl rfl (fun hc => ?_) (fun hc => ?_)
    · have h := ifp h hc
      refine E_sub (lv' := []) [] rfl ?_
      exact hx h
    · have h := ifn h hc
      obtain ⟨hc1, h⟩ := ift h
      refine E_aload_n (n := 8) 5 rfl rfl rfl 0 rfl <| E_gF (r := 137) (n := 11) 6 rfl rfl fg_12_40 sh_133 rfl <| E_iload_n (n := 12) 7 rfl rfl rfl 1 rfl <| E_iload_n (n := 13) 8 rfl rfl rfl 3 rfl <| E_iadd (n := 14) 9 rfl rfl <| E_lald (n := 15) 10 rfl rfl sh_137 hc1 <| E_aload_n (n := 16) 11 rfl rfl rfl 0 rfl <| E_gJ (n := 19) 12 rfl rfl fg_12_184 sh_133 <| E_lcmp (n := 20) 13 rfl rfl <| E_if_ne (n := 23) (t := 25) 14 rfl rfl rfl (fun hc => ?_) (fun hc => ?_)
      · have h := ifn h hc
        refine E_iinc (v := (x3 + 1)) (lv' := [(0, .ref 133), (1, .int x1), (2, .int x2), (3, .int (x3 + 1))]) (n := 28) 17 rfl rfl 3 rfl (by rw [icz_1]) (Nat.le_of_ble_eq_true rfl) [1, 2, 3, 0] rfl <| E_goto (t := 2) 18 rfl rfl <| ?_
        exact ih (x3 + 1) h
      · have h := ifp h hc
        refine E_iload_n (n := 24) 15 rfl rfl rfl 3 rfl <| E_ireturn 16 rfl rfl (eP h)
theorem K_RM_find (m : Mem) (x1 : Int32) (x2 : Int32) (R : Int32) (h : RM_find m x1 x2 = some R) : Mt M_RM_find [.ref 133, .int x1, .int x2] m (qI R m) := by
  refine Mt.of G_RM_find (Nat.le_of_ble_eq_true rfl) (E_sub (lv' := [(0, .ref 133), (1, .int x1), (2, .int x2)]) [0, 1, 2] rfl ?_)
  unfold RM_find at h
  refine E_iconst (v := 0) (n := 1) 0 rfl rfl icz_0 <| E_istore_n (lv' := [(0, .ref 133), (1, .int x1), (2, .int x2), (3, .int 0)]) (n := 2) 1 rfl rfl rfl (Nat.le_of_ble_eq_true rfl) [1, 2, 3, 0] rfl <| ?_
  refine RM_find_L2_ok m x1 x2 _ R ?_ FU 0 h
  intro h
  refine E_iconst (v := (-1)) (n := 32) 19 rfl rfl icz_m1 <| E_ireturn 20 rfl rfl (eP h)
theorem RM_fresh_J43_ok (m : Mem) (R : Int32 × Mem) (h : RM_fresh_J43 m = some R) : E M_RM_fresh 43 [(0, .ref 133)] [] m (qI R.1 R.2) := by
  unfold RM_fresh_J43 at h
  obtain ⟨v1, m2, hq3, h⟩ := bV_ex h
  obtain ⟨hc4, h⟩ := ift h
  refine E_aload_n (n := 44) 23 rfl rfl rfl 0 rfl <| E_iconst (v := 3) (n := 45) 24 rfl rfl icz_3 <| E_cV1r (n := 48) 25 rfl rfl co_12_197 rfl sh_133 rfl (K_RM_bad m 3 _ hq3) <| E_zreturn 26 rfl rfl hc4 (eS h)
theorem K_RM_fresh (m : Mem) (x1 : Int32) (R : Int32 × Mem) (h : RM_fresh m x1 = some R) : Mt M_RM_fresh [.ref 133, .int x1] m (qI R.1 R.2) := by
  refine Mt.of G_RM_fresh (Nat.le_of_ble_eq_true rfl) (E_sub (lv' := [(0, .ref 133), (1, .int x1)]) [0, 1] rfl ?_)
  unfold RM_fresh at h
  obtain ⟨v1, hq2, h⟩ := bI_ex h
  refine E_aload_n (n := 1) 0 rfl rfl rfl 0 rfl <| E_cV0r (n := 4) 1 rfl rfl co_12_210 rfl sh_133 rfl (K_RM_isName m _ hq2) <| E_if_ne (n := 7) (t := 13) 2 rfl rfl rfl (fun hc => ?_) (fun hc => ?_)
  · have h := ifn h hc
    obtain ⟨hc3, h⟩ := ift h
    obtain ⟨v4, hq5, h⟩ := bI_ex h
    refine E_aload_n (n := 14) 7 rfl rfl rfl 0 rfl <| E_bipush (v := 13) (n := 16) 8 rfl rfl bpz_13 <| E_aload_n (n := 17) 9 rfl rfl rfl 0 rfl <| E_gF (r := 136) (n := 20) 10 rfl rfl fg_12_37 sh_133 rfl <| E_iconst (v := 0) (n := 21) 11 rfl rfl icz_0 <| E_iald (n := 22) 12 rfl rfl sh_136 hc3 <| E_cV2r (n := 25) 13 rfl rfl co_12_214 rfl sh_133 rfl (K_RM_find m 13 (gI m 136 (ixn 0)) _ hq5) <| E_if_ge (n := 28) (t := 43) 14 rfl rfl rfl (fun hc => ?_) (fun hc => ?_)
    · have h := ifp h hc
      refine E_sub (lv' := [(0, .ref 133)]) [0] rfl ?_
      exact RM_fresh_J43_ok m _ h
    · have h := ifn h hc
      obtain ⟨hc6, h⟩ := ift h
      obtain ⟨v7, hq8, h⟩ := bI_ex h
      refine E_aload_n (n := 29) 15 rfl rfl rfl 0 rfl <| E_bipush (v := 16) (n := 31) 16 rfl rfl bpz_16 <| E_aload_n (n := 32) 17 rfl rfl rfl 0 rfl <| E_gF (r := 136) (n := 35) 18 rfl rfl fg_12_37 sh_133 rfl <| E_iconst (v := 1) (n := 36) 19 rfl rfl icz_1 <| E_iald (n := 37) 20 rfl rfl sh_136 hc6 <| E_cV2r (n := 40) 21 rfl rfl co_12_214 rfl sh_133 rfl (K_RM_find m 16 (gI m 136 (ixn 1)) _ hq8) <| E_if_lt (n := 43) (t := 49) 22 rfl rfl rfl (fun hc => ?_) (fun hc => ?_)
      · have h := ifp h hc
        obtain ⟨hc9, h⟩ := ift h
        obtain ⟨m10, hm10, h⟩ := letM_ex h
        obtain ⟨m11, hq12, h⟩ := bM_ex h
        refine E_aload_n (n := 50) 27 rfl rfl rfl 0 rfl <| E_gF (r := 137) (n := 53) 28 rfl rfl fg_12_40 sh_133 rfl <| E_iload_n (n := 54) 29 rfl rfl rfl 1 rfl <| E_aload_n (n := 55) 30 rfl rfl rfl 0 rfl <| E_gJ (n := 58) 31 rfl rfl fg_12_184 sh_133 <| E_last (n := 59) 32 rfl rfl sh_137 hc9 <| E_mem hm10 <| E_aload_n (n := 60) 33 rfl rfl rfl 0 rfl <| E_cV0v (n := 63) 34 rfl rfl co_12_200 rfl sh_133 rfl (K_RM_next m10 _ hq12) <| E_iconst (v := 1) (n := 64) 35 rfl rfl icz_1 <| E_zreturn 36 rfl rfl z1 (eS h)
      · have h := ifn h hc
        refine E_sub (lv' := [(0, .ref 133)]) [0] rfl ?_
        exact RM_fresh_J43_ok m _ h
  · have h := ifp h hc
    obtain ⟨v13, m14, hq15, h⟩ := bV_ex h
    obtain ⟨hc16, h⟩ := ift h
    refine E_aload_n (n := 8) 3 rfl rfl rfl 0 rfl <| E_iconst (v := 1) (n := 9) 4 rfl rfl icz_1 <| E_cV1r (n := 12) 5 rfl rfl co_12_197 rfl sh_133 rfl (K_RM_bad m 1 _ hq15) <| E_zreturn 6 rfl rfl hc16 (eS h)
theorem K_RM_isOnce (m : Mem) (x1 : Int32) (R : Int32 × Mem) (h : RM_isOnce m x1 = some R) : Mt M_RM_isOnce [.ref 133, .int x1] m (qI R.1 R.2) := by
  refine Mt.of G_RM_isOnce (Nat.le_of_ble_eq_true rfl) (E_sub (lv' := [(0, .ref 133), (1, .int x1)]) [0, 1] rfl ?_)
  unfold RM_isOnce at h
  refine E_aload_n (n := 1) 0 rfl rfl rfl 0 rfl <| E_gI (n := 4) 1 rfl rfl fg_12_218 sh_133 <| E_iload_n (n := 5) 2 rfl rfl rfl 1 rfl <| E_dS2r (n := 8) 3 rfl rfl co_12_221 rfl rfl (K_RM_has m (gI m 133 19) x1 _ rfl) <| E_if_eq (n := 11) (t := 17) 4 rfl rfl rfl (fun hc => ?_) (fun hc => ?_)
  · have h := ifp h hc
    obtain ⟨m1, hm1, h⟩ := letM_ex h
    obtain ⟨m2, hq3, h⟩ := bM_ex h
    refine E_aload_n (n := 18) 9 rfl rfl rfl 0 rfl <| E_dup (n := 19) 10 rfl rfl rfl <| E_gI (n := 22) 11 rfl rfl fg_12_218 sh_133 <| E_iconst (v := 1) (n := 23) 12 rfl rfl icz_1 <| E_iload_n (n := 24) 13 rfl rfl rfl 1 rfl <| E_jshl (n := 25) 14 rfl rfl <| E_ior (n := 26) 15 rfl rfl <| E_pI (n := 29) 16 rfl rfl fp_12_218 sh_133 <| E_mem hm1 <| E_aload_n (n := 30) 17 rfl rfl rfl 0 rfl <| E_cV0v (n := 33) 18 rfl rfl co_12_200 rfl sh_133 rfl (K_RM_next m1 _ hq3) <| E_iconst (v := 1) (n := 34) 19 rfl rfl icz_1 <| E_zreturn 20 rfl rfl z1 (eS h)
  · have h := ifn h hc
    obtain ⟨v4, m5, hq6, h⟩ := bV_ex h
    obtain ⟨hc7, h⟩ := ift h
    refine E_aload_n (n := 12) 5 rfl rfl rfl 0 rfl <| E_iconst (v := 3) (n := 13) 6 rfl rfl icz_3 <| E_cV1r (n := 16) 7 rfl rfl co_12_197 rfl sh_133 rfl (K_RM_bad m 3 _ hq6) <| E_zreturn 8 rfl rfl hc7 (eS h)
theorem RM_readLine_J180_ok (kr : Mem → Int32 → Option (Int32 × Mem)) (kx : Mem → Int32 → Option (Int32 × Mem)) (m : Mem) (x1 : Int32) (x2 : Int32) (x3 : Int32) (x4 : Int32) (R : Int32 × Mem) (hr : ∀ (m : Mem) (x2 : Int32), kr m x2 = some R → E M_RM_readLine 45 [(0, .ref 133), (1, .int x1), (2, .int x2), (3, .int x3)] [] m (qI R.1 R.2)) (hx : ∀ (m : Mem) (x2 : Int32), kx m x2 = some R → E M_RM_readLine 218 [(0, .ref 133), (1, .int x1), (2, .int x2), (3, .int x3)] [] m (qI R.1 R.2)) (h : RM_readLine_J180 kr kx m x1 x2 x3 x4 = some R) : E M_RM_readLine 180 [(0, .ref 133), (1, .int x1), (2, .int x2), (3, .int x3), (4, .int x4)] [] m (qI R.1 R.2) := by
  unfold RM_readLine_J180 at h
  obtain ⟨hc1, h⟩ := ift h
  obtain ⟨m2, hm2, h⟩ := letM_ex h
  obtain ⟨hc3, h⟩ := ift h
  obtain ⟨m4, hm4, h⟩ := letM_ex h
  obtain ⟨m5, hq6, h⟩ := bM_ex h
  refine E_aload_n (n := 181) 109 rfl rfl rfl 0 rfl <| E_gF (r := 136) (n := 184) 110 rfl rfl fg_12_37 sh_133 rfl <| E_iload_n (n := 185) 111 rfl rfl rfl 3 rfl <| E_iconst (v := 2) (n := 186) 112 rfl rfl icz_2 <| E_iload_n (n := 187) 113 rfl rfl rfl 2 rfl <| E_imul (n := 188) 114 rfl rfl <| E_iadd (n := 189) 115 rfl rfl <| E_iload (n := 191) 116 rfl rfl 4 rfl <| E_iast (n := 192) 117 rfl rfl sh_136 hc1 <| E_mem hm2 <| E_aload_n (n := 193) 118 rfl rfl rfl 0 rfl <| E_gF (r := 136) (n := 196) 119 rfl rfl fg_12_37 sh_133 rfl <| E_iload_n (n := 197) 120 rfl rfl rfl 3 rfl <| E_iconst (v := 2) (n := 198) 121 rfl rfl icz_2 <| E_iload_n (n := 199) 122 rfl rfl rfl 2 rfl <| E_imul (n := 200) 123 rfl rfl <| E_iadd (n := 201) 124 rfl rfl <| E_iconst (v := 1) (n := 202) 125 rfl rfl icz_1 <| E_iadd (n := 203) 126 rfl rfl <| E_aload_n (n := 204) 127 rfl rfl rfl 0 rfl <| E_gI (n := 207) 128 rfl rfl fg_12_181 sh_133 <| E_iast (n := 208) 129 rfl rfl sh_136 hc3 <| E_mem hm4 <| E_iinc (v := (x2 + 1)) (lv' := [(0, .ref 133), (1, .int x1), (2, .int (x2 + 1)), (3, .int x3), (4, .int x4)]) (n := 211) 130 rfl rfl 2 rfl (by rw [icz_1]) (Nat.le_of_ble_eq_true rfl) [1, 2, 0, 3, 4] rfl <| E_aload_n (n := 212) 131 rfl rfl rfl 0 rfl <| E_cV0v (n := 215) 132 rfl rfl co_12_200 rfl sh_133 rfl (K_RM_next m4 _ hq6) <| E_goto (t := 45) 133 rfl rfl <| ?_
  refine E_sub (lv' := [(0, .ref 133), (1, .int x1), (2, .int (x2 + 1)), (3, .int x3)]) [0, 1, 2, 3] rfl ?_
  exact hr m5 (x2 + 1) h
set_option maxRecDepth 10000 in
theorem RM_readLine_L45_ok (x1 : Int32) (x3 : Int32) (kx : Mem → Int32 → Option (Int32 × Mem)) (R : Int32 × Mem) (hx : ∀ (m : Mem) (x2 : Int32), kx m x2 = some R → E M_RM_readLine 218 [(0, .ref 133), (1, .int x1), (2, .int x2), (3, .int x3)] [] m (qI R.1 R.2)) : ∀ (n : Nat) (m : Mem) (x2 : Int32), RM_readLine_L45 x1 x3 kx n m x2 = some R → E M_RM_readLine 45 [(0, .ref 133), (1, .int x1), (2, .int x2), (3, .int x3)] [] m (qI R.1 R.2) := by
  intro n
  induction n with
  | zero =>
    intro m x2 h
    exact absurd (show none = some R from h) (fun e => Option.some_ne_none R e.symm)
  | succ n ih =>
    intro m x2 h
    rw [RM_readLine_L45] at h
    refine E_aload_n (n := 46) 30 rfl rfl rfl 0 rfl <| E_bipush (v := 59) (n := 48) 31 rfl rfl bpz_59 <| E_cV1r (n := 51) 32 rfl rfl co_12_194 rfl sh_133 rfl (K_RM_isSign m 59 _ rfl) <| E_if_ne (n := 54) (t := 218) 33 rfl rfl rfl (fun hc => ?_) (fun hc => ?_)
    · have h := ifn h hc
      exact hx m x2 h
    · have h := ifp h hc
      refine E_aload_n (n := 55) 34 rfl rfl rfl 0 rfl <| E_gI (n := 58) 35 rfl rfl fg_12_171 sh_133 <| E_iconst (v := 2) (n := 59) 36 rfl rfl icz_2 <| E_icmp_eq (n := 62) (t := 68) 37 rfl rfl rfl (fun hc => ?_) (fun hc => ?_)
      · have h := ifp h hc
        refine E_aload_n (n := 69) 42 rfl rfl rfl 0 rfl <| E_gI (n := 72) 43 rfl rfl fg_12_181 sh_133 <| E_bipush (v := 20) (n := 74) 44 rfl rfl bpz_20 <| E_icmp_le (n := 77) (t := 83) 45 rfl rfl rfl (fun hc => ?_) (fun hc => ?_)
        · have h := ifp h hc
          refine E_iload_n (n := 84) 50 rfl rfl rfl 2 rfl <| E_bipush (v := 12) (n := 86) 51 rfl rfl bpz_12 <| E_icmp_ne (n := 89) (t := 95) 52 rfl rfl rfl (fun hc => ?_) (fun hc => ?_)
          · have h := ifn h hc
            obtain ⟨v1, hv1, h⟩ := letV_ex h
            obtain ⟨m2, hq3, h⟩ := bM_ex h
            refine E_aload_n (n := 96) 57 rfl rfl rfl 0 rfl <| E_gI (n := 99) 58 rfl rfl fg_12_181 sh_133 <| E_top hv1 <| E_istore (lv' := [(0, .ref 133), (1, .int x1), (2, .int x2), (3, .int x3), (4, .int v1)]) (n := 101) 59 rfl rfl (Nat.le_of_ble_eq_true rfl) [1, 2, 3, 4, 0] rfl <| E_aload_n (n := 102) 60 rfl rfl rfl 0 rfl <| E_cV0v (n := 105) 61 rfl rfl co_12_200 rfl sh_133 rfl (K_RM_next m _ hq3) <| E_aload_n (n := 106) 62 rfl rfl rfl 0 rfl <| E_gI (n := 109) 63 rfl rfl fg_12_171 sh_133 <| E_iconst (v := 2) (n := 110) 64 rfl rfl icz_2 <| E_icmp_eq (n := 113) (t := 119) 65 rfl rfl rfl (fun hc => ?_) (fun hc => ?_)
            · have h := ifp h hc
              refine E_aload_n (n := 120) 70 rfl rfl rfl 0 rfl <| E_gI (n := 123) 71 rfl rfl fg_12_181 sh_133 <| E_bipush (v := 20) (n := 125) 72 rfl rfl bpz_20 <| E_icmp_le (n := 128) (t := 134) 73 rfl rfl rfl (fun hc => ?_) (fun hc => ?_)
              · have h := ifp h hc
                refine E_iload_n (n := 135) 78 rfl rfl rfl 2 rfl <| E_if_le (n := 138) (t := 180) 79 rfl rfl rfl (fun hc => ?_) (fun hc => ?_)
                · have h := ifp h hc
                  exact RM_readLine_J180_ok _ _ m2 x1 x2 x3 v1 _ ih hx h
                · have h := ifn h hc
                  obtain ⟨hc4, h⟩ := ift h
                  refine E_aload_n (n := 139) 80 rfl rfl rfl 0 rfl <| E_gF (r := 136) (n := 142) 81 rfl rfl fg_12_37 sh_133 rfl <| E_iload_n (n := 143) 82 rfl rfl rfl 3 rfl <| E_iconst (v := 2) (n := 144) 83 rfl rfl icz_2 <| E_iload_n (n := 145) 84 rfl rfl rfl 2 rfl <| E_imul (n := 146) 85 rfl rfl <| E_iadd (n := 147) 86 rfl rfl <| E_iconst (v := 2) (n := 148) 87 rfl rfl icz_2 <| E_isub (n := 149) 88 rfl rfl <| E_iald (n := 150) 89 rfl rfl sh_136 hc4 <| E_iload (n := 152) 90 rfl rfl 4 rfl <| E_icmp_ne (n := 155) (t := 180) 91 rfl rfl rfl (fun hc => ?_) (fun hc => ?_)
                  · have h := ifn h hc
                    exact RM_readLine_J180_ok _ _ m2 x1 x2 x3 v1 _ ih hx h
                  · have h := ifp h hc
                    obtain ⟨hc5, h⟩ := ift h
                    refine E_aload_n (n := 156) 92 rfl rfl rfl 0 rfl <| E_gF (r := 136) (n := 159) 93 rfl rfl fg_12_37 sh_133 rfl <| E_iload_n (n := 160) 94 rfl rfl rfl 3 rfl <| E_iconst (v := 2) (n := 161) 95 rfl rfl icz_2 <| E_iload_n (n := 162) 96 rfl rfl rfl 2 rfl <| E_imul (n := 163) 97 rfl rfl <| E_iadd (n := 164) 98 rfl rfl <| E_iconst (v := 1) (n := 165) 99 rfl rfl icz_1 <| E_isub (n := 166) 100 rfl rfl <| E_iald (n := 167) 101 rfl rfl sh_136 hc5 <| E_aload_n (n := 168) 102 rfl rfl rfl 0 rfl <| E_gI (n := 171) 103 rfl rfl fg_12_181 sh_133 <| E_icmp_ne (n := 174) (t := 180) 104 rfl rfl rfl (fun hc => ?_) (fun hc => ?_)
                    · have h := ifn h hc
                      exact RM_readLine_J180_ok _ _ m2 x1 x2 x3 v1 _ ih hx h
                    · have h := ifp h hc
                      obtain ⟨v6, m7, hq8, h⟩ := bV_ex h
                      obtain ⟨hc9, h⟩ := ift h
                      refine E_aload_n (n := 175) 105 rfl rfl rfl 0 rfl <| E_iconst (v := 3) (n := 176) 106 rfl rfl icz_3 <| E_cV1r (n := 179) 107 rfl rfl co_12_197 rfl sh_133 rfl (K_RM_bad m2 3 _ hq8) <| E_zreturn 108 rfl rfl hc9 (eS h)
              · have h := ifn h hc
                obtain ⟨v10, m11, hq12, h⟩ := bV_ex h
                obtain ⟨hc13, h⟩ := ift h
                refine E_aload_n (n := 129) 74 rfl rfl rfl 0 rfl <| E_iconst (v := 2) (n := 130) 75 rfl rfl icz_2 <| E_cV1r (n := 133) 76 rfl rfl co_12_197 rfl sh_133 rfl (K_RM_bad m2 2 _ hq12) <| E_zreturn 77 rfl rfl hc13 (eS h)
            · have h := ifn h hc
              obtain ⟨v14, m15, hq16, h⟩ := bV_ex h
              obtain ⟨hc17, h⟩ := ift h
              refine E_aload_n (n := 114) 66 rfl rfl rfl 0 rfl <| E_iconst (v := 1) (n := 115) 67 rfl rfl icz_1 <| E_cV1r (n := 118) 68 rfl rfl co_12_197 rfl sh_133 rfl (K_RM_bad m2 1 _ hq16) <| E_zreturn 69 rfl rfl hc17 (eS h)
          · have h := ifp h hc
            obtain ⟨v18, m19, hq20, h⟩ := bV_ex h
            obtain ⟨hc21, h⟩ := ift h
            refine E_aload_n (n := 90) 53 rfl rfl rfl 0 rfl <| E_iconst (v := 4) (n := 91) 54 rfl rfl icz_4 <| E_cV1r (n := 94) 55 rfl rfl co_12_197 rfl sh_133 rfl (K_RM_bad m 4 _ hq20) <| E_zreturn 56 rfl rfl hc21 (eS h)
        · have h := ifn h hc
          obtain ⟨v22, m23, hq24, h⟩ := bV_ex h
          obtain ⟨hc25, h⟩ := ift h
          refine E_aload_n (n := 78) 46 rfl rfl rfl 0 rfl <| E_iconst (v := 2) (n := 79) 47 rfl rfl icz_2 <| E_cV1r (n := 82) 48 rfl rfl co_12_197 rfl sh_133 rfl (K_RM_bad m 2 _ hq24) <| E_zreturn 49 rfl rfl hc25 (eS h)
      · have h := ifn h hc
        obtain ⟨v26, m27, hq28, h⟩ := bV_ex h
        obtain ⟨hc29, h⟩ := ift h
        refine E_aload_n (n := 63) 38 rfl rfl rfl 0 rfl <| E_iconst (v := 1) (n := 64) 39 rfl rfl icz_1 <| E_cV1r (n := 67) 40 rfl rfl co_12_197 rfl sh_133 rfl (K_RM_bad m 1 _ hq28) <| E_zreturn 41 rfl rfl hc29 (eS h)
theorem RM_readLine_J287_ok (m : Mem) (x1 : Int32) (x2 : Int32) (R : Int32 × Mem) (h : RM_readLine_J287 m x1 x2 = some R) : E M_RM_readLine 287 [(0, .ref 133), (1, .int x1), (2, .int x2)] [] m (qI R.1 R.2) := by
  unfold RM_readLine_J287 at h
  obtain ⟨hc1, h⟩ := ift h
  obtain ⟨m2, hm2, h⟩ := letM_ex h
  obtain ⟨hc3, h⟩ := ift h
  obtain ⟨m4, hm4, h⟩ := letM_ex h
  refine E_aload_n (n := 288) 181 rfl rfl rfl 0 rfl <| E_gF (r := 136) (n := 291) 182 rfl rfl fg_12_37 sh_133 rfl <| E_bipush (v := 11) (n := 293) 183 rfl rfl bpz_11 <| E_iload_n (n := 294) 184 rfl rfl rfl 1 rfl <| E_iadd (n := 295) 185 rfl rfl <| E_iload_n (n := 296) 186 rfl rfl rfl 2 rfl <| E_iast (n := 297) 187 rfl rfl sh_136 hc1 <| E_mem hm2 <| E_aload_n (n := 298) 188 rfl rfl rfl 0 rfl <| E_gF (r := 136) (n := 301) 189 rfl rfl fg_12_37 sh_133 rfl <| E_iconst (v := 0) (n := 302) 190 rfl rfl icz_0 <| E_dup2 (n := 303) 191 rfl rfl rfl rfl <| E_iald (n := 304) 192 rfl rfl sh_136 hc3 <| E_iconst (v := 1) (n := 305) 193 rfl rfl icz_1 <| E_iadd (n := 306) 194 rfl rfl <| E_iast (n := 307) 195 rfl rfl sh_136 hc3 <| E_mem hm4 <| E_iconst (v := 1) (n := 308) 196 rfl rfl icz_1 <| E_zreturn 197 rfl rfl z1 (eS h)
theorem RM_readLine_J233_ok (m : Mem) (s1 : Int32) (R : Int32 × Mem) (h : RM_readLine_J233 m s1 = some R) : E M_RM_readLine 233 [] [.int s1, .ref 133] m (qI R.1 R.2) := by
  unfold RM_readLine_J233 at h
  obtain ⟨v1, m2, hq3, h⟩ := bV_ex h
  obtain ⟨hc4, h⟩ := ift h
  refine E_cV1r (n := 236) 143 rfl rfl co_12_197 rfl sh_133 rfl (K_RM_bad m s1 _ hq3) <| E_zreturn 144 rfl rfl hc4 (eS h)
theorem K_RM_readLine (m : Mem) (R : Int32 × Mem) (h : RM_readLine m = some R) : Mt M_RM_readLine [.ref 133] m (qI R.1 R.2) := by
  refine Mt.of G_RM_readLine (Nat.le_of_ble_eq_true rfl) (E_sub (lv' := [(0, .ref 133)]) [0] rfl ?_)
  unfold RM_readLine at h
  obtain ⟨hc1, h⟩ := ift h
  obtain ⟨v2, hv2, h⟩ := letV_ex h
  refine E_aload_n (n := 1) 0 rfl rfl rfl 0 rfl <| E_gF (r := 136) (n := 4) 1 rfl rfl fg_12_37 sh_133 rfl <| E_iconst (v := 0) (n := 5) 2 rfl rfl icz_0 <| E_iald (n := 6) 3 rfl rfl sh_136 hc1 <| E_top hv2 <| E_istore_n (lv' := [(0, .ref 133), (1, .int v2)]) (n := 7) 4 rfl rfl rfl (Nat.le_of_ble_eq_true rfl) [1, 0] rfl <| E_iload_n (n := 8) 5 rfl rfl rfl 1 rfl <| E_iconst (v := 3) (n := 9) 6 rfl rfl icz_3 <| E_icmp_ne (n := 12) (t := 18) 7 rfl rfl rfl (fun hc => ?_) (fun hc => ?_)
  · have h := ifn h hc
    obtain ⟨m3, hq4, h⟩ := bM_ex h
    obtain ⟨v5, m6, hq7, h⟩ := bV_ex h
    refine E_aload_n (n := 19) 12 rfl rfl rfl 0 rfl <| E_cV0v (n := 22) 13 rfl rfl co_12_200 rfl sh_133 rfl (K_RM_next m _ hq4) <| E_aload_n (n := 23) 14 rfl rfl rfl 0 rfl <| E_bipush (v := 13) (n := 25) 15 rfl rfl bpz_13 <| E_iload_n (n := 26) 16 rfl rfl rfl 1 rfl <| E_iadd (n := 27) 17 rfl rfl <| E_cV1r (n := 30) 18 rfl rfl co_12_232 rfl sh_133 rfl (K_RM_fresh m3 (13 + v2) _ hq7) <| E_if_ne (n := 33) (t := 35) 19 rfl rfl rfl (fun hc => ?_) (fun hc => ?_)
    · have h := ifn h hc
      obtain ⟨v8, hv8, h⟩ := letV_ex h
      refine E_iconst (v := 0) (n := 36) 22 rfl rfl icz_0 <| E_istore_n (lv' := [(0, .ref 133), (1, .int v2), (2, .int 0)]) (n := 37) 23 rfl rfl rfl (Nat.le_of_ble_eq_true rfl) [1, 2, 0] rfl <| E_bipush (v := 14) (n := 39) 24 rfl rfl bpz_14 <| E_bipush (v := 24) (n := 41) 25 rfl rfl bpz_24 <| E_iload_n (n := 42) 26 rfl rfl rfl 1 rfl <| E_imul (n := 43) 27 rfl rfl <| E_iadd (n := 44) 28 rfl rfl <| E_top hv8 <| E_istore_n (lv' := [(0, .ref 133), (1, .int v2), (2, .int 0), (3, .int v8)]) (n := 45) 29 rfl rfl rfl (Nat.le_of_ble_eq_true rfl) [1, 2, 3, 0] rfl <| ?_
      refine RM_readLine_L45_ok v2 v8 _ R ?_ FU m6 0 h
      intro m10 y9 h
      refine E_iload_n (n := 219) 134 rfl rfl rfl 2 rfl <| E_iconst (v := 3) (n := 220) 135 rfl rfl icz_3 <| E_icmp_ge (n := 223) (t := 237) 136 rfl rfl rfl (fun hc => ?_) (fun hc => ?_)
      · have h := ifp h hc
        obtain ⟨hc11, h⟩ := ift h
        obtain ⟨hc12, h⟩ := ift h
        refine E_aload_n (n := 238) 145 rfl rfl rfl 0 rfl <| E_gF (r := 136) (n := 241) 146 rfl rfl fg_12_37 sh_133 rfl <| E_iload_n (n := 242) 147 rfl rfl rfl 3 rfl <| E_iald (n := 243) 148 rfl rfl sh_136 hc11 <| E_aload_n (n := 244) 149 rfl rfl rfl 0 rfl <| E_gF (r := 136) (n := 247) 150 rfl rfl fg_12_37 sh_133 rfl <| E_iload_n (n := 248) 151 rfl rfl rfl 3 rfl <| E_iconst (v := 2) (n := 249) 152 rfl rfl icz_2 <| E_iload_n (n := 250) 153 rfl rfl rfl 2 rfl <| E_imul (n := 251) 154 rfl rfl <| E_iadd (n := 252) 155 rfl rfl <| E_iconst (v := 2) (n := 253) 156 rfl rfl icz_2 <| E_isub (n := 254) 157 rfl rfl <| E_iald (n := 255) 158 rfl rfl sh_136 hc12 <| E_icmp_ne (n := 258) (t := 287) 159 rfl rfl rfl (fun hc => ?_) (fun hc => ?_)
        · have h := ifn h hc
          refine E_sub (lv' := [(0, .ref 133), (1, .int v2), (2, .int y9)]) [0, 1, 2] rfl ?_
          exact RM_readLine_J287_ok m10 v2 y9 _ h
        · have h := ifp h hc
          obtain ⟨hc13, h⟩ := ift h
          obtain ⟨hc14, h⟩ := ift h
          refine E_aload_n (n := 259) 160 rfl rfl rfl 0 rfl <| E_gF (r := 136) (n := 262) 161 rfl rfl fg_12_37 sh_133 rfl <| E_iload_n (n := 263) 162 rfl rfl rfl 3 rfl <| E_iconst (v := 1) (n := 264) 163 rfl rfl icz_1 <| E_iadd (n := 265) 164 rfl rfl <| E_iald (n := 266) 165 rfl rfl sh_136 hc13 <| E_aload_n (n := 267) 166 rfl rfl rfl 0 rfl <| E_gF (r := 136) (n := 270) 167 rfl rfl fg_12_37 sh_133 rfl <| E_iload_n (n := 271) 168 rfl rfl rfl 3 rfl <| E_iconst (v := 2) (n := 272) 169 rfl rfl icz_2 <| E_iload_n (n := 273) 170 rfl rfl rfl 2 rfl <| E_imul (n := 274) 171 rfl rfl <| E_iadd (n := 275) 172 rfl rfl <| E_iconst (v := 1) (n := 276) 173 rfl rfl icz_1 <| E_isub (n := 277) 174 rfl rfl <| E_iald (n := 278) 175 rfl rfl sh_136 hc14 <| E_icmp_ne (n := 281) (t := 287) 176 rfl rfl rfl (fun hc => ?_) (fun hc => ?_)
          · have h := ifn h hc
            refine E_sub (lv' := [(0, .ref 133), (1, .int v2), (2, .int y9)]) [0, 1, 2] rfl ?_
            exact RM_readLine_J287_ok m10 v2 y9 _ h
          · have h := ifp h hc
            obtain ⟨v15, m16, hq17, h⟩ := bV_ex h
            obtain ⟨hc18, h⟩ := ift h
            refine E_aload_n (n := 282) 177 rfl rfl rfl 0 rfl <| E_iconst (v := 3) (n := 283) 178 rfl rfl icz_3 <| E_cV1r (n := 286) 179 rfl rfl co_12_197 rfl sh_133 rfl (K_RM_bad m10 3 _ hq17) <| E_zreturn 180 rfl rfl hc18 (eS h)
      · have h := ifn h hc
        refine E_aload_n (n := 224) 137 rfl rfl rfl 0 rfl <| E_iload_n (n := 225) 138 rfl rfl rfl 2 rfl <| E_if_ne (n := 228) (t := 232) 139 rfl rfl rfl (fun hc => ?_) (fun hc => ?_)
        · have h := ifn h hc
          refine E_iconst (v := 4) (n := 233) 142 rfl rfl icz_4 <| ?_
          refine E_sub (lv' := []) [] rfl ?_
          exact RM_readLine_J233_ok m10 4 _ h
        · have h := ifp h hc
          refine E_iconst (v := 1) (n := 229) 140 rfl rfl icz_1 <| E_goto (t := 233) 141 rfl rfl <| ?_
          refine E_sub (lv' := []) [] rfl ?_
          exact RM_readLine_J233_ok m10 1 _ h
    · have h := ifp h hc
      refine E_iconst (v := 0) (n := 34) 20 rfl rfl icz_0 <| E_zreturn 21 rfl rfl z0 (eS h)
  · have h := ifp h hc
    obtain ⟨v19, m20, hq21, h⟩ := bV_ex h
    obtain ⟨hc22, h⟩ := ift h
    refine E_aload_n (n := 13) 8 rfl rfl rfl 0 rfl <| E_iconst (v := 4) (n := 14) 9 rfl rfl icz_4 <| E_cV1r (n := 17) 10 rfl rfl co_12_197 rfl sh_133 rfl (K_RM_bad m 4 _ hq21) <| E_zreturn 11 rfl rfl hc22 (eS h)
theorem RM_row_L372_ok (kx : Mem → Option (Int32 × Mem)) (R : Int32 × Mem) (hx : ∀ (m : Mem), kx m = some R → E M_RM_row 408 [] [] m (qI R.1 R.2)) : ∀ (n : Nat) (m : Mem) (x1 : Int32), RM_row_L372 kx n m x1 = some R → E M_RM_row 372 [(0, .ref 133), (1, .int x1)] [] m (qI R.1 R.2) := by
  intro n
  induction n with
  | zero =>
    intro m x1 h
    exact absurd (show none = some R from h) (fun e => Option.some_ne_none R e.symm)
  | succ n ih =>
    intro m x1 h
    rw [RM_row_L372] at h
    refine E_iload_n (n := 373) 206 rfl rfl rfl 1 rfl <| E_iconst (v := 4) (n := 374) 207 rfl rfl icz_4 <| E_icmp_ge (n := 377) (t := 408) 208 rfl rfl rfl (fun hc => ?_) (fun hc => ?_)
    · have h := ifp h hc
      refine E_sub (lv' := []) [] rfl ?_
      exact hx m h
    · have h := ifn h hc
      obtain ⟨v1, m2, hq3, h⟩ := bV_ex h
      refine E_aload_n (n := 378) 209 rfl rfl rfl 0 rfl <| E_iconst (v := 0) (n := 379) 210 rfl rfl icz_0 <| E_bipush (v := 9) (n := 381) 211 rfl rfl bpz_9 <| E_cV2r (n := 384) 212 rfl rfl co_12_235 rfl sh_133 rfl (K_RM_takes m 0 9 _ hq3) <| E_if_ne (n := 387) (t := 389) 213 rfl rfl rfl (fun hc => ?_) (fun hc => ?_)
      · have h := ifn h hc
        obtain ⟨hc4, h⟩ := ift h
        obtain ⟨m5, hm5, h⟩ := letM_ex h
        refine E_aload_n (n := 390) 216 rfl rfl rfl 0 rfl <| E_gF (r := 136) (n := 393) 217 rfl rfl fg_12_37 sh_133 rfl <| E_bipush (v := 7) (n := 395) 218 rfl rfl bpz_7 <| E_iload_n (n := 396) 219 rfl rfl rfl 1 rfl <| E_iadd (n := 397) 220 rfl rfl <| E_aload_n (n := 398) 221 rfl rfl rfl 0 rfl <| E_gI (n := 401) 222 rfl rfl fg_12_207 sh_133 <| E_iast (n := 402) 223 rfl rfl sh_136 hc4 <| E_mem hm5 <| E_iinc (v := (x1 + 1)) (lv' := [(0, .ref 133), (1, .int (x1 + 1))]) (n := 405) 224 rfl rfl 1 rfl (by rw [icz_1]) (Nat.le_of_ble_eq_true rfl) [1, 0] rfl <| E_goto (t := 372) 225 rfl rfl <| ?_
        exact ih m5 (x1 + 1) h
      · have h := ifp h hc
        refine E_iconst (v := 0) (n := 388) 214 rfl rfl icz_0 <| E_zreturn 215 rfl rfl z0 (eS h)
theorem RM_row_J337_ok (m : Mem) (s1 : Int32) (s2 : Int32) (R : Int32 × Mem) (h : RM_row_J337 m s1 s2 = some R) : E M_RM_row 337 [(0, .ref 133)] [.int s2, .int s1, .ref 136] m (qI R.1 R.2) := by
  unfold RM_row_J337 at h
  obtain ⟨hc1, h⟩ := ift h
  obtain ⟨m2, hm2, h⟩ := letM_ex h
  obtain ⟨m3, hq4, h⟩ := bM_ex h
  refine E_iast (n := 338) 185 rfl rfl sh_136 hc1 <| E_mem hm2 <| E_aload_n (n := 339) 186 rfl rfl rfl 0 rfl <| E_cV0v (n := 342) 187 rfl rfl co_12_200 rfl sh_133 rfl (K_RM_next m2 _ hq4) <| E_iconst (v := 1) (n := 343) 188 rfl rfl icz_1 <| E_zreturn 189 rfl rfl z1 (eS h)
theorem RM_row_J317_ok (m : Mem) (R : Int32 × Mem) (h : RM_row_J317 m = some R) : E M_RM_row 317 [(0, .ref 133)] [] m (qI R.1 R.2) := by
  unfold RM_row_J317 at h
  refine E_aload_n (n := 318) 175 rfl rfl rfl 0 rfl <| E_gF (r := 136) (n := 321) 176 rfl rfl fg_12_37 sh_133 rfl <| E_iconst (v := 5) (n := 322) 177 rfl rfl icz_5 <| E_aload_n (n := 323) 178 rfl rfl rfl 0 rfl <| E_ldc2 (v := 6842739) (n := 326) 179 rfl rfl tw_1516 <| E_cV1r (n := 329) 180 rfl rfl co_12_225 rfl sh_133 rfl (K_RM_isWord m 6842739 _ rfl) <| E_if_eq (n := 332) (t := 336) 181 rfl rfl rfl (fun hc => ?_) (fun hc => ?_)
  · have h := ifp h hc
    refine E_iconst (v := 0) (n := 337) 184 rfl rfl icz_0 <| ?_
    exact RM_row_J337_ok m 5 0 _ h
  · have h := ifn h hc
    refine E_iconst (v := 1) (n := 333) 182 rfl rfl icz_1 <| E_goto (t := 337) 183 rfl rfl <| ?_
    exact RM_row_J337_ok m 5 1 _ h
theorem RM_row_J247_ok (m : Mem) (s0 : Int32) (R : Int32 × Mem) (h : RM_row_J247 m s0 = some R) : E M_RM_row 247 [(0, .ref 133)] [.int s0] m (qI R.1 R.2) := by
  unfold RM_row_J247 at h
  refine E_istore_n (lv' := [(0, .ref 133), (1, .int s0)]) (n := 248) 137 rfl rfl rfl (Nat.le_of_ble_eq_true rfl) [1, 0] rfl <| E_iload_n (n := 249) 138 rfl rfl rfl 1 rfl <| E_if_ge (n := 252) (t := 258) 139 rfl rfl rfl (fun hc => ?_) (fun hc => ?_)
  · have h := ifp h hc
    obtain ⟨hc1, h⟩ := ift h
    obtain ⟨m2, hm2, h⟩ := letM_ex h
    obtain ⟨m3, hq4, h⟩ := bM_ex h
    refine E_aload_n (n := 259) 144 rfl rfl rfl 0 rfl <| E_gF (r := 136) (n := 262) 145 rfl rfl fg_12_37 sh_133 rfl <| E_iconst (v := 4) (n := 263) 146 rfl rfl icz_4 <| E_iload_n (n := 264) 147 rfl rfl rfl 1 rfl <| E_iast (n := 265) 148 rfl rfl sh_136 hc1 <| E_mem hm2 <| E_aload_n (n := 266) 149 rfl rfl rfl 0 rfl <| E_cV0v (n := 269) 150 rfl rfl co_12_200 rfl sh_133 rfl (K_RM_next m2 _ hq4) <| E_iconst (v := 1) (n := 270) 151 rfl rfl icz_1 <| E_zreturn 152 rfl rfl z1 (eS h)
  · have h := ifn h hc
    obtain ⟨v5, m6, hq7, h⟩ := bV_ex h
    obtain ⟨hc8, h⟩ := ift h
    refine E_aload_n (n := 253) 140 rfl rfl rfl 0 rfl <| E_iconst (v := 1) (n := 254) 141 rfl rfl icz_1 <| E_cV1r (n := 257) 142 rfl rfl co_12_197 rfl sh_133 rfl (K_RM_bad m 1 _ hq7) <| E_zreturn 143 rfl rfl hc8 (eS h)
theorem RM_row_L147_ok (kx : Mem → Option (Int32 × Mem)) (R : Int32 × Mem) (hx : ∀ (m : Mem), kx m = some R → E M_RM_row 182 [] [] m (qI R.1 R.2)) : ∀ (n : Nat) (m : Mem) (x1 : Int32), RM_row_L147 kx n m x1 = some R → E M_RM_row 147 [(0, .ref 133), (1, .int x1)] [] m (qI R.1 R.2) := by
  intro n
  induction n with
  | zero =>
    intro m x1 h
    exact absurd (show none = some R from h) (fun e => Option.some_ne_none R e.symm)
  | succ n ih =>
    intro m x1 h
    rw [RM_row_L147] at h
    refine E_iload_n (n := 148) 86 rfl rfl rfl 1 rfl <| E_iconst (v := 2) (n := 149) 87 rfl rfl icz_2 <| E_icmp_ge (n := 152) (t := 182) 88 rfl rfl rfl (fun hc => ?_) (fun hc => ?_)
    · have h := ifp h hc
      refine E_sub (lv' := []) [] rfl ?_
      exact hx m h
    · have h := ifn h hc
      obtain ⟨v1, m2, hq3, h⟩ := bV_ex h
      refine E_aload_n (n := 153) 89 rfl rfl rfl 0 rfl <| E_iconst (v := 0) (n := 154) 90 rfl rfl icz_0 <| E_bipush (v := 19) (n := 156) 91 rfl rfl bpz_19 <| E_cV2r (n := 159) 92 rfl rfl co_12_235 rfl sh_133 rfl (K_RM_takes m 0 19 _ hq3) <| E_if_ne (n := 162) (t := 164) 93 rfl rfl rfl (fun hc => ?_) (fun hc => ?_)
      · have h := ifn h hc
        obtain ⟨hc4, h⟩ := ift h
        obtain ⟨m5, hm5, h⟩ := letM_ex h
        refine E_aload_n (n := 165) 96 rfl rfl rfl 0 rfl <| E_gF (r := 136) (n := 168) 97 rfl rfl fg_12_37 sh_133 rfl <| E_iconst (v := 2) (n := 169) 98 rfl rfl icz_2 <| E_iload_n (n := 170) 99 rfl rfl rfl 1 rfl <| E_iadd (n := 171) 100 rfl rfl <| E_aload_n (n := 172) 101 rfl rfl rfl 0 rfl <| E_gI (n := 175) 102 rfl rfl fg_12_207 sh_133 <| E_iast (n := 176) 103 rfl rfl sh_136 hc4 <| E_mem hm5 <| E_iinc (v := (x1 + 1)) (lv' := [(0, .ref 133), (1, .int (x1 + 1))]) (n := 179) 104 rfl rfl 1 rfl (by rw [icz_1]) (Nat.le_of_ble_eq_true rfl) [1, 0] rfl <| E_goto (t := 147) 105 rfl rfl <| ?_
        exact ih m5 (x1 + 1) h
      · have h := ifp h hc
        refine E_iconst (v := 0) (n := 163) 94 rfl rfl icz_0 <| E_zreturn 95 rfl rfl z0 (eS h)
theorem RM_row_J82_ok (kr : Mem → Int32 → Option (Int32 × Mem)) (kx : Mem → Option (Int32 × Mem)) (m : Mem) (x1 : Int32) (x2 : Int32) (s1 : Int32) (s2 : Int32) (R : Int32 × Mem) (hr : ∀ (m : Mem) (x2 : Int32), kr m x2 = some R → E M_RM_row 63 [(0, .ref 133), (1, .int x1), (2, .int x2)] [] m (qI R.1 R.2)) (hx : ∀ (m : Mem), kx m = some R → E M_RM_row 113 [(0, .ref 133)] [] m (qI R.1 R.2)) (h : RM_row_J82 kr kx m x1 x2 s1 s2 = some R) : E M_RM_row 82 [(0, .ref 133), (1, .int x1), (2, .int x2)] [.int s2, .int s1, .ref 133] m (qI R.1 R.2) := by
  unfold RM_row_J82 at h
  obtain ⟨v1, m2, hq3, h⟩ := bV_ex h
  refine E_cV2r (n := 85) 46 rfl rfl co_12_235 rfl sh_133 rfl (K_RM_takes m s1 s2 _ hq3) <| E_if_ne (n := 88) (t := 90) 47 rfl rfl rfl (fun hc => ?_) (fun hc => ?_)
  · have h := ifn h hc
    obtain ⟨hc4, h⟩ := ift h
    obtain ⟨m5, hm5, h⟩ := letM_ex h
    refine E_aload_n (n := 91) 50 rfl rfl rfl 0 rfl <| E_gF (r := 136) (n := 94) 51 rfl rfl fg_12_37 sh_133 rfl <| E_bipush (v := 86) (n := 96) 52 rfl rfl bpz_86 <| E_iconst (v := 3) (n := 97) 53 rfl rfl icz_3 <| E_iload_n (n := 98) 54 rfl rfl rfl 1 rfl <| E_imul (n := 99) 55 rfl rfl <| E_iadd (n := 100) 56 rfl rfl <| E_iload_n (n := 101) 57 rfl rfl rfl 2 rfl <| E_iadd (n := 102) 58 rfl rfl <| E_aload_n (n := 103) 59 rfl rfl rfl 0 rfl <| E_gI (n := 106) 60 rfl rfl fg_12_207 sh_133 <| E_iast (n := 107) 61 rfl rfl sh_136 hc4 <| E_mem hm5 <| E_iinc (v := (x2 + 1)) (lv' := [(0, .ref 133), (1, .int x1), (2, .int (x2 + 1))]) (n := 110) 62 rfl rfl 2 rfl (by rw [icz_1]) (Nat.le_of_ble_eq_true rfl) [1, 2, 0] rfl <| E_goto (t := 63) 63 rfl rfl <| ?_
    exact hr m5 (x2 + 1) h
  · have h := ifp h hc
    refine E_iconst (v := 0) (n := 89) 48 rfl rfl icz_0 <| E_zreturn 49 rfl rfl z0 (eS h)
theorem RM_row_L63_ok (x1 : Int32) (kx : Mem → Option (Int32 × Mem)) (R : Int32 × Mem) (hx : ∀ (m : Mem), kx m = some R → E M_RM_row 113 [(0, .ref 133)] [] m (qI R.1 R.2)) : ∀ (n : Nat) (m : Mem) (x2 : Int32), RM_row_L63 x1 kx n m x2 = some R → E M_RM_row 63 [(0, .ref 133), (1, .int x1), (2, .int x2)] [] m (qI R.1 R.2) := by
  intro n
  induction n with
  | zero =>
    intro m x2 h
    exact absurd (show none = some R from h) (fun e => Option.some_ne_none R e.symm)
  | succ n ih =>
    intro m x2 h
    rw [RM_row_L63] at h
    refine E_iload_n (n := 64) 35 rfl rfl rfl 2 rfl <| E_iconst (v := 3) (n := 65) 36 rfl rfl icz_3 <| E_icmp_ge (n := 68) (t := 113) 37 rfl rfl rfl (fun hc => ?_) (fun hc => ?_)
    · have h := ifp h hc
      refine E_sub (lv' := [(0, .ref 133)]) [0] rfl ?_
      exact hx m h
    · have h := ifn h hc
      refine E_aload_n (n := 69) 38 rfl rfl rfl 0 rfl <| E_iconst (v := 0) (n := 70) 39 rfl rfl icz_0 <| E_iload_n (n := 71) 40 rfl rfl rfl 2 rfl <| E_iconst (v := 2) (n := 72) 41 rfl rfl icz_2 <| E_icmp_ge (n := 75) (t := 80) 42 rfl rfl rfl (fun hc => ?_) (fun hc => ?_)
      · have h := ifp h hc
        refine E_bipush (v := 99) (n := 82) 45 rfl rfl bpz_99 <| ?_
        exact RM_row_J82_ok _ _ m x1 x2 0 99 _ ih hx h
      · have h := ifn h hc
        refine E_bipush (v := 19) (n := 77) 43 rfl rfl bpz_19 <| E_goto (t := 82) 44 rfl rfl <| ?_
        exact RM_row_J82_ok _ _ m x1 x2 0 19 _ ih hx h
set_option maxRecDepth 10000 in
theorem K_RM_row (m : Mem) (R : Int32 × Mem) (h : RM_row m = some R) : Mt M_RM_row [.ref 133] m (qI R.1 R.2) := by
  refine Mt.of G_RM_row (Nat.le_of_ble_eq_true rfl) (E_sub (lv' := [(0, .ref 133)]) [0] rfl ?_)
  unfold RM_row at h
  refine E_aload_n (n := 1) 0 rfl rfl rfl 0 rfl <| E_ldc2 (v := 1818848869) (n := 4) 1 rfl rfl tw_1508 <| E_cV1r (n := 7) 2 rfl rfl co_12_225 rfl sh_133 rfl (K_RM_isWord m 1818848869 _ rfl) <| E_if_eq (n := 10) (t := 15) 3 rfl rfl rfl (fun hc => ?_) (fun hc => ?_)
  · have h := ifp h hc
    refine E_aload_n (n := 16) 7 rfl rfl rfl 0 rfl <| E_ldc2 (v := 6840697) (n := 19) 8 rfl rfl tw_1509 <| E_cV1r (n := 22) 9 rfl rfl co_12_225 rfl sh_133 rfl (K_RM_isWord m 6840697 _ rfl) <| E_if_eq (n := 25) (t := 125) 10 rfl rfl rfl (fun hc => ?_) (fun hc => ?_)
    · have h := ifp h hc
      refine E_aload_n (n := 126) 74 rfl rfl rfl 0 rfl <| E_ldc2 (v := 109300298179432) (n := 129) 75 rfl rfl tw_1510 <| E_cV1r (n := 132) 76 rfl rfl co_12_225 rfl sh_133 rfl (K_RM_isWord m 109300298179432 _ rfl) <| E_if_eq (n := 135) (t := 184) 77 rfl rfl rfl (fun hc => ?_) (fun hc => ?_)
      · have h := ifp h hc
        refine E_aload_n (n := 185) 108 rfl rfl rfl 0 rfl <| E_ldc2 (v := 7102839) (n := 188) 109 rfl rfl tw_1511 <| E_cV1r (n := 191) 110 rfl rfl co_12_225 rfl sh_133 rfl (K_RM_isWord m 7102839 _ rfl) <| E_if_eq (n := 194) (t := 271) 111 rfl rfl rfl (fun hc => ?_) (fun hc => ?_)
        · have h := ifp h hc
          refine E_aload_n (n := 272) 153 rfl rfl rfl 0 rfl <| E_ldc2 (v := 1701078885) (n := 275) 154 rfl rfl tw_1515 <| E_cV1r (n := 278) 155 rfl rfl co_12_225 rfl sh_133 rfl (K_RM_isWord m 1701078885 _ rfl) <| E_if_eq (n := 281) (t := 344) 156 rfl rfl rfl (fun hc => ?_) (fun hc => ?_)
          · have h := ifp h hc
            refine E_aload_n (n := 345) 190 rfl rfl rfl 0 rfl <| E_ldc2 (v := 448378008179) (n := 348) 191 rfl rfl tw_1518 <| E_cV1r (n := 351) 192 rfl rfl co_12_225 rfl sh_133 rfl (K_RM_isWord m 448378008179 _ rfl) <| E_if_ne (n := 354) (t := 360) 193 rfl rfl rfl (fun hc => ?_) (fun hc => ?_)
            · have h := ifn h hc
              obtain ⟨v1, m2, hq3, h⟩ := bV_ex h
              refine E_aload_n (n := 361) 198 rfl rfl rfl 0 rfl <| E_iconst (v := 3) (n := 362) 199 rfl rfl icz_3 <| E_cV1r (n := 365) 200 rfl rfl co_12_238 rfl sh_133 rfl (K_RM_isOnce m 3 _ hq3) <| E_if_ne (n := 368) (t := 370) 201 rfl rfl rfl (fun hc => ?_) (fun hc => ?_)
              · have h := ifn h hc
                refine E_iconst (v := 0) (n := 371) 204 rfl rfl icz_0 <| E_istore_n (lv' := [(0, .ref 133), (1, .int 0)]) (n := 372) 205 rfl rfl rfl (Nat.le_of_ble_eq_true rfl) [1, 0] rfl <| ?_
                refine RM_row_L372_ok _ R ?_ FU m2 0 h
                intro m4 h
                refine E_iconst (v := 1) (n := 409) 226 rfl rfl icz_1 <| E_zreturn 227 rfl rfl z1 (eS h)
              · have h := ifp h hc
                refine E_iconst (v := 0) (n := 369) 202 rfl rfl icz_0 <| E_zreturn 203 rfl rfl z0 (eS h)
            · have h := ifp h hc
              obtain ⟨v5, m6, hq7, h⟩ := bV_ex h
              obtain ⟨hc8, h⟩ := ift h
              refine E_aload_n (n := 355) 194 rfl rfl rfl 0 rfl <| E_iconst (v := 1) (n := 356) 195 rfl rfl icz_1 <| E_cV1r (n := 359) 196 rfl rfl co_12_197 rfl sh_133 rfl (K_RM_bad m 1 _ hq7) <| E_zreturn 197 rfl rfl hc8 (eS h)
          · have h := ifn h hc
            obtain ⟨v9, m10, hq11, h⟩ := bV_ex h
            refine E_aload_n (n := 282) 157 rfl rfl rfl 0 rfl <| E_iconst (v := 2) (n := 283) 158 rfl rfl icz_2 <| E_cV1r (n := 286) 159 rfl rfl co_12_238 rfl sh_133 rfl (K_RM_isOnce m 2 _ hq11) <| E_if_ne (n := 289) (t := 291) 160 rfl rfl rfl (fun hc => ?_) (fun hc => ?_)
            · have h := ifn h hc
              refine E_aload_n (n := 292) 163 rfl rfl rfl 0 rfl <| E_ldc2 (v := 6842739) (n := 295) 164 rfl rfl tw_1516 <| E_cV1r (n := 298) 165 rfl rfl co_12_225 rfl sh_133 rfl (K_RM_isWord m10 6842739 _ rfl) <| E_if_ne (n := 301) (t := 317) 166 rfl rfl rfl (fun hc => ?_) (fun hc => ?_)
              · have h := ifn h hc
                exact RM_row_J317_ok m10 _ h
              · have h := ifp h hc
                refine E_aload_n (n := 302) 167 rfl rfl rfl 0 rfl <| E_ldc2 (v := 123563833652072) (n := 305) 168 rfl rfl tw_1517 <| E_cV1r (n := 308) 169 rfl rfl co_12_225 rfl sh_133 rfl (K_RM_isWord m10 123563833652072 _ rfl) <| E_if_ne (n := 311) (t := 317) 170 rfl rfl rfl (fun hc => ?_) (fun hc => ?_)
                · have h := ifn h hc
                  exact RM_row_J317_ok m10 _ h
                · have h := ifp h hc
                  obtain ⟨v12, m13, hq14, h⟩ := bV_ex h
                  obtain ⟨hc15, h⟩ := ift h
                  refine E_aload_n (n := 312) 171 rfl rfl rfl 0 rfl <| E_iconst (v := 1) (n := 313) 172 rfl rfl icz_1 <| E_cV1r (n := 316) 173 rfl rfl co_12_197 rfl sh_133 rfl (K_RM_bad m10 1 _ hq14) <| E_zreturn 174 rfl rfl hc15 (eS h)
            · have h := ifp h hc
              refine E_iconst (v := 0) (n := 290) 161 rfl rfl icz_0 <| E_zreturn 162 rfl rfl z0 (eS h)
        · have h := ifn h hc
          obtain ⟨v16, m17, hq18, h⟩ := bV_ex h
          refine E_aload_n (n := 195) 112 rfl rfl rfl 0 rfl <| E_iconst (v := 1) (n := 196) 113 rfl rfl icz_1 <| E_cV1r (n := 199) 114 rfl rfl co_12_238 rfl sh_133 rfl (K_RM_isOnce m 1 _ hq18) <| E_if_ne (n := 202) (t := 204) 115 rfl rfl rfl (fun hc => ?_) (fun hc => ?_)
          · have h := ifn h hc
            refine E_aload_n (n := 205) 118 rfl rfl rfl 0 rfl <| E_ldc2 (v := 7300196) (n := 208) 119 rfl rfl tw_1512 <| E_cV1r (n := 211) 120 rfl rfl co_12_225 rfl sh_133 rfl (K_RM_isWord m17 7300196 _ rfl) <| E_if_eq (n := 214) (t := 218) 121 rfl rfl rfl (fun hc => ?_) (fun hc => ?_)
            · have h := ifp h hc
              refine E_aload_n (n := 219) 124 rfl rfl rfl 0 rfl <| E_ldc2 (v := 491496238692) (n := 222) 125 rfl rfl tw_1513 <| E_cV1r (n := 225) 126 rfl rfl co_12_225 rfl sh_133 rfl (K_RM_isWord m17 491496238692 _ rfl) <| E_if_eq (n := 228) (t := 232) 127 rfl rfl rfl (fun hc => ?_) (fun hc => ?_)
              · have h := ifp h hc
                refine E_aload_n (n := 233) 130 rfl rfl rfl 0 rfl <| E_ldc2 (v := 1818584692) (n := 236) 131 rfl rfl tw_1514 <| E_cV1r (n := 239) 132 rfl rfl co_12_225 rfl sh_133 rfl (K_RM_isWord m17 1818584692 _ rfl) <| E_if_eq (n := 242) (t := 246) 133 rfl rfl rfl (fun hc => ?_) (fun hc => ?_)
                · have h := ifp h hc
                  refine E_iconst (v := (-1)) (n := 247) 136 rfl rfl icz_m1 <| ?_
                  exact RM_row_J247_ok m17 (-1) _ h
                · have h := ifn h hc
                  refine E_iconst (v := 2) (n := 243) 134 rfl rfl icz_2 <| E_goto (t := 247) 135 rfl rfl <| ?_
                  exact RM_row_J247_ok m17 2 _ h
              · have h := ifn h hc
                refine E_iconst (v := 1) (n := 229) 128 rfl rfl icz_1 <| E_goto (t := 247) 129 rfl rfl <| ?_
                exact RM_row_J247_ok m17 1 _ h
            · have h := ifn h hc
              refine E_iconst (v := 0) (n := 215) 122 rfl rfl icz_0 <| E_goto (t := 247) 123 rfl rfl <| ?_
              exact RM_row_J247_ok m17 0 _ h
          · have h := ifp h hc
            refine E_iconst (v := 0) (n := 203) 116 rfl rfl icz_0 <| E_zreturn 117 rfl rfl z0 (eS h)
      · have h := ifn h hc
        obtain ⟨v19, m20, hq21, h⟩ := bV_ex h
        refine E_aload_n (n := 136) 78 rfl rfl rfl 0 rfl <| E_iconst (v := 0) (n := 137) 79 rfl rfl icz_0 <| E_cV1r (n := 140) 80 rfl rfl co_12_238 rfl sh_133 rfl (K_RM_isOnce m 0 _ hq21) <| E_if_ne (n := 143) (t := 145) 81 rfl rfl rfl (fun hc => ?_) (fun hc => ?_)
        · have h := ifn h hc
          refine E_iconst (v := 0) (n := 146) 84 rfl rfl icz_0 <| E_istore_n (lv' := [(0, .ref 133), (1, .int 0)]) (n := 147) 85 rfl rfl rfl (Nat.le_of_ble_eq_true rfl) [1, 0] rfl <| ?_
          refine RM_row_L147_ok _ R ?_ FU m20 0 h
          intro m22 h
          refine E_iconst (v := 1) (n := 183) 106 rfl rfl icz_1 <| E_zreturn 107 rfl rfl z1 (eS h)
        · have h := ifp h hc
          refine E_iconst (v := 0) (n := 144) 82 rfl rfl icz_0 <| E_zreturn 83 rfl rfl z0 (eS h)
    · have h := ifn h hc
      obtain ⟨hc23, h⟩ := ift h
      obtain ⟨v24, hv24, h⟩ := letV_ex h
      refine E_aload_n (n := 26) 11 rfl rfl rfl 0 rfl <| E_gF (r := 136) (n := 29) 12 rfl rfl fg_12_37 sh_133 rfl <| E_iconst (v := 1) (n := 30) 13 rfl rfl icz_1 <| E_iald (n := 31) 14 rfl rfl sh_136 hc23 <| E_top hv24 <| E_istore_n (lv' := [(0, .ref 133), (1, .int v24)]) (n := 32) 15 rfl rfl rfl (Nat.le_of_ble_eq_true rfl) [1, 0] rfl <| E_iload_n (n := 33) 16 rfl rfl rfl 1 rfl <| E_bipush (v := 10) (n := 35) 17 rfl rfl bpz_10 <| E_icmp_ne (n := 38) (t := 44) 18 rfl rfl rfl (fun hc => ?_) (fun hc => ?_)
      · have h := ifn h hc
        obtain ⟨m25, hq26, h⟩ := bM_ex h
        obtain ⟨v27, m28, hq29, h⟩ := bV_ex h
        refine E_aload_n (n := 45) 23 rfl rfl rfl 0 rfl <| E_cV0v (n := 48) 24 rfl rfl co_12_200 rfl sh_133 rfl (K_RM_next m _ hq26) <| E_aload_n (n := 49) 25 rfl rfl rfl 0 rfl <| E_bipush (v := 16) (n := 51) 26 rfl rfl bpz_16 <| E_iload_n (n := 52) 27 rfl rfl rfl 1 rfl <| E_iadd (n := 53) 28 rfl rfl <| E_cV1r (n := 56) 29 rfl rfl co_12_232 rfl sh_133 rfl (K_RM_fresh m25 (16 + v24) _ hq29) <| E_if_ne (n := 59) (t := 61) 30 rfl rfl rfl (fun hc => ?_) (fun hc => ?_)
        · have h := ifn h hc
          refine E_iconst (v := 0) (n := 62) 33 rfl rfl icz_0 <| E_istore_n (lv' := [(0, .ref 133), (1, .int v24), (2, .int 0)]) (n := 63) 34 rfl rfl rfl (Nat.le_of_ble_eq_true rfl) [1, 2, 0] rfl <| ?_
          refine RM_row_L63_ok v24 _ R ?_ FU m28 0 h
          intro m30 h
          obtain ⟨hc31, h⟩ := ift h
          obtain ⟨m32, hm32, h⟩ := letM_ex h
          refine E_aload_n (n := 114) 64 rfl rfl rfl 0 rfl <| E_gF (r := 136) (n := 117) 65 rfl rfl fg_12_37 sh_133 rfl <| E_iconst (v := 1) (n := 118) 66 rfl rfl icz_1 <| E_dup2 (n := 119) 67 rfl rfl rfl rfl <| E_iald (n := 120) 68 rfl rfl sh_136 hc31 <| E_iconst (v := 1) (n := 121) 69 rfl rfl icz_1 <| E_iadd (n := 122) 70 rfl rfl <| E_iast (n := 123) 71 rfl rfl sh_136 hc31 <| E_mem hm32 <| E_iconst (v := 1) (n := 124) 72 rfl rfl icz_1 <| E_zreturn 73 rfl rfl z1 (eS h)
        · have h := ifp h hc
          refine E_iconst (v := 0) (n := 60) 31 rfl rfl icz_0 <| E_zreturn 32 rfl rfl z0 (eS h)
      · have h := ifp h hc
        obtain ⟨v33, m34, hq35, h⟩ := bV_ex h
        obtain ⟨hc36, h⟩ := ift h
        refine E_aload_n (n := 39) 19 rfl rfl rfl 0 rfl <| E_iconst (v := 4) (n := 40) 20 rfl rfl icz_4 <| E_cV1r (n := 43) 21 rfl rfl co_12_197 rfl sh_133 rfl (K_RM_bad m 4 _ hq35) <| E_zreturn 22 rfl rfl hc36 (eS h)
  · have h := ifn h hc
    obtain ⟨v37, m38, hq39, h⟩ := bV_ex h
    obtain ⟨hc40, h⟩ := ift h
    refine E_aload_n (n := 11) 4 rfl rfl rfl 0 rfl <| E_cV0r (n := 14) 5 rfl rfl co_12_229 rfl sh_133 rfl (K_RM_readLine m _ hq39) <| E_zreturn 6 rfl rfl hc40 (eS h)
theorem RM_parish_L35_ok (kx : Mem → Option (Int32 × Mem)) (R : Int32 × Mem) (hx : ∀ (m : Mem), kx m = some R → E M_RM_parish 78 [(0, .ref 133)] [] m (qI R.1 R.2)) : ∀ (n : Nat) (m : Mem), RM_parish_L35 kx n m = some R → E M_RM_parish 35 [(0, .ref 133)] [] m (qI R.1 R.2) := by
  intro n
  induction n with
  | zero =>
    intro m h
    exact absurd (show none = some R from h) (fun e => Option.some_ne_none R e.symm)
  | succ n ih =>
    intro m h
    rw [RM_parish_L35] at h
    refine E_aload_n (n := 36) 19 rfl rfl rfl 0 rfl <| E_gI (n := 39) 20 rfl rfl fg_12_171 sh_133 <| E_if_eq (n := 42) (t := 78) 21 rfl rfl rfl (fun hc => ?_) (fun hc => ?_)
    · have h := ifp h hc
      exact hx m h
    · have h := ifn h hc
      obtain ⟨v1, m2, hq3, h⟩ := bV_ex h
      refine E_aload_n (n := 43) 22 rfl rfl rfl 0 rfl <| E_cV0r (n := 46) 23 rfl rfl co_12_247 rfl sh_133 rfl (K_RM_row m _ hq3) <| E_if_eq (n := 49) (t := 58) 24 rfl rfl rfl (fun hc => ?_) (fun hc => ?_)
      · have h := ifp h hc
        refine E_iconst (v := (-1)) (n := 59) 29 rfl rfl icz_m1 <| E_aload_n (n := 60) 30 rfl rfl rfl 0 rfl <| E_gI (n := 63) 31 rfl rfl fg_12_191 sh_133 <| E_isub (n := 64) 32 rfl rfl <| E_ireturn 33 rfl rfl (eS h)
      · have h := ifn h hc
        obtain ⟨v4, m5, hq6, h⟩ := bV_ex h
        refine E_aload_n (n := 50) 25 rfl rfl rfl 0 rfl <| E_bipush (v := 59) (n := 52) 26 rfl rfl bpz_59 <| E_cV1r (n := 55) 27 rfl rfl co_12_250 rfl sh_133 rfl (K_RM_sign m2 59 _ hq6) <| E_if_ne (n := 58) (t := 65) 28 rfl rfl rfl (fun hc => ?_) (fun hc => ?_)
        · have h := ifn h hc
          obtain ⟨m7, hm7, h⟩ := letM_ex h
          refine E_aload_n (n := 66) 34 rfl rfl rfl 0 rfl <| E_dup (n := 67) 35 rfl rfl rfl <| E_gI (n := 70) 36 rfl rfl fg_12_244 sh_133 <| E_iconst (v := 1) (n := 71) 37 rfl rfl icz_1 <| E_iadd (n := 72) 38 rfl rfl <| E_pI (n := 75) 39 rfl rfl fp_12_244 sh_133 <| E_mem hm7 <| E_goto (t := 35) 40 rfl rfl <| ?_
          exact ih m7 h
        · have h := ifp h hc
          refine E_iconst (v := (-1)) (n := 59) 29 rfl rfl icz_m1 <| E_aload_n (n := 60) 30 rfl rfl rfl 0 rfl <| E_gI (n := 63) 31 rfl rfl fg_12_191 sh_133 <| E_isub (n := 64) 32 rfl rfl <| E_ireturn 33 rfl rfl (eS h)
theorem RM_parish_L80_ok (kx : Mem → Option (Int32 × Mem)) (R : Int32 × Mem) (hx : ∀ (m : Mem), kx m = some R → E M_RM_parish 104 [(0, .ref 133)] [] m (qI R.1 R.2)) : ∀ (n : Nat) (m : Mem) (x1 : Int32), RM_parish_L80 kx n m x1 = some R → E M_RM_parish 80 [(0, .ref 133), (1, .int x1)] [] m (qI R.1 R.2) := by
  intro n
  induction n with
  | zero =>
    intro m x1 h
    exact absurd (show none = some R from h) (fun e => Option.some_ne_none R e.symm)
  | succ n ih =>
    intro m x1 h
    rw [RM_parish_L80] at h
    refine E_iload_n (n := 81) 43 rfl rfl rfl 1 rfl <| E_bipush (v := 116) (n := 83) 44 rfl rfl bpz_116 <| E_icmp_ge (n := 86) (t := 104) 45 rfl rfl rfl (fun hc => ?_) (fun hc => ?_)
    · have h := ifp h hc
      refine E_sub (lv' := [(0, .ref 133)]) [0] rfl ?_
      exact hx m h
    · have h := ifn h hc
      obtain ⟨hc1, h⟩ := ift h
      obtain ⟨m2, hm2, h⟩ := letM_ex h
      refine E_aload_n (n := 87) 46 rfl rfl rfl 0 rfl <| E_gF (r := 135) (n := 90) 47 rfl rfl fg_12_33 sh_133 rfl <| E_iload_n (n := 91) 48 rfl rfl rfl 1 rfl <| E_aload_n (n := 92) 49 rfl rfl rfl 0 rfl <| E_gF (r := 136) (n := 95) 50 rfl rfl fg_12_37 sh_133 rfl <| E_iload_n (n := 96) 51 rfl rfl rfl 1 rfl <| E_iald (n := 97) 52 rfl rfl sh_136 hc1 <| E_iast (n := 98) 53 rfl rfl sh_135 hc1 <| E_mem hm2 <| E_iinc (v := (x1 + 1)) (lv' := [(0, .ref 133), (1, .int (x1 + 1))]) (n := 101) 54 rfl rfl 1 rfl (by rw [icz_1]) (Nat.le_of_ble_eq_true rfl) [1, 0] rfl <| E_goto (t := 80) 55 rfl rfl <| ?_
      exact ih m2 (x1 + 1) h
theorem RM_parish_L106_ok (kx : Mem → Option (Int32 × Mem)) (R : Int32 × Mem) (hx : ∀ (m : Mem), kx m = some R → E M_RM_parish 133 [(0, .ref 133)] [] m (qI R.1 R.2)) : ∀ (n : Nat) (m : Mem) (x1 : Int32), RM_parish_L106 kx n m x1 = some R → E M_RM_parish 106 [(0, .ref 133), (1, .int x1)] [] m (qI R.1 R.2) := by
  intro n
  induction n with
  | zero =>
    intro m x1 h
    exact absurd (show none = some R from h) (fun e => Option.some_ne_none R e.symm)
  | succ n ih =>
    intro m x1 h
    rw [RM_parish_L106] at h
    refine E_iload_n (n := 107) 58 rfl rfl rfl 1 rfl <| E_bipush (v := 13) (n := 109) 59 rfl rfl bpz_13 <| E_icmp_ge (n := 112) (t := 133) 60 rfl rfl rfl (fun hc => ?_) (fun hc => ?_)
    · have h := ifp h hc
      refine E_sub (lv' := [(0, .ref 133)]) [0] rfl ?_
      exact hx m h
    · have h := ifn h hc
      obtain ⟨hc1, h⟩ := ift h
      obtain ⟨hc2, h⟩ := ift h
      obtain ⟨m3, hm3, h⟩ := letM_ex h
      refine E_aload_n (n := 113) 61 rfl rfl rfl 0 rfl <| E_gF (r := 137) (n := 116) 62 rfl rfl fg_12_40 sh_133 rfl <| E_iload_n (n := 117) 63 rfl rfl rfl 1 rfl <| E_aload_n (n := 118) 64 rfl rfl rfl 0 rfl <| E_gF (r := 137) (n := 121) 65 rfl rfl fg_12_40 sh_133 rfl <| E_bipush (v := 13) (n := 123) 66 rfl rfl bpz_13 <| E_iload_n (n := 124) 67 rfl rfl rfl 1 rfl <| E_iadd (n := 125) 68 rfl rfl <| E_lald (n := 126) 69 rfl rfl sh_137 hc1 <| E_last (n := 127) 70 rfl rfl sh_137 hc2 <| E_mem hm3 <| E_iinc (v := (x1 + 1)) (lv' := [(0, .ref 133), (1, .int (x1 + 1))]) (n := 130) 71 rfl rfl 1 rfl (by rw [icz_1]) (Nat.le_of_ble_eq_true rfl) [1, 0] rfl <| E_goto (t := 106) 72 rfl rfl <| ?_
      exact ih m3 (x1 + 1) h
theorem K_RM_parish (m : Mem) (R : Int32 × Mem) (h : RM_parish m = some R) : Mt M_RM_parish [.ref 133] m (qI R.1 R.2) := by
  refine Mt.of G_RM_parish (Nat.le_of_ble_eq_true rfl) (E_sub (lv' := [(0, .ref 133)]) [0] rfl ?_)
  unfold RM_parish at h
  obtain ⟨m1, hm1, h⟩ := letM_ex h
  obtain ⟨m2, hq3, h⟩ := bM_ex h
  obtain ⟨m4, hm4, h⟩ := letM_ex h
  obtain ⟨m5, hm5, h⟩ := letM_ex h
  obtain ⟨m6, hm6, h⟩ := letM_ex h
  obtain ⟨m7, hq8, h⟩ := bM_ex h
  obtain ⟨m9, hq10, h⟩ := bM_ex h
  refine E_aload_n (n := 1) 0 rfl rfl rfl 0 rfl <| E_iconst (v := 0) (n := 2) 1 rfl rfl icz_0 <| E_pI (n := 5) 2 rfl rfl fp_12_1 sh_133 <| E_mem hm1 <| E_aload_n (n := 6) 3 rfl rfl rfl 0 rfl <| E_sipush (v := 900) (n := 9) 4 rfl rfl spz_900 <| E_cV1v (n := 12) 5 rfl rfl co_12_241 rfl sh_133 rfl (K_RM_taken m1 900 _ hq3) <| E_aload_n (n := 13) 6 rfl rfl rfl 0 rfl <| E_iconst (v := 0) (n := 14) 7 rfl rfl icz_0 <| E_pI (n := 17) 8 rfl rfl fp_12_188 sh_133 <| E_mem hm4 <| E_aload_n (n := 18) 9 rfl rfl rfl 0 rfl <| E_iconst (v := 0) (n := 19) 10 rfl rfl icz_0 <| E_pI (n := 22) 11 rfl rfl fp_12_244 sh_133 <| E_mem hm5 <| E_aload_n (n := 23) 12 rfl rfl rfl 0 rfl <| E_iconst (v := 0) (n := 24) 13 rfl rfl icz_0 <| E_pI (n := 27) 14 rfl rfl fp_12_218 sh_133 <| E_mem hm6 <| E_aload_n (n := 28) 15 rfl rfl rfl 0 rfl <| E_cV0v (n := 31) 16 rfl rfl co_12_158 rfl sh_133 rfl (K_RM_plain m6 _ hq8) <| E_aload_n (n := 32) 17 rfl rfl rfl 0 rfl <| E_cV0v (n := 35) 18 rfl rfl co_12_200 rfl sh_133 rfl (K_RM_next m7 _ hq10) <| ?_
  refine RM_parish_L35_ok _ R ?_ FU m9 h
  intro m11 h
  refine E_iconst (v := 0) (n := 79) 41 rfl rfl icz_0 <| E_istore_n (lv' := [(0, .ref 133), (1, .int 0)]) (n := 80) 42 rfl rfl rfl (Nat.le_of_ble_eq_true rfl) [1, 0] rfl <| ?_
  refine RM_parish_L80_ok _ R ?_ FU m11 0 h
  intro m12 h
  refine E_iconst (v := 0) (n := 105) 56 rfl rfl icz_0 <| E_istore_n (lv' := [(0, .ref 133), (1, .int 0)]) (n := 106) 57 rfl rfl rfl (Nat.le_of_ble_eq_true rfl) [1, 0] rfl <| ?_
  refine RM_parish_L106_ok _ R ?_ FU m12 0 h
  intro m13 h
  obtain ⟨m14, hm14, h⟩ := letM_ex h
  refine E_aload_n (n := 134) 73 rfl rfl rfl 0 rfl <| E_iconst (v := 0) (n := 135) 74 rfl rfl icz_0 <| E_pI (n := 138) 75 rfl rfl fp_12_253 sh_133 <| E_mem hm14 <| E_aload_n (n := 139) 76 rfl rfl rfl 0 rfl <| E_gI (n := 142) 77 rfl rfl fg_12_244 sh_133 <| E_ireturn 78 rfl rfl (eS h)
theorem K_RM_fault (m : Mem) (R : Int32 × Mem) (h : RM_fault m = some R) : Mt M_RM_fault [.ref 133] m (qI R.1 R.2) := by
  refine Mt.of G_RM_fault (Nat.le_of_ble_eq_true rfl) (E_sub (lv' := [(0, .ref 133)]) [0] rfl ?_)
  unfold RM_fault at h
  obtain ⟨m1, hm1, h⟩ := letM_ex h
  refine E_aload_n (n := 1) 0 rfl rfl rfl 0 rfl <| E_iconst (v := 0) (n := 2) 1 rfl rfl icz_0 <| E_pI (n := 5) 2 rfl rfl fp_12_1 sh_133 <| E_mem hm1 <| E_aload_n (n := 6) 3 rfl rfl rfl 0 rfl <| E_gI (n := 9) 4 rfl rfl fg_12_188 sh_133 <| E_ireturn 5 rfl rfl (eS h)
theorem K_RM_isLine (m : Mem) (x1 : Int32) (R : Int32) (h : RM_isLine m x1 = some R) : Mt M_RM_isLine [.ref 133, .int x1] m (qI R m) := by
  refine Mt.of G_RM_isLine (Nat.le_of_ble_eq_true rfl) (E_sub (lv' := [(0, .ref 133), (1, .int x1)]) [0, 1] rfl ?_)
  unfold RM_isLine at h
  obtain ⟨hc1, h⟩ := ift h
  obtain ⟨hc2, h⟩ := ift h
  refine E_iload_n (n := 1) 0 rfl rfl rfl 1 rfl <| E_iconst (v := 0) (n := 2) 1 rfl rfl icz_0 <| E_aload_n (n := 3) 2 rfl rfl rfl 0 rfl <| E_gF (r := 135) (n := 6) 3 rfl rfl fg_12_33 sh_133 rfl <| E_iconst (v := 0) (n := 7) 4 rfl rfl icz_0 <| E_iald (n := 8) 5 rfl rfl sh_135 hc1 <| E_iconst (v := 1) (n := 9) 6 rfl rfl icz_1 <| E_isub (n := 10) 7 rfl rfl <| E_dS3r (n := 13) 8 rfl rfl co_12_203 rfl rfl (K_RM_isIn m x1 0 ((gI m 135 (ixn 0)) - 1) _ rfl) <| E_zreturn 9 rfl rfl hc2 (eP h)
theorem K_RM_isHay (m : Mem) (x1 : Int32) (R : Int32) (h : RM_isHay m x1 = some R) : Mt M_RM_isHay [.ref 133, .int x1] m (qI R m) := by
  refine Mt.of G_RM_isHay (Nat.le_of_ble_eq_true rfl) (E_sub (lv' := [(0, .ref 133), (1, .int x1)]) [0, 1] rfl ?_)
  unfold RM_isHay at h
  obtain ⟨hc1, h⟩ := ift h
  obtain ⟨hc2, h⟩ := ift h
  refine E_iload_n (n := 1) 0 rfl rfl rfl 1 rfl <| E_iconst (v := 0) (n := 2) 1 rfl rfl icz_0 <| E_aload_n (n := 3) 2 rfl rfl rfl 0 rfl <| E_gF (r := 135) (n := 6) 3 rfl rfl fg_12_33 sh_133 rfl <| E_iconst (v := 1) (n := 7) 4 rfl rfl icz_1 <| E_iald (n := 8) 5 rfl rfl sh_135 hc1 <| E_iconst (v := 1) (n := 9) 6 rfl rfl icz_1 <| E_isub (n := 10) 7 rfl rfl <| E_dS3r (n := 13) 8 rfl rfl co_12_203 rfl rfl (K_RM_isIn m x1 0 ((gI m 135 (ixn 1)) - 1) _ rfl) <| E_zreturn 9 rfl rfl hc2 (eP h)
theorem K_RM_isCorner (m : Mem) (x1 : Int32) (x2 : Int32) (R : Int32) (h : RM_isCorner m x1 x2 = some R) : Mt M_RM_isCorner [.ref 133, .int x1, .int x2] m (qI R m) := by
  refine Mt.of G_RM_isCorner (Nat.le_of_ble_eq_true rfl) (E_sub (lv' := [(0, .ref 133), (1, .int x1), (2, .int x2)]) [0, 1, 2] rfl ?_)
  unfold RM_isCorner at h
  obtain ⟨v1, hq2, h⟩ := bI_ex h
  refine E_aload_n (n := 1) 0 rfl rfl rfl 0 rfl <| E_iload_n (n := 2) 1 rfl rfl rfl 1 rfl <| E_cV1r (n := 5) 2 rfl rfl co_12_256 rfl sh_133 rfl (K_RM_isLine m x1 _ hq2) <| E_if_eq (n := 8) (t := 31) 3 rfl rfl rfl (fun hc => ?_) (fun hc => ?_)
  · have h := ifp h hc
    refine E_iconst (v := 0) (n := 32) 18 rfl rfl icz_0 <| ?_
    refine E_zreturn 19 rfl rfl z0 (eP h)
  · have h := ifn h hc
    obtain ⟨hc3, h⟩ := ift h
    refine E_iload_n (n := 9) 4 rfl rfl rfl 2 rfl <| E_iconst (v := 0) (n := 10) 5 rfl rfl icz_0 <| E_aload_n (n := 11) 6 rfl rfl rfl 0 rfl <| E_gF (r := 135) (n := 14) 7 rfl rfl fg_12_33 sh_133 rfl <| E_bipush (v := 11) (n := 16) 8 rfl rfl bpz_11 <| E_iload_n (n := 17) 9 rfl rfl rfl 1 rfl <| E_iadd (n := 18) 10 rfl rfl <| E_iald (n := 19) 11 rfl rfl sh_135 hc3 <| E_iconst (v := 1) (n := 20) 12 rfl rfl icz_1 <| E_isub (n := 21) 13 rfl rfl <| E_dS3r (n := 24) 14 rfl rfl co_12_203 rfl rfl (K_RM_isIn m x2 0 ((gI m 135 (ixn (11 + x1))) - 1) _ rfl) <| E_if_eq (n := 27) (t := 31) 15 rfl rfl rfl (fun hc => ?_) (fun hc => ?_)
    · have h := ifp h hc
      refine E_iconst (v := 0) (n := 32) 18 rfl rfl icz_0 <| ?_
      refine E_zreturn 19 rfl rfl z0 (eP h)
    · have h := ifn h hc
      refine E_iconst (v := 1) (n := 28) 16 rfl rfl icz_1 <| E_goto (t := 32) 17 rfl rfl <| ?_
      refine E_zreturn 19 rfl rfl z1 (eP h)
theorem K_RM_isSquare (m : Mem) (x0 : Int32) (x1 : Int32) (R : Int32) (h : RM_isSquare x0 x1 = R) : Mt M_RM_isSquare [.int x0, .int x1] m (qI R m) := by
  refine Mt.of G_RM_isSquare (Nat.le_of_ble_eq_true rfl) (E_sub (lv' := [(0, .int x0), (1, .int x1)]) [0, 1] rfl ?_)
  unfold RM_isSquare at h
  refine E_iload_n (n := 1) 0 rfl rfl rfl 0 rfl <| E_iconst (v := 0) (n := 2) 1 rfl rfl icz_0 <| E_bipush (v := 19) (n := 4) 2 rfl rfl bpz_19 <| E_dS3r (n := 7) 3 rfl rfl co_12_203 rfl rfl (K_RM_isIn m x0 0 19 _ rfl) <| E_if_eq (n := 10) (t := 24) 4 rfl rfl rfl (fun hc => ?_) (fun hc => ?_)
  · have h := ifp h hc
    refine E_iconst (v := 0) (n := 25) 12 rfl rfl icz_0 <| ?_
    refine E_zreturn 13 rfl rfl z0 (eT h)
  · have h := ifn h hc
    refine E_iload_n (n := 11) 5 rfl rfl rfl 1 rfl <| E_iconst (v := 0) (n := 12) 6 rfl rfl icz_0 <| E_bipush (v := 19) (n := 14) 7 rfl rfl bpz_19 <| E_dS3r (n := 17) 8 rfl rfl co_12_203 rfl rfl (K_RM_isIn m x1 0 19 _ rfl) <| E_if_eq (n := 20) (t := 24) 9 rfl rfl rfl (fun hc => ?_) (fun hc => ?_)
    · have h := ifp h hc
      refine E_iconst (v := 0) (n := 25) 12 rfl rfl icz_0 <| ?_
      refine E_zreturn 13 rfl rfl z0 (eT h)
    · have h := ifn h hc
      refine E_iconst (v := 1) (n := 21) 10 rfl rfl icz_1 <| E_goto (t := 25) 11 rfl rfl <| ?_
      refine E_zreturn 13 rfl rfl z1 (eT h)
theorem K_RM_isPoint (m : Mem) (x0 : Int32) (x1 : Int32) (R : Int32) (h : RM_isPoint x0 x1 = R) : Mt M_RM_isPoint [.int x0, .int x1] m (qI R m) := by
  refine Mt.of G_RM_isPoint (Nat.le_of_ble_eq_true rfl) (E_sub (lv' := [(0, .int x0), (1, .int x1)]) [0, 1] rfl ?_)
  unfold RM_isPoint at h
  refine E_iload_n (n := 1) 0 rfl rfl rfl 0 rfl <| E_iconst (v := 0) (n := 2) 1 rfl rfl icz_0 <| E_bipush (v := 20) (n := 4) 2 rfl rfl bpz_20 <| E_dS3r (n := 7) 3 rfl rfl co_12_203 rfl rfl (K_RM_isIn m x0 0 20 _ rfl) <| E_if_eq (n := 10) (t := 24) 4 rfl rfl rfl (fun hc => ?_) (fun hc => ?_)
  · have h := ifp h hc
    refine E_iconst (v := 0) (n := 25) 12 rfl rfl icz_0 <| ?_
    refine E_zreturn 13 rfl rfl z0 (eT h)
  · have h := ifn h hc
    refine E_iload_n (n := 11) 5 rfl rfl rfl 1 rfl <| E_iconst (v := 0) (n := 12) 6 rfl rfl icz_0 <| E_bipush (v := 20) (n := 14) 7 rfl rfl bpz_20 <| E_dS3r (n := 17) 8 rfl rfl co_12_203 rfl rfl (K_RM_isIn m x1 0 20 _ rfl) <| E_if_eq (n := 20) (t := 24) 9 rfl rfl rfl (fun hc => ?_) (fun hc => ?_)
    · have h := ifp h hc
      refine E_iconst (v := 0) (n := 25) 12 rfl rfl icz_0 <| ?_
      refine E_zreturn 13 rfl rfl z0 (eT h)
    · have h := ifn h hc
      refine E_iconst (v := 1) (n := 21) 10 rfl rfl icz_1 <| E_goto (t := 25) 11 rfl rfl <| ?_
      refine E_zreturn 13 rfl rfl z1 (eT h)
theorem K_RM_closes (m : Mem) (R : Mem) (h : RM_closes m = some R) : Mt M_RM_closes [.ref 133] m (qV R) := by
  refine Mt.of G_RM_closes (Nat.le_of_ble_eq_true rfl) (E_sub (lv' := [(0, .ref 133)]) [0] rfl ?_)
  unfold RM_closes at h
  obtain ⟨hc1, h⟩ := ift h
  obtain ⟨hc2, h⟩ := ift h
  obtain ⟨m3, hm3, h⟩ := letM_ex h
  obtain ⟨hc4, h⟩ := ift h
  obtain ⟨m5, hm5, h⟩ := letM_ex h
  refine E_aload_n (n := 1) 0 rfl rfl rfl 0 rfl <| E_gF (r := 139) (n := 4) 1 rfl rfl fg_12_47 sh_133 rfl <| E_aload_n (n := 5) 2 rfl rfl rfl 0 rfl <| E_gI (n := 8) 3 rfl rfl fg_12_259 sh_133 <| E_aload_n (n := 9) 4 rfl rfl rfl 0 rfl <| E_gF (r := 139) (n := 12) 5 rfl rfl fg_12_47 sh_133 rfl <| E_iconst (v := 0) (n := 13) 6 rfl rfl icz_0 <| E_iald (n := 14) 7 rfl rfl sh_139 hc1 <| E_iast (n := 15) 8 rfl rfl sh_139 hc2 <| E_mem hm3 <| E_aload_n (n := 16) 9 rfl rfl rfl 0 rfl <| E_gF (r := 140) (n := 19) 10 rfl rfl fg_12_50 sh_133 rfl <| E_aload_n (n := 20) 11 rfl rfl rfl 0 rfl <| E_gI (n := 23) 12 rfl rfl fg_12_259 sh_133 <| E_aload_n (n := 24) 13 rfl rfl rfl 0 rfl <| E_gF (r := 140) (n := 27) 14 rfl rfl fg_12_50 sh_133 rfl <| E_iconst (v := 0) (n := 28) 15 rfl rfl icz_0 <| E_iald (n := 29) 16 rfl rfl sh_140 hc1 <| E_iast (n := 30) 17 rfl rfl sh_140 hc4 <| E_mem hm5 <| E_return 18 rfl rfl (eV h)
theorem RM_looks_L15_ok (x1 : Int32) (kx : Mem → Option Mem) (R : Mem) (hx : ∀ (m : Mem), kx m = some R → E M_RM_looks 79 [(0, .ref 133)] [] m (qV R)) : ∀ (n : Nat) (m : Mem) (x2 : Int32), RM_looks_L15 x1 kx n m x2 = some R → E M_RM_looks 15 [(0, .ref 133), (1, .int x1), (2, .int x2)] [] m (qV R) := by
  intro n
  induction n with
  | zero =>
    intro m x2 h
    exact absurd (show none = some R from h) (fun e => Option.some_ne_none R e.symm)
  | succ n ih =>
    intro m x2 h
    rw [RM_looks_L15] at h
    refine E_iload_n (n := 16) 10 rfl rfl rfl 2 rfl <| E_aload_n (n := 17) 11 rfl rfl rfl 0 rfl <| E_gI (n := 20) 12 rfl rfl fg_12_259 sh_133 <| E_icmp_ge (n := 23) (t := 79) 13 rfl rfl rfl (fun hc => ?_) (fun hc => ?_)
    · have h := ifp h hc
      refine E_sub (lv' := [(0, .ref 133)]) [0] rfl ?_
      exact hx m h
    · have h := ifn h hc
      obtain ⟨hc1, h⟩ := ift h
      obtain ⟨hc2, h⟩ := ift h
      obtain ⟨m3, hm3, h⟩ := letM_ex h
      obtain ⟨hc4, h⟩ := ift h
      obtain ⟨m5, hm5, h⟩ := letM_ex h
      refine E_aload_n (n := 24) 14 rfl rfl rfl 0 rfl <| E_gF (r := 139) (n := 27) 15 rfl rfl fg_12_47 sh_133 rfl <| E_iload_n (n := 28) 16 rfl rfl rfl 2 rfl <| E_iconst (v := 2) (n := 29) 17 rfl rfl icz_2 <| E_aload_n (n := 30) 18 rfl rfl rfl 0 rfl <| E_gF (r := 135) (n := 33) 19 rfl rfl fg_12_33 sh_133 rfl <| E_bipush (v := 14) (n := 35) 20 rfl rfl bpz_14 <| E_bipush (v := 24) (n := 37) 21 rfl rfl bpz_24 <| E_iload_n (n := 38) 22 rfl rfl rfl 1 rfl <| E_imul (n := 39) 23 rfl rfl <| E_iadd (n := 40) 24 rfl rfl <| E_iconst (v := 2) (n := 41) 25 rfl rfl icz_2 <| E_iload_n (n := 42) 26 rfl rfl rfl 2 rfl <| E_imul (n := 43) 27 rfl rfl <| E_iadd (n := 44) 28 rfl rfl <| E_iald (n := 45) 29 rfl rfl sh_135 hc1 <| E_imul (n := 46) 30 rfl rfl <| E_iast (n := 47) 31 rfl rfl sh_139 hc2 <| E_mem hm3 <| E_aload_n (n := 48) 32 rfl rfl rfl 0 rfl <| E_gF (r := 140) (n := 51) 33 rfl rfl fg_12_50 sh_133 rfl <| E_iload_n (n := 52) 34 rfl rfl rfl 2 rfl <| E_iconst (v := 2) (n := 53) 35 rfl rfl icz_2 <| E_aload_n (n := 54) 36 rfl rfl rfl 0 rfl <| E_gF (r := 135) (n := 57) 37 rfl rfl fg_12_33 sh_133 rfl <| E_bipush (v := 14) (n := 59) 38 rfl rfl bpz_14 <| E_bipush (v := 24) (n := 61) 39 rfl rfl bpz_24 <| E_iload_n (n := 62) 40 rfl rfl rfl 1 rfl <| E_imul (n := 63) 41 rfl rfl <| E_iadd (n := 64) 42 rfl rfl <| E_iconst (v := 2) (n := 65) 43 rfl rfl icz_2 <| E_iload_n (n := 66) 44 rfl rfl rfl 2 rfl <| E_imul (n := 67) 45 rfl rfl <| E_iadd (n := 68) 46 rfl rfl <| E_iconst (v := 1) (n := 69) 47 rfl rfl icz_1 <| E_iadd (n := 70) 48 rfl rfl <| E_iald (n := 71) 49 rfl rfl sh_135 hc4 <| E_imul (n := 72) 50 rfl rfl <| E_iast (n := 73) 51 rfl rfl sh_140 hc2 <| E_mem hm5 <| E_iinc (v := (x2 + 1)) (lv' := [(0, .ref 133), (1, .int x1), (2, .int (x2 + 1))]) (n := 76) 52 rfl rfl 2 rfl (by rw [icz_1]) (Nat.le_of_ble_eq_true rfl) [1, 2, 0] rfl <| E_goto (t := 15) 53 rfl rfl <| ?_
      exact ih m5 (x2 + 1) h
theorem K_RM_looks (m : Mem) (x1 : Int32) (R : Mem) (h : RM_looks m x1 = some R) : Mt M_RM_looks [.ref 133, .int x1] m (qV R) := by
  refine Mt.of G_RM_looks (Nat.le_of_ble_eq_true rfl) (E_sub (lv' := [(0, .ref 133), (1, .int x1)]) [0, 1] rfl ?_)
  unfold RM_looks at h
  obtain ⟨hc1, h⟩ := ift h
  obtain ⟨m2, hm2, h⟩ := letM_ex h
  refine E_aload_n (n := 1) 0 rfl rfl rfl 0 rfl <| E_aload_n (n := 2) 1 rfl rfl rfl 0 rfl <| E_gF (r := 135) (n := 5) 2 rfl rfl fg_12_33 sh_133 rfl <| E_bipush (v := 11) (n := 7) 3 rfl rfl bpz_11 <| E_iload_n (n := 8) 4 rfl rfl rfl 1 rfl <| E_iadd (n := 9) 5 rfl rfl <| E_iald (n := 10) 6 rfl rfl sh_135 hc1 <| E_pI (n := 13) 7 rfl rfl fp_12_259 sh_133 <| E_mem hm2 <| E_iconst (v := 0) (n := 14) 8 rfl rfl icz_0 <| E_istore_n (lv' := [(0, .ref 133), (1, .int x1), (2, .int 0)]) (n := 15) 9 rfl rfl rfl (Nat.le_of_ble_eq_true rfl) [1, 2, 0] rfl <| ?_
  refine RM_looks_L15_ok x1 _ R ?_ FU m2 0 h
  intro m3 h
  obtain ⟨m4, hq5, h⟩ := bM_ex h
  refine E_aload_n (n := 80) 54 rfl rfl rfl 0 rfl <| E_cV0v (n := 83) 55 rfl rfl co_12_262 rfl sh_133 rfl (K_RM_closes m3 _ hq5) <| E_return 56 rfl rfl (eV h)
theorem K_RM_turn (m : Mem) (x0 : Int32) (x1 : Int32) (x2 : Int32) (x3 : Int32) (x4 : Int32) (x5 : Int32) (R : Int32) (h : RM_turn x0 x1 x2 x3 x4 x5 = R) : Mt M_RM_turn [.int x0, .int x1, .int x2, .int x3, .int x4, .int x5] m (qI R m) := by
  refine Mt.of G_RM_turn (Nat.le_of_ble_eq_true rfl) (E_sub (lv' := [(0, .int x0), (1, .int x1), (2, .int x2), (3, .int x3), (4, .int x4), (5, .int x5)]) [0, 1, 2, 3, 4, 5] rfl ?_)
  unfold RM_turn at h
  refine E_iload_n (n := 1) 0 rfl rfl rfl 2 rfl <| E_iload_n (n := 2) 1 rfl rfl rfl 0 rfl <| E_isub (n := 3) 2 rfl rfl <| E_iload (n := 5) 3 rfl rfl 5 rfl <| E_iload_n (n := 6) 4 rfl rfl rfl 1 rfl <| E_isub (n := 7) 5 rfl rfl <| E_imul (n := 8) 6 rfl rfl <| E_iload_n (n := 9) 7 rfl rfl rfl 3 rfl <| E_iload_n (n := 10) 8 rfl rfl rfl 1 rfl <| E_isub (n := 11) 9 rfl rfl <| E_iload (n := 13) 10 rfl rfl 4 rfl <| E_iload_n (n := 14) 11 rfl rfl rfl 0 rfl <| E_isub (n := 15) 12 rfl rfl <| E_imul (n := 16) 13 rfl rfl <| E_isub (n := 17) 14 rfl rfl <| E_ireturn 15 rfl rfl (eT h)
theorem K_RM_isBetween (m : Mem) (x0 : Int32) (x1 : Int32) (x2 : Int32) (R : Int32) (h : RM_isBetween x0 x1 x2 = some R) : Mt M_RM_isBetween [.int x0, .int x1, .int x2] m (qI R m) := by
  refine Mt.of G_RM_isBetween (Nat.le_of_ble_eq_true rfl) (E_sub (lv' := [(0, .int x0), (1, .int x1), (2, .int x2)]) [0, 1, 2] rfl ?_)
  unfold RM_isBetween at h
  refine E_iload_n (n := 1) 0 rfl rfl rfl 1 rfl <| E_iload_n (n := 2) 1 rfl rfl rfl 2 rfl <| E_icmp_ge (n := 5) (t := 14) 2 rfl rfl rfl (fun hc => ?_) (fun hc => ?_)
  · have h := ifp h hc
    refine E_iload_n (n := 15) 8 rfl rfl rfl 0 rfl <| E_iload_n (n := 16) 9 rfl rfl rfl 2 rfl <| E_iload_n (n := 17) 10 rfl rfl rfl 1 rfl <| E_dS3r (n := 20) 11 rfl rfl co_12_203 rfl rfl (K_RM_isIn m x0 x2 x1 _ rfl) <| ?_
    obtain ⟨hc1, h⟩ := ift h
    refine E_zreturn 12 rfl rfl hc1 (eP h)
  · have h := ifn h hc
    refine E_iload_n (n := 6) 3 rfl rfl rfl 0 rfl <| E_iload_n (n := 7) 4 rfl rfl rfl 1 rfl <| E_iload_n (n := 8) 5 rfl rfl rfl 2 rfl <| E_dS3r (n := 11) 6 rfl rfl co_12_203 rfl rfl (K_RM_isIn m x0 x1 x2 _ rfl) <| E_goto (t := 20) 7 rfl rfl <| ?_
    obtain ⟨hc2, h⟩ := ift h
    refine E_zreturn 12 rfl rfl hc2 (eP h)
theorem K_RM_isOnEdge (m : Mem) (x1 : Int32) (x2 : Int32) (x3 : Int32) (R : Int32) (h : RM_isOnEdge m x1 x2 x3 = some R) : Mt M_RM_isOnEdge [.ref 133, .int x1, .int x2, .int x3] m (qI R m) := by
  refine Mt.of G_RM_isOnEdge (Nat.le_of_ble_eq_true rfl) (E_sub (lv' := [(0, .ref 133), (1, .int x1), (2, .int x2), (3, .int x3)]) [0, 1, 2, 3] rfl ?_)
  unfold RM_isOnEdge at h
  obtain ⟨hc1, h⟩ := ift h
  obtain ⟨hc2, h⟩ := ift h
  refine E_aload_n (n := 1) 0 rfl rfl rfl 0 rfl <| E_gF (r := 139) (n := 4) 1 rfl rfl fg_12_47 sh_133 rfl <| E_iload_n (n := 5) 2 rfl rfl rfl 1 rfl <| E_iald (n := 6) 3 rfl rfl sh_139 hc1 <| E_aload_n (n := 7) 4 rfl rfl rfl 0 rfl <| E_gF (r := 140) (n := 10) 5 rfl rfl fg_12_50 sh_133 rfl <| E_iload_n (n := 11) 6 rfl rfl rfl 1 rfl <| E_iald (n := 12) 7 rfl rfl sh_140 hc1 <| E_aload_n (n := 13) 8 rfl rfl rfl 0 rfl <| E_gF (r := 139) (n := 16) 9 rfl rfl fg_12_47 sh_133 rfl <| E_iload_n (n := 17) 10 rfl rfl rfl 1 rfl <| E_iconst (v := 1) (n := 18) 11 rfl rfl icz_1 <| E_iadd (n := 19) 12 rfl rfl <| E_iald (n := 20) 13 rfl rfl sh_139 hc2 <| E_aload_n (n := 21) 14 rfl rfl rfl 0 rfl <| E_gF (r := 140) (n := 24) 15 rfl rfl fg_12_50 sh_133 rfl <| E_iload_n (n := 25) 16 rfl rfl rfl 1 rfl <| E_iconst (v := 1) (n := 26) 17 rfl rfl icz_1 <| E_iadd (n := 27) 18 rfl rfl <| E_iald (n := 28) 19 rfl rfl sh_140 hc2 <| E_iload_n (n := 29) 20 rfl rfl rfl 2 rfl <| E_iload_n (n := 30) 21 rfl rfl rfl 3 rfl <| E_dS6r (n := 33) 22 rfl rfl co_12_265 rfl rfl (K_RM_turn m (gI m 139 (ixn x1)) (gI m 140 (ixn x1)) (gI m 139 (ixn (x1 + 1))) (gI m 140 (ixn (x1 + 1))) x2 x3 _ rfl) <| E_if_ne (n := 36) (t := 82) 23 rfl rfl rfl (fun hc => ?_) (fun hc => ?_)
  · have h := ifn h hc
    refine E_iconst (v := 0) (n := 83) 52 rfl rfl icz_0 <| ?_
    refine E_zreturn 53 rfl rfl z0 (eP h)
  · have h := ifp h hc
    obtain ⟨v3, hq4, h⟩ := bI_ex h
    refine E_iload_n (n := 37) 24 rfl rfl rfl 2 rfl <| E_aload_n (n := 38) 25 rfl rfl rfl 0 rfl <| E_gF (r := 139) (n := 41) 26 rfl rfl fg_12_47 sh_133 rfl <| E_iload_n (n := 42) 27 rfl rfl rfl 1 rfl <| E_iald (n := 43) 28 rfl rfl sh_139 hc1 <| E_aload_n (n := 44) 29 rfl rfl rfl 0 rfl <| E_gF (r := 139) (n := 47) 30 rfl rfl fg_12_47 sh_133 rfl <| E_iload_n (n := 48) 31 rfl rfl rfl 1 rfl <| E_iconst (v := 1) (n := 49) 32 rfl rfl icz_1 <| E_iadd (n := 50) 33 rfl rfl <| E_iald (n := 51) 34 rfl rfl sh_139 hc2 <| E_dS3r (n := 54) 35 rfl rfl co_12_269 rfl rfl (K_RM_isBetween m x2 (gI m 139 (ixn x1)) (gI m 139 (ixn (x1 + 1))) _ hq4) <| E_if_eq (n := 57) (t := 82) 36 rfl rfl rfl (fun hc => ?_) (fun hc => ?_)
    · have h := ifp h hc
      refine E_iconst (v := 0) (n := 83) 52 rfl rfl icz_0 <| ?_
      refine E_zreturn 53 rfl rfl z0 (eP h)
    · have h := ifn h hc
      obtain ⟨v5, hq6, h⟩ := bI_ex h
      refine E_iload_n (n := 58) 37 rfl rfl rfl 3 rfl <| E_aload_n (n := 59) 38 rfl rfl rfl 0 rfl <| E_gF (r := 140) (n := 62) 39 rfl rfl fg_12_50 sh_133 rfl <| E_iload_n (n := 63) 40 rfl rfl rfl 1 rfl <| E_iald (n := 64) 41 rfl rfl sh_140 hc1 <| E_aload_n (n := 65) 42 rfl rfl rfl 0 rfl <| E_gF (r := 140) (n := 68) 43 rfl rfl fg_12_50 sh_133 rfl <| E_iload_n (n := 69) 44 rfl rfl rfl 1 rfl <| E_iconst (v := 1) (n := 70) 45 rfl rfl icz_1 <| E_iadd (n := 71) 46 rfl rfl <| E_iald (n := 72) 47 rfl rfl sh_140 hc2 <| E_dS3r (n := 75) 48 rfl rfl co_12_269 rfl rfl (K_RM_isBetween m x3 (gI m 140 (ixn x1)) (gI m 140 (ixn (x1 + 1))) _ hq6) <| E_if_eq (n := 78) (t := 82) 49 rfl rfl rfl (fun hc => ?_) (fun hc => ?_)
      · have h := ifp h hc
        refine E_iconst (v := 0) (n := 83) 52 rfl rfl icz_0 <| ?_
        refine E_zreturn 53 rfl rfl z0 (eP h)
      · have h := ifn h hc
        refine E_iconst (v := 1) (n := 79) 50 rfl rfl icz_1 <| E_goto (t := 83) 51 rfl rfl <| ?_
        refine E_zreturn 53 rfl rfl z1 (eP h)
theorem RM_isOnLine_L2_ok (m : Mem) (x1 : Int32) (x2 : Int32) (kx : Option Int32) (R : Int32) (hx : kx = some R → E M_RM_isOnLine 28 [] [] m (qI R m)) : ∀ (n : Nat) (x3 : Int32), RM_isOnLine_L2 m x1 x2 kx n x3 = some R → E M_RM_isOnLine 2 [(0, .ref 133), (1, .int x1), (2, .int x2), (3, .int x3)] [] m (qI R m) := by
  intro n
  induction n with
  | zero =>
    intro x3 h
    exact absurd (show none = some R from h) (fun e => Option.some_ne_none R e.symm)
  | succ n ih =>
    intro x3 h
    rw [RM_isOnLine_L2] at h
    refine E_iload_n (n := 3) 2 rfl rfl rfl 3 rfl <| E_aload_n (n := 4) 3 rfl rfl rfl 0 rfl <| E_gI (n := 7) 4 rfl rfl fg_12_259 sh_133 <| E_icmp_ge (n := 10) (t := 28) 5 rfl rfl rfl (fun hc => ?_) (fun hc => ?_)
    · have h := ifp h hc
      refine E_sub (lv' := []) [] rfl ?_
      exact hx h
    · have h := ifn h hc
      obtain ⟨v1, hq2, h⟩ := bI_ex h
      refine E_aload_n (n := 11) 6 rfl rfl rfl 0 rfl <| E_iload_n (n := 12) 7 rfl rfl rfl 3 rfl <| E_iload_n (n := 13) 8 rfl rfl rfl 1 rfl <| E_iload_n (n := 14) 9 rfl rfl rfl 2 rfl <| E_cV3r (n := 17) 10 rfl rfl co_12_272 rfl sh_133 rfl (K_RM_isOnEdge m x3 x1 x2 _ hq2) <| E_if_eq (n := 20) (t := 22) 11 rfl rfl rfl (fun hc => ?_) (fun hc => ?_)
      · have h := ifp h hc
        refine E_iinc (v := (x3 + 1)) (lv' := [(0, .ref 133), (1, .int x1), (2, .int x2), (3, .int (x3 + 1))]) (n := 25) 14 rfl rfl 3 rfl (by rw [icz_1]) (Nat.le_of_ble_eq_true rfl) [1, 2, 3, 0] rfl <| E_goto (t := 2) 15 rfl rfl <| ?_
        exact ih (x3 + 1) h
      · have h := ifn h hc
        refine E_iconst (v := 1) (n := 21) 12 rfl rfl icz_1 <| E_zreturn 13 rfl rfl z1 (eP h)

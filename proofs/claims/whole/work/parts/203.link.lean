theorem K_OH_pieces (m : Mem) (x1 : Int32) (R : Int32 × Mem) (h : OH_pieces m x1 = some R) : Mt M_OH_pieces [.ref 0, .int x1] m (qI R.1 R.2) := by
  refine Mt.of G_OH_pieces (Nat.le_of_ble_eq_true rfl) (E_sub (lv' := [(0, .ref 0), (1, .int x1)]) [0, 1] rfl ?_)
  unfold OH_pieces at h
  refine E_aload_n (n := 1) 0 rfl rfl rfl 0 rfl <| E_gN (n := 4) 1 rfl rfl fg_11_92 sh_0 (Or.inl rfl) fun hN1 => E_iload_n (n := 5) 2 rfl rfl rfl 1 rfl <| E_cV1r (n := 8) 3 rfl rfl co_11_173 rfl hN1 rfl (K_PH_hasLine m (gN m 13) x1 hN1 _ rfl) <| E_if_ne (n := 11) (t := 13) 4 rfl rfl rfl (fun hc => ?_) (fun hc => ?_)
  · have h := ifn h hc
    obtain ⟨m2, hq3, h⟩ := bM_ex h
    refine E_aload_n (n := 14) 7 rfl rfl rfl 0 rfl <| E_iload_n (n := 15) 8 rfl rfl rfl 1 rfl <| E_cV1v (n := 18) 9 rfl rfl co_11_236 rfl sh_0 rfl (K_OH_surveyPieces m x1 _ hq3) <| E_aload_n (n := 19) 10 rfl rfl rfl 0 rfl <| E_gF (r := 17) (n := 22) 11 rfl rfl fg_11_36 sh_0 rfl <| E_gI (n := 25) 12 rfl rfl fg_11_239 sh_17 <| E_ireturn 13 rfl rfl (eS h)
  · have h := ifp h hc
    refine E_iconst (v := (-1)) (n := 12) 5 rfl rfl icz_m1 <| E_ireturn 6 rfl rfl (eS h)
theorem K_PC_firstOf (m : Mem) (x1 : Int32) (R : Int32) (h : PC_firstOf m x1 = some R) : Mt M_PC_firstOf [.ref 17, .int x1] m (qI R m) := by
  refine Mt.of G_PC_firstOf (Nat.le_of_ble_eq_true rfl) (E_sub (lv' := [(0, .ref 17), (1, .int x1)]) [0, 1] rfl ?_)
  unfold PC_firstOf at h
  obtain ⟨hc1, h⟩ := ift h
  obtain ⟨hc2, h⟩ := ift h
  refine E_aload_n (n := 1) 0 rfl rfl rfl 0 rfl <| E_gF (r := 19) (n := 4) 1 rfl rfl fg_6_15 sh_17 rfl <| E_aload_n (n := 5) 2 rfl rfl rfl 0 rfl <| E_gF (r := 20) (n := 8) 3 rfl rfl fg_6_18 sh_17 rfl <| E_iload_n (n := 9) 4 rfl rfl rfl 1 rfl <| E_iald (n := 10) 5 rfl rfl sh_20 hc1 <| E_iald (n := 11) 6 rfl rfl sh_19 hc2 <| E_ireturn 7 rfl rfl (eP h)
theorem K_PC_sizeOf (m : Mem) (x1 : Int32) (R : Int32) (h : PC_sizeOf m x1 = some R) : Mt M_PC_sizeOf [.ref 17, .int x1] m (qI R m) := by
  refine Mt.of G_PC_sizeOf (Nat.le_of_ble_eq_true rfl) (E_sub (lv' := [(0, .ref 17), (1, .int x1)]) [0, 1] rfl ?_)
  unfold PC_sizeOf at h
  obtain ⟨hc1, h⟩ := ift h
  obtain ⟨hc2, h⟩ := ift h
  refine E_aload_n (n := 1) 0 rfl rfl rfl 0 rfl <| E_gF (r := 20) (n := 4) 1 rfl rfl fg_6_18 sh_17 rfl <| E_iload_n (n := 5) 2 rfl rfl rfl 1 rfl <| E_iconst (v := 1) (n := 6) 3 rfl rfl icz_1 <| E_iadd (n := 7) 4 rfl rfl <| E_iald (n := 8) 5 rfl rfl sh_20 hc1 <| E_aload_n (n := 9) 6 rfl rfl rfl 0 rfl <| E_gF (r := 20) (n := 12) 7 rfl rfl fg_6_18 sh_17 rfl <| E_iload_n (n := 13) 8 rfl rfl rfl 1 rfl <| E_iald (n := 14) 9 rfl rfl sh_20 hc2 <| E_isub (n := 15) 10 rfl rfl <| E_ireturn 11 rfl rfl (eP h)
theorem K_PC_neighboursOf (m : Mem) (x1 : Int32) (R : Int32) (h : PC_neighboursOf m x1 = some R) : Mt M_PC_neighboursOf [.ref 17, .int x1] m (qI R m) := by
  refine Mt.of G_PC_neighboursOf (Nat.le_of_ble_eq_true rfl) (E_sub (lv' := [(0, .ref 17), (1, .int x1)]) [0, 1] rfl ?_)
  unfold PC_neighboursOf at h
  obtain ⟨hc1, h⟩ := ift h
  obtain ⟨hc2, h⟩ := ift h
  refine E_aload_n (n := 1) 0 rfl rfl rfl 0 rfl <| E_gF (r := 22) (n := 4) 1 rfl rfl fg_6_24 sh_17 rfl <| E_iload_n (n := 5) 2 rfl rfl rfl 1 rfl <| E_iconst (v := 1) (n := 6) 3 rfl rfl icz_1 <| E_iadd (n := 7) 4 rfl rfl <| E_iald (n := 8) 5 rfl rfl sh_22 hc1 <| E_aload_n (n := 9) 6 rfl rfl rfl 0 rfl <| E_gF (r := 22) (n := 12) 7 rfl rfl fg_6_24 sh_17 rfl <| E_iload_n (n := 13) 8 rfl rfl rfl 1 rfl <| E_iald (n := 14) 9 rfl rfl sh_22 hc2 <| E_isub (n := 15) 10 rfl rfl <| E_ireturn 11 rfl rfl (eP h)
theorem K_OH_piece (m : Mem) (x1 : Int32) (x2 : Int32) (x3 : Int32) (R : Int32 × Mem) (h : OH_piece m x1 x2 x3 = some R) : Mt M_OH_piece [.ref 0, .int x1, .int x2, .int x3] m (qI R.1 R.2) := by
  refine Mt.of G_OH_piece (Nat.le_of_ble_eq_true rfl) (E_sub (lv' := [(0, .ref 0), (1, .int x1), (2, .int x2), (3, .int x3)]) [0, 1, 2, 3] rfl ?_)
  unfold OH_piece at h
  refine E_aload_n (n := 1) 0 rfl rfl rfl 0 rfl <| E_gN (n := 4) 1 rfl rfl fg_11_92 sh_0 (Or.inl rfl) fun hN1 => E_iload_n (n := 5) 2 rfl rfl rfl 1 rfl <| E_cV1r (n := 8) 3 rfl rfl co_11_173 rfl hN1 rfl (K_PH_hasLine m (gN m 13) x1 hN1 _ rfl) <| E_if_ne (n := 11) (t := 13) 4 rfl rfl rfl (fun hc => ?_) (fun hc => ?_)
  · have h := ifn h hc
    obtain ⟨m2, hq3, h⟩ := bM_ex h
    refine E_aload_n (n := 14) 7 rfl rfl rfl 0 rfl <| E_iload_n (n := 15) 8 rfl rfl rfl 1 rfl <| E_cV1v (n := 18) 9 rfl rfl co_11_236 rfl sh_0 rfl (K_OH_surveyPieces m x1 _ hq3) <| E_iload_n (n := 19) 10 rfl rfl rfl 2 rfl <| E_if_lt (n := 22) (t := 33) 11 rfl rfl rfl (fun hc => ?_) (fun hc => ?_)
    · have h := ifp h hc
      refine E_iconst (v := (-1)) (n := 34) 17 rfl rfl icz_m1 <| E_ireturn 18 rfl rfl (eS h)
    · have h := ifn h hc
      refine E_iload_n (n := 23) 12 rfl rfl rfl 2 rfl <| E_aload_n (n := 24) 13 rfl rfl rfl 0 rfl <| E_gF (r := 17) (n := 27) 14 rfl rfl fg_11_36 sh_0 rfl <| E_gI (n := 30) 15 rfl rfl fg_11_239 sh_17 <| E_icmp_lt (n := 33) (t := 35) 16 rfl rfl rfl (fun hc => ?_) (fun hc => ?_)
      · have h := ifp h hc
        obtain ⟨v4, hq5, h⟩ := bI_ex h
        refine E_aload_n (n := 36) 19 rfl rfl rfl 0 rfl <| E_gF (r := 17) (n := 39) 20 rfl rfl fg_11_36 sh_0 rfl <| E_iload_n (n := 40) 21 rfl rfl rfl 2 rfl <| E_cV1r (n := 43) 22 rfl rfl co_11_242 rfl sh_17 rfl (K_PC_firstOf m2 x2 _ hq5) <| E_istore (lv' := [(0, .ref 0), (1, .int x1), (2, .int x2), (3, .int x3), (4, .int v4)]) (n := 45) 23 rfl rfl (Nat.le_of_ble_eq_true rfl) [1, 2, 3, 4, 0] rfl <| E_iload_n (n := 46) 24 rfl rfl rfl 3 rfl <| ?_
        by_cases hc11 : x3 = 0
        · have h := ifp h hc11
          refine E_tabIn (off := 34) (t := 80) 25 rfl (by rw [hc11]; decide) (by rw [hc11]; decide) (by rw [hc11]; rfl) rfl ?_
          obtain ⟨v6, hq7, h⟩ := bI_ex h
          refine E_aload_n (n := 81) 26 rfl rfl rfl 0 rfl <| E_gF (r := 17) (n := 84) 27 rfl rfl fg_11_36 sh_0 rfl <| E_iload_n (n := 85) 28 rfl rfl rfl 2 rfl <| E_cV1r (n := 88) 29 rfl rfl co_11_245 rfl sh_17 rfl (K_PC_sizeOf m2 x2 _ hq7) <| E_ireturn 30 rfl rfl (eS h)
        have h := ifn h hc11
        by_cases hc12 : x3 = 1
        · have h := ifp h hc12
          refine E_tabIn (off := 43) (t := 89) 25 rfl (by rw [hc12]; decide) (by rw [hc12]; decide) (by rw [hc12]; rfl) rfl ?_
          obtain ⟨hc8, h⟩ := ift h
          refine E_aload_n (n := 90) 31 rfl rfl rfl 0 rfl <| E_gF (r := 5) (n := 93) 32 rfl rfl fg_11_26 sh_0 rfl <| E_gF (r := 6) (n := 96) 33 rfl rfl fg_11_209 sh_5 rfl <| E_iload (n := 98) 34 rfl rfl 4 rfl <| E_iald (n := 99) 35 rfl rfl sh_6 hc8 <| E_ireturn 36 rfl rfl (eS h)
        have h := ifn h hc12
        by_cases hc13 : x3 = 2
        · have h := ifp h hc13
          refine E_tabIn (off := 54) (t := 100) 25 rfl (by rw [hc13]; decide) (by rw [hc13]; decide) (by rw [hc13]; rfl) rfl ?_
          refine E_iload (n := 102) 37 rfl rfl 4 rfl <| E_bipush (v := 20) (n := 104) 38 rfl rfl bpz_20 <| E_irm (n := 105) 39 rfl rfl (by decide) <| E_ireturn 40 rfl rfl (eS h)
        have h := ifn h hc13
        by_cases hc14 : x3 = 3
        · have h := ifp h hc14
          refine E_tabIn (off := 60) (t := 106) 25 rfl (by rw [hc14]; decide) (by rw [hc14]; decide) (by rw [hc14]; rfl) rfl ?_
          refine E_iload (n := 108) 41 rfl rfl 4 rfl <| E_bipush (v := 20) (n := 110) 42 rfl rfl bpz_20 <| E_idiv (n := 111) 43 rfl rfl (by decide) <| E_ireturn 44 rfl rfl (eS h)
        have h := ifn h hc14
        by_cases hc15 : x3 = 4
        · have h := ifp h hc15
          refine E_tabIn (off := 66) (t := 112) 25 rfl (by rw [hc15]; decide) (by rw [hc15]; decide) (by rw [hc15]; rfl) rfl ?_
          obtain ⟨v9, hq10, h⟩ := bI_ex h
          refine E_aload_n (n := 113) 45 rfl rfl rfl 0 rfl <| E_gF (r := 17) (n := 116) 46 rfl rfl fg_11_36 sh_0 rfl <| E_iload_n (n := 117) 47 rfl rfl rfl 2 rfl <| E_cV1r (n := 120) 48 rfl rfl co_11_248 rfl sh_17 rfl (K_PC_neighboursOf m2 x2 _ hq10) <| E_ireturn 49 rfl rfl (eS h)
        have h := ifn h hc15
        refine E_tabOut (t := 121) 25 rfl (tabo (by decide) (by decide) (fun z h1 h2 => ?_)) rfl ?_
        · have h3 : z = 0 ∨ z = 1 ∨ z = 2 ∨ z = 3 ∨ z = 4 := by omega
          rcases h3 with rfl | rfl | rfl | rfl | rfl
          · exact hc11
          · exact hc12
          · exact hc13
          · exact hc14
          · exact hc15
        · refine E_iconst (v := (-1)) (n := 122) 50 rfl rfl icz_m1 <| E_ireturn 51 rfl rfl (eS h)
      · have h := ifn h hc
        refine E_iconst (v := (-1)) (n := 34) 17 rfl rfl icz_m1 <| E_ireturn 18 rfl rfl (eS h)
  · have h := ifp h hc
    refine E_iconst (v := (-1)) (n := 12) 5 rfl rfl icz_m1 <| E_ireturn 6 rfl rfl (eS h)
theorem K_OH_pieceAt (m : Mem) (x1 : Int32) (x2 : Int32) (x3 : Int32) (R : Int32 × Mem) (h : OH_pieceAt m x1 x2 x3 = some R) : Mt M_OH_pieceAt [.ref 0, .int x1, .int x2, .int x3] m (qI R.1 R.2) := by
  refine Mt.of G_OH_pieceAt (Nat.le_of_ble_eq_true rfl) (E_sub (lv' := [(0, .ref 0), (1, .int x1), (2, .int x2), (3, .int x3)]) [0, 1, 2, 3] rfl ?_)
  unfold OH_pieceAt at h
  refine E_aload_n (n := 1) 0 rfl rfl rfl 0 rfl <| E_gN (n := 4) 1 rfl rfl fg_11_92 sh_0 (Or.inl rfl) fun hN1 => E_iload_n (n := 5) 2 rfl rfl rfl 1 rfl <| E_cV1r (n := 8) 3 rfl rfl co_11_173 rfl hN1 rfl (K_PH_hasLine m (gN m 13) x1 hN1 _ rfl) <| E_if_eq (n := 11) (t := 19) 4 rfl rfl rfl (fun hc => ?_) (fun hc => ?_)
  · have h := ifp h hc
    refine E_iconst (v := (-1)) (n := 20) 9 rfl rfl icz_m1 <| E_ireturn 10 rfl rfl (eS h)
  · have h := ifn h hc
    refine E_iload_n (n := 12) 5 rfl rfl rfl 2 rfl <| E_iload_n (n := 13) 6 rfl rfl rfl 3 rfl <| E_dS2r (n := 16) 7 rfl rfl co_11_203 rfl rfl (K_OH_isSquare m x2 x3 _ rfl) <| E_if_ne (n := 19) (t := 21) 8 rfl rfl rfl (fun hc => ?_) (fun hc => ?_)
    · have h := ifn h hc
      obtain ⟨m2, hq3, h⟩ := bM_ex h
      obtain ⟨hc4, h⟩ := ift h
      refine E_aload_n (n := 22) 11 rfl rfl rfl 0 rfl <| E_iload_n (n := 23) 12 rfl rfl rfl 1 rfl <| E_cV1v (n := 26) 13 rfl rfl co_11_236 rfl sh_0 rfl (K_OH_surveyPieces m x1 _ hq3) <| E_aload_n (n := 27) 14 rfl rfl rfl 0 rfl <| E_gF (r := 17) (n := 30) 15 rfl rfl fg_11_36 sh_0 rfl <| E_gF (r := 18) (n := 33) 16 rfl rfl fg_11_251 sh_17 rfl <| E_iload_n (n := 34) 17 rfl rfl rfl 2 rfl <| E_iload_n (n := 35) 18 rfl rfl rfl 3 rfl <| E_dS2r (n := 38) 19 rfl rfl co_11_212 rfl rfl (K_OH_squareAt m2 x2 x3 _ rfl) <| E_iald (n := 39) 20 rfl rfl sh_18 hc4 <| E_ireturn 21 rfl rfl (eS h)
    · have h := ifp h hc
      refine E_iconst (v := (-1)) (n := 20) 9 rfl rfl icz_m1 <| E_ireturn 10 rfl rfl (eS h)
theorem GR_crossed_J29_ok (m : Mem) (x0 : Nat) (x4 : Int32) (h_x0 : shp x0 = (1, 0)) (R : Int32) (h : GR_crossed_J29 m x0 x4 = some R) : E M_GR_crossed 29 [(0, .ref x0), (4, .int x4)] [] m (qI R m) := by
  unfold GR_crossed_J29 at h
  obtain ⟨hc1, h⟩ := ift h
  refine E_aload_n (n := 30) 18 rfl rfl rfl 0 rfl <| E_gF (r := (x0 + 2)) (n := 33) 19 rfl rfl fg_1_15 h_x0 rfl <| E_iload (n := 35) 20 rfl rfl 1 rfl <| E_iald (n := 36) 21 rfl rfl (shc_1_1 h_x0) hc1 <| E_goto (t := 46) 22 rfl rfl <| ?_
  refine E_ireturn 27 rfl rfl (eP h)
theorem K_GR_crossed (m : Mem) (x0 : Nat) (x1 : Int32) (x2 : Int32) (h_x0 : shp x0 = (1, 0)) (R : Int32) (h : GR_crossed m x0 x1 x2 = some R) : Mt M_GR_crossed [.ref x0, .int x1, .int x2] m (qI R m) := by
  refine Mt.of G_GR_crossed (Nat.le_of_ble_eq_true rfl) (E_sub (lv' := [(0, .ref x0), (1, .int x1), (2, .int x2)]) [0, 1, 2] rfl ?_)
  unfold GR_crossed at h
  obtain ⟨v1, hv1, h⟩ := letV_ex h
  refine E_iload_n (n := 1) 0 rfl rfl rfl 1 rfl <| E_iload_n (n := 2) 1 rfl rfl rfl 2 rfl <| E_dN2r (n := 5) 2 rfl rfl co_1_77 rfl rfl (K_OH_stepFrom m x1 x2 _ rfl) <| E_top hv1 <| E_istore_n (lv' := [(0, .ref x0), (1, .int x1), (2, .int x2), (3, .int v1)]) (n := 6) 3 rfl rfl rfl (Nat.le_of_ble_eq_true rfl) [1, 2, 3, 0] rfl <| E_iload_n (n := 7) 4 rfl rfl rfl 3 rfl <| E_if_ge (n := 10) (t := 12) 5 rfl rfl rfl (fun hc => ?_) (fun hc => ?_)
  · have h := ifp h hc
    obtain ⟨v2, hv2, h⟩ := letV_ex h
    refine E_iload_n (n := 13) 8 rfl rfl rfl 1 rfl <| E_iload_n (n := 14) 9 rfl rfl rfl 3 rfl <| E_jmin (n := 17) 10 rfl rfl tw_1046 tw_642 tw_124 tw_643 ⟨Nat.le_of_ble_eq_true rfl, Nat.le_of_ble_eq_true rfl⟩ <| E_top hv2 <| E_istore (lv' := [(0, .ref x0), (1, .int x1), (2, .int x2), (3, .int v1), (4, .int v2)]) (n := 19) 11 rfl rfl (Nat.le_of_ble_eq_true rfl) [1, 2, 3, 4, 0] rfl <| E_iload_n (n := 20) 12 rfl rfl rfl 2 rfl <| E_iconst (v := 1) (n := 21) 13 rfl rfl icz_1 <| E_icmp_eq (n := 24) (t := 29) 14 rfl rfl rfl (fun hc => ?_) (fun hc => ?_)
    · have h := ifp h hc
      refine E_sub (lv' := [(0, .ref x0), (4, .int v2)]) [0, 4] rfl ?_
      exact GR_crossed_J29_ok m x0 v2 h_x0 _ h
    · have h := ifn h hc
      refine E_iload_n (n := 25) 15 rfl rfl rfl 2 rfl <| E_iconst (v := 3) (n := 26) 16 rfl rfl icz_3 <| E_icmp_ne (n := 29) (t := 39) 17 rfl rfl rfl (fun hc => ?_) (fun hc => ?_)
      · have h := ifn h hc
        obtain ⟨hc3, h⟩ := ift h
        refine E_aload_n (n := 40) 23 rfl rfl rfl 0 rfl <| E_gF (r := (x0 + 3)) (n := 43) 24 rfl rfl fg_1_18 h_x0 rfl <| E_iload (n := 45) 25 rfl rfl 4 rfl <| E_iald (n := 46) 26 rfl rfl (shc_1_2 h_x0) hc3 <| ?_
        refine E_ireturn 27 rfl rfl (eP h)
      · have h := ifp h hc
        refine E_sub (lv' := [(0, .ref x0), (4, .int v2)]) [0, 4] rfl ?_
        exact GR_crossed_J29_ok m x0 v2 h_x0 _ h
  · have h := ifn h hc
    refine E_iconst (v := (-1)) (n := 11) 6 rfl rfl icz_m1 <| E_ireturn 7 rfl rfl (eP h)
theorem K_OH_crosses (m : Mem) (x1 : Int32) (x2 : Int32) (x3 : Int32) (x4 : Int32) (R : Int32 × Mem) (h : OH_crosses m x1 x2 x3 x4 = some R) : Mt M_OH_crosses [.ref 0, .int x1, .int x2, .int x3, .int x4] m (qI R.1 R.2) := by
  refine Mt.of G_OH_crosses (Nat.le_of_ble_eq_true rfl) (E_sub (lv' := [(0, .ref 0), (1, .int x1), (2, .int x2), (3, .int x3), (4, .int x4)]) [0, 1, 2, 3, 4] rfl ?_)
  unfold OH_crosses at h
  refine E_aload_n (n := 1) 0 rfl rfl rfl 0 rfl <| E_gN (n := 4) 1 rfl rfl fg_11_92 sh_0 (Or.inl rfl) fun hN1 => E_iload_n (n := 5) 2 rfl rfl rfl 1 rfl <| E_cV1r (n := 8) 3 rfl rfl co_11_173 rfl hN1 rfl (K_PH_hasLine m (gN m 13) x1 hN1 _ rfl) <| E_if_eq (n := 11) (t := 19) 4 rfl rfl rfl (fun hc => ?_) (fun hc => ?_)
  · have h := ifp h hc
    refine E_iconst (v := (-1)) (n := 20) 9 rfl rfl icz_m1 <| E_ireturn 10 rfl rfl (eS h)
  · have h := ifn h hc
    refine E_iload_n (n := 12) 5 rfl rfl rfl 2 rfl <| E_iload_n (n := 13) 6 rfl rfl rfl 3 rfl <| E_dS2r (n := 16) 7 rfl rfl co_11_203 rfl rfl (K_OH_isSquare m x2 x3 _ rfl) <| E_if_ne (n := 19) (t := 21) 8 rfl rfl rfl (fun hc => ?_) (fun hc => ?_)
    · have h := ifn h hc
      obtain ⟨m2, hq3, h⟩ := bM_ex h
      obtain ⟨v4, hq5, h⟩ := bI_ex h
      refine E_aload_n (n := 22) 11 rfl rfl rfl 0 rfl <| E_iload_n (n := 23) 12 rfl rfl rfl 1 rfl <| E_cV1v (n := 26) 13 rfl rfl co_11_206 rfl sh_0 rfl (K_OH_survey m x1 _ hq3) <| E_aload_n (n := 27) 14 rfl rfl rfl 0 rfl <| E_gF (r := 5) (n := 30) 15 rfl rfl fg_11_26 sh_0 rfl <| E_iload_n (n := 31) 16 rfl rfl rfl 2 rfl <| E_iload_n (n := 32) 17 rfl rfl rfl 3 rfl <| E_dS2r (n := 35) 18 rfl rfl co_11_212 rfl rfl (K_OH_squareAt m2 x2 x3 _ rfl) <| E_iload (n := 37) 19 rfl rfl 4 rfl <| E_cV2r (n := 40) 20 rfl rfl co_11_254 rfl sh_5 rfl (K_GR_crossed m2 5 (OH_squareAt x2 x3) x4 sh_5 _ hq5) <| E_ireturn 21 rfl rfl (eS h)
    · have h := ifp h hc
      refine E_iconst (v := (-1)) (n := 20) 9 rfl rfl icz_m1 <| E_ireturn 10 rfl rfl (eS h)
theorem WK_followRow_L41_ok (x2 : Nat) (x3 : Int32) (x4 : Int32) (h_x2 : shp x2 = (1, 0)) (kx : Mem → Option (Int32 × Mem)) (R : Int32 × Mem) (hx : ∀ (m : Mem), kx m = some R → E M_WK_followRow 114 [(1, .ref 1)] [] m (qI R.1 R.2)) : ∀ (n : Nat) (m : Mem) (x5 : Int32), WK_followRow_L41 x2 x3 x4 kx n m x5 = some R → E M_WK_followRow 41 [(0, .ref 26), (1, .ref 1), (2, .ref x2), (3, .int x3), (4, .int x4), (5, .int x5)] [] m (qI R.1 R.2) := by
  intro n
  induction n with
  | zero =>
    intro m x5 h
    exact absurd (show none = some R from h) (fun e => Option.some_ne_none R e.symm)
  | succ n ih =>
    intro m x5 h
    rw [WK_followRow_L41] at h
    refine E_iload (n := 43) 24 rfl rfl 5 rfl <| E_aload_n (n := 44) 25 rfl rfl rfl 1 rfl <| E_gI (n := 47) 26 rfl rfl fg_10_64 sh_1 <| E_icmp_ge (n := 50) (t := 114) 27 rfl rfl rfl (fun hc => ?_) (fun hc => ?_)
    · have h := ifp h hc
      refine E_sub (lv' := [(1, .ref 1)]) [1] rfl ?_
      exact hx m h
    · have h := ifn h hc
      obtain ⟨v1, hv1, h⟩ := letV_ex h
      refine E_aload_n (n := 51) 28 rfl rfl rfl 0 rfl <| E_gI (n := 54) 29 rfl rfl fg_10_24 sh_26 <| E_iload (n := 56) 30 rfl rfl 4 rfl <| E_dN2r (n := 59) 31 rfl rfl co_10_67 rfl rfl (K_OH_stepFrom m (gI m 26 1) x4 _ rfl) <| E_top hv1 <| E_istore (lv' := [(0, .ref 26), (1, .ref 1), (2, .ref x2), (3, .int x3), (4, .int x4), (5, .int x5), (6, .int v1)]) (n := 61) 32 rfl rfl (Nat.le_of_ble_eq_true rfl) [1, 2, 3, 4, 5, 6, 0] rfl <| E_iload (n := 63) 33 rfl rfl 6 rfl <| E_if_ge (n := 66) (t := 73) 34 rfl rfl rfl (fun hc => ?_) (fun hc => ?_)
      · have h := ifp h hc
        obtain ⟨v2, hq3, h⟩ := bI_ex h
        obtain ⟨m4, hm4, h⟩ := letM_ex h
        obtain ⟨m5, hm5, h⟩ := letM_ex h
        obtain ⟨m6, hm6, h⟩ := letM_ex h
        refine E_aload_n (n := 74) 40 rfl rfl rfl 0 rfl <| E_dup (n := 75) 41 rfl rfl rfl <| E_gI (n := 78) 42 rfl rfl fg_10_31 sh_26 <| E_aload_n (n := 79) 43 rfl rfl rfl 2 rfl <| E_aload_n (n := 80) 44 rfl rfl rfl 0 rfl <| E_gI (n := 83) 45 rfl rfl fg_10_24 sh_26 <| E_iload (n := 85) 46 rfl rfl 4 rfl <| E_cV2r (n := 88) 47 rfl rfl co_10_74 rfl h_x2 rfl (K_GR_crossed m x2 (gI m 26 1) x4 h_x2 _ hq3) <| E_iadd (n := 89) 48 rfl rfl <| E_pI (n := 92) 49 rfl rfl fp_10_31 sh_26 <| E_mem hm4 <| E_aload_n (n := 93) 50 rfl rfl rfl 0 rfl <| E_iload (n := 95) 51 rfl rfl 6 rfl <| E_pI (n := 98) 52 rfl rfl fp_10_24 sh_26 <| E_mem hm5 <| E_aload_n (n := 99) 53 rfl rfl rfl 0 rfl <| E_dup (n := 100) 54 rfl rfl rfl <| E_gI (n := 103) 55 rfl rfl fg_10_28 sh_26 <| E_iconst (v := 1) (n := 104) 56 rfl rfl icz_1 <| E_iadd (n := 105) 57 rfl rfl <| E_pI (n := 108) 58 rfl rfl fp_10_28 sh_26 <| E_mem hm6 <| E_iinc (v := (x5 + 1)) (lv' := [(0, .ref 26), (1, .ref 1), (2, .ref x2), (3, .int x3), (4, .int x4), (5, .int (x5 + 1)), (6, .int v1)]) (n := 111) 59 rfl rfl 5 rfl (by rw [icz_1]) (Nat.le_of_ble_eq_true rfl) [1, 2, 3, 4, 5, 0, 6] rfl <| E_goto (t := 41) 60 rfl rfl <| ?_
        refine E_sub (lv' := [(0, .ref 26), (1, .ref 1), (2, .ref x2), (3, .int x3), (4, .int x4), (5, .int (x5 + 1))]) [0, 1, 2, 3, 4, 5] rfl ?_
        exact ih m6 (x5 + 1) h
      · have h := ifn h hc
        obtain ⟨v7, m8, hq9, h⟩ := bV_ex h
        obtain ⟨hc10, h⟩ := ift h
        refine E_aload_n (n := 67) 35 rfl rfl rfl 1 rfl <| E_iconst (v := 5) (n := 68) 36 rfl rfl icz_5 <| E_iload_n (n := 69) 37 rfl rfl rfl 3 rfl <| E_cV2r (n := 72) 38 rfl rfl co_10_71 rfl sh_1 rfl (K_RD_failAt m 5 x3 _ hq9) <| E_zreturn 39 rfl rfl hc10 (eS h)
theorem K_WK_followRow (m : Mem) (x2 : Nat) (h_x2 : shp x2 = (1, 0)) (R : Int32 × Mem) (h : WK_followRow m x2 = some R) : Mt M_WK_followRow [.ref 26, .ref 1, .ref x2] m (qI R.1 R.2) := by
  refine Mt.of G_WK_followRow (Nat.le_of_ble_eq_true rfl) (E_sub (lv' := [(0, .ref 26), (1, .ref 1), (2, .ref x2)]) [0, 1, 2] rfl ?_)
  unfold WK_followRow at h
  refine E_aload_n (n := 1) 0 rfl rfl rfl 1 rfl <| E_iconst (v := 0) (n := 2) 1 rfl rfl icz_0 <| E_iconst (v := 3) (n := 3) 2 rfl rfl icz_3 <| E_cV2r (n := 6) 3 rfl rfl co_10_47 rfl sh_1 rfl (K_RD_isWord m 0 3 _ rfl) <| E_if_ne (n := 9) (t := 15) 4 rfl rfl rfl (fun hc => ?_) (fun hc => ?_)
  · have h := ifn h hc
    obtain ⟨v1, hv1, h⟩ := letV_ex h
    obtain ⟨v2, hv2, h⟩ := letV_ex h
    obtain ⟨v3, m4, hq5, h⟩ := bV_ex h
    refine E_aload_n (n := 16) 9 rfl rfl rfl 1 rfl <| E_gI (n := 19) 10 rfl rfl fg_10_55 sh_1 <| E_top hv1 <| E_istore_n (lv' := [(0, .ref 26), (1, .ref 1), (2, .ref x2), (3, .int v1)]) (n := 20) 11 rfl rfl rfl (Nat.le_of_ble_eq_true rfl) [1, 2, 3, 0] rfl <| E_aload_n (n := 21) 12 rfl rfl rfl 1 rfl <| E_gI (n := 24) 13 rfl rfl fg_10_58 sh_1 <| E_top hv2 <| E_istore (lv' := [(0, .ref 26), (1, .ref 1), (2, .ref x2), (3, .int v1), (4, .int v2)]) (n := 26) 14 rfl rfl (Nat.le_of_ble_eq_true rfl) [1, 2, 3, 4, 0] rfl <| E_aload_n (n := 27) 15 rfl rfl rfl 1 rfl <| E_iconst (v := 1) (n := 28) 16 rfl rfl icz_1 <| E_bipush (v := 20) (n := 30) 17 rfl rfl bpz_20 <| E_cV2r (n := 33) 18 rfl rfl co_10_61 rfl sh_1 rfl (K_RD_readNumber m 1 20 _ hq5) <| E_if_ne (n := 36) (t := 38) 19 rfl rfl rfl (fun hc => ?_) (fun hc => ?_)
    · have h := ifn h hc
      refine E_iconst (v := 0) (n := 39) 22 rfl rfl icz_0 <| E_istore (lv' := [(0, .ref 26), (1, .ref 1), (2, .ref x2), (3, .int v1), (4, .int v2), (5, .int 0)]) (n := 41) 23 rfl rfl (Nat.le_of_ble_eq_true rfl) [1, 2, 3, 4, 5, 0] rfl <| ?_
      refine WK_followRow_L41_ok x2 v1 v2 h_x2 _ R ?_ FU m4 0 h
      intro m6 h
      obtain ⟨v7, m8, hq9, h⟩ := bV_ex h
      obtain ⟨hc10, h⟩ := ift h
      refine E_aload_n (n := 115) 61 rfl rfl rfl 0 rfl <| E_cV0r (n := 118) 62 rfl rfl co_10_79 rfl sh_1 rfl (K_RD_readSemicolon m6 _ hq9) <| E_zreturn 63 rfl rfl hc10 (eS h)
    · have h := ifp h hc
      refine E_iconst (v := 0) (n := 37) 20 rfl rfl icz_0 <| E_zreturn 21 rfl rfl z0 (eS h)
  · have h := ifp h hc
    obtain ⟨v11, m12, hq13, h⟩ := bV_ex h
    obtain ⟨hc14, h⟩ := ift h
    refine E_aload_n (n := 10) 5 rfl rfl rfl 1 rfl <| E_iconst (v := 1) (n := 11) 6 rfl rfl icz_1 <| E_cV1r (n := 14) 7 rfl rfl co_10_51 rfl sh_1 rfl (K_RD_fail m 1 _ hq13) <| E_zreturn 8 rfl rfl hc14 (eS h)
theorem WK_follow_L18_ok (x2 : Nat) (h_x2 : shp x2 = (1, 0)) (kx : Mem → Option (Int32 × Mem)) (R : Int32 × Mem) (hx : ∀ (m : Mem), kx m = some R → E M_WK_follow 98 [] [] m (qI R.1 R.2)) : ∀ (n : Nat) (m : Mem) (x4 : Int32), WK_follow_L18 x2 kx n m x4 = some R → E M_WK_follow 18 [(0, .ref 26), (1, .ref 1), (2, .ref x2), (4, .int x4)] [] m (qI R.1 R.2) := by
  intro n
  induction n with
  | zero =>
    intro m x4 h
    exact absurd (show none = some R from h) (fun e => Option.some_ne_none R e.symm)
  | succ n ih =>
    intro m x4 h
    rw [WK_follow_L18] at h
    refine E_iload (n := 20) 11 rfl rfl 3 rfl <| E_sipush (v := 300) (n := 23) 12 rfl rfl spz_300 <| E_icmp_gt (n := 26) (t := 98) 13 rfl rfl rfl (fun hc => ?_) (fun hc => ?_)
    · have h := ifp h hc
      refine E_sub (lv' := []) [] rfl ?_
      exact hx m h
    · have h := ifn h hc
      obtain ⟨v1, m2, hq3, h⟩ := bV_ex h
      refine E_aload_n (n := 27) 14 rfl rfl rfl 1 rfl <| E_cV0r (n := 30) 15 rfl rfl co_10_34 rfl sh_1 rfl (K_RD_isAtEnd m _ hq3) <| E_if_eq (n := 33) (t := 81) 16 rfl rfl rfl (fun hc => ?_) (fun hc => ?_)
      · have h := ifp h hc
        obtain ⟨v4, m5, hq6, h⟩ := bV_ex h
        refine E_aload_n (n := 82) 45 rfl rfl rfl 0 rfl <| E_aload_n (n := 83) 46 rfl rfl rfl 1 rfl <| E_aload_n (n := 84) 47 rfl rfl rfl 2 rfl <| E_cV2r (n := 87) 48 rfl rfl co_10_43 rfl sh_26 rfl (K_WK_followRow m2 x2 h_x2 _ hq6) <| E_if_ne (n := 90) (t := 92) 49 rfl rfl rfl (fun hc => ?_) (fun hc => ?_)
        · have h := ifn h hc
          refine E_iinc (v := (x4 + 1)) (lv' := [(0, .ref 26), (1, .ref 1), (2, .ref x2), (4, .int (x4 + 1))]) (n := 95) 52 rfl rfl 3 rfl (by rw [icz_1]) (Nat.le_of_ble_eq_true rfl) [1, 2, 3, 0] rfl <| E_goto (t := 18) 53 rfl rfl <| ?_
          exact ih m5 (x4 + 1) h
        · have h := ifp h hc
          refine E_iconst (v := (-1)) (n := 91) 50 rfl rfl icz_m1 <| E_ireturn 51 rfl rfl (eS h)
      · have h := ifn h hc
        obtain ⟨v7, m8, hq9, h⟩ := bV_ex h
        refine E_aload_n (n := 34) 17 rfl rfl rfl 1 rfl <| E_cV0r (n := 37) 18 rfl rfl co_10_40 rfl sh_1 rfl (K_RD_closes m2 _ hq9) <| E_if_eq (n := 40) (t := 76) 19 rfl rfl rfl (fun hc => ?_) (fun hc => ?_)
        · have h := ifp h hc
          refine E_aload_n (n := 77) 42 rfl rfl rfl 0 rfl <| E_gI (n := 80) 43 rfl rfl fg_10_31 sh_26 <| E_ireturn 44 rfl rfl (eS h)
        · have h := ifn h hc
          obtain ⟨hc10, h⟩ := ift h
          obtain ⟨m11, hm11, h⟩ := letM_ex h
          obtain ⟨hc12, h⟩ := ift h
          obtain ⟨m13, hm13, h⟩ := letM_ex h
          obtain ⟨hc14, h⟩ := ift h
          obtain ⟨m15, hm15, h⟩ := letM_ex h
          refine E_aload_n (n := 41) 20 rfl rfl rfl 0 rfl <| E_gF (r := 27) (n := 44) 21 rfl rfl fg_10_9 sh_26 rfl <| E_iconst (v := 0) (n := 45) 22 rfl rfl icz_0 <| E_aload_n (n := 46) 23 rfl rfl rfl 0 rfl <| E_gI (n := 49) 24 rfl rfl fg_10_24 sh_26 <| E_bipush (v := 20) (n := 51) 25 rfl rfl bpz_20 <| E_irm (n := 52) 26 rfl rfl (by decide) <| E_iast (n := 53) 27 rfl rfl sh_27 hc10 <| E_mem hm11 <| E_aload_n (n := 54) 28 rfl rfl rfl 0 rfl <| E_gF (r := 27) (n := 57) 29 rfl rfl fg_10_9 sh_26 rfl <| E_iconst (v := 1) (n := 58) 30 rfl rfl icz_1 <| E_aload_n (n := 59) 31 rfl rfl rfl 0 rfl <| E_gI (n := 62) 32 rfl rfl fg_10_24 sh_26 <| E_bipush (v := 20) (n := 64) 33 rfl rfl bpz_20 <| E_idiv (n := 65) 34 rfl rfl (by decide) <| E_iast (n := 66) 35 rfl rfl sh_27 hc12 <| E_mem hm13 <| E_aload_n (n := 67) 36 rfl rfl rfl 0 rfl <| E_gF (r := 27) (n := 70) 37 rfl rfl fg_10_9 sh_26 rfl <| E_iconst (v := 2) (n := 71) 38 rfl rfl icz_2 <| E_aload_n (n := 72) 39 rfl rfl rfl 0 rfl <| E_gI (n := 75) 40 rfl rfl fg_10_28 sh_26 <| E_iast (n := 76) 41 rfl rfl sh_27 hc14 <| E_mem hm15 <| ?_
          refine E_aload_n (n := 77) 42 rfl rfl rfl 0 rfl <| E_gI (n := 80) 43 rfl rfl fg_10_31 sh_26 <| E_ireturn 44 rfl rfl (eS h)
theorem K_WK_follow (m : Mem) (x2 : Nat) (x3 : Int32) (h_x2 : shp x2 = (1, 0)) (R : Int32 × Mem) (h : WK_follow m x2 x3 = some R) : Mt M_WK_follow [.ref 26, .ref 1, .ref x2, .int x3] m (qI R.1 R.2) := by
  refine Mt.of G_WK_follow (Nat.le_of_ble_eq_true rfl) (E_sub (lv' := [(0, .ref 26), (1, .ref 1), (2, .ref x2), (3, .int x3)]) [0, 1, 2, 3] rfl ?_)
  unfold WK_follow at h
  obtain ⟨m1, hm1, h⟩ := letM_ex h
  obtain ⟨m2, hm2, h⟩ := letM_ex h
  obtain ⟨m3, hm3, h⟩ := letM_ex h
  refine E_aload_n (n := 1) 0 rfl rfl rfl 0 rfl <| E_iload_n (n := 2) 1 rfl rfl rfl 3 rfl <| E_pI (n := 5) 2 rfl rfl fp_10_24 sh_26 <| E_mem hm1 <| E_aload_n (n := 6) 3 rfl rfl rfl 0 rfl <| E_iconst (v := 0) (n := 7) 4 rfl rfl icz_0 <| E_pI (n := 10) 5 rfl rfl fp_10_28 sh_26 <| E_mem hm2 <| E_aload_n (n := 11) 6 rfl rfl rfl 0 rfl <| E_iconst (v := 0) (n := 12) 7 rfl rfl icz_0 <| E_pI (n := 15) 8 rfl rfl fp_10_31 sh_26 <| E_mem hm3 <| E_iconst (v := 0) (n := 16) 9 rfl rfl icz_0 <| E_istore (lv' := [(0, .ref 26), (1, .ref 1), (2, .ref x2), (3, .int x3), (4, .int 0)]) (n := 18) 10 rfl rfl (Nat.le_of_ble_eq_true rfl) [1, 2, 3, 4, 0] rfl <| ?_
  refine E_sub (lv' := [(0, .ref 26), (1, .ref 1), (2, .ref x2), (4, .int 0)]) [0, 1, 2, 4] rfl ?_
  refine WK_follow_L18_ok x2 h_x2 _ R ?_ FU m3 0 h
  intro m4 h
  refine E_iconst (v := (-1)) (n := 99) 54 rfl rfl icz_m1 <| E_ireturn 55 rfl rfl (eS h)
theorem K_OH_walk (m : Mem) (x1 : Int32) (x2 : Int32) (R : Int32 × Mem) (h : OH_walk m x1 x2 = some R) : Mt M_OH_walk [.ref 0, .int x1, .int x2] m (qI R.1 R.2) := by
  refine Mt.of G_OH_walk (Nat.le_of_ble_eq_true rfl) (E_sub (lv' := [(0, .ref 0), (1, .int x1), (2, .int x2)]) [0, 1, 2] rfl ?_)
  unfold OH_walk at h
  refine E_aload_n (n := 1) 0 rfl rfl rfl 0 rfl <| E_gN (n := 4) 1 rfl rfl fg_11_92 sh_0 (Or.inl rfl) fun hN1 => E_iload_n (n := 5) 2 rfl rfl rfl 1 rfl <| E_cV1r (n := 8) 3 rfl rfl co_11_173 rfl hN1 rfl (K_PH_hasLine m (gN m 13) x1 hN1 _ rfl) <| E_if_eq (n := 11) (t := 22) 4 rfl rfl rfl (fun hc => ?_) (fun hc => ?_)
  · have h := ifp h hc
    obtain ⟨m2, hm2, h⟩ := letM_ex h
    refine E_aload_n (n := 23) 10 rfl rfl rfl 0 rfl <| E_gF (r := 1) (n := 26) 11 rfl rfl fg_11_12 sh_0 rfl <| E_iconst (v := 0) (n := 27) 12 rfl rfl icz_0 <| E_pI (n := 30) 13 rfl rfl fp_11_103 sh_1 <| E_mem hm2 <| E_sipush (v := (-2000)) (n := 33) 14 rfl rfl spz_m2000 <| E_ireturn 15 rfl rfl (eS h)
  · have h := ifn h hc
    refine E_aload_n (n := 12) 5 rfl rfl rfl 0 rfl <| E_gN (n := 15) 6 rfl rfl fg_11_92 sh_0 (Or.inl rfl) fun hN3 => E_iload_n (n := 16) 7 rfl rfl rfl 2 rfl <| E_cV1r (n := 19) 8 rfl rfl co_11_158 rfl hN3 rfl (K_PH_hasHay m (gN m 13) x2 hN3 _ rfl) <| E_if_ne (n := 22) (t := 34) 9 rfl rfl rfl (fun hc => ?_) (fun hc => ?_)
    · have h := ifn h hc
      obtain ⟨m4, hq5, h⟩ := bM_ex h
      obtain ⟨m6, hq7, h⟩ := bM_ex h
      obtain ⟨v9, hq10, h⟩ := bI_ex h
      obtain ⟨v11, m12, hq13, h⟩ := bV_ex h
      obtain ⟨v14, m15, hq16, h⟩ := bV_ex h
      refine E_aload_n (n := 35) 16 rfl rfl rfl 0 rfl <| E_iload_n (n := 36) 17 rfl rfl rfl 1 rfl <| E_cV1v (n := 39) 18 rfl rfl co_11_206 rfl sh_0 rfl (K_OH_survey m x1 _ hq5) <| E_aload_n (n := 40) 19 rfl rfl rfl 0 rfl <| E_gF (r := 1) (n := 43) 20 rfl rfl fg_11_12 sh_0 rfl <| E_sipush (v := 300) (n := 46) 21 rfl rfl spz_300 <| E_cV1v (n := 49) 22 rfl rfl co_11_110 rfl sh_1 rfl (K_RD_begin m4 300 _ hq7) <| E_aload_n (n := 50) 23 rfl rfl rfl 0 rfl <| E_aload_n (n := 51) 24 rfl rfl rfl 0 rfl <| E_gF (r := 26) (n := 54) 25 rfl rfl fg_11_43 sh_0 rfl <| E_aload_n (n := 55) 26 rfl rfl rfl 0 rfl <| E_gF (r := 1) (n := 58) 27 rfl rfl fg_11_12 sh_0 rfl <| E_aload_n (n := 59) 28 rfl rfl rfl 0 rfl <| E_gF (r := 5) (n := 62) 29 rfl rfl fg_11_26 sh_0 rfl <| E_aload_n (n := 63) 30 rfl rfl rfl 0 rfl <| E_gN (n := 66) 31 rfl rfl fg_11_92 sh_0 (Or.inl rfl) fun hN8 => E_iload_n (n := 67) 32 rfl rfl rfl 2 rfl <| E_cV1r (n := 70) 33 rfl rfl co_11_227 rfl hN8 rfl (K_PH_haySquare m6 (gN m6 13) x2 hN8 _ hq10) <| E_cV3r (n := 73) 34 rfl rfl co_11_257 rfl sh_26 rfl (K_WK_follow m6 5 v9 sh_5 _ hq13) <| E_cV1r (n := 76) 35 rfl rfl co_11_120 rfl sh_0 rfl (K_OH_closeText m12 v11 _ hq16) <| E_ireturn 36 rfl rfl (eS h)
    · have h := ifp h hc
      obtain ⟨m17, hm17, h⟩ := letM_ex h
      refine E_aload_n (n := 23) 10 rfl rfl rfl 0 rfl <| E_gF (r := 1) (n := 26) 11 rfl rfl fg_11_12 sh_0 rfl <| E_iconst (v := 0) (n := 27) 12 rfl rfl icz_0 <| E_pI (n := 30) 13 rfl rfl fp_11_103 sh_1 <| E_mem hm17 <| E_sipush (v := (-2000)) (n := 33) 14 rfl rfl spz_m2000 <| E_ireturn 15 rfl rfl (eS h)
theorem K_OH_walked (m : Mem) (x1 : Int32) (R : Int32) (h : OH_walked m x1 = some R) : Mt M_OH_walked [.ref 0, .int x1] m (qI R m) := by
  refine Mt.of G_OH_walked (Nat.le_of_ble_eq_true rfl) (E_sub (lv' := [(0, .ref 0), (1, .int x1)]) [0, 1] rfl ?_)
  unfold OH_walked at h
  refine E_iload_n (n := 1) 0 rfl rfl rfl 1 rfl <| E_if_lt (n := 4) (t := 21) 1 rfl rfl rfl (fun hc => ?_) (fun hc => ?_)
  · have h := ifp h hc
    refine E_iconst (v := (-1)) (n := 22) 11 rfl rfl icz_m1 <| ?_
    refine E_ireturn 12 rfl rfl (eP h)
  · have h := ifn h hc
    refine E_iload_n (n := 5) 2 rfl rfl rfl 1 rfl <| E_iconst (v := 3) (n := 6) 3 rfl rfl icz_3 <| E_icmp_ge (n := 9) (t := 21) 4 rfl rfl rfl (fun hc => ?_) (fun hc => ?_)
    · have h := ifp h hc
      refine E_iconst (v := (-1)) (n := 22) 11 rfl rfl icz_m1 <| ?_
      refine E_ireturn 12 rfl rfl (eP h)
    · have h := ifn h hc
      obtain ⟨hc1, h⟩ := ift h
      refine E_aload_n (n := 10) 5 rfl rfl rfl 0 rfl <| E_gF (r := 26) (n := 13) 6 rfl rfl fg_11_43 sh_0 rfl <| E_gF (r := 27) (n := 16) 7 rfl rfl fg_11_261 sh_26 rfl <| E_iload_n (n := 17) 8 rfl rfl rfl 1 rfl <| E_iald (n := 18) 9 rfl rfl sh_27 hc1 <| E_goto (t := 22) 10 rfl rfl <| ?_
      refine E_ireturn 12 rfl rfl (eP h)
theorem K_PH_churchSquare (m : Mem) (x0 : Nat) (h_x0 : shp x0 = (5, 0)) (R : Int32) (h : PH_churchSquare m x0 = R) : Mt M_PH_churchSquare [.ref x0] m (qI R m) := by
  refine Mt.of G_PH_churchSquare (Nat.le_of_ble_eq_true rfl) (E_sub (lv' := [(0, .ref x0)]) [0] rfl ?_)
  unfold PH_churchSquare at h
  refine E_aload_n (n := 1) 0 rfl rfl rfl 0 rfl <| E_gI (n := 4) 1 rfl rfl fg_5_53 h_x0 <| E_aload_n (n := 5) 2 rfl rfl rfl 0 rfl <| E_gI (n := 8) 3 rfl rfl fg_5_56 h_x0 <| E_dN2r (n := 11) 4 rfl rfl co_5_49 rfl rfl (K_OH_squareAt m (gI m x0 8) (gI m x0 9) _ rfl) <| E_ireturn 5 rfl rfl (eT h)
theorem WK_offer_J74_ok (m : Mem) (x1 : Int32) (s1 : Int32) (R : Mem) (h : WK_offer_J74 m x1 s1 = some R) : E M_WK_offer 74 [(0, .ref 26), (1, .int x1)] [.int s1, .ref 29] m (qV R) := by
  unfold WK_offer_J74 at h
  obtain ⟨hc1, h⟩ := ift h
  obtain ⟨m2, hm2, h⟩ := letM_ex h
  obtain ⟨m3, hm3, h⟩ := letM_ex h
  refine E_iload_n (n := 75) 42 rfl rfl rfl 1 rfl <| E_iast (n := 76) 43 rfl rfl sh_29 hc1 <| E_mem hm2 <| E_aload_n (n := 77) 44 rfl rfl rfl 0 rfl <| E_dup (n := 78) 45 rfl rfl rfl <| E_gI (n := 81) 46 rfl rfl fg_10_92 sh_26 <| E_iconst (v := 1) (n := 82) 47 rfl rfl icz_1 <| E_iadd (n := 83) 48 rfl rfl <| E_pI (n := 86) 49 rfl rfl fp_10_92 sh_26 <| E_mem hm3 <| ?_
  refine E_return 50 rfl rfl (eV h)
theorem K_WK_offer (m : Mem) (x1 : Int32) (x2 : Int32) (R : Mem) (h : WK_offer m x1 x2 = some R) : Mt M_WK_offer [.ref 26, .int x1, .int x2] m (qV R) := by
  refine Mt.of G_WK_offer (Nat.le_of_ble_eq_true rfl) (E_sub (lv' := [(0, .ref 26), (1, .int x1), (2, .int x2)]) [0, 1, 2] rfl ?_)
  unfold WK_offer at h
  obtain ⟨hc1, h⟩ := ift h
  refine E_iload_n (n := 1) 0 rfl rfl rfl 2 rfl <| E_aload_n (n := 2) 1 rfl rfl rfl 0 rfl <| E_gF (r := 28) (n := 5) 2 rfl rfl fg_10_15 sh_26 rfl <| E_iload_n (n := 6) 3 rfl rfl rfl 1 rfl <| E_iald (n := 7) 4 rfl rfl sh_28 hc1 <| E_icmp_lt (n := 10) (t := 11) 5 rfl rfl rfl (fun hc => ?_) (fun hc => ?_)
  · have h := ifp h hc
    obtain ⟨m2, hm2, h⟩ := letM_ex h
    refine E_aload_n (n := 12) 7 rfl rfl rfl 0 rfl <| E_gF (r := 28) (n := 15) 8 rfl rfl fg_10_15 sh_26 rfl <| E_iload_n (n := 16) 9 rfl rfl rfl 1 rfl <| E_iload_n (n := 17) 10 rfl rfl rfl 2 rfl <| E_iast (n := 18) 11 rfl rfl sh_28 hc1 <| E_mem hm2 <| E_aload_n (n := 19) 12 rfl rfl rfl 0 rfl <| E_gF (r := 30) (n := 22) 13 rfl rfl fg_10_21 sh_26 rfl <| E_iload_n (n := 23) 14 rfl rfl rfl 1 rfl <| E_iald (n := 24) 15 rfl rfl sh_30 hc1 <| E_if_ne (n := 27) (t := 86) 16 rfl rfl rfl (fun hc => ?_) (fun hc => ?_)
    · have h := ifn h hc
      refine E_return 50 rfl rfl (eV h)
    · have h := ifp h hc
      refine E_aload_n (n := 28) 17 rfl rfl rfl 0 rfl <| E_gI (n := 31) 18 rfl rfl fg_10_92 sh_26 <| E_sipush (v := 400) (n := 34) 19 rfl rfl spz_400 <| E_icmp_ge (n := 37) (t := 86) 20 rfl rfl rfl (fun hc => ?_) (fun hc => ?_)
      · have h := ifp h hc
        refine E_return 50 rfl rfl (eV h)
      · have h := ifn h hc
        obtain ⟨m3, hm3, h⟩ := letM_ex h
        obtain ⟨v4, hv4, h⟩ := letV_ex h
        refine E_aload_n (n := 38) 21 rfl rfl rfl 0 rfl <| E_gF (r := 30) (n := 41) 22 rfl rfl fg_10_21 sh_26 rfl <| E_iload_n (n := 42) 23 rfl rfl rfl 1 rfl <| E_iconst (v := 1) (n := 43) 24 rfl rfl icz_1 <| E_iast (n := 44) 25 rfl rfl sh_30 hc1 <| E_mem hm3 <| E_aload_n (n := 45) 26 rfl rfl rfl 0 rfl <| E_gI (n := 48) 27 rfl rfl fg_10_89 sh_26 <| E_aload_n (n := 49) 28 rfl rfl rfl 0 rfl <| E_gI (n := 52) 29 rfl rfl fg_10_92 sh_26 <| E_iadd (n := 53) 30 rfl rfl <| E_top hv4 <| E_istore_n (lv' := [(0, .ref 26), (1, .int x1), (2, .int x2), (3, .int v4)]) (n := 54) 31 rfl rfl rfl (Nat.le_of_ble_eq_true rfl) [1, 2, 3, 0] rfl <| E_aload_n (n := 55) 32 rfl rfl rfl 0 rfl <| E_gF (r := 29) (n := 58) 33 rfl rfl fg_10_18 sh_26 rfl <| E_iload_n (n := 59) 34 rfl rfl rfl 3 rfl <| E_sipush (v := 400) (n := 62) 35 rfl rfl spz_400 <| E_icmp_ge (n := 65) (t := 69) 36 rfl rfl rfl (fun hc => ?_) (fun hc => ?_)
        · have h := ifp h hc
          refine E_iload_n (n := 70) 39 rfl rfl rfl 3 rfl <| E_sipush (v := 400) (n := 73) 40 rfl rfl spz_400 <| E_isub (n := 74) 41 rfl rfl <| ?_
          refine E_sub (lv' := [(0, .ref 26), (1, .int x1)]) [0, 1] rfl ?_
          exact WK_offer_J74_ok m3 x1 (v4 - 400) _ h
        · have h := ifn h hc
          refine E_iload_n (n := 66) 37 rfl rfl rfl 3 rfl <| E_goto (t := 74) 38 rfl rfl <| ?_
          refine E_sub (lv' := [(0, .ref 26), (1, .int x1)]) [0, 1] rfl ?_
          exact WK_offer_J74_ok m3 x1 v4 _ h
  · have h := ifn h hc
    refine E_return 6 rfl rfl (eV h)
theorem WK_offerNeighbours_L2_ok (x1 : Nat) (x2 : Int32) (h_x1 : shp x1 = (1, 0)) (kx : Mem → Option Mem) (R : Mem) (hx : ∀ (m : Mem), kx m = some R → E M_WK_offerNeighbours 50 [] [] m (qV R)) : ∀ (n : Nat) (m : Mem) (x3 : Int32), WK_offerNeighbours_L2 x1 x2 kx n m x3 = some R → E M_WK_offerNeighbours 2 [(0, .ref 26), (1, .ref x1), (2, .int x2), (3, .int x3)] [] m (qV R) := by
  intro n
  induction n with
  | zero =>
    intro m x3 h
    exact absurd (show none = some R from h) (fun e => Option.some_ne_none R e.symm)
  | succ n ih =>
    intro m x3 h
    rw [WK_offerNeighbours_L2] at h
    refine E_iload_n (n := 3) 2 rfl rfl rfl 3 rfl <| E_iconst (v := 3) (n := 4) 3 rfl rfl icz_3 <| E_icmp_gt (n := 7) (t := 50) 4 rfl rfl rfl (fun hc => ?_) (fun hc => ?_)
    · have h := ifp h hc
      refine E_sub (lv' := []) [] rfl ?_
      exact hx m h
    · have h := ifn h hc
      obtain ⟨v1, hv1, h⟩ := letV_ex h
      refine E_iload_n (n := 8) 5 rfl rfl rfl 2 rfl <| E_iload_n (n := 9) 6 rfl rfl rfl 3 rfl <| E_dN2r (n := 12) 7 rfl rfl co_10_67 rfl rfl (K_OH_stepFrom m x2 x3 _ rfl) <| E_top hv1 <| E_istore (lv' := [(0, .ref 26), (1, .ref x1), (2, .int x2), (3, .int x3), (4, .int v1)]) (n := 14) 8 rfl rfl (Nat.le_of_ble_eq_true rfl) [1, 2, 3, 4, 0] rfl <| E_iload (n := 16) 9 rfl rfl 4 rfl <| E_if_lt (n := 19) (t := 44) 10 rfl rfl rfl (fun hc => ?_) (fun hc => ?_)
      · have h := ifp h hc
        refine E_iinc (v := (x3 + 1)) (lv' := [(0, .ref 26), (1, .ref x1), (2, .int x2), (3, .int (x3 + 1)), (4, .int v1)]) (n := 47) 27 rfl rfl 3 rfl (by rw [icz_1]) (Nat.le_of_ble_eq_true rfl) [1, 2, 3, 0, 4] rfl <| E_goto (t := 2) 28 rfl rfl <| ?_
        refine E_sub (lv' := [(0, .ref 26), (1, .ref x1), (2, .int x2), (3, .int (x3 + 1))]) [0, 1, 2, 3] rfl ?_
        exact ih m (x3 + 1) h
      · have h := ifn h hc
        obtain ⟨hc2, h⟩ := ift h
        obtain ⟨v3, hq4, h⟩ := bI_ex h
        obtain ⟨m5, hq6, h⟩ := bM_ex h
        refine E_aload_n (n := 20) 11 rfl rfl rfl 0 rfl <| E_iload (n := 22) 12 rfl rfl 4 rfl <| E_aload_n (n := 23) 13 rfl rfl rfl 0 rfl <| E_gF (r := 28) (n := 26) 14 rfl rfl fg_10_15 sh_26 rfl <| E_iload_n (n := 27) 15 rfl rfl rfl 2 rfl <| E_iald (n := 28) 16 rfl rfl sh_28 hc2 <| E_aload_n (n := 29) 17 rfl rfl rfl 1 rfl <| E_iload_n (n := 30) 18 rfl rfl rfl 2 rfl <| E_iload_n (n := 31) 19 rfl rfl rfl 3 rfl <| E_cV2r (n := 34) 20 rfl rfl co_10_74 rfl h_x1 rfl (K_GR_crossed m x1 x2 x3 h_x1 _ hq4) <| E_sipush (v := 400) (n := 37) 21 rfl rfl spz_400 <| E_imul (n := 38) 22 rfl rfl <| E_iadd (n := 39) 23 rfl rfl <| E_iconst (v := 1) (n := 40) 24 rfl rfl icz_1 <| E_iadd (n := 41) 25 rfl rfl <| E_cV2v (n := 44) 26 rfl rfl co_10_95 rfl sh_26 rfl (K_WK_offer m v1 (((gI m 28 (ixn x2)) + (v3 * 400)) + 1) _ hq6) <| ?_
        refine E_iinc (v := (x3 + 1)) (lv' := [(0, .ref 26), (1, .ref x1), (2, .int x2), (3, .int (x3 + 1)), (4, .int v1)]) (n := 47) 27 rfl rfl 3 rfl (by rw [icz_1]) (Nat.le_of_ble_eq_true rfl) [1, 2, 3, 0, 4] rfl <| E_goto (t := 2) 28 rfl rfl <| ?_
        refine E_sub (lv' := [(0, .ref 26), (1, .ref x1), (2, .int x2), (3, .int (x3 + 1))]) [0, 1, 2, 3] rfl ?_
        exact ih m5 (x3 + 1) h
theorem K_WK_offerNeighbours (m : Mem) (x1 : Nat) (x2 : Int32) (h_x1 : shp x1 = (1, 0)) (R : Mem) (h : WK_offerNeighbours m x1 x2 = some R) : Mt M_WK_offerNeighbours [.ref 26, .ref x1, .int x2] m (qV R) := by
  refine Mt.of G_WK_offerNeighbours (Nat.le_of_ble_eq_true rfl) (E_sub (lv' := [(0, .ref 26), (1, .ref x1), (2, .int x2)]) [0, 1, 2] rfl ?_)
  unfold WK_offerNeighbours at h
  refine E_iconst (v := 0) (n := 1) 0 rfl rfl icz_0 <| E_istore_n (lv' := [(0, .ref 26), (1, .ref x1), (2, .int x2), (3, .int 0)]) (n := 2) 1 rfl rfl rfl (Nat.le_of_ble_eq_true rfl) [1, 2, 3, 0] rfl <| ?_
  refine WK_offerNeighbours_L2_ok x1 x2 h_x1 _ R ?_ FU m 0 h
  intro m1 h
  refine E_return 29 rfl rfl (eV h)
theorem WK_cheapest_J84_ok (kr : Mem → Int32 → Option (Int32 × Mem)) (kx : Mem → Option (Int32 × Mem)) (m : Mem) (x1 : Nat) (x3 : Int32) (x4 : Int32) (x5 : Int32) (s1 : Int32) (h_x1 : shp x1 = (1, 0)) (R : Int32 × Mem) (hr : ∀ (m : Mem) (x4 : Int32), kr m x4 = some R → E M_WK_cheapest 36 [(0, .ref 26), (1, .ref x1), (3, .int x3), (4, .int x4)] [] m (qI R.1 R.2)) (hx : ∀ (m : Mem), kx m = some R → E M_WK_cheapest 118 [(0, .ref 26), (3, .int x3)] [] m (qI R.1 R.2)) (h : WK_cheapest_J84 kr kx m x1 x3 x4 x5 s1 = some R) : E M_WK_cheapest 84 [(0, .ref 26), (1, .ref x1), (3, .int x3), (4, .int x4), (5, .int x5)] [.int s1, .ref 26] m (qI R.1 R.2) := by
  unfold WK_cheapest_J84 at h
  obtain ⟨m1, hm1, h⟩ := letM_ex h
  obtain ⟨m2, hm2, h⟩ := letM_ex h
  obtain ⟨hc3, h⟩ := ift h
  obtain ⟨m4, hm4, h⟩ := letM_ex h
  obtain ⟨m5, hq6, h⟩ := bM_ex h
  refine E_pI (n := 87) 45 rfl rfl fp_10_89 sh_26 <| E_mem hm1 <| E_aload_n (n := 88) 46 rfl rfl rfl 0 rfl <| E_dup (n := 89) 47 rfl rfl rfl <| E_gI (n := 92) 48 rfl rfl fg_10_92 sh_26 <| E_iconst (v := 1) (n := 93) 49 rfl rfl icz_1 <| E_isub (n := 94) 50 rfl rfl <| E_pI (n := 97) 51 rfl rfl fp_10_92 sh_26 <| E_mem hm2 <| E_aload_n (n := 98) 52 rfl rfl rfl 0 rfl <| E_gF (r := 30) (n := 101) 53 rfl rfl fg_10_21 sh_26 rfl <| E_iload (n := 103) 54 rfl rfl 4 rfl <| E_iconst (v := 0) (n := 104) 55 rfl rfl icz_0 <| E_iast (n := 105) 56 rfl rfl sh_30 hc3 <| E_mem hm4 <| E_aload_n (n := 106) 57 rfl rfl rfl 0 rfl <| E_aload_n (n := 107) 58 rfl rfl rfl 1 rfl <| E_iload (n := 109) 59 rfl rfl 4 rfl <| E_cV2v (n := 112) 60 rfl rfl co_10_100 rfl sh_26 rfl (K_WK_offerNeighbours m4 x1 x5 h_x1 _ hq6) <| E_iinc (v := (x4 + 1)) (lv' := [(0, .ref 26), (1, .ref x1), (3, .int x3), (4, .int (x4 + 1)), (5, .int x5)]) (n := 115) 61 rfl rfl 3 rfl (by rw [icz_1]) (Nat.le_of_ble_eq_true rfl) [1, 2, 3, 0, 4] rfl <| E_goto (t := 36) 62 rfl rfl <| ?_
  refine E_sub (lv' := [(0, .ref 26), (1, .ref x1), (3, .int x3), (4, .int (x4 + 1))]) [0, 1, 2, 3] rfl ?_
  exact hr m5 (x4 + 1) h
theorem WK_cheapest_L36_ok (x1 : Nat) (x3 : Int32) (h_x1 : shp x1 = (1, 0)) (kx : Mem → Option (Int32 × Mem)) (R : Int32 × Mem) (hx : ∀ (m : Mem), kx m = some R → E M_WK_cheapest 118 [(0, .ref 26), (3, .int x3)] [] m (qI R.1 R.2)) : ∀ (n : Nat) (m : Mem) (x4 : Int32), WK_cheapest_L36 x1 x3 kx n m x4 = some R → E M_WK_cheapest 36 [(0, .ref 26), (1, .ref x1), (3, .int x3), (4, .int x4)] [] m (qI R.1 R.2) := by
  intro n
  induction n with
  | zero =>
    intro m x4 h
    exact absurd (show none = some R from h) (fun e => Option.some_ne_none R e.symm)
  | succ n ih =>
    intro m x4 h
    rw [WK_cheapest_L36] at h
    refine E_iload (n := 38) 20 rfl rfl 3 rfl <| E_ldc (v := 1000000) (n := 40) 21 rfl rfl tw_1090 <| E_icmp_ge (n := 43) (t := 118) 22 rfl rfl rfl (fun hc => ?_) (fun hc => ?_)
    · have h := ifp h hc
      refine E_sub (lv' := [(0, .ref 26), (3, .int x3)]) [0, 2] rfl ?_
      exact hx m h
    · have h := ifn h hc
      refine E_aload_n (n := 44) 23 rfl rfl rfl 0 rfl <| E_gI (n := 47) 24 rfl rfl fg_10_92 sh_26 <| E_if_le (n := 50) (t := 118) 25 rfl rfl rfl (fun hc => ?_) (fun hc => ?_)
      · have h := ifp h hc
        refine E_sub (lv' := [(0, .ref 26), (3, .int x3)]) [0, 2] rfl ?_
        exact hx m h
      · have h := ifn h hc
        obtain ⟨hc1, h⟩ := ift h
        obtain ⟨v2, hv2, h⟩ := letV_ex h
        refine E_aload_n (n := 51) 26 rfl rfl rfl 0 rfl <| E_gF (r := 29) (n := 54) 27 rfl rfl fg_10_18 sh_26 rfl <| E_aload_n (n := 55) 28 rfl rfl rfl 0 rfl <| E_gI (n := 58) 29 rfl rfl fg_10_89 sh_26 <| E_iald (n := 59) 30 rfl rfl sh_29 hc1 <| E_top hv2 <| E_istore (lv' := [(0, .ref 26), (1, .ref x1), (3, .int x3), (4, .int x4), (5, .int v2)]) (n := 61) 31 rfl rfl (Nat.le_of_ble_eq_true rfl) [1, 2, 3, 4, 0] rfl <| E_aload_n (n := 62) 32 rfl rfl rfl 0 rfl <| E_aload_n (n := 63) 33 rfl rfl rfl 0 rfl <| E_gI (n := 66) 34 rfl rfl fg_10_89 sh_26 <| E_iconst (v := 1) (n := 67) 35 rfl rfl icz_1 <| E_iadd (n := 68) 36 rfl rfl <| E_sipush (v := 400) (n := 71) 37 rfl rfl spz_400 <| E_icmp_ge (n := 74) (t := 83) 38 rfl rfl rfl (fun hc => ?_) (fun hc => ?_)
        · have h := ifp h hc
          refine E_iconst (v := 0) (n := 84) 44 rfl rfl icz_0 <| ?_
          exact WK_cheapest_J84_ok _ _ m x1 x3 x4 v2 0 h_x1 _ ih hx h
        · have h := ifn h hc
          refine E_aload_n (n := 75) 39 rfl rfl rfl 0 rfl <| E_gI (n := 78) 40 rfl rfl fg_10_89 sh_26 <| E_iconst (v := 1) (n := 79) 41 rfl rfl icz_1 <| E_iadd (n := 80) 42 rfl rfl <| E_goto (t := 84) 43 rfl rfl <| ?_
          exact WK_cheapest_J84_ok _ _ m x1 x3 x4 v2 ((gI m 26 7) + 1) h_x1 _ ih hx h
theorem K_WK_cheapest (m : Mem) (x1 : Nat) (x2 : Int32) (x3 : Int32) (h_x1 : shp x1 = (1, 0)) (R : Int32 × Mem) (h : WK_cheapest m x1 x2 x3 = some R) : Mt M_WK_cheapest [.ref 26, .ref x1, .int x2, .int x3] m (qI R.1 R.2) := by
  refine Mt.of G_WK_cheapest (Nat.le_of_ble_eq_true rfl) (E_sub (lv' := [(0, .ref 26), (1, .ref x1), (2, .int x2), (3, .int x3)]) [0, 1, 2, 3] rfl ?_)
  unfold WK_cheapest at h
  obtain ⟨m1, hq2, h⟩ := bM_ex h
  obtain ⟨m3, hq4, h⟩ := bM_ex h
  obtain ⟨m5, hm5, h⟩ := letM_ex h
  obtain ⟨m6, hm6, h⟩ := letM_ex h
  obtain ⟨m7, hq8, h⟩ := bM_ex h
  refine E_aload_n (n := 1) 0 rfl rfl rfl 0 rfl <| E_gF (r := 28) (n := 4) 1 rfl rfl fg_10_15 sh_26 rfl <| E_ldc (v := 100000000) (n := 6) 2 rfl rfl tw_1084 <| E_dS2v (n := 9) 3 rfl rfl co_10_83 rfl rfl (K_JA_fill m 28 100000000 (shq sh_28) _ hq2) <| E_aload_n (n := 10) 4 rfl rfl rfl 0 rfl <| E_gF (r := 30) (n := 13) 5 rfl rfl fg_10_21 sh_26 rfl <| E_iconst (v := 0) (n := 14) 6 rfl rfl icz_0 <| E_dS2v (n := 17) 7 rfl rfl co_10_83 rfl rfl (K_JA_fill m1 30 0 (shq sh_30) _ hq4) <| E_aload_n (n := 18) 8 rfl rfl rfl 0 rfl <| E_iconst (v := 0) (n := 19) 9 rfl rfl icz_0 <| E_pI (n := 22) 10 rfl rfl fp_10_89 sh_26 <| E_mem hm5 <| E_aload_n (n := 23) 11 rfl rfl rfl 0 rfl <| E_iconst (v := 0) (n := 24) 12 rfl rfl icz_0 <| E_pI (n := 27) 13 rfl rfl fp_10_92 sh_26 <| E_mem hm6 <| E_aload_n (n := 28) 14 rfl rfl rfl 0 rfl <| E_iload_n (n := 29) 15 rfl rfl rfl 2 rfl <| E_iconst (v := 0) (n := 30) 16 rfl rfl icz_0 <| E_cV2v (n := 33) 17 rfl rfl co_10_95 rfl sh_26 rfl (K_WK_offer m6 x2 0 _ hq8) <| E_iconst (v := 0) (n := 34) 18 rfl rfl icz_0 <| E_istore (lv' := [(0, .ref 26), (1, .ref x1), (2, .int x2), (3, .int x3), (4, .int 0)]) (n := 36) 19 rfl rfl (Nat.le_of_ble_eq_true rfl) [1, 2, 3, 4, 0] rfl <| ?_
  refine E_sub (lv' := [(0, .ref 26), (1, .ref x1), (3, .int x3), (4, .int 0)]) [0, 1, 3, 4] rfl ?_
  refine WK_cheapest_L36_ok x1 x3 h_x1 _ R ?_ FU m7 0 h
  intro m9 h
  obtain ⟨hc10, h⟩ := ift h
  refine E_aload_n (n := 119) 63 rfl rfl rfl 0 rfl <| E_gF (r := 28) (n := 122) 64 rfl rfl fg_10_15 sh_26 rfl <| E_iload_n (n := 123) 65 rfl rfl rfl 1 rfl <| E_iald (n := 124) 66 rfl rfl sh_28 hc10 <| E_ireturn 67 rfl rfl (eS h)
theorem K_OH_least (m : Mem) (x1 : Int32) (x2 : Int32) (x3 : Int32) (R : Int32 × Mem) (h : OH_least m x1 x2 x3 = some R) : Mt M_OH_least [.ref 0, .int x1, .int x2, .int x3] m (qI R.1 R.2) := by
  refine Mt.of G_OH_least (Nat.le_of_ble_eq_true rfl) (E_sub (lv' := [(0, .ref 0), (1, .int x1), (2, .int x2), (3, .int x3)]) [0, 1, 2, 3] rfl ?_)
  unfold OH_least at h
  refine E_aload_n (n := 1) 0 rfl rfl rfl 0 rfl <| E_gN (n := 4) 1 rfl rfl fg_11_92 sh_0 (Or.inl rfl) fun hN1 => E_iload_n (n := 5) 2 rfl rfl rfl 1 rfl <| E_cV1r (n := 8) 3 rfl rfl co_11_173 rfl hN1 rfl (K_PH_hasLine m (gN m 13) x1 hN1 _ rfl) <| E_if_eq (n := 11) (t := 31) 4 rfl rfl rfl (fun hc => ?_) (fun hc => ?_)
  · have h := ifp h hc
    refine E_iconst (v := (-1)) (n := 32) 15 rfl rfl icz_m1 <| E_ireturn 16 rfl rfl (eS h)
  · have h := ifn h hc
    refine E_aload_n (n := 12) 5 rfl rfl rfl 0 rfl <| E_gN (n := 15) 6 rfl rfl fg_11_92 sh_0 (Or.inl rfl) fun hN2 => E_iload_n (n := 16) 7 rfl rfl rfl 2 rfl <| E_cV1r (n := 19) 8 rfl rfl co_11_158 rfl hN2 rfl (K_PH_hasHay m (gN m 13) x2 hN2 _ rfl) <| E_if_eq (n := 22) (t := 31) 9 rfl rfl rfl (fun hc => ?_) (fun hc => ?_)
    · have h := ifp h hc
      refine E_iconst (v := (-1)) (n := 32) 15 rfl rfl icz_m1 <| E_ireturn 16 rfl rfl (eS h)
    · have h := ifn h hc
      refine E_iload_n (n := 23) 10 rfl rfl rfl 3 rfl <| E_if_lt (n := 26) (t := 31) 11 rfl rfl rfl (fun hc => ?_) (fun hc => ?_)
      · have h := ifp h hc
        refine E_iconst (v := (-1)) (n := 32) 15 rfl rfl icz_m1 <| E_ireturn 16 rfl rfl (eS h)
      · have h := ifn h hc
        refine E_iload_n (n := 27) 12 rfl rfl rfl 3 rfl <| E_iconst (v := 1) (n := 28) 13 rfl rfl icz_1 <| E_icmp_le (n := 31) (t := 33) 14 rfl rfl rfl (fun hc => ?_) (fun hc => ?_)
        · have h := ifp h hc
          obtain ⟨m3, hq4, h⟩ := bM_ex h
          obtain ⟨v6, hq7, h⟩ := bI_ex h
          obtain ⟨v9, m10, hq11, h⟩ := bV_ex h
          refine E_aload_n (n := 34) 17 rfl rfl rfl 0 rfl <| E_iload_n (n := 35) 18 rfl rfl rfl 1 rfl <| E_cV1v (n := 38) 19 rfl rfl co_11_206 rfl sh_0 rfl (K_OH_survey m x1 _ hq4) <| E_aload_n (n := 39) 20 rfl rfl rfl 0 rfl <| E_gF (r := 26) (n := 42) 21 rfl rfl fg_11_43 sh_0 rfl <| E_aload_n (n := 43) 22 rfl rfl rfl 0 rfl <| E_gF (r := 5) (n := 46) 23 rfl rfl fg_11_26 sh_0 rfl <| E_aload_n (n := 47) 24 rfl rfl rfl 0 rfl <| E_gN (n := 50) 25 rfl rfl fg_11_92 sh_0 (Or.inl rfl) fun hN5 => E_iload_n (n := 51) 26 rfl rfl rfl 2 rfl <| E_cV1r (n := 54) 27 rfl rfl co_11_227 rfl hN5 rfl (K_PH_haySquare m3 (gN m3 13) x2 hN5 _ hq7) <| E_aload_n (n := 55) 28 rfl rfl rfl 0 rfl <| E_gN (n := 58) 29 rfl rfl fg_11_92 sh_0 (Or.inl rfl) fun hN8 => E_cV0r (n := 61) 30 rfl rfl co_11_264 rfl hN8 rfl (K_PH_churchSquare m3 (gN m3 13) hN8 _ rfl) <| E_cV3r (n := 64) 31 rfl rfl co_11_267 rfl sh_26 rfl (K_WK_cheapest m3 5 v6 (PH_churchSquare m3 (gN m3 13)) sh_5 _ hq11) <| E_istore (lv' := [(0, .ref 0), (1, .int x1), (2, .int x2), (3, .int x3), (4, .int v9)]) (n := 66) 32 rfl rfl (Nat.le_of_ble_eq_true rfl) [1, 2, 3, 4, 0] rfl <| E_iload_n (n := 67) 33 rfl rfl rfl 3 rfl <| E_if_ne (n := 70) (t := 79) 34 rfl rfl rfl (fun hc => ?_) (fun hc => ?_)
          · have h := ifn h hc
            refine E_iload (n := 81) 39 rfl rfl 4 rfl <| E_sipush (v := 400) (n := 84) 40 rfl rfl spz_400 <| E_irm (n := 85) 41 rfl rfl (by decide) <| ?_
            refine E_ireturn 42 rfl rfl (eS h)
          · have h := ifp h hc
            refine E_iload (n := 72) 35 rfl rfl 4 rfl <| E_sipush (v := 400) (n := 75) 36 rfl rfl spz_400 <| E_idiv (n := 76) 37 rfl rfl (by decide) <| E_goto (t := 85) 38 rfl rfl <| ?_
            refine E_ireturn 42 rfl rfl (eS h)
        · have h := ifn h hc
          refine E_iconst (v := (-1)) (n := 32) 15 rfl rfl icz_m1 <| E_ireturn 16 rfl rfl (eS h)
theorem K_PC_beginOpenings (m : Mem) (x1 : Int32) (R : Mem) (h : PC_beginOpenings m x1 = some R) : Mt M_PC_beginOpenings [.ref 17, .int x1] m (qV R) := by
  refine Mt.of G_PC_beginOpenings (Nat.le_of_ble_eq_true rfl) (E_sub (lv' := [(0, .ref 17), (1, .int x1)]) [0, 1] rfl ?_)
  unfold PC_beginOpenings at h
  obtain ⟨hc1, h⟩ := ift h
  obtain ⟨m2, hm2, h⟩ := letM_ex h
  obtain ⟨m3, hm3, h⟩ := letM_ex h
  refine E_aload_n (n := 1) 0 rfl rfl rfl 0 rfl <| E_aload_n (n := 2) 1 rfl rfl rfl 0 rfl <| E_gF (r := 18) (n := 5) 2 rfl rfl fg_6_9 sh_17 rfl <| E_iload_n (n := 6) 3 rfl rfl rfl 1 rfl <| E_iald (n := 7) 4 rfl rfl sh_18 hc1 <| E_pI (n := 10) 5 rfl rfl fp_6_66 sh_17 <| E_mem hm2 <| E_aload_n (n := 11) 6 rfl rfl rfl 0 rfl <| E_iconst (v := 0) (n := 12) 7 rfl rfl icz_0 <| E_pI (n := 15) 8 rfl rfl fp_6_69 sh_17 <| E_mem hm3 <| E_return 9 rfl rfl (eV h)
theorem PC_addEnd_L24_ok (x2 : Int32) (kx : Mem → Int32 → Option Mem) (R : Mem) (hx : ∀ (m : Mem) (x3 : Int32), kx m x3 = some R → E M_PC_addEnd 60 [(0, .ref 17), (2, .int x2), (3, .int x3)] [] m (qV R)) : ∀ (n : Nat) (m : Mem) (x3 : Int32) (x4 : Int32), PC_addEnd_L24 x2 kx n m x3 x4 = some R → E M_PC_addEnd 24 [(0, .ref 17), (2, .int x2), (3, .int x3), (4, .int x4)] [] m (qV R) := by
  intro n
  induction n with
  | zero =>
    intro m x3 x4 h
    exact absurd (show none = some R from h) (fun e => Option.some_ne_none R e.symm)
  | succ n ih =>
    intro m x3 x4 h
    rw [PC_addEnd_L24] at h
    refine E_iload (n := 26) 15 rfl rfl 3 rfl <| E_aload_n (n := 27) 16 rfl rfl rfl 0 rfl <| E_gI (n := 30) 17 rfl rfl fg_6_69 sh_17 <| E_icmp_ge (n := 33) (t := 60) 18 rfl rfl rfl (fun hc => ?_) (fun hc => ?_)
    · have h := ifp h hc
      refine E_sub (lv' := [(0, .ref 17), (2, .int x2), (3, .int x3)]) [0, 1, 2] rfl ?_
      exact hx m x3 h
    · have h := ifn h hc
      refine E_iload_n (n := 34) 19 rfl rfl rfl 2 rfl <| E_if_ne (n := 37) (t := 48) 20 rfl rfl rfl (fun hc => ?_) (fun hc => ?_)
      · have h := ifn h hc
        refine E_iconst (v := 1) (n := 49) 27 rfl rfl icz_1 <| E_goto (t := 53) 28 rfl rfl <| ?_
        refine E_istore_n (lv' := [(0, .ref 17), (2, .int x2), (3, .int 1), (4, .int x4)]) (n := 54) 30 rfl rfl rfl (Nat.le_of_ble_eq_true rfl) [1, 2, 0, 3] rfl <| E_iinc (v := (x4 + 1)) (lv' := [(0, .ref 17), (2, .int x2), (3, .int 1), (4, .int (x4 + 1))]) (n := 57) 31 rfl rfl 3 rfl (by rw [icz_1]) (Nat.le_of_ble_eq_true rfl) [1, 2, 3, 0] rfl <| E_goto (t := 24) 32 rfl rfl <| ?_
        exact ih m 1 (x4 + 1) h
      · have h := ifp h hc
        obtain ⟨hc1, h⟩ := ift h
        refine E_aload_n (n := 38) 21 rfl rfl rfl 0 rfl <| E_gF (r := 24) (n := 41) 22 rfl rfl fg_6_30 sh_17 rfl <| E_iload (n := 43) 23 rfl rfl 3 rfl <| E_iald (n := 44) 24 rfl rfl sh_24 hc1 <| E_iload_n (n := 45) 25 rfl rfl rfl 1 rfl <| E_icmp_ne (n := 48) (t := 52) 26 rfl rfl rfl (fun hc => ?_) (fun hc => ?_)
        · have h := ifn h hc
          refine E_iconst (v := 0) (n := 53) 29 rfl rfl icz_0 <| ?_
          refine E_istore_n (lv' := [(0, .ref 17), (2, .int x2), (3, .int 0), (4, .int x4)]) (n := 54) 30 rfl rfl rfl (Nat.le_of_ble_eq_true rfl) [1, 2, 0, 3] rfl <| E_iinc (v := (x4 + 1)) (lv' := [(0, .ref 17), (2, .int x2), (3, .int 0), (4, .int (x4 + 1))]) (n := 57) 31 rfl rfl 3 rfl (by rw [icz_1]) (Nat.le_of_ble_eq_true rfl) [1, 2, 3, 0] rfl <| E_goto (t := 24) 32 rfl rfl <| ?_
          exact ih m 0 (x4 + 1) h
        · have h := ifp h hc
          refine E_iconst (v := 1) (n := 49) 27 rfl rfl icz_1 <| E_goto (t := 53) 28 rfl rfl <| ?_
          refine E_istore_n (lv' := [(0, .ref 17), (2, .int x2), (3, .int 1), (4, .int x4)]) (n := 54) 30 rfl rfl rfl (Nat.le_of_ble_eq_true rfl) [1, 2, 0, 3] rfl <| E_iinc (v := (x4 + 1)) (lv' := [(0, .ref 17), (2, .int x2), (3, .int 1), (4, .int (x4 + 1))]) (n := 57) 31 rfl rfl 3 rfl (by rw [icz_1]) (Nat.le_of_ble_eq_true rfl) [1, 2, 3, 0] rfl <| E_goto (t := 24) 32 rfl rfl <| ?_
          exact ih m 1 (x4 + 1) h
theorem PC_addEnd_J20_ok (m : Mem) (x2 : Int32) (s0 : Int32) (R : Mem) (h : PC_addEnd_J20 m x2 s0 = some R) : E M_PC_addEnd 20 [(0, .ref 17), (2, .int x2)] [.int s0] m (qV R) := by
  unfold PC_addEnd_J20 at h
  refine E_istore_n (lv' := [(0, .ref 17), (2, .int x2), (3, .int s0)]) (n := 21) 12 rfl rfl rfl (Nat.le_of_ble_eq_true rfl) [1, 2, 0] rfl <| E_iconst (v := 0) (n := 22) 13 rfl rfl icz_0 <| E_istore (lv' := [(0, .ref 17), (2, .int x2), (3, .int s0), (4, .int 0)]) (n := 24) 14 rfl rfl (Nat.le_of_ble_eq_true rfl) [1, 2, 3, 0] rfl <| ?_
  refine PC_addEnd_L24_ok x2 _ R ?_ FU m s0 0 h
  intro m2 y1 h
  refine E_iload_n (n := 61) 33 rfl rfl rfl 2 rfl <| E_if_ne (n := 64) (t := 93) 34 rfl rfl rfl (fun hc => ?_) (fun hc => ?_)
  · have h := ifn h hc
    refine E_return 51 rfl rfl (eV h)
  · have h := ifp h hc
    refine E_aload_n (n := 65) 35 rfl rfl rfl 0 rfl <| E_gI (n := 68) 36 rfl rfl fg_6_69 sh_17 <| E_bipush (v := 6) (n := 70) 37 rfl rfl bpz_6 <| E_icmp_ge (n := 73) (t := 93) 38 rfl rfl rfl (fun hc => ?_) (fun hc => ?_)
    · have h := ifp h hc
      refine E_return 51 rfl rfl (eV h)
    · have h := ifn h hc
      obtain ⟨hc3, h⟩ := ift h
      obtain ⟨m4, hm4, h⟩ := letM_ex h
      obtain ⟨m5, hm5, h⟩ := letM_ex h
      refine E_aload_n (n := 74) 39 rfl rfl rfl 0 rfl <| E_gF (r := 24) (n := 77) 40 rfl rfl fg_6_30 sh_17 rfl <| E_aload_n (n := 78) 41 rfl rfl rfl 0 rfl <| E_gI (n := 81) 42 rfl rfl fg_6_69 sh_17 <| E_iload_n (n := 82) 43 rfl rfl rfl 1 rfl <| E_iast (n := 83) 44 rfl rfl sh_24 hc3 <| E_mem hm4 <| E_aload_n (n := 84) 45 rfl rfl rfl 0 rfl <| E_dup (n := 85) 46 rfl rfl rfl <| E_gI (n := 88) 47 rfl rfl fg_6_69 sh_17 <| E_iconst (v := 1) (n := 89) 48 rfl rfl icz_1 <| E_iadd (n := 90) 49 rfl rfl <| E_pI (n := 93) 50 rfl rfl fp_6_69 sh_17 <| E_mem hm5 <| ?_
      refine E_return 51 rfl rfl (eV h)
theorem K_PC_addEnd (m : Mem) (x1 : Int32) (R : Mem) (h : PC_addEnd m x1 = some R) : Mt M_PC_addEnd [.ref 17, .int x1] m (qV R) := by
  refine Mt.of G_PC_addEnd (Nat.le_of_ble_eq_true rfl) (E_sub (lv' := [(0, .ref 17), (1, .int x1)]) [0, 1] rfl ?_)
  unfold PC_addEnd at h
  obtain ⟨hc1, h⟩ := ift h
  obtain ⟨v2, hv2, h⟩ := letV_ex h
  refine E_aload_n (n := 1) 0 rfl rfl rfl 0 rfl <| E_gF (r := 18) (n := 4) 1 rfl rfl fg_6_9 sh_17 rfl <| E_iload_n (n := 5) 2 rfl rfl rfl 1 rfl <| E_iald (n := 6) 3 rfl rfl sh_18 hc1 <| E_top hv2 <| E_istore_n (lv' := [(0, .ref 17), (1, .int x1), (2, .int v2)]) (n := 7) 4 rfl rfl rfl (Nat.le_of_ble_eq_true rfl) [1, 2, 0] rfl <| E_iload_n (n := 8) 5 rfl rfl rfl 2 rfl <| E_aload_n (n := 9) 6 rfl rfl rfl 0 rfl <| E_gI (n := 12) 7 rfl rfl fg_6_66 sh_17 <| E_icmp_ne (n := 15) (t := 19) 8 rfl rfl rfl (fun hc => ?_) (fun hc => ?_)
  · have h := ifn h hc
    refine E_iconst (v := 0) (n := 20) 11 rfl rfl icz_0 <| ?_
    refine E_sub (lv' := [(0, .ref 17), (2, .int v2)]) [0, 2] rfl ?_
    exact PC_addEnd_J20_ok m v2 0 _ h
  · have h := ifp h hc
    refine E_iconst (v := 1) (n := 16) 9 rfl rfl icz_1 <| E_goto (t := 20) 10 rfl rfl <| ?_
    refine E_sub (lv' := [(0, .ref 17), (2, .int v2)]) [0, 2] rfl ?_
    exact PC_addEnd_J20_ok m v2 1 _ h
theorem PC_joinParts_L3_ok (x1 : Int32) (x2 : Int32) (x3 : Int32) (kx : Mem → Option Mem) (R : Mem) (hx : ∀ (m : Mem), kx m = some R → E M_PC_joinParts 58 [] [] m (qV R)) : ∀ (n : Nat) (m : Mem) (x4 : Int32), PC_joinParts_L3 x1 x2 x3 kx n m x4 = some R → E M_PC_joinParts 3 [(0, .ref 17), (1, .int x1), (2, .int x2), (3, .int x3), (4, .int x4)] [] m (qV R) := by
  intro n
  induction n with
  | zero =>
    intro m x4 h
    exact absurd (show none = some R from h) (fun e => Option.some_ne_none R e.symm)
  | succ n ih =>
    intro m x4 h
    rw [PC_joinParts_L3] at h
    refine E_iload (n := 5) 2 rfl rfl 4 rfl <| E_aload_n (n := 6) 3 rfl rfl rfl 0 rfl <| E_gI (n := 9) 4 rfl rfl fg_6_42 sh_17 <| E_icmp_ge (n := 12) (t := 58) 5 rfl rfl rfl (fun hc => ?_) (fun hc => ?_)
    · have h := ifp h hc
      refine E_sub (lv' := []) [] rfl ?_
      exact hx m h
    · have h := ifn h hc
      obtain ⟨hc1, h⟩ := ift h
      obtain ⟨hc2, h⟩ := ift h
      obtain ⟨hc3, h⟩ := ift h
      obtain ⟨m4, hm4, h⟩ := letM_ex h
      refine E_aload_n (n := 13) 6 rfl rfl rfl 0 rfl <| E_gF (r := 25) (n := 16) 7 rfl rfl fg_6_33 sh_17 rfl <| E_iload_n (n := 17) 8 rfl rfl rfl 1 rfl <| E_iload (n := 19) 9 rfl rfl 4 rfl <| E_iadd (n := 20) 10 rfl rfl <| E_aload_n (n := 21) 11 rfl rfl rfl 0 rfl <| E_gF (r := 25) (n := 24) 12 rfl rfl fg_6_33 sh_17 rfl <| E_iload_n (n := 25) 13 rfl rfl rfl 1 rfl <| E_iload (n := 27) 14 rfl rfl 4 rfl <| E_iadd (n := 28) 15 rfl rfl <| E_iald (n := 29) 16 rfl rfl sh_25 hc1 <| E_aload_n (n := 30) 17 rfl rfl rfl 0 rfl <| E_gF (r := 25) (n := 33) 18 rfl rfl fg_6_33 sh_17 rfl <| E_iload_n (n := 34) 19 rfl rfl rfl 2 rfl <| E_iload (n := 36) 20 rfl rfl 4 rfl <| E_iadd (n := 37) 21 rfl rfl <| E_iald (n := 38) 22 rfl rfl sh_25 hc2 <| E_aload_n (n := 39) 23 rfl rfl rfl 0 rfl <| E_gF (r := 25) (n := 42) 24 rfl rfl fg_6_33 sh_17 rfl <| E_iload_n (n := 43) 25 rfl rfl rfl 3 rfl <| E_iload (n := 45) 26 rfl rfl 4 rfl <| E_iadd (n := 46) 27 rfl rfl <| E_iald (n := 47) 28 rfl rfl sh_25 hc3 <| E_iadd (n := 48) 29 rfl rfl <| E_jmin (n := 51) 30 rfl rfl tw_1120 tw_642 tw_124 tw_643 ⟨Nat.le_of_ble_eq_true rfl, Nat.le_of_ble_eq_true rfl⟩ <| E_iast (n := 52) 31 rfl rfl sh_25 hc1 <| E_mem hm4 <| E_iinc (v := (x4 + 1)) (lv' := [(0, .ref 17), (1, .int x1), (2, .int x2), (3, .int x3), (4, .int (x4 + 1))]) (n := 55) 32 rfl rfl 4 rfl (by rw [icz_1]) (Nat.le_of_ble_eq_true rfl) [1, 2, 3, 4, 0] rfl <| E_goto (t := 3) 33 rfl rfl <| ?_
      exact ih m4 (x4 + 1) h
theorem K_PC_joinParts (m : Mem) (x1 : Int32) (x2 : Int32) (x3 : Int32) (R : Mem) (h : PC_joinParts m x1 x2 x3 = some R) : Mt M_PC_joinParts [.ref 17, .int x1, .int x2, .int x3] m (qV R) := by
  refine Mt.of G_PC_joinParts (Nat.le_of_ble_eq_true rfl) (E_sub (lv' := [(0, .ref 17), (1, .int x1), (2, .int x2), (3, .int x3)]) [0, 1, 2, 3] rfl ?_)
  unfold PC_joinParts at h
  refine E_iconst (v := 0) (n := 1) 0 rfl rfl icz_0 <| E_istore (lv' := [(0, .ref 17), (1, .int x1), (2, .int x2), (3, .int x3), (4, .int 0)]) (n := 3) 1 rfl rfl (Nat.le_of_ble_eq_true rfl) [1, 2, 3, 4, 0] rfl <| ?_
  refine PC_joinParts_L3_ok x1 x2 x3 _ R ?_ FU m 0 h
  intro m1 h
  refine E_return 34 rfl rfl (eV h)
theorem PC_joinSets_L8_ok (x1 : Int32) (x2 : Int32) (kx : Mem → Option Mem) (R : Mem) (hx : ∀ (m : Mem), kx m = some R → E M_PC_joinSets 32 [(0, .ref 17), (1, .int x1), (2, .int x2)] [] m (qV R)) : ∀ (n : Nat) (m : Mem) (x3 : Int32), PC_joinSets_L8 x1 x2 kx n m x3 = some R → E M_PC_joinSets 8 [(0, .ref 17), (1, .int x1), (2, .int x2), (3, .int x3)] [] m (qV R) := by
  intro n
  induction n with
  | zero =>
    intro m x3 h
    exact absurd (show none = some R from h) (fun e => Option.some_ne_none R e.symm)
  | succ n ih =>
    intro m x3 h
    rw [PC_joinSets_L8] at h
    refine E_iload_n (n := 9) 6 rfl rfl rfl 3 rfl <| E_aload_n (n := 10) 7 rfl rfl rfl 0 rfl <| E_gI (n := 13) 8 rfl rfl fg_6_42 sh_17 <| E_icmp_ge (n := 16) (t := 32) 9 rfl rfl rfl (fun hc => ?_) (fun hc => ?_)
    · have h := ifp h hc
      refine E_sub (lv' := [(0, .ref 17), (1, .int x1), (2, .int x2)]) [0, 1, 2] rfl ?_
      exact hx m h
    · have h := ifn h hc
      obtain ⟨hc1, h⟩ := ift h
      obtain ⟨m2, hm2, h⟩ := letM_ex h
      refine E_aload_n (n := 17) 10 rfl rfl rfl 0 rfl <| E_gF (r := 25) (n := 20) 11 rfl rfl fg_6_33 sh_17 rfl <| E_iload_n (n := 21) 12 rfl rfl rfl 2 rfl <| E_iload_n (n := 22) 13 rfl rfl rfl 3 rfl <| E_iadd (n := 23) 14 rfl rfl <| E_ldc (v := 100000000) (n := 25) 15 rfl rfl tw_1115 <| E_iast (n := 26) 16 rfl rfl sh_25 hc1 <| E_mem hm2 <| E_iinc (v := (x3 + 1)) (lv' := [(0, .ref 17), (1, .int x1), (2, .int x2), (3, .int (x3 + 1))]) (n := 29) 17 rfl rfl 3 rfl (by rw [icz_1]) (Nat.le_of_ble_eq_true rfl) [1, 2, 3, 0] rfl <| E_goto (t := 8) 18 rfl rfl <| ?_
      exact ih m2 (x3 + 1) h
theorem PC_joinSets_L34_ok (x1 : Int32) (x2 : Int32) (kx : Mem → Option Mem) (R : Mem) (hx : ∀ (m : Mem), kx m = some R → E M_PC_joinSets 69 [(0, .ref 17), (1, .int x1), (2, .int x2)] [] m (qV R)) : ∀ (n : Nat) (m : Mem) (x3 : Int32), PC_joinSets_L34 x1 x2 kx n m x3 = some R → E M_PC_joinSets 34 [(0, .ref 17), (1, .int x1), (2, .int x2), (3, .int x3)] [] m (qV R) := by
  intro n
  induction n with
  | zero =>
    intro m x3 h
    exact absurd (show none = some R from h) (fun e => Option.some_ne_none R e.symm)
  | succ n ih =>
    intro m x3 h
    rw [PC_joinSets_L34] at h
    refine E_iload_n (n := 35) 21 rfl rfl rfl 3 rfl <| E_aload_n (n := 36) 22 rfl rfl rfl 0 rfl <| E_gI (n := 39) 23 rfl rfl fg_6_69 sh_17 <| E_icmp_ge (n := 42) (t := 69) 24 rfl rfl rfl (fun hc => ?_) (fun hc => ?_)
    · have h := ifp h hc
      refine E_sub (lv' := [(0, .ref 17), (1, .int x1), (2, .int x2)]) [0, 1, 2] rfl ?_
      exact hx m h
    · have h := ifn h hc
      refine E_iload_n (n := 43) 25 rfl rfl rfl 1 rfl <| E_iconst (v := 1) (n := 44) 26 rfl rfl icz_1 <| E_iload_n (n := 45) 27 rfl rfl rfl 3 rfl <| E_jshl (n := 46) 28 rfl rfl <| E_icmp_ne (n := 49) (t := 63) 29 rfl rfl rfl (fun hc => ?_) (fun hc => ?_)
      · have h := ifn h hc
        refine E_iinc (v := (x3 + 1)) (lv' := [(0, .ref 17), (1, .int x1), (2, .int x2), (3, .int (x3 + 1))]) (n := 66) 40 rfl rfl 3 rfl (by rw [icz_1]) (Nat.le_of_ble_eq_true rfl) [1, 2, 3, 0] rfl <| E_goto (t := 34) 41 rfl rfl <| ?_
        exact ih m (x3 + 1) h
      · have h := ifp h hc
        obtain ⟨hc1, h⟩ := ift h
        obtain ⟨hc2, h⟩ := ift h
        obtain ⟨m3, hm3, h⟩ := letM_ex h
        refine E_aload_n (n := 50) 30 rfl rfl rfl 0 rfl <| E_gF (r := 25) (n := 53) 31 rfl rfl fg_6_33 sh_17 rfl <| E_iload_n (n := 54) 32 rfl rfl rfl 2 rfl <| E_aload_n (n := 55) 33 rfl rfl rfl 0 rfl <| E_gF (r := 24) (n := 58) 34 rfl rfl fg_6_30 sh_17 rfl <| E_iload_n (n := 59) 35 rfl rfl rfl 3 rfl <| E_iald (n := 60) 36 rfl rfl sh_24 hc1 <| E_iadd (n := 61) 37 rfl rfl <| E_iconst (v := 0) (n := 62) 38 rfl rfl icz_0 <| E_iast (n := 63) 39 rfl rfl sh_25 hc2 <| E_mem hm3 <| ?_
        refine E_iinc (v := (x3 + 1)) (lv' := [(0, .ref 17), (1, .int x1), (2, .int x2), (3, .int (x3 + 1))]) (n := 66) 40 rfl rfl 3 rfl (by rw [icz_1]) (Nat.le_of_ble_eq_true rfl) [1, 2, 3, 0] rfl <| E_goto (t := 34) 41 rfl rfl <| ?_
        exact ih m3 (x3 + 1) h
theorem PC_joinSets_L71_ok (x1 : Int32) (x2 : Int32) (kx : Mem → Option Mem) (R : Mem) (hx : ∀ (m : Mem), kx m = some R → E M_PC_joinSets 113 [] [] m (qV R)) : ∀ (n : Nat) (m : Mem) (x3 : Int32), PC_joinSets_L71 x1 x2 kx n m x3 = some R → E M_PC_joinSets 71 [(0, .ref 17), (1, .int x1), (2, .int x2), (3, .int x3)] [] m (qV R) := by
  intro n
  induction n with
  | zero =>
    intro m x3 h
    exact absurd (show none = some R from h) (fun e => Option.some_ne_none R e.symm)
  | succ n ih =>
    intro m x3 h
    rw [PC_joinSets_L71] at h
    refine E_iload_n (n := 72) 44 rfl rfl rfl 3 rfl <| E_iload_n (n := 73) 45 rfl rfl rfl 1 rfl <| E_icmp_ge (n := 76) (t := 113) 46 rfl rfl rfl (fun hc => ?_) (fun hc => ?_)
    · have h := ifp h hc
      refine E_sub (lv' := []) [] rfl ?_
      exact hx m h
    · have h := ifn h hc
      refine E_iload_n (n := 77) 47 rfl rfl rfl 3 rfl <| E_iload_n (n := 78) 48 rfl rfl rfl 1 rfl <| E_iand (n := 79) 49 rfl rfl <| E_iload_n (n := 80) 50 rfl rfl rfl 3 rfl <| E_icmp_ne (n := 83) (t := 107) 51 rfl rfl rfl (fun hc => ?_) (fun hc => ?_)
      · have h := ifn h hc
        refine E_iinc (v := (x3 + 1)) (lv' := [(0, .ref 17), (1, .int x1), (2, .int x2), (3, .int (x3 + 1))]) (n := 110) 68 rfl rfl 3 rfl (by rw [icz_1]) (Nat.le_of_ble_eq_true rfl) [1, 2, 3, 0] rfl <| E_goto (t := 71) 69 rfl rfl <| ?_
        exact ih m (x3 + 1) h
      · have h := ifp h hc
        refine E_iload_n (n := 84) 52 rfl rfl rfl 3 rfl <| E_iload_n (n := 85) 53 rfl rfl rfl 1 rfl <| E_iload_n (n := 86) 54 rfl rfl rfl 3 rfl <| E_isub (n := 87) 55 rfl rfl <| E_icmp_ge (n := 90) (t := 107) 56 rfl rfl rfl (fun hc => ?_) (fun hc => ?_)
        · have h := ifp h hc
          refine E_iinc (v := (x3 + 1)) (lv' := [(0, .ref 17), (1, .int x1), (2, .int x2), (3, .int (x3 + 1))]) (n := 110) 68 rfl rfl 3 rfl (by rw [icz_1]) (Nat.le_of_ble_eq_true rfl) [1, 2, 3, 0] rfl <| E_goto (t := 71) 69 rfl rfl <| ?_
          exact ih m (x3 + 1) h
        · have h := ifn h hc
          obtain ⟨m1, hq2, h⟩ := bM_ex h
          refine E_aload_n (n := 91) 57 rfl rfl rfl 0 rfl <| E_iload_n (n := 92) 58 rfl rfl rfl 2 rfl <| E_iload_n (n := 93) 59 rfl rfl rfl 3 rfl <| E_sipush (v := 400) (n := 96) 60 rfl rfl spz_400 <| E_imul (n := 97) 61 rfl rfl <| E_iload_n (n := 98) 62 rfl rfl rfl 1 rfl <| E_iload_n (n := 99) 63 rfl rfl rfl 3 rfl <| E_isub (n := 100) 64 rfl rfl <| E_sipush (v := 400) (n := 103) 65 rfl rfl spz_400 <| E_imul (n := 104) 66 rfl rfl <| E_cV3v (n := 107) 67 rfl rfl co_6_80 rfl sh_17 rfl (K_PC_joinParts m x2 (x3 * 400) ((x1 - x3) * 400) _ hq2) <| ?_
          refine E_iinc (v := (x3 + 1)) (lv' := [(0, .ref 17), (1, .int x1), (2, .int x2), (3, .int (x3 + 1))]) (n := 110) 68 rfl rfl 3 rfl (by rw [icz_1]) (Nat.le_of_ble_eq_true rfl) [1, 2, 3, 0] rfl <| E_goto (t := 71) 69 rfl rfl <| ?_
          exact ih m1 (x3 + 1) h
theorem K_PC_joinSets (m : Mem) (x1 : Int32) (R : Mem) (h : PC_joinSets m x1 = some R) : Mt M_PC_joinSets [.ref 17, .int x1] m (qV R) := by
  refine Mt.of G_PC_joinSets (Nat.le_of_ble_eq_true rfl) (E_sub (lv' := [(0, .ref 17), (1, .int x1)]) [0, 1] rfl ?_)
  unfold PC_joinSets at h
  obtain ⟨v1, hv1, h⟩ := letV_ex h
  refine E_iload_n (n := 1) 0 rfl rfl rfl 1 rfl <| E_sipush (v := 400) (n := 4) 1 rfl rfl spz_400 <| E_imul (n := 5) 2 rfl rfl <| E_top hv1 <| E_istore_n (lv' := [(0, .ref 17), (1, .int x1), (2, .int v1)]) (n := 6) 3 rfl rfl rfl (Nat.le_of_ble_eq_true rfl) [1, 2, 0] rfl <| E_iconst (v := 0) (n := 7) 4 rfl rfl icz_0 <| E_istore_n (lv' := [(0, .ref 17), (1, .int x1), (2, .int v1), (3, .int 0)]) (n := 8) 5 rfl rfl rfl (Nat.le_of_ble_eq_true rfl) [1, 2, 3, 0] rfl <| ?_
  refine PC_joinSets_L8_ok x1 v1 _ R ?_ FU m 0 h
  intro m2 h
  refine E_iconst (v := 0) (n := 33) 19 rfl rfl icz_0 <| E_istore_n (lv' := [(0, .ref 17), (1, .int x1), (2, .int v1), (3, .int 0)]) (n := 34) 20 rfl rfl rfl (Nat.le_of_ble_eq_true rfl) [1, 2, 3, 0] rfl <| ?_
  refine PC_joinSets_L34_ok x1 v1 _ R ?_ FU m2 0 h
  intro m3 h
  refine E_iconst (v := 1) (n := 70) 42 rfl rfl icz_1 <| E_istore_n (lv' := [(0, .ref 17), (1, .int x1), (2, .int v1), (3, .int 1)]) (n := 71) 43 rfl rfl rfl (Nat.le_of_ble_eq_true rfl) [1, 2, 3, 0] rfl <| ?_
  refine PC_joinSets_L71_ok x1 v1 _ R ?_ FU m3 1 h
  intro m4 h
  refine E_return 70 rfl rfl (eV h)
theorem PC_openFrom_L8_ok (x1 : Int32) (x2 : Int32) (x3 : Int32) (kx : Mem → Option Mem) (R : Mem) (hx : ∀ (m : Mem), kx m = some R → E M_PC_openFrom 56 [] [] m (qV R)) : ∀ (n : Nat) (m : Mem) (x4 : Int32), PC_openFrom_L8 x1 x2 x3 kx n m x4 = some R → E M_PC_openFrom 8 [(0, .ref 17), (1, .int x1), (2, .int x2), (3, .int x3), (4, .int x4)] [] m (qV R) := by
  intro n
  induction n with
  | zero =>
    intro m x4 h
    exact absurd (show none = some R from h) (fun e => Option.some_ne_none R e.symm)
  | succ n ih =>
    intro m x4 h
    rw [PC_openFrom_L8] at h
    obtain ⟨hc1, h⟩ := ift h
    refine E_iload (n := 10) 5 rfl rfl 4 rfl <| E_aload_n (n := 11) 6 rfl rfl rfl 0 rfl <| E_gF (r := 22) (n := 14) 7 rfl rfl fg_6_24 sh_17 rfl <| E_iload_n (n := 15) 8 rfl rfl rfl 2 rfl <| E_iconst (v := 1) (n := 16) 9 rfl rfl icz_1 <| E_iadd (n := 17) 10 rfl rfl <| E_iald (n := 18) 11 rfl rfl sh_22 hc1 <| E_icmp_ge (n := 21) (t := 56) 12 rfl rfl rfl (fun hc => ?_) (fun hc => ?_)
    · have h := ifp h hc
      refine E_sub (lv' := []) [] rfl ?_
      exact hx m h
    · have h := ifn h hc
      obtain ⟨hc2, h⟩ := ift h
      obtain ⟨v3, hv3, h⟩ := letV_ex h
      obtain ⟨hc4, h⟩ := ift h
      obtain ⟨m5, hm5, h⟩ := letM_ex h
      refine E_iload_n (n := 22) 13 rfl rfl rfl 1 rfl <| E_aload_n (n := 23) 14 rfl rfl rfl 0 rfl <| E_gF (r := 21) (n := 26) 15 rfl rfl fg_6_21 sh_17 rfl <| E_iload (n := 28) 16 rfl rfl 4 rfl <| E_iald (n := 29) 17 rfl rfl sh_21 hc2 <| E_iadd (n := 30) 18 rfl rfl <| E_top hv3 <| E_istore (lv' := [(0, .ref 17), (1, .int x1), (2, .int x2), (3, .int x3), (4, .int x4), (5, .int v3)]) (n := 32) 19 rfl rfl (Nat.le_of_ble_eq_true rfl) [1, 2, 3, 4, 5, 0] rfl <| E_aload_n (n := 33) 20 rfl rfl rfl 0 rfl <| E_gF (r := 25) (n := 36) 21 rfl rfl fg_6_33 sh_17 rfl <| E_iload (n := 38) 22 rfl rfl 5 rfl <| E_aload_n (n := 39) 23 rfl rfl rfl 0 rfl <| E_gF (r := 25) (n := 42) 24 rfl rfl fg_6_33 sh_17 rfl <| E_iload (n := 44) 25 rfl rfl 5 rfl <| E_iald (n := 45) 26 rfl rfl sh_25 hc4 <| E_iload_n (n := 46) 27 rfl rfl rfl 3 rfl <| E_jmin (n := 49) 28 rfl rfl tw_1120 tw_642 tw_124 tw_643 ⟨Nat.le_of_ble_eq_true rfl, Nat.le_of_ble_eq_true rfl⟩ <| E_iast (n := 50) 29 rfl rfl sh_25 hc4 <| E_mem hm5 <| E_iinc (v := (x4 + 1)) (lv' := [(0, .ref 17), (1, .int x1), (2, .int x2), (3, .int x3), (4, .int (x4 + 1)), (5, .int v3)]) (n := 53) 30 rfl rfl 4 rfl (by rw [icz_1]) (Nat.le_of_ble_eq_true rfl) [1, 2, 3, 4, 0, 5] rfl <| E_goto (t := 8) 31 rfl rfl <| ?_
      refine E_sub (lv' := [(0, .ref 17), (1, .int x1), (2, .int x2), (3, .int x3), (4, .int (x4 + 1))]) [0, 1, 2, 3, 4] rfl ?_
      exact ih m5 (x4 + 1) h
theorem K_PC_openFrom (m : Mem) (x1 : Int32) (x2 : Int32) (x3 : Int32) (R : Mem) (h : PC_openFrom m x1 x2 x3 = some R) : Mt M_PC_openFrom [.ref 17, .int x1, .int x2, .int x3] m (qV R) := by
  refine Mt.of G_PC_openFrom (Nat.le_of_ble_eq_true rfl) (E_sub (lv' := [(0, .ref 17), (1, .int x1), (2, .int x2), (3, .int x3)]) [0, 1, 2, 3] rfl ?_)
  unfold PC_openFrom at h
  obtain ⟨hc1, h⟩ := ift h
  obtain ⟨v2, hv2, h⟩ := letV_ex h
  refine E_aload_n (n := 1) 0 rfl rfl rfl 0 rfl <| E_gF (r := 22) (n := 4) 1 rfl rfl fg_6_24 sh_17 rfl <| E_iload_n (n := 5) 2 rfl rfl rfl 2 rfl <| E_iald (n := 6) 3 rfl rfl sh_22 hc1 <| E_top hv2 <| E_istore (lv' := [(0, .ref 17), (1, .int x1), (2, .int x2), (3, .int x3), (4, .int v2)]) (n := 8) 4 rfl rfl (Nat.le_of_ble_eq_true rfl) [1, 2, 3, 4, 0] rfl <| ?_
  refine PC_openFrom_L8_ok x1 x2 x3 _ R ?_ FU m v2 h
  intro m3 h
  refine E_return 32 rfl rfl (eV h)
theorem PC_spread_L21_ok (x1 : Int32) (x3 : Int32) (kx : Mem → Int32 → Option Mem) (R : Mem) (hx : ∀ (m : Mem) (x2 : Int32), kx m x2 = some R → E M_PC_spread 77 [(0, .ref 17), (1, .int x1), (2, .int x2), (3, .int x3)] [] m (qV R)) : ∀ (n : Nat) (m : Mem) (x2 : Int32) (x4 : Int32), PC_spread_L21 x1 x3 kx n m x2 x4 = some R → E M_PC_spread 21 [(0, .ref 17), (1, .int x1), (2, .int x2), (3, .int x3), (4, .int x4)] [] m (qV R) := by
  intro n
  induction n with
  | zero =>
    intro m x2 x4 h
    exact absurd (show none = some R from h) (fun e => Option.some_ne_none R e.symm)
  | succ n ih =>
    intro m x2 x4 h
    rw [PC_spread_L21] at h
    refine E_iload (n := 23) 14 rfl rfl 4 rfl <| E_aload_n (n := 24) 15 rfl rfl rfl 0 rfl <| E_gI (n := 27) 16 rfl rfl fg_6_42 sh_17 <| E_icmp_ge (n := 30) (t := 77) 17 rfl rfl rfl (fun hc => ?_) (fun hc => ?_)
    · have h := ifp h hc
      refine E_sub (lv' := [(0, .ref 17), (1, .int x1), (2, .int x2), (3, .int x3)]) [0, 1, 2, 3] rfl ?_
      exact hx m x2 h
    · have h := ifn h hc
      obtain ⟨hc1, h⟩ := ift h
      refine E_aload_n (n := 31) 18 rfl rfl rfl 0 rfl <| E_gF (r := 25) (n := 34) 19 rfl rfl fg_6_33 sh_17 rfl <| E_iload_n (n := 35) 20 rfl rfl rfl 1 rfl <| E_iload (n := 37) 21 rfl rfl 4 rfl <| E_iadd (n := 38) 22 rfl rfl <| E_iald (n := 39) 23 rfl rfl sh_25 hc1 <| E_iload_n (n := 40) 24 rfl rfl rfl 3 rfl <| E_icmp_ne (n := 43) (t := 56) 25 rfl rfl rfl (fun hc => ?_) (fun hc => ?_)
      · have h := ifn h hc
        refine E_aload_n (n := 57) 34 rfl rfl rfl 0 rfl <| E_gF (r := 25) (n := 60) 35 rfl rfl fg_6_33 sh_17 rfl <| E_iload_n (n := 61) 36 rfl rfl rfl 1 rfl <| E_iload (n := 63) 37 rfl rfl 4 rfl <| E_iadd (n := 64) 38 rfl rfl <| E_iald (n := 65) 39 rfl rfl sh_25 hc1 <| E_iload_n (n := 66) 40 rfl rfl rfl 3 rfl <| E_icmp_le (n := 69) (t := 71) 41 rfl rfl rfl (fun hc => ?_) (fun hc => ?_)
        · have h := ifp h hc
          refine E_iinc (v := (x4 + 1)) (lv' := [(0, .ref 17), (1, .int x1), (2, .int x2), (3, .int x3), (4, .int (x4 + 1))]) (n := 74) 44 rfl rfl 4 rfl (by rw [icz_1]) (Nat.le_of_ble_eq_true rfl) [1, 2, 3, 4, 0] rfl <| E_goto (t := 21) 45 rfl rfl <| ?_
          exact ih m x2 (x4 + 1) h
        · have h := ifn h hc
          refine E_iconst (v := 1) (n := 70) 42 rfl rfl icz_1 <| E_istore_n (lv' := [(0, .ref 17), (1, .int x1), (2, .int 1), (3, .int x3), (4, .int x4)]) (n := 71) 43 rfl rfl rfl (Nat.le_of_ble_eq_true rfl) [1, 2, 0, 3, 4] rfl <| ?_
          refine E_iinc (v := (x4 + 1)) (lv' := [(0, .ref 17), (1, .int x1), (2, .int 1), (3, .int x3), (4, .int (x4 + 1))]) (n := 74) 44 rfl rfl 4 rfl (by rw [icz_1]) (Nat.le_of_ble_eq_true rfl) [1, 2, 3, 4, 0] rfl <| E_goto (t := 21) 45 rfl rfl <| ?_
          exact ih m 1 (x4 + 1) h
      · have h := ifp h hc
        obtain ⟨m2, hq3, h⟩ := bM_ex h
        refine E_aload_n (n := 44) 26 rfl rfl rfl 0 rfl <| E_iload_n (n := 45) 27 rfl rfl rfl 1 rfl <| E_iload (n := 47) 28 rfl rfl 4 rfl <| E_iload_n (n := 48) 29 rfl rfl rfl 3 rfl <| E_iconst (v := 1) (n := 49) 30 rfl rfl icz_1 <| E_iadd (n := 50) 31 rfl rfl <| E_cV3v (n := 53) 32 rfl rfl co_6_89 rfl sh_17 rfl (K_PC_openFrom m x1 x4 (x3 + 1) _ hq3) <| E_goto (t := 71) 33 rfl rfl <| ?_
        refine E_iinc (v := (x4 + 1)) (lv' := [(0, .ref 17), (1, .int x1), (2, .int x2), (3, .int x3), (4, .int (x4 + 1))]) (n := 74) 44 rfl rfl 4 rfl (by rw [icz_1]) (Nat.le_of_ble_eq_true rfl) [1, 2, 3, 4, 0] rfl <| E_goto (t := 21) 45 rfl rfl <| ?_
        exact ih m2 x2 (x4 + 1) h
theorem PC_spread_L4_ok (x1 : Int32) (kx : Mem → Option Mem) (R : Mem) (hx : ∀ (m : Mem), kx m = some R → E M_PC_spread 83 [] [] m (qV R)) : ∀ (n : Nat) (m : Mem) (x2 : Int32) (x3 : Int32), PC_spread_L4 x1 kx n m x2 x3 = some R → E M_PC_spread 4 [(0, .ref 17), (1, .int x1), (2, .int x2), (3, .int x3)] [] m (qV R) := by
  intro n
  induction n with
  | zero =>
    intro m x2 x3 h
    exact absurd (show none = some R from h) (fun e => Option.some_ne_none R e.symm)
  | succ n ih =>
    intro m x2 x3 h
    rw [PC_spread_L4] at h
    refine E_iload_n (n := 5) 4 rfl rfl rfl 2 rfl <| E_if_eq (n := 8) (t := 83) 5 rfl rfl rfl (fun hc => ?_) (fun hc => ?_)
    · have h := ifp h hc
      refine E_sub (lv' := []) [] rfl ?_
      exact hx m h
    · have h := ifn h hc
      refine E_iload_n (n := 9) 6 rfl rfl rfl 3 rfl <| E_aload_n (n := 10) 7 rfl rfl rfl 0 rfl <| E_gI (n := 13) 8 rfl rfl fg_6_42 sh_17 <| E_icmp_ge (n := 16) (t := 83) 9 rfl rfl rfl (fun hc => ?_) (fun hc => ?_)
      · have h := ifp h hc
        refine E_sub (lv' := []) [] rfl ?_
        exact hx m h
      · have h := ifn h hc
        refine E_iconst (v := 0) (n := 17) 10 rfl rfl icz_0 <| E_istore_n (lv' := [(0, .ref 17), (1, .int x1), (2, .int 0), (3, .int x3)]) (n := 18) 11 rfl rfl rfl (Nat.le_of_ble_eq_true rfl) [1, 2, 0, 3] rfl <| E_iconst (v := 0) (n := 19) 12 rfl rfl icz_0 <| E_istore (lv' := [(0, .ref 17), (1, .int x1), (2, .int 0), (3, .int x3), (4, .int 0)]) (n := 21) 13 rfl rfl (Nat.le_of_ble_eq_true rfl) [1, 2, 3, 4, 0] rfl <| ?_
        refine PC_spread_L21_ok x1 x3 _ R ?_ FU m 0 0 h
        intro m2 y1 h
        refine E_iinc (v := (x3 + 1)) (lv' := [(0, .ref 17), (1, .int x1), (2, .int y1), (3, .int (x3 + 1))]) (n := 80) 46 rfl rfl 3 rfl (by rw [icz_1]) (Nat.le_of_ble_eq_true rfl) [1, 2, 3, 0] rfl <| E_goto (t := 4) 47 rfl rfl <| ?_
        exact ih m2 y1 (x3 + 1) h
theorem K_PC_spread (m : Mem) (x1 : Int32) (R : Mem) (h : PC_spread m x1 = some R) : Mt M_PC_spread [.ref 17, .int x1] m (qV R) := by
  refine Mt.of G_PC_spread (Nat.le_of_ble_eq_true rfl) (E_sub (lv' := [(0, .ref 17), (1, .int x1)]) [0, 1] rfl ?_)
  unfold PC_spread at h
  refine E_iconst (v := 1) (n := 1) 0 rfl rfl icz_1 <| E_istore_n (lv' := [(0, .ref 17), (1, .int x1), (2, .int 1)]) (n := 2) 1 rfl rfl rfl (Nat.le_of_ble_eq_true rfl) [1, 2, 0] rfl <| E_iconst (v := 0) (n := 3) 2 rfl rfl icz_0 <| E_istore_n (lv' := [(0, .ref 17), (1, .int x1), (2, .int 1), (3, .int 0)]) (n := 4) 3 rfl rfl rfl (Nat.le_of_ble_eq_true rfl) [1, 2, 3, 0] rfl <| ?_
  refine PC_spread_L4_ok x1 _ R ?_ FU m 1 0 h
  intro m1 h
  refine E_return 48 rfl rfl (eV h)
theorem PC_fewestOpenings_L20_ok (x1 : Int32) (kx : Mem → Option (Int32 × Mem)) (R : Int32 × Mem) (hx : ∀ (m : Mem), kx m = some R → E M_PC_fewestOpenings 45 [(0, .ref 17), (1, .int x1)] [] m (qI R.1 R.2)) : ∀ (n : Nat) (m : Mem) (x2 : Int32), PC_fewestOpenings_L20 x1 kx n m x2 = some R → E M_PC_fewestOpenings 20 [(0, .ref 17), (1, .int x1), (2, .int x2)] [] m (qI R.1 R.2) := by
  intro n
  induction n with
  | zero =>
    intro m x2 h
    exact absurd (show none = some R from h) (fun e => Option.some_ne_none R e.symm)
  | succ n ih =>
    intro m x2 h
    rw [PC_fewestOpenings_L20] at h
    refine E_iload_n (n := 21) 14 rfl rfl rfl 2 rfl <| E_iload_n (n := 22) 15 rfl rfl rfl 1 rfl <| E_icmp_gt (n := 25) (t := 45) 16 rfl rfl rfl (fun hc => ?_) (fun hc => ?_)
    · have h := ifp h hc
      refine E_sub (lv' := [(0, .ref 17), (1, .int x1)]) [0, 1] rfl ?_
      exact hx m h
    · have h := ifn h hc
      obtain ⟨m1, hq2, h⟩ := bM_ex h
      obtain ⟨m3, hq4, h⟩ := bM_ex h
      refine E_aload_n (n := 26) 17 rfl rfl rfl 0 rfl <| E_iload_n (n := 27) 18 rfl rfl rfl 2 rfl <| E_cV1v (n := 30) 19 rfl rfl co_6_72 rfl sh_17 rfl (K_PC_joinSets m x2 _ hq2) <| E_aload_n (n := 31) 20 rfl rfl rfl 0 rfl <| E_iload_n (n := 32) 21 rfl rfl rfl 2 rfl <| E_sipush (v := 400) (n := 35) 22 rfl rfl spz_400 <| E_imul (n := 36) 23 rfl rfl <| E_cV1v (n := 39) 24 rfl rfl co_6_76 rfl sh_17 rfl (K_PC_spread m1 (x2 * 400) _ hq4) <| E_iinc (v := (x2 + 1)) (lv' := [(0, .ref 17), (1, .int x1), (2, .int (x2 + 1))]) (n := 42) 25 rfl rfl 2 rfl (by rw [icz_1]) (Nat.le_of_ble_eq_true rfl) [1, 2, 0] rfl <| E_goto (t := 20) 26 rfl rfl <| ?_
      exact ih m3 (x2 + 1) h
theorem K_PC_fewestOpenings (m : Mem) (R : Int32 × Mem) (h : PC_fewestOpenings m = some R) : Mt M_PC_fewestOpenings [.ref 17] m (qI R.1 R.2) := by
  refine Mt.of G_PC_fewestOpenings (Nat.le_of_ble_eq_true rfl) (E_sub (lv' := [(0, .ref 17)]) [0] rfl ?_)
  unfold PC_fewestOpenings at h
  refine E_aload_n (n := 1) 0 rfl rfl rfl 0 rfl <| E_gI (n := 4) 1 rfl rfl fg_6_69 sh_17 <| E_if_ne (n := 7) (t := 9) 2 rfl rfl rfl (fun hc => ?_) (fun hc => ?_)
  · have h := ifn h hc
    obtain ⟨v1, hv1, h⟩ := letV_ex h
    refine E_iconst (v := 1) (n := 10) 5 rfl rfl icz_1 <| E_aload_n (n := 11) 6 rfl rfl rfl 0 rfl <| E_gI (n := 14) 7 rfl rfl fg_6_69 sh_17 <| E_jshl (n := 15) 8 rfl rfl <| E_iconst (v := 1) (n := 16) 9 rfl rfl icz_1 <| E_isub (n := 17) 10 rfl rfl <| E_top hv1 <| E_istore_n (lv' := [(0, .ref 17), (1, .int v1)]) (n := 18) 11 rfl rfl rfl (Nat.le_of_ble_eq_true rfl) [1, 0] rfl <| E_iconst (v := 1) (n := 19) 12 rfl rfl icz_1 <| E_istore_n (lv' := [(0, .ref 17), (1, .int v1), (2, .int 1)]) (n := 20) 13 rfl rfl rfl (Nat.le_of_ble_eq_true rfl) [1, 2, 0] rfl <| ?_
    refine PC_fewestOpenings_L20_ok v1 _ R ?_ FU m 1 h
    intro m2 h
    obtain ⟨hc3, h⟩ := ift h
    refine E_aload_n (n := 46) 27 rfl rfl rfl 0 rfl <| E_gF (r := 25) (n := 49) 28 rfl rfl fg_6_33 sh_17 rfl <| E_iload_n (n := 50) 29 rfl rfl rfl 1 rfl <| E_sipush (v := 400) (n := 53) 30 rfl rfl spz_400 <| E_imul (n := 54) 31 rfl rfl <| E_aload_n (n := 55) 32 rfl rfl rfl 0 rfl <| E_gI (n := 58) 33 rfl rfl fg_6_66 sh_17 <| E_iadd (n := 59) 34 rfl rfl <| E_iald (n := 60) 35 rfl rfl sh_25 hc3 <| E_ireturn 36 rfl rfl (eS h)
  · have h := ifp h hc
    refine E_iconst (v := 0) (n := 8) 3 rfl rfl icz_0 <| E_ireturn 4 rfl rfl (eS h)
theorem OH_stiles_L46_ok (kx : Mem → Option (Int32 × Mem)) (R : Int32 × Mem) (hx : ∀ (m : Mem), kx m = some R → E M_OH_stiles 78 [(0, .ref 0)] [] m (qI R.1 R.2)) : ∀ (n : Nat) (m : Mem) (x2 : Int32), OH_stiles_L46 kx n m x2 = some R → E M_OH_stiles 46 [(0, .ref 0), (2, .int x2)] [] m (qI R.1 R.2) := by
  intro n
  induction n with
  | zero =>
    intro m x2 h
    exact absurd (show none = some R from h) (fun e => Option.some_ne_none R e.symm)
  | succ n ih =>
    intro m x2 h
    rw [OH_stiles_L46] at h
    refine E_iload_n (n := 47) 23 rfl rfl rfl 1 rfl <| E_aload_n (n := 48) 24 rfl rfl rfl 0 rfl <| E_gN (n := 51) 25 rfl rfl fg_11_92 sh_0 (Or.inl rfl) fun hN1 => E_gI (n := 54) 26 rfl rfl fg_11_224 hN1 <| E_icmp_ge (n := 57) (t := 78) 27 rfl rfl rfl (fun hc => ?_) (fun hc => ?_)
    · have h := ifp h hc
      refine E_sub (lv' := [(0, .ref 0)]) [0] rfl ?_
      exact hx m h
    · have h := ifn h hc
      obtain ⟨v3, hq4, h⟩ := bI_ex h
      obtain ⟨m5, hq6, h⟩ := bM_ex h
      refine E_aload_n (n := 58) 28 rfl rfl rfl 0 rfl <| E_gF (r := 17) (n := 61) 29 rfl rfl fg_11_36 sh_0 rfl <| E_aload_n (n := 62) 30 rfl rfl rfl 0 rfl <| E_gN (n := 65) 31 rfl rfl fg_11_92 sh_0 (Or.inl rfl) fun hN2 => E_iload_n (n := 66) 32 rfl rfl rfl 1 rfl <| E_cV1r (n := 69) 33 rfl rfl co_11_227 rfl hN2 rfl (K_PH_haySquare m (gN m 13) x2 hN2 _ hq4) <| E_cV1v (n := 72) 34 rfl rfl co_11_274 rfl sh_17 rfl (K_PC_addEnd m v3 _ hq6) <| E_iinc (v := (x2 + 1)) (lv' := [(0, .ref 0), (2, .int (x2 + 1))]) (n := 75) 35 rfl rfl 1 rfl (by rw [icz_1]) (Nat.le_of_ble_eq_true rfl) [1, 0] rfl <| E_goto (t := 46) 36 rfl rfl <| ?_
      exact ih m5 (x2 + 1) h
theorem K_OH_stiles (m : Mem) (x1 : Int32) (R : Int32 × Mem) (h : OH_stiles m x1 = some R) : Mt M_OH_stiles [.ref 0, .int x1] m (qI R.1 R.2) := by
  refine Mt.of G_OH_stiles (Nat.le_of_ble_eq_true rfl) (E_sub (lv' := [(0, .ref 0), (1, .int x1)]) [0, 1] rfl ?_)
  unfold OH_stiles at h
  refine E_aload_n (n := 1) 0 rfl rfl rfl 0 rfl <| E_gN (n := 4) 1 rfl rfl fg_11_92 sh_0 (Or.inl rfl) fun hN1 => E_iload_n (n := 5) 2 rfl rfl rfl 1 rfl <| E_cV1r (n := 8) 3 rfl rfl co_11_173 rfl hN1 rfl (K_PH_hasLine m (gN m 13) x1 hN1 _ rfl) <| E_if_eq (n := 11) (t := 23) 4 rfl rfl rfl (fun hc => ?_) (fun hc => ?_)
  · have h := ifp h hc
    refine E_iconst (v := (-1)) (n := 24) 10 rfl rfl icz_m1 <| E_ireturn 11 rfl rfl (eS h)
  · have h := ifn h hc
    refine E_aload_n (n := 12) 5 rfl rfl rfl 0 rfl <| E_gN (n := 15) 6 rfl rfl fg_11_92 sh_0 (Or.inl rfl) fun hN2 => E_gI (n := 18) 7 rfl rfl fg_11_224 hN2 <| E_bipush (v := 6) (n := 20) 8 rfl rfl bpz_6 <| E_icmp_le (n := 23) (t := 25) 9 rfl rfl rfl (fun hc => ?_) (fun hc => ?_)
    · have h := ifp h hc
      obtain ⟨m3, hq4, h⟩ := bM_ex h
      obtain ⟨m6, hq7, h⟩ := bM_ex h
      refine E_aload_n (n := 26) 12 rfl rfl rfl 0 rfl <| E_iload_n (n := 27) 13 rfl rfl rfl 1 rfl <| E_cV1v (n := 30) 14 rfl rfl co_11_236 rfl sh_0 rfl (K_OH_surveyPieces m x1 _ hq4) <| E_aload_n (n := 31) 15 rfl rfl rfl 0 rfl <| E_gF (r := 17) (n := 34) 16 rfl rfl fg_11_36 sh_0 rfl <| E_aload_n (n := 35) 17 rfl rfl rfl 0 rfl <| E_gN (n := 38) 18 rfl rfl fg_11_92 sh_0 (Or.inl rfl) fun hN5 => E_cV0r (n := 41) 19 rfl rfl co_11_264 rfl hN5 rfl (K_PH_churchSquare m3 (gN m3 13) hN5 _ rfl) <| E_cV1v (n := 44) 20 rfl rfl co_11_271 rfl sh_17 rfl (K_PC_beginOpenings m3 (PH_churchSquare m3 (gN m3 13)) _ hq7) <| E_iconst (v := 0) (n := 45) 21 rfl rfl icz_0 <| E_istore_n (lv' := [(0, .ref 0), (1, .int x1), (2, .int 0)]) (n := 46) 22 rfl rfl rfl (Nat.le_of_ble_eq_true rfl) [1, 2, 0] rfl <| ?_
      refine E_sub (lv' := [(0, .ref 0), (2, .int 0)]) [0, 2] rfl ?_
      refine OH_stiles_L46_ok _ R ?_ FU m6 0 h
      intro m8 h
      obtain ⟨v9, m10, hq11, h⟩ := bV_ex h
      refine E_aload_n (n := 79) 37 rfl rfl rfl 0 rfl <| E_gF (r := 17) (n := 82) 38 rfl rfl fg_11_36 sh_0 rfl <| E_cV0r (n := 85) 39 rfl rfl co_11_277 rfl sh_17 rfl (K_PC_fewestOpenings m8 _ hq11) <| E_ireturn 40 rfl rfl (eS h)
    · have h := ifn h hc
      refine E_iconst (v := (-1)) (n := 24) 10 rfl rfl icz_m1 <| E_ireturn 11 rfl rfl (eS h)
theorem K_LN_mayStandAt (m : Mem) (x0 : Nat) (x1 : Int32) (x2 : Int32) (x3 : Int32) (h_x0 : shp x0 = (2, 0)) (R : Int32) (h : LN_mayStandAt m x0 x1 x2 x3 = some R) : Mt M_LN_mayStandAt [.ref x0, .int x1, .int x2, .int x3] m (qI R m) := by
  refine Mt.of G_LN_mayStandAt (Nat.le_of_ble_eq_true rfl) (E_sub (lv' := [(0, .ref x0), (1, .int x1), (2, .int x2), (3, .int x3)]) [0, 1, 2, 3] rfl ?_)
  unfold LN_mayStandAt at h
  obtain ⟨v1, hq2, h⟩ := bI_ex h
  refine E_aload_n (n := 1) 0 rfl rfl rfl 0 rfl <| E_aload_n (n := 2) 1 rfl rfl rfl 0 rfl <| E_iload_n (n := 3) 2 rfl rfl rfl 1 rfl <| E_cV1r (n := 6) 3 rfl rfl co_2_32 rfl h_x0 rfl (K_LN_before m x0 x1 h_x0 _ rfl) <| E_iload_n (n := 7) 4 rfl rfl rfl 2 rfl <| E_iload_n (n := 8) 5 rfl rfl rfl 3 rfl <| E_cV3r (n := 11) 6 rfl rfl co_2_36 rfl h_x0 rfl (K_LN_isAt m x0 (LN_before m x0 x1) x2 x3 h_x0 _ hq2) <| E_if_ne (n := 14) (t := 32) 7 rfl rfl rfl (fun hc => ?_) (fun hc => ?_)
  · have h := ifn h hc
    refine E_iconst (v := 0) (n := 33) 18 rfl rfl icz_0 <| ?_
    refine E_zreturn 19 rfl rfl z0 (eP h)
  · have h := ifp h hc
    obtain ⟨v3, hq4, h⟩ := bI_ex h
    refine E_aload_n (n := 15) 8 rfl rfl rfl 0 rfl <| E_aload_n (n := 16) 9 rfl rfl rfl 0 rfl <| E_iload_n (n := 17) 10 rfl rfl rfl 1 rfl <| E_cV1r (n := 20) 11 rfl rfl co_2_40 rfl h_x0 rfl (K_LN_after m x0 x1 h_x0 _ rfl) <| E_iload_n (n := 21) 12 rfl rfl rfl 2 rfl <| E_iload_n (n := 22) 13 rfl rfl rfl 3 rfl <| E_cV3r (n := 25) 14 rfl rfl co_2_36 rfl h_x0 rfl (K_LN_isAt m x0 (LN_after m x0 x1) x2 x3 h_x0 _ hq4) <| E_if_ne (n := 28) (t := 32) 15 rfl rfl rfl (fun hc => ?_) (fun hc => ?_)
    · have h := ifn h hc
      refine E_iconst (v := 0) (n := 33) 18 rfl rfl icz_0 <| ?_
      refine E_zreturn 19 rfl rfl z0 (eP h)
    · have h := ifp h hc
      refine E_iconst (v := 1) (n := 29) 16 rfl rfl icz_1 <| E_goto (t := 33) 17 rfl rfl <| ?_
      refine E_zreturn 19 rfl rfl z1 (eP h)
theorem K_OH_canMove (m : Mem) (x1 : Int32) (x2 : Int32) (x3 : Int32) (x4 : Int32) (R : Int32) (h : OH_canMove m x1 x2 x3 x4 = some R) : Mt M_OH_canMove [.ref 0, .int x1, .int x2, .int x3, .int x4] m (qI R m) := by
  refine Mt.of G_OH_canMove (Nat.le_of_ble_eq_true rfl) (E_sub (lv' := [(0, .ref 0), (1, .int x1), (2, .int x2), (3, .int x3), (4, .int x4)]) [0, 1, 2, 3, 4] rfl ?_)
  unfold OH_canMove at h
  obtain ⟨v2, hq3, h⟩ := bI_ex h
  refine E_aload_n (n := 1) 0 rfl rfl rfl 0 rfl <| E_gN (n := 4) 1 rfl rfl fg_11_92 sh_0 (Or.inl rfl) fun hN1 => E_iload_n (n := 5) 2 rfl rfl rfl 1 rfl <| E_iload_n (n := 6) 3 rfl rfl rfl 2 rfl <| E_cV2r (n := 9) 4 rfl rfl co_11_127 rfl hN1 rfl (K_PH_hasCorner m (gN m 13) x1 x2 hN1 _ hq3) <| E_if_eq (n := 12) (t := 63) 5 rfl rfl rfl (fun hc => ?_) (fun hc => ?_)
  · have h := ifp h hc
    refine E_iconst (v := 0) (n := 64) 32 rfl rfl icz_0 <| ?_
    refine E_zreturn 33 rfl rfl z0 (eP h)
  · have h := ifn h hc
    refine E_iload_n (n := 13) 6 rfl rfl rfl 3 rfl <| E_iload (n := 15) 7 rfl rfl 4 rfl <| E_dS2r (n := 18) 8 rfl rfl co_11_189 rfl rfl (K_OH_isPoint m x3 x4 _ rfl) <| E_if_eq (n := 21) (t := 63) 9 rfl rfl rfl (fun hc => ?_) (fun hc => ?_)
    · have h := ifp h hc
      refine E_iconst (v := 0) (n := 64) 32 rfl rfl icz_0 <| ?_
      refine E_zreturn 33 rfl rfl z0 (eP h)
    · have h := ifn h hc
      obtain ⟨hc5, h⟩ := ift h
      obtain ⟨v6, hq7, h⟩ := bI_ex h
      refine E_aload_n (n := 22) 10 rfl rfl rfl 0 rfl <| E_gN (n := 25) 11 rfl rfl fg_11_92 sh_0 (Or.inl rfl) fun hN4 => E_gF (r := ((gN m 13) + 1)) (n := 28) 12 rfl rfl fg_11_138 hN4 rfl <| E_iload_n (n := 29) 13 rfl rfl rfl 1 rfl <| E_aL (r := ((gN m 13) + 2 + 3 * ixn x1)) (n := 30) 14 rfl rfl (shc_5_0 hN4) hc5 rfl <| E_iload_n (n := 31) 15 rfl rfl rfl 2 rfl <| E_iload_n (n := 32) 16 rfl rfl rfl 3 rfl <| E_iload (n := 34) 17 rfl rfl 4 rfl <| E_cV3r (n := 37) 18 rfl rfl co_11_364 rfl (shln hN4 hc5) rfl (K_LN_isAt m ((gN m 13) + 2 + 3 * ixn x1) x2 x3 x4 (shln hN4 hc5) _ hq7) <| E_if_ne (n := 40) (t := 63) 19 rfl rfl rfl (fun hc => ?_) (fun hc => ?_)
      · have h := ifn h hc
        refine E_iconst (v := 0) (n := 64) 32 rfl rfl icz_0 <| ?_
        refine E_zreturn 33 rfl rfl z0 (eP h)
      · have h := ifp h hc
        obtain ⟨v9, hq10, h⟩ := bI_ex h
        refine E_aload_n (n := 41) 20 rfl rfl rfl 0 rfl <| E_gN (n := 44) 21 rfl rfl fg_11_92 sh_0 (Or.inl rfl) fun hN8 => E_gF (r := ((gN m 13) + 1)) (n := 47) 22 rfl rfl fg_11_138 hN8 rfl <| E_iload_n (n := 48) 23 rfl rfl rfl 1 rfl <| E_aL (r := ((gN m 13) + 2 + 3 * ixn x1)) (n := 49) 24 rfl rfl (shc_5_0 hN8) hc5 rfl <| E_iload_n (n := 50) 25 rfl rfl rfl 2 rfl <| E_iload_n (n := 51) 26 rfl rfl rfl 3 rfl <| E_iload (n := 53) 27 rfl rfl 4 rfl <| E_cV3r (n := 56) 28 rfl rfl co_11_368 rfl (shln hN8 hc5) rfl (K_LN_mayStandAt m ((gN m 13) + 2 + 3 * ixn x1) x2 x3 x4 (shln hN8 hc5) _ hq10) <| E_if_eq (n := 59) (t := 63) 29 rfl rfl rfl (fun hc => ?_) (fun hc => ?_)
        · have h := ifp h hc
          refine E_iconst (v := 0) (n := 64) 32 rfl rfl icz_0 <| ?_
          refine E_zreturn 33 rfl rfl z0 (eP h)
        · have h := ifn h hc
          refine E_iconst (v := 1) (n := 60) 30 rfl rfl icz_1 <| E_goto (t := 64) 31 rfl rfl <| ?_
          refine E_zreturn 33 rfl rfl z1 (eP h)

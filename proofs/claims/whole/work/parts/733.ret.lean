/-! corner, hay, round where they answer -/
theorem fg_11_164 : FG "OddHay" 164 5 1 5 11 := ⟨⟨RX5, TX5, 15, tyX5, rfl, by decide, inwX5, tyX5_ok, nmX5, tw_496⟩, rfl⟩
theorem fg_11_167 : FG "OddHay" 167 5 2 5 12 := ⟨⟨RX5, TX5, 15, tyX5, rfl, by decide, inwX5, tyX5_ok, nmX5, tw_498⟩, rfl⟩
theorem co_11_148 : COV "OddHay" 148 M_LN_before 2 1 := ⟨G_LN_before, tw_1464, tw_1148, tw_1149, ⟨_, rfl, rfl⟩, by decide +kernel⟩
theorem co_11_151 : COV "OddHay" 151 M_LN_after 2 1 := ⟨G_LN_after, tw_1465, tw_819, tw_820, ⟨_, rfl, rfl⟩, by decide +kernel⟩
theorem co_11_154 : COV "OddHay" 154 M_LN_bend 2 3 := ⟨G_LN_bend, tw_1466, tw_831, tw_832, ⟨_, rfl, rfl⟩, by decide +kernel⟩
theorem co_11_197 : COV "OddHay" 197 M_LN_timesRound 2 2 := ⟨G_LN_timesRound, tw_1483, tw_864, tw_865, ⟨_, rfl, rfl⟩, by decide +kernel⟩
theorem nle2 {z : Int32} (h : ¬ z ≤ 2) : 2 < z := Int32.not_le.mp h
theorem le2n {z : Int32} (h : z ≤ 2) : ¬ 2 < z := Int32.not_lt.mpr h
theorem R_OH_corner (m : Mem) (x1 x2 x3 v : Int32) (h : OX_corner m x1 x2 x3 = some (some v)) : Mt M_OH_corner [.ref 0, .int x1, .int x2, .int x3] m (qI v m) := by
  refine Mt.of G_OH_corner (Nat.le_of_ble_eq_true rfl) (E_sub (lv' := [(0, .ref 0), (1, .int x1), (2, .int x2), (3, .int x3)]) [0, 1, 2, 3] rfl ?_)
  unfold OX_corner at h
  obtain ⟨v1, hq1, h⟩ := bI_ex h
  refine E_aload_n (n := 1) 0 rfl rfl rfl 0 rfl <| E_gN (n := 4) 1 rfl rfl fg_11_92 sh_0 (Or.inl rfl) fun hN1 => E_iload_n (n := 5) 2 rfl rfl rfl 1 rfl <| E_iload_n (n := 6) 3 rfl rfl rfl 2 rfl <| E_cV2r (n := 9) 4 rfl rfl co_11_127 rfl hN1 rfl (K_PH_hasCorner m (gN m 13) x1 x2 hN1 _ hq1) <| E_if_eq (n := 12) (t := 21) 5 rfl rfl rfl (fun hc => ?_) (fun hc => ?_)
  · rw [if_pos hc] at h; cases h
  · rw [if_neg hc] at h
    refine E_iload_n (n := 13) 6 rfl rfl rfl 3 rfl <| E_if_lt (n := 16) (t := 21) 7 rfl rfl rfl (fun hc => ?_) (fun hc => ?_)
    · rw [if_pos hc] at h; cases h
    · rw [if_neg hc] at h
      refine E_iload_n (n := 17) 8 rfl rfl rfl 3 rfl <| E_iconst (v := 2) (n := 18) 9 rfl rfl (by decide) <| E_icmp_le (n := 21) (t := 31) 10 rfl rfl rfl (fun hc => ?_) (fun hc => ?_)
      · rw [if_neg (le2n hc)] at h
        by_cases hb : inb x1 3
        · rw [if_pos hb] at h
          refine E_aload_n (n := 32) 16 rfl rfl rfl 0 rfl <| E_gN (n := 35) 17 rfl rfl fg_11_92 sh_0 (Or.inl rfl) fun hN2 => E_gF (r := (gN m 13 + 1)) (n := 38) 18 rfl rfl fg_11_138 hN2 rfl <| E_iload_n (n := 39) 19 rfl rfl rfl 1 rfl <| E_aL (r := (gN m 13 + 2 + 3 * ixn x1)) (n := 40) 20 rfl rfl (shc_5_0 hN2) hb rfl <| E_astore (lv' := [(0, .ref 0), (1, .int x1), (2, .int x2), (3, .int x3), (4, .ref (gN m 13 + 2 + 3 * ixn x1))]) (n := 42) 21 rfl rfl (Nat.le_of_ble_eq_true rfl) [1, 2, 3, 4, 0] rfl <| E_iload_n (n := 43) 22 rfl rfl rfl 3 rfl <| E_if_ne (n := 46) (t := 54) 23 rfl rfl rfl (fun hc => ?_) (fun hc => ?_)
          · rw [if_neg hc] at h
            refine E_iload_n (n := 55) 29 rfl rfl rfl 3 rfl <| E_iconst (v := 1) (n := 56) 30 rfl rfl (by decide) <| E_icmp_ne (n := 59) (t := 69) 31 rfl rfl rfl (fun hc => ?_) (fun hc => ?_)
            · rw [if_neg hc] at h
              obtain ⟨v2, hq2, h⟩ := bI_ex h
              cases h
              refine E_aload (n := 71) 37 rfl rfl 4 rfl <| E_aload (n := 73) 38 rfl rfl 4 rfl <| E_iload_n (n := 74) 39 rfl rfl rfl 2 rfl <| E_cV1r (n := 77) 40 rfl rfl co_11_148 rfl (shln hN2 hb) rfl (K_LN_before m (gN m 13 + 2 + 3 * ixn x1) x2 (shln hN2 hb) _ rfl) <| E_iload_n (n := 78) 41 rfl rfl rfl 2 rfl <| E_aload (n := 80) 42 rfl rfl 4 rfl <| E_iload_n (n := 81) 43 rfl rfl rfl 2 rfl <| E_cV1r (n := 84) 44 rfl rfl co_11_151 rfl (shln hN2 hb) rfl (K_LN_after m (gN m 13 + 2 + 3 * ixn x1) x2 (shln hN2 hb) _ rfl) <| E_cV3r (n := 87) 45 rfl rfl co_11_154 rfl (shln hN2 hb) rfl (K_LN_bend m (gN m 13 + 2 + 3 * ixn x1) _ x2 _ (shln hN2 hb) _ hq2) <| E_ireturn 46 rfl rfl ⟨rfl, rfl⟩
            · rw [if_pos hc] at h
              by_cases hb2 : inb x2 12
              · rw [if_pos hb2] at h
                cases h
                refine E_aload (n := 61) 32 rfl rfl 4 rfl <| E_gF (r := (gN m 13 + 2 + 3 * ixn x1 + 2)) (n := 64) 33 rfl rfl fg_11_145 (shln hN2 hb) rfl <| E_iload_n (n := 65) 34 rfl rfl rfl 2 rfl <| E_iald (n := 66) 35 rfl rfl (shc_2_3 (shln hN2 hb)) hb2 <| E_goto (t := 87) 36 rfl rfl <| E_ireturn 46 rfl rfl ⟨rfl, rfl⟩
              · rw [if_neg hb2] at h; cases h
          · rw [if_pos hc] at h
            by_cases hb2 : inb x2 12
            · rw [if_pos hb2] at h
              cases h
              refine E_aload (n := 48) 24 rfl rfl 4 rfl <| E_gF (r := (gN m 13 + 2 + 3 * ixn x1 + 1)) (n := 51) 25 rfl rfl fg_11_142 (shln hN2 hb) rfl <| E_iload_n (n := 52) 26 rfl rfl rfl 2 rfl <| E_iald (n := 53) 27 rfl rfl (shc_2_2 (shln hN2 hb)) hb2 <| E_ireturn 28 rfl rfl ⟨rfl, rfl⟩
            · rw [if_neg hb2] at h; cases h
        · rw [if_neg hb] at h; cases h
      · rw [if_pos (nle2 hc)] at h; cases h
theorem R_OH_hay (m : Mem) (x1 x2 v : Int32) (h : OX_hay m x1 x2 = some (some v)) : Mt M_OH_hay [.ref 0, .int x1, .int x2] m (qI v m) := by
  refine Mt.of G_OH_hay (Nat.le_of_ble_eq_true rfl) (E_sub (lv' := [(0, .ref 0), (1, .int x1), (2, .int x2)]) [0, 1, 2] rfl ?_)
  unfold OX_hay at h
  refine E_aload_n (n := 1) 0 rfl rfl rfl 0 rfl <| E_gN (n := 4) 1 rfl rfl fg_11_92 sh_0 (Or.inl rfl) fun hN1 => E_iload_n (n := 5) 2 rfl rfl rfl 1 rfl <| E_cV1r (n := 8) 3 rfl rfl co_11_158 rfl hN1 rfl (K_PH_hasHay m (gN m 13) x1 hN1 _ rfl) <| E_if_eq (n := 11) (t := 20) 4 rfl rfl rfl (fun hc => ?_) (fun hc => ?_)
  · rw [if_pos hc] at h; cases h
  · rw [if_neg hc] at h
    refine E_iload_n (n := 12) 5 rfl rfl rfl 2 rfl <| E_if_lt (n := 15) (t := 20) 6 rfl rfl rfl (fun hc => ?_) (fun hc => ?_)
    · rw [if_pos hc] at h; cases h
    · rw [if_neg hc] at h
      refine E_iload_n (n := 16) 7 rfl rfl rfl 2 rfl <| E_iconst (v := 2) (n := 17) 8 rfl rfl (by decide) <| E_icmp_le (n := 20) (t := 30) 9 rfl rfl rfl (fun hc => ?_) (fun hc => ?_)
      · rw [if_neg (le2n hc)] at h
        refine E_iload_n (n := 31) 15 rfl rfl rfl 2 rfl <| E_if_ne (n := 34) (t := 44) 16 rfl rfl rfl (fun hc => ?_) (fun hc => ?_)
        · rw [if_neg hc] at h
          refine E_iload_n (n := 45) 23 rfl rfl rfl 2 rfl <| E_iconst (v := 1) (n := 46) 24 rfl rfl (by decide) <| E_icmp_ne (n := 49) (t := 61) 25 rfl rfl rfl (fun hc => ?_) (fun hc => ?_)
          · rw [if_neg hc] at h
            by_cases hb : inb x1 10
            · rw [if_pos hb] at h
              cases h
              refine E_aload_n (n := 62) 32 rfl rfl rfl 0 rfl <| E_gN (n := 65) 33 rfl rfl fg_11_92 sh_0 (Or.inl rfl) fun hN2 => E_gF (r := (gN m 13 + 13)) (n := 68) 34 rfl rfl fg_11_170 hN2 rfl <| E_iload_n (n := 69) 35 rfl rfl rfl 1 rfl <| E_iald (n := 70) 36 rfl rfl (shc_5_3 hN2) hb <| E_ireturn 37 rfl rfl ⟨rfl, rfl⟩
            · rw [if_neg hb] at h; cases h
          · rw [if_pos hc] at h
            by_cases hb : inb x1 10
            · rw [if_pos hb] at h
              cases h
              refine E_aload_n (n := 50) 26 rfl rfl rfl 0 rfl <| E_gN (n := 53) 27 rfl rfl fg_11_92 sh_0 (Or.inl rfl) fun hN2 => E_gF (r := (gN m 13 + 12)) (n := 56) 28 rfl rfl fg_11_167 hN2 rfl <| E_iload_n (n := 57) 29 rfl rfl rfl 1 rfl <| E_iald (n := 58) 30 rfl rfl (shc_5_2 hN2) hb <| E_goto (t := 70) 31 rfl rfl <| E_ireturn 37 rfl rfl ⟨rfl, rfl⟩
            · rw [if_neg hb] at h; cases h
        · rw [if_pos hc] at h
          by_cases hb : inb x1 10
          · rw [if_pos hb] at h
            cases h
            refine E_aload_n (n := 35) 17 rfl rfl rfl 0 rfl <| E_gN (n := 38) 18 rfl rfl fg_11_92 sh_0 (Or.inl rfl) fun hN2 => E_gF (r := (gN m 13 + 11)) (n := 41) 19 rfl rfl fg_11_164 hN2 rfl <| E_iload_n (n := 42) 20 rfl rfl rfl 1 rfl <| E_iald (n := 43) 21 rfl rfl (shc_5_1 hN2) hb <| E_ireturn 22 rfl rfl ⟨rfl, rfl⟩
          · rw [if_neg hb] at h; cases h
      · rw [if_pos (nle2 hc)] at h; cases h
theorem R_OH_round (m : Mem) (x1 x2 x3 v : Int32) (h : OX_round m x1 x2 x3 = some (some v)) : Mt M_OH_round [.ref 0, .int x1, .int x2, .int x3] m (qI v m) := by
  refine Mt.of G_OH_round (Nat.le_of_ble_eq_true rfl) (E_sub (lv' := [(0, .ref 0), (1, .int x1), (2, .int x2), (3, .int x3)]) [0, 1, 2, 3] rfl ?_)
  unfold OX_round at h
  refine E_aload_n (n := 1) 0 rfl rfl rfl 0 rfl <| E_gN (n := 4) 1 rfl rfl fg_11_92 sh_0 (Or.inl rfl) fun hN1 => E_iload_n (n := 5) 2 rfl rfl rfl 1 rfl <| E_cV1r (n := 8) 3 rfl rfl co_11_173 rfl hN1 rfl (K_PH_hasLine m (gN m 13) x1 hN1 _ rfl) <| E_if_eq (n := 11) (t := 19) 4 rfl rfl rfl (fun hc => ?_) (fun hc => ?_)
  · rw [if_pos hc] at h; cases h
  · rw [if_neg hc] at h
    refine E_iload_n (n := 12) 5 rfl rfl rfl 2 rfl <| E_iload_n (n := 13) 6 rfl rfl rfl 3 rfl <| E_dS2r (n := 16) 7 rfl rfl co_11_189 rfl rfl (K_OH_isPoint m x2 x3 _ rfl) <| E_if_ne (n := 19) (t := 29) 8 rfl rfl rfl (fun hc => ?_) (fun hc => ?_)
    · rw [if_neg hc] at h
      by_cases hb : inb x1 3
      · rw [if_pos hb] at h
        obtain ⟨v2, hq2, h⟩ := bI_ex h
        refine E_aload_n (n := 30) 14 rfl rfl rfl 0 rfl <| E_gN (n := 33) 15 rfl rfl fg_11_92 sh_0 (Or.inl rfl) fun hN2 => E_gF (r := (gN m 13 + 1)) (n := 36) 16 rfl rfl fg_11_138 hN2 rfl <| E_iload_n (n := 37) 17 rfl rfl rfl 1 rfl <| E_aL (r := (gN m 13 + 2 + 3 * ixn x1)) (n := 38) 18 rfl rfl (shc_5_0 hN2) hb rfl <| E_iload_n (n := 39) 19 rfl rfl rfl 2 rfl <| E_iload_n (n := 40) 20 rfl rfl rfl 3 rfl <| E_cV2r (n := 43) 21 rfl rfl co_11_197 rfl (shln hN2 hb) rfl (K_LN_timesRound m (gN m 13 + 2 + 3 * ixn x1) x2 x3 (shln hN2 hb) _ hq2) <| E_istore (lv' := [(0, .ref 0), (1, .int x1), (2, .int x2), (3, .int x3), (4, .int v2)]) (n := 45) 22 rfl rfl (Nat.le_of_ble_eq_true rfl) [1, 2, 3, 4, 0] rfl <| E_iload (n := 47) 23 rfl rfl 4 rfl <| E_sipush (v := 1000) (n := 50) 24 rfl rfl spz_1000 <| E_icmp_ne (n := 53) (t := 63) 25 rfl rfl rfl (fun hc => ?_) (fun hc => ?_)
        · rw [if_neg hc] at h
          cases h
          exact E_iload (n := 65) 31 rfl rfl 4 rfl <| E_ireturn 32 rfl rfl ⟨rfl, rfl⟩
        · rw [if_pos hc] at h; cases h
      · rw [if_neg hb] at h; cases h
    · rw [if_pos hc] at h; cases h

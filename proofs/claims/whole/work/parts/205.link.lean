theorem NI_seePlaces_J39_ok (kr : Mem → Int32 → Option Mem) (kx : Mem → Option Mem) (m : Mem) (x1 : Int32) (x2 : Int32) (x3 : Int32) (x4 : Int32) (s0 : Int32) (R : Mem) (hr : ∀ (m : Mem) (x4 : Int32), kr m x4 = some R → E M_NI_seePlaces 19 [(0, .ref 40), (1, .int x1), (2, .int x2), (3, .int x3), (4, .int x4)] [] m (qV R)) (hx : ∀ (m : Mem), kx m = some R → E M_NI_seePlaces 120 [(0, .ref 40), (1, .int x1), (2, .int x2), (3, .int x3)] [] m (qV R)) (h : NI_seePlaces_J39 kr kx m x1 x2 x3 x4 s0 = some R) : E M_NI_seePlaces 39 [(0, .ref 40), (1, .int x1), (2, .int x2), (3, .int x3), (4, .int x4)] [.int s0] m (qV R) := by
  unfold NI_seePlaces_J39 at h
  refine E_istore (lv' := [(0, .ref 40), (1, .int x1), (2, .int x2), (3, .int x3), (4, .int x4), (5, .int s0)]) (n := 41) 24 rfl rfl (Nat.le_of_ble_eq_true rfl) [1, 2, 3, 4, 5, 0] rfl <| E_iload (n := 43) 25 rfl rfl 5 rfl <| E_if_eq (n := 46) (t := 114) 26 rfl rfl rfl (fun hc => ?_) (fun hc => ?_)
  · have h := ifp h hc
    refine E_iinc (v := (x4 + 1)) (lv' := [(0, .ref 40), (1, .int x1), (2, .int x2), (3, .int x3), (4, .int (x4 + 1)), (5, .int s0)]) (n := 117) 66 rfl rfl 4 rfl (by rw [icz_1]) (Nat.le_of_ble_eq_true rfl) [1, 2, 3, 4, 0, 5] rfl <| E_goto (t := 19) 67 rfl rfl <| ?_
    refine E_sub (lv' := [(0, .ref 40), (1, .int x1), (2, .int x2), (3, .int x3), (4, .int (x4 + 1))]) [0, 1, 2, 3, 4] rfl ?_
    exact hr m (x4 + 1) h
  · have h := ifn h hc
    obtain ⟨hc1, h⟩ := ift h
    refine E_aload_n (n := 47) 27 rfl rfl rfl 0 rfl <| E_gF (r := 42) (n := 50) 28 rfl rfl fg_3_22 sh_40 rfl <| E_gF (r := 43) (n := 53) 29 rfl rfl fg_3_122 sh_42 rfl <| E_iload_n (n := 54) 30 rfl rfl rfl 1 rfl <| E_iald (n := 55) 31 rfl rfl sh_43 hc1 <| E_iload_n (n := 56) 32 rfl rfl rfl 3 rfl <| E_iadd (n := 57) 33 rfl rfl <| E_aload_n (n := 58) 34 rfl rfl rfl 0 rfl <| E_gF (r := 42) (n := 61) 35 rfl rfl fg_3_22 sh_40 rfl <| E_gF (r := 44) (n := 64) 36 rfl rfl fg_3_125 sh_42 rfl <| E_iload_n (n := 65) 37 rfl rfl rfl 1 rfl <| E_iald (n := 66) 38 rfl rfl sh_44 hc1 <| E_iload (n := 68) 39 rfl rfl 4 rfl <| E_iadd (n := 69) 40 rfl rfl <| E_dN2r (n := 72) 41 rfl rfl co_3_139 rfl rfl (K_OH_isPoint m ((gI m 43 (ixn x1)) + x3) ((gI m 44 (ixn x1)) + x4) _ rfl) <| E_if_eq (n := 75) (t := 114) 42 rfl rfl rfl (fun hc => ?_) (fun hc => ?_)
    · have h := ifp h hc
      refine E_iinc (v := (x4 + 1)) (lv' := [(0, .ref 40), (1, .int x1), (2, .int x2), (3, .int x3), (4, .int (x4 + 1)), (5, .int s0)]) (n := 117) 66 rfl rfl 4 rfl (by rw [icz_1]) (Nat.le_of_ble_eq_true rfl) [1, 2, 3, 4, 0, 5] rfl <| E_goto (t := 19) 67 rfl rfl <| ?_
      refine E_sub (lv' := [(0, .ref 40), (1, .int x1), (2, .int x2), (3, .int x3), (4, .int (x4 + 1))]) [0, 1, 2, 3, 4] rfl ?_
      exact hr m (x4 + 1) h
    · have h := ifn h hc
      refine E_aload_n (n := 76) 43 rfl rfl rfl 0 rfl <| E_gF (r := 48) (n := 79) 44 rfl rfl fg_3_35 sh_40 rfl <| E_iload_n (n := 80) 45 rfl rfl rfl 1 rfl <| E_iald (n := 81) 46 rfl rfl sh_48 hc1 <| E_bipush (v := 48) (n := 83) 47 rfl rfl bpz_48 <| E_icmp_ge (n := 86) (t := 114) 48 rfl rfl rfl (fun hc => ?_) (fun hc => ?_)
      · have h := ifp h hc
        refine E_iinc (v := (x4 + 1)) (lv' := [(0, .ref 40), (1, .int x1), (2, .int x2), (3, .int x3), (4, .int (x4 + 1)), (5, .int s0)]) (n := 117) 66 rfl rfl 4 rfl (by rw [icz_1]) (Nat.le_of_ble_eq_true rfl) [1, 2, 3, 4, 0, 5] rfl <| E_goto (t := 19) 67 rfl rfl <| ?_
        refine E_sub (lv' := [(0, .ref 40), (1, .int x1), (2, .int x2), (3, .int x3), (4, .int (x4 + 1))]) [0, 1, 2, 3, 4] rfl ?_
        exact hr m (x4 + 1) h
      · have h := ifn h hc
        obtain ⟨m2, hq3, h⟩ := bM_ex h
        refine E_aload_n (n := 87) 49 rfl rfl rfl 0 rfl <| E_iload_n (n := 88) 50 rfl rfl rfl 1 rfl <| E_aload_n (n := 89) 51 rfl rfl rfl 0 rfl <| E_gF (r := 42) (n := 92) 52 rfl rfl fg_3_22 sh_40 rfl <| E_gF (r := 43) (n := 95) 53 rfl rfl fg_3_122 sh_42 rfl <| E_iload_n (n := 96) 54 rfl rfl rfl 1 rfl <| E_iald (n := 97) 55 rfl rfl sh_43 hc1 <| E_iload_n (n := 98) 56 rfl rfl rfl 3 rfl <| E_iadd (n := 99) 57 rfl rfl <| E_aload_n (n := 100) 58 rfl rfl rfl 0 rfl <| E_gF (r := 42) (n := 103) 59 rfl rfl fg_3_22 sh_40 rfl <| E_gF (r := 44) (n := 106) 60 rfl rfl fg_3_125 sh_42 rfl <| E_iload_n (n := 107) 61 rfl rfl rfl 1 rfl <| E_iald (n := 108) 62 rfl rfl sh_44 hc1 <| E_iload (n := 110) 63 rfl rfl 4 rfl <| E_iadd (n := 111) 64 rfl rfl <| E_cV3v (n := 114) 65 rfl rfl co_3_143 rfl sh_40 rfl (K_NI_seePlace m x1 ((gI m 43 (ixn x1)) + x3) ((gI m 44 (ixn x1)) + x4) _ hq3) <| ?_
        refine E_iinc (v := (x4 + 1)) (lv' := [(0, .ref 40), (1, .int x1), (2, .int x2), (3, .int x3), (4, .int (x4 + 1)), (5, .int s0)]) (n := 117) 66 rfl rfl 4 rfl (by rw [icz_1]) (Nat.le_of_ble_eq_true rfl) [1, 2, 3, 4, 0, 5] rfl <| E_goto (t := 19) 67 rfl rfl <| ?_
        refine E_sub (lv' := [(0, .ref 40), (1, .int x1), (2, .int x2), (3, .int x3), (4, .int (x4 + 1))]) [0, 1, 2, 3, 4] rfl ?_
        exact hr m2 (x4 + 1) h
theorem NI_seePlaces_L19_ok (x1 : Int32) (x2 : Int32) (x3 : Int32) (kx : Mem → Option Mem) (R : Mem) (hx : ∀ (m : Mem), kx m = some R → E M_NI_seePlaces 120 [(0, .ref 40), (1, .int x1), (2, .int x2), (3, .int x3)] [] m (qV R)) : ∀ (n : Nat) (m : Mem) (x4 : Int32), NI_seePlaces_L19 x1 x2 x3 kx n m x4 = some R → E M_NI_seePlaces 19 [(0, .ref 40), (1, .int x1), (2, .int x2), (3, .int x3), (4, .int x4)] [] m (qV R) := by
  intro n
  induction n with
  | zero =>
    intro m x4 h
    exact absurd (show none = some R from h) (fun e => Option.some_ne_none R e.symm)
  | succ n ih =>
    intro m x4 h
    rw [NI_seePlaces_L19] at h
    refine E_iload (n := 21) 14 rfl rfl 4 rfl <| E_iload_n (n := 22) 15 rfl rfl rfl 2 rfl <| E_icmp_gt (n := 25) (t := 120) 16 rfl rfl rfl (fun hc => ?_) (fun hc => ?_)
    · have h := ifp h hc
      refine E_sub (lv' := [(0, .ref 40), (1, .int x1), (2, .int x2), (3, .int x3)]) [0, 1, 2, 3] rfl ?_
      exact hx m h
    · have h := ifn h hc
      refine E_iload_n (n := 26) 17 rfl rfl rfl 3 rfl <| E_if_ne (n := 29) (t := 34) 18 rfl rfl rfl (fun hc => ?_) (fun hc => ?_)
      · have h := ifn h hc
        refine E_iconst (v := 1) (n := 35) 21 rfl rfl icz_1 <| E_goto (t := 39) 22 rfl rfl <| ?_
        exact NI_seePlaces_J39_ok _ _ m x1 x2 x3 x4 1 _ ih hx h
      · have h := ifp h hc
        refine E_iload (n := 31) 19 rfl rfl 4 rfl <| E_if_eq (n := 34) (t := 38) 20 rfl rfl rfl (fun hc => ?_) (fun hc => ?_)
        · have h := ifp h hc
          refine E_iconst (v := 0) (n := 39) 23 rfl rfl icz_0 <| ?_
          exact NI_seePlaces_J39_ok _ _ m x1 x2 x3 x4 0 _ ih hx h
        · have h := ifn h hc
          refine E_iconst (v := 1) (n := 35) 21 rfl rfl icz_1 <| E_goto (t := 39) 22 rfl rfl <| ?_
          exact NI_seePlaces_J39_ok _ _ m x1 x2 x3 x4 1 _ ih hx h
theorem NI_seePlaces_L10_ok (x1 : Int32) (x2 : Int32) (kx : Mem → Option Mem) (R : Mem) (hx : ∀ (m : Mem), kx m = some R → E M_NI_seePlaces 126 [] [] m (qV R)) : ∀ (n : Nat) (m : Mem) (x3 : Int32), NI_seePlaces_L10 x1 x2 kx n m x3 = some R → E M_NI_seePlaces 10 [(0, .ref 40), (1, .int x1), (2, .int x2), (3, .int x3)] [] m (qV R) := by
  intro n
  induction n with
  | zero =>
    intro m x3 h
    exact absurd (show none = some R from h) (fun e => Option.some_ne_none R e.symm)
  | succ n ih =>
    intro m x3 h
    rw [NI_seePlaces_L10] at h
    refine E_iload_n (n := 11) 8 rfl rfl rfl 3 rfl <| E_iload_n (n := 12) 9 rfl rfl rfl 2 rfl <| E_icmp_gt (n := 15) (t := 126) 10 rfl rfl rfl (fun hc => ?_) (fun hc => ?_)
    · have h := ifp h hc
      refine E_sub (lv' := []) [] rfl ?_
      exact hx m h
    · have h := ifn h hc
      obtain ⟨v1, hv1, h⟩ := letV_ex h
      refine E_iload_n (n := 16) 11 rfl rfl rfl 2 rfl <| E_ineg (n := 17) 12 rfl rfl <| E_top hv1 <| E_istore (lv' := [(0, .ref 40), (1, .int x1), (2, .int x2), (3, .int x3), (4, .int v1)]) (n := 19) 13 rfl rfl (Nat.le_of_ble_eq_true rfl) [1, 2, 3, 4, 0] rfl <| ?_
      refine NI_seePlaces_L19_ok x1 x2 x3 _ R ?_ FU m v1 h
      intro m2 h
      refine E_iinc (v := (x3 + 1)) (lv' := [(0, .ref 40), (1, .int x1), (2, .int x2), (3, .int (x3 + 1))]) (n := 123) 68 rfl rfl 3 rfl (by rw [icz_1]) (Nat.le_of_ble_eq_true rfl) [1, 2, 3, 0] rfl <| E_goto (t := 10) 69 rfl rfl <| ?_
      exact ih m2 (x3 + 1) h
theorem K_NI_seePlaces (m : Mem) (x1 : Int32) (x2 : Int32) (R : Mem) (h : NI_seePlaces m x1 x2 = some R) : Mt M_NI_seePlaces [.ref 40, .int x1, .int x2] m (qV R) := by
  refine Mt.of G_NI_seePlaces (Nat.le_of_ble_eq_true rfl) (E_sub (lv' := [(0, .ref 40), (1, .int x1), (2, .int x2)]) [0, 1, 2] rfl ?_)
  unfold NI_seePlaces at h
  obtain ⟨hc1, h⟩ := ift h
  obtain ⟨m2, hm2, h⟩ := letM_ex h
  obtain ⟨v3, hv3, h⟩ := letV_ex h
  refine E_aload_n (n := 1) 0 rfl rfl rfl 0 rfl <| E_gF (r := 48) (n := 4) 1 rfl rfl fg_3_35 sh_40 rfl <| E_iload_n (n := 5) 2 rfl rfl rfl 1 rfl <| E_iconst (v := 0) (n := 6) 3 rfl rfl icz_0 <| E_iast (n := 7) 4 rfl rfl sh_48 hc1 <| E_mem hm2 <| E_iload_n (n := 8) 5 rfl rfl rfl 2 rfl <| E_ineg (n := 9) 6 rfl rfl <| E_top hv3 <| E_istore_n (lv' := [(0, .ref 40), (1, .int x1), (2, .int x2), (3, .int v3)]) (n := 10) 7 rfl rfl rfl (Nat.le_of_ble_eq_true rfl) [1, 2, 3, 0] rfl <| ?_
  refine NI_seePlaces_L10_ok x1 x2 _ R ?_ FU m2 v3 h
  intro m4 h
  refine E_return 70 rfl rfl (eV h)
theorem NI_sortKind_L60_ok (x1 : Int32) (x2 : Int32) (x3 : Int64) (x5 : Int32) (x6 : Int32) (kx : Mem → Option Mem) (R : Mem) (hx : ∀ (m : Mem), kx m = some R → E M_NI_sortKind 115 [(0, .ref 40), (1, .int x1), (2, .int x2), (3, .long x3), (5, .int x5), (6, .int x6)] [] m (qV R)) : ∀ (n : Nat) (m : Mem) (x7 : Int32), NI_sortKind_L60 x1 x2 x3 x5 x6 kx n m x7 = some R → E M_NI_sortKind 60 [(0, .ref 40), (1, .int x1), (2, .int x2), (3, .long x3), (5, .int x5), (6, .int x6), (7, .int x7)] [] m (qV R) := by
  intro n
  induction n with
  | zero =>
    intro m x7 h
    exact absurd (show none = some R from h) (fun e => Option.some_ne_none R e.symm)
  | succ n ih =>
    intro m x7 h
    rw [NI_sortKind_L60] at h
    refine E_iload (n := 62) 37 rfl rfl 6 rfl <| E_iload (n := 64) 38 rfl rfl 5 rfl <| E_icmp_ge (n := 67) (t := 115) 39 rfl rfl rfl (fun hc => ?_) (fun hc => ?_)
    · have h := ifp h hc
      refine E_sub (lv' := [(0, .ref 40), (1, .int x1), (2, .int x2), (3, .long x3), (5, .int x5), (6, .int x6)]) [0, 1, 2, 3, 4, 5] rfl ?_
      exact hx m h
    · have h := ifn h hc
      obtain ⟨hc1, h⟩ := ift h
      refine E_aload_n (n := 68) 40 rfl rfl rfl 0 rfl <| E_gF (r := 57) (n := 71) 41 rfl rfl fg_3_50 sh_40 rfl <| E_gF (r := 58) (n := 74) 42 rfl rfl fg_3_118 sh_57 rfl <| E_iload (n := 76) 43 rfl rfl 6 rfl <| E_lald (n := 77) 44 rfl rfl sh_58 hc1 <| E_lload_n (n := 78) 45 rfl rfl rfl 3 rfl <| E_lcmp (n := 79) 46 rfl rfl <| E_if_ne (n := 82) (t := 109) 47 rfl rfl rfl (fun hc => ?_) (fun hc => ?_)
      · have h := ifn h hc
        refine E_iinc (v := (x7 + 1)) (lv' := [(0, .ref 40), (1, .int x1), (2, .int x2), (3, .long x3), (5, .int x5), (6, .int x6), (7, .int (x7 + 1))]) (n := 112) 64 rfl rfl 6 rfl (by rw [icz_1]) (Nat.le_of_ble_eq_true rfl) [1, 2, 3, 4, 5, 6, 0] rfl <| E_goto (t := 60) 65 rfl rfl <| ?_
        exact ih m (x7 + 1) h
      · have h := ifp h hc
        refine E_aload_n (n := 83) 48 rfl rfl rfl 0 rfl <| E_gF (r := 57) (n := 86) 49 rfl rfl fg_3_50 sh_40 rfl <| E_gF (r := 59) (n := 89) 50 rfl rfl fg_3_132 sh_57 rfl <| E_iload (n := 91) 51 rfl rfl 6 rfl <| E_iald (n := 92) 52 rfl rfl sh_59 hc1 <| E_iload (n := 94) 53 rfl rfl 4 rfl <| E_icmp_ne (n := 97) (t := 109) 54 rfl rfl rfl (fun hc => ?_) (fun hc => ?_)
        · have h := ifn h hc
          refine E_iinc (v := (x7 + 1)) (lv' := [(0, .ref 40), (1, .int x1), (2, .int x2), (3, .long x3), (5, .int x5), (6, .int x6), (7, .int (x7 + 1))]) (n := 112) 64 rfl rfl 6 rfl (by rw [icz_1]) (Nat.le_of_ble_eq_true rfl) [1, 2, 3, 4, 5, 6, 0] rfl <| E_goto (t := 60) 65 rfl rfl <| ?_
          exact ih m (x7 + 1) h
        · have h := ifp h hc
          obtain ⟨m2, hm2, h⟩ := letM_ex h
          refine E_aload_n (n := 98) 55 rfl rfl rfl 0 rfl <| E_gF (r := 61) (n := 101) 56 rfl rfl fg_3_56 sh_40 rfl <| E_iload (n := 103) 57 rfl rfl 6 rfl <| E_dup2 (n := 104) 58 rfl rfl rfl rfl <| E_iald (n := 105) 59 rfl rfl sh_61 hc1 <| E_iconst (v := 1) (n := 106) 60 rfl rfl icz_1 <| E_iadd (n := 107) 61 rfl rfl <| E_iast (n := 108) 62 rfl rfl sh_61 hc1 <| E_mem hm2 <| E_return 63 rfl rfl (eV h)
theorem K_NI_sortKind (m : Mem) (x1 : Int32) (x2 : Int32) (R : Mem) (h : NI_sortKind m x1 x2 = some R) : Mt M_NI_sortKind [.ref 40, .int x1, .int x2] m (qV R) := by
  refine Mt.of G_NI_sortKind (Nat.le_of_ble_eq_true rfl) (E_sub (lv' := [(0, .ref 40), (1, .int x1), (2, .int x2)]) [0, 1, 2] rfl ?_)
  unfold NI_sortKind at h
  obtain ⟨hc1, h⟩ := ift h
  obtain ⟨w2, hw2, h⟩ := letL_ex h
  obtain ⟨v3, hv3, h⟩ := letV_ex h
  obtain ⟨hc4, h⟩ := ift h
  obtain ⟨v5, hv5, h⟩ := letV_ex h
  obtain ⟨v6, hv6, h⟩ := letV_ex h
  refine E_aload_n (n := 1) 0 rfl rfl rfl 0 rfl <| E_gF (r := 51) (n := 4) 1 rfl rfl fg_3_44 sh_40 rfl <| E_gF (r := 52) (n := 7) 2 rfl rfl fg_3_118 sh_51 rfl <| E_iload_n (n := 8) 3 rfl rfl rfl 2 rfl <| E_lald (n := 9) 4 rfl rfl sh_52 hc1 <| E_aload_n (n := 10) 5 rfl rfl rfl 0 rfl <| E_gF (r := 54) (n := 13) 6 rfl rfl fg_3_47 sh_40 rfl <| E_gF (r := 55) (n := 16) 7 rfl rfl fg_3_118 sh_54 rfl <| E_iload_n (n := 17) 8 rfl rfl rfl 2 rfl <| E_lald (n := 18) 9 rfl rfl sh_55 hc1 <| E_ladd (n := 19) 10 rfl rfl <| E_topl hw2 <| E_lstore_n (lv' := [(0, .ref 40), (1, .int x1), (2, .int x2), (3, .long w2)]) (n := 20) 11 rfl rfl rfl (Nat.le_of_ble_eq_true rfl) [1, 2, 3, 0] rfl <| E_aload_n (n := 21) 12 rfl rfl rfl 0 rfl <| E_gF (r := 51) (n := 24) 13 rfl rfl fg_3_44 sh_40 rfl <| E_gF (r := 53) (n := 27) 14 rfl rfl fg_3_132 sh_51 rfl <| E_iload_n (n := 28) 15 rfl rfl rfl 2 rfl <| E_iald (n := 29) 16 rfl rfl sh_53 hc1 <| E_aload_n (n := 30) 17 rfl rfl rfl 0 rfl <| E_gF (r := 54) (n := 33) 18 rfl rfl fg_3_47 sh_40 rfl <| E_gF (r := 56) (n := 36) 19 rfl rfl fg_3_132 sh_54 rfl <| E_iload_n (n := 37) 20 rfl rfl rfl 2 rfl <| E_iald (n := 38) 21 rfl rfl sh_56 hc1 <| E_ior (n := 39) 22 rfl rfl <| E_top hv3 <| E_istore (lv' := [(0, .ref 40), (1, .int x1), (2, .int x2), (3, .long w2), (5, .int v3)]) (n := 41) 23 rfl rfl (Nat.le_of_ble_eq_true rfl) [1, 2, 3, 4, 0] rfl <| E_iload_n (n := 42) 24 rfl rfl rfl 1 rfl <| E_bipush (v := 48) (n := 44) 25 rfl rfl bpz_48 <| E_imul (n := 45) 26 rfl rfl <| E_aload_n (n := 46) 27 rfl rfl rfl 0 rfl <| E_gF (r := 60) (n := 49) 28 rfl rfl fg_3_53 sh_40 rfl <| E_iload_n (n := 50) 29 rfl rfl rfl 1 rfl <| E_iald (n := 51) 30 rfl rfl sh_60 hc4 <| E_iadd (n := 52) 31 rfl rfl <| E_top hv5 <| E_istore (lv' := [(0, .ref 40), (1, .int x1), (2, .int x2), (3, .long w2), (5, .int v3), (6, .int v5)]) (n := 54) 32 rfl rfl (Nat.le_of_ble_eq_true rfl) [1, 2, 3, 4, 5, 0] rfl <| E_iload_n (n := 55) 33 rfl rfl rfl 1 rfl <| E_bipush (v := 48) (n := 57) 34 rfl rfl bpz_48 <| E_imul (n := 58) 35 rfl rfl <| E_top hv6 <| E_istore (lv' := [(0, .ref 40), (1, .int x1), (2, .int x2), (3, .long w2), (5, .int v3), (6, .int v5), (7, .int v6)]) (n := 60) 36 rfl rfl (Nat.le_of_ble_eq_true rfl) [1, 2, 3, 4, 5, 6, 0] rfl <| ?_
  refine NI_sortKind_L60_ok x1 x2 w2 v3 v5 _ R ?_ FU m v6 h
  intro m7 h
  obtain ⟨hc8, h⟩ := ift h
  refine E_aload_n (n := 116) 66 rfl rfl rfl 0 rfl <| E_gF (r := 60) (n := 119) 67 rfl rfl fg_3_53 sh_40 rfl <| E_iload_n (n := 120) 68 rfl rfl rfl 1 rfl <| E_iald (n := 121) 69 rfl rfl sh_60 hc8 <| E_bipush (v := 48) (n := 123) 70 rfl rfl bpz_48 <| E_icmp_ge (n := 126) (t := 175) 71 rfl rfl rfl (fun hc => ?_) (fun hc => ?_)
  · have h := ifp h hc
    refine E_return 102 rfl rfl (eV h)
  · have h := ifn h hc
    obtain ⟨hc9, h⟩ := ift h
    obtain ⟨m10, hm10, h⟩ := letM_ex h
    obtain ⟨m11, hm11, h⟩ := letM_ex h
    obtain ⟨m12, hm12, h⟩ := letM_ex h
    obtain ⟨m13, hm13, h⟩ := letM_ex h
    obtain ⟨m14, hm14, h⟩ := letM_ex h
    refine E_aload_n (n := 127) 72 rfl rfl rfl 0 rfl <| E_gF (r := 57) (n := 130) 73 rfl rfl fg_3_50 sh_40 rfl <| E_gF (r := 58) (n := 133) 74 rfl rfl fg_3_118 sh_57 rfl <| E_iload (n := 135) 75 rfl rfl 5 rfl <| E_lload_n (n := 136) 76 rfl rfl rfl 3 rfl <| E_last (n := 137) 77 rfl rfl sh_58 hc9 <| E_mem hm10 <| E_aload_n (n := 138) 78 rfl rfl rfl 0 rfl <| E_gF (r := 57) (n := 141) 79 rfl rfl fg_3_50 sh_40 rfl <| E_gF (r := 59) (n := 144) 80 rfl rfl fg_3_132 sh_57 rfl <| E_iload (n := 146) 81 rfl rfl 5 rfl <| E_iload (n := 148) 82 rfl rfl 4 rfl <| E_iast (n := 149) 83 rfl rfl sh_59 hc9 <| E_mem hm11 <| E_aload_n (n := 150) 84 rfl rfl rfl 0 rfl <| E_gF (r := 61) (n := 153) 85 rfl rfl fg_3_56 sh_40 rfl <| E_iload (n := 155) 86 rfl rfl 5 rfl <| E_iconst (v := 1) (n := 156) 87 rfl rfl icz_1 <| E_iast (n := 157) 88 rfl rfl sh_61 hc9 <| E_mem hm12 <| E_aload_n (n := 158) 89 rfl rfl rfl 0 rfl <| E_gF (r := 62) (n := 161) 90 rfl rfl fg_3_59 sh_40 rfl <| E_iload (n := 163) 91 rfl rfl 5 rfl <| E_iload_n (n := 164) 92 rfl rfl rfl 2 rfl <| E_iast (n := 165) 93 rfl rfl sh_62 hc9 <| E_mem hm13 <| E_aload_n (n := 166) 94 rfl rfl rfl 0 rfl <| E_gF (r := 60) (n := 169) 95 rfl rfl fg_3_53 sh_40 rfl <| E_iload_n (n := 170) 96 rfl rfl rfl 1 rfl <| E_dup2 (n := 171) 97 rfl rfl rfl rfl <| E_iald (n := 172) 98 rfl rfl sh_60 hc8 <| E_iconst (v := 1) (n := 173) 99 rfl rfl icz_1 <| E_iadd (n := 174) 100 rfl rfl <| E_iast (n := 175) 101 rfl rfl sh_60 hc8 <| E_mem hm14 <| ?_
    refine E_return 102 rfl rfl (eV h)
theorem NI_sortKinds_L9_ok (x1 : Int32) (kx : Mem → Option Mem) (R : Mem) (hx : ∀ (m : Mem), kx m = some R → E M_NI_sortKinds 61 [] [] m (qV R)) : ∀ (n : Nat) (m : Mem) (x2 : Int32), NI_sortKinds_L9 x1 kx n m x2 = some R → E M_NI_sortKinds 9 [(0, .ref 40), (1, .int x1), (2, .int x2)] [] m (qV R) := by
  intro n
  induction n with
  | zero =>
    intro m x2 h
    exact absurd (show none = some R from h) (fun e => Option.some_ne_none R e.symm)
  | succ n ih =>
    intro m x2 h
    rw [NI_sortKinds_L9] at h
    obtain ⟨hc1, h⟩ := ift h
    refine E_iload_n (n := 10) 7 rfl rfl rfl 2 rfl <| E_aload_n (n := 11) 8 rfl rfl rfl 0 rfl <| E_gF (r := 48) (n := 14) 9 rfl rfl fg_3_35 sh_40 rfl <| E_iload_n (n := 15) 10 rfl rfl rfl 1 rfl <| E_iald (n := 16) 11 rfl rfl sh_48 hc1 <| E_icmp_ge (n := 19) (t := 61) 12 rfl rfl rfl (fun hc => ?_) (fun hc => ?_)
    · have h := ifp h hc
      refine E_sub (lv' := []) [] rfl ?_
      exact hx m h
    · have h := ifn h hc
      obtain ⟨v2, hv2, h⟩ := letV_ex h
      obtain ⟨hc3, h⟩ := ift h
      obtain ⟨v4, hq5, h⟩ := bI_ex h
      refine E_iload_n (n := 20) 13 rfl rfl rfl 1 rfl <| E_bipush (v := 48) (n := 22) 14 rfl rfl bpz_48 <| E_imul (n := 23) 15 rfl rfl <| E_iload_n (n := 24) 16 rfl rfl rfl 2 rfl <| E_iadd (n := 25) 17 rfl rfl <| E_top hv2 <| E_istore_n (lv' := [(0, .ref 40), (1, .int x1), (2, .int x2), (3, .int v2)]) (n := 26) 18 rfl rfl rfl (Nat.le_of_ble_eq_true rfl) [1, 2, 3, 0] rfl <| E_aload_n (n := 27) 19 rfl rfl rfl 0 rfl <| E_gF (r := 42) (n := 30) 20 rfl rfl fg_3_22 sh_40 rfl <| E_iload_n (n := 31) 21 rfl rfl rfl 1 rfl <| E_aload_n (n := 32) 22 rfl rfl rfl 0 rfl <| E_gF (r := 49) (n := 35) 23 rfl rfl fg_3_38 sh_40 rfl <| E_iload_n (n := 36) 24 rfl rfl rfl 3 rfl <| E_iald (n := 37) 25 rfl rfl sh_49 hc3 <| E_aload_n (n := 38) 26 rfl rfl rfl 0 rfl <| E_gF (r := 50) (n := 41) 27 rfl rfl fg_3_41 sh_40 rfl <| E_iload_n (n := 42) 28 rfl rfl rfl 3 rfl <| E_iald (n := 43) 29 rfl rfl sh_50 hc3 <| E_cV3r (n := 46) 30 rfl rfl co_3_150 rfl sh_42 rfl (K_LN_mayStandAt m 42 x1 (gI m 49 (ixn v2)) (gI m 50 (ixn v2)) sh_42 _ hq5) <| E_if_eq (n := 49) (t := 55) 31 rfl rfl rfl (fun hc => ?_) (fun hc => ?_)
      · have h := ifp h hc
        refine E_iinc (v := (x2 + 1)) (lv' := [(0, .ref 40), (1, .int x1), (2, .int (x2 + 1)), (3, .int v2)]) (n := 58) 36 rfl rfl 2 rfl (by rw [icz_1]) (Nat.le_of_ble_eq_true rfl) [1, 2, 0, 3] rfl <| E_goto (t := 9) 37 rfl rfl <| ?_
        refine E_sub (lv' := [(0, .ref 40), (1, .int x1), (2, .int (x2 + 1))]) [0, 1, 2] rfl ?_
        exact ih m (x2 + 1) h
      · have h := ifn h hc
        obtain ⟨m6, hq7, h⟩ := bM_ex h
        refine E_aload_n (n := 50) 32 rfl rfl rfl 0 rfl <| E_iload_n (n := 51) 33 rfl rfl rfl 1 rfl <| E_iload_n (n := 52) 34 rfl rfl rfl 3 rfl <| E_cV2v (n := 55) 35 rfl rfl co_3_154 rfl sh_40 rfl (K_NI_sortKind m x1 v2 _ hq7) <| ?_
        refine E_iinc (v := (x2 + 1)) (lv' := [(0, .ref 40), (1, .int x1), (2, .int (x2 + 1)), (3, .int v2)]) (n := 58) 36 rfl rfl 2 rfl (by rw [icz_1]) (Nat.le_of_ble_eq_true rfl) [1, 2, 0, 3] rfl <| E_goto (t := 9) 37 rfl rfl <| ?_
        refine E_sub (lv' := [(0, .ref 40), (1, .int x1), (2, .int (x2 + 1))]) [0, 1, 2] rfl ?_
        exact ih m6 (x2 + 1) h
theorem K_NI_sortKinds (m : Mem) (x1 : Int32) (R : Mem) (h : NI_sortKinds m x1 = some R) : Mt M_NI_sortKinds [.ref 40, .int x1] m (qV R) := by
  refine Mt.of G_NI_sortKinds (Nat.le_of_ble_eq_true rfl) (E_sub (lv' := [(0, .ref 40), (1, .int x1)]) [0, 1] rfl ?_)
  unfold NI_sortKinds at h
  obtain ⟨hc1, h⟩ := ift h
  obtain ⟨m2, hm2, h⟩ := letM_ex h
  refine E_aload_n (n := 1) 0 rfl rfl rfl 0 rfl <| E_gF (r := 60) (n := 4) 1 rfl rfl fg_3_53 sh_40 rfl <| E_iload_n (n := 5) 2 rfl rfl rfl 1 rfl <| E_iconst (v := 0) (n := 6) 3 rfl rfl icz_0 <| E_iast (n := 7) 4 rfl rfl sh_60 hc1 <| E_mem hm2 <| E_iconst (v := 0) (n := 8) 5 rfl rfl icz_0 <| E_istore_n (lv' := [(0, .ref 40), (1, .int x1), (2, .int 0)]) (n := 9) 6 rfl rfl rfl (Nat.le_of_ble_eq_true rfl) [1, 2, 0] rfl <| ?_
  refine NI_sortKinds_L9_ok x1 _ R ?_ FU m2 0 h
  intro m3 h
  refine E_return 38 rfl rfl (eV h)
theorem K_NI_keepFirst (m : Mem) (x1 : Int32) (x2 : Int32) (x3 : Int32) (R : Mem) (h : NI_keepFirst m x1 x2 x3 = some R) : Mt M_NI_keepFirst [.ref 40, .int x1, .int x2, .int x3] m (qV R) := by
  refine Mt.of G_NI_keepFirst (Nat.le_of_ble_eq_true rfl) (E_sub (lv' := [(0, .ref 40), (1, .int x1), (2, .int x2), (3, .int x3)]) [0, 1, 2, 3] rfl ?_)
  unfold NI_keepFirst at h
  obtain ⟨hc1, h⟩ := ift h
  obtain ⟨m2, hm2, h⟩ := letM_ex h
  obtain ⟨hc3, h⟩ := ift h
  obtain ⟨hc4, h⟩ := ift h
  obtain ⟨m5, hm5, h⟩ := letM_ex h
  obtain ⟨hc6, h⟩ := ift h
  obtain ⟨m7, hm7, h⟩ := letM_ex h
  refine E_aload_n (n := 1) 0 rfl rfl rfl 0 rfl <| E_gF (r := 41) (n := 4) 1 rfl rfl fg_3_15 sh_40 rfl <| E_iload_n (n := 5) 2 rfl rfl rfl 1 rfl <| E_iconst (v := 3) (n := 6) 3 rfl rfl icz_3 <| E_imul (n := 7) 4 rfl rfl <| E_iload_n (n := 8) 5 rfl rfl rfl 2 rfl <| E_iast (n := 9) 6 rfl rfl sh_41 hc1 <| E_mem hm2 <| E_aload_n (n := 10) 7 rfl rfl rfl 0 rfl <| E_gF (r := 41) (n := 13) 8 rfl rfl fg_3_15 sh_40 rfl <| E_iload_n (n := 14) 9 rfl rfl rfl 1 rfl <| E_iconst (v := 3) (n := 15) 10 rfl rfl icz_3 <| E_imul (n := 16) 11 rfl rfl <| E_iconst (v := 1) (n := 17) 12 rfl rfl icz_1 <| E_iadd (n := 18) 13 rfl rfl <| E_aload_n (n := 19) 14 rfl rfl rfl 0 rfl <| E_gF (r := 49) (n := 22) 15 rfl rfl fg_3_38 sh_40 rfl <| E_iload_n (n := 23) 16 rfl rfl rfl 3 rfl <| E_iald (n := 24) 17 rfl rfl sh_49 hc3 <| E_iast (n := 25) 18 rfl rfl sh_41 hc4 <| E_mem hm5 <| E_aload_n (n := 26) 19 rfl rfl rfl 0 rfl <| E_gF (r := 41) (n := 29) 20 rfl rfl fg_3_15 sh_40 rfl <| E_iload_n (n := 30) 21 rfl rfl rfl 1 rfl <| E_iconst (v := 3) (n := 31) 22 rfl rfl icz_3 <| E_imul (n := 32) 23 rfl rfl <| E_iconst (v := 2) (n := 33) 24 rfl rfl icz_2 <| E_iadd (n := 34) 25 rfl rfl <| E_aload_n (n := 35) 26 rfl rfl rfl 0 rfl <| E_gF (r := 50) (n := 38) 27 rfl rfl fg_3_41 sh_40 rfl <| E_iload_n (n := 39) 28 rfl rfl rfl 3 rfl <| E_iald (n := 40) 29 rfl rfl sh_50 hc3 <| E_iast (n := 41) 30 rfl rfl sh_41 hc6 <| E_mem hm7 <| E_return 31 rfl rfl (eV h)
theorem NI_tryOne_J85_ok (kr : Mem → Int32 → Option Mem) (kx : Mem → Option Mem) (m : Mem) (x1 : Int32) (x2 : Int32) (x3 : Int32) (R : Mem) (hr : ∀ (m : Mem) (x3 : Int32), kr m x3 = some R → E M_NI_tryOne 23 [(0, .ref 40), (1, .int x1), (2, .int x2), (3, .int x3)] [] m (qV R)) (hx : ∀ (m : Mem), kx m = some R → E M_NI_tryOne 106 [] [] m (qV R)) (h : NI_tryOne_J85 kr kx m x1 x2 x3 = some R) : E M_NI_tryOne 85 [(0, .ref 40), (1, .int x1), (2, .int x2), (3, .int x3)] [] m (qV R) := by
  unfold NI_tryOne_J85 at h
  obtain ⟨hc1, h⟩ := ift h
  obtain ⟨m2, hm2, h⟩ := letM_ex h
  refine E_aload_n (n := 86) 51 rfl rfl rfl 0 rfl <| E_dup (n := 87) 52 rfl rfl rfl <| E_gI (n := 90) 53 rfl rfl fg_3_73 sh_40 <| E_aload_n (n := 91) 54 rfl rfl rfl 0 rfl <| E_gF (r := 61) (n := 94) 55 rfl rfl fg_3_56 sh_40 rfl <| E_iload_n (n := 95) 56 rfl rfl rfl 3 rfl <| E_iald (n := 96) 57 rfl rfl sh_61 hc1 <| E_iadd (n := 97) 58 rfl rfl <| E_pI (n := 100) 59 rfl rfl fp_3_73 sh_40 <| E_mem hm2 <| ?_
  refine E_iinc (v := (x3 + 1)) (lv' := [(0, .ref 40), (1, .int x1), (2, .int x2), (3, .int (x3 + 1))]) (n := 103) 60 rfl rfl 3 rfl (by rw [icz_1]) (Nat.le_of_ble_eq_true rfl) [1, 2, 3, 0] rfl <| E_goto (t := 23) 61 rfl rfl <| ?_
  exact hr m2 (x3 + 1) h
theorem NI_tryOne_L23_ok (x1 : Int32) (x2 : Int32) (kx : Mem → Option Mem) (R : Mem) (hx : ∀ (m : Mem), kx m = some R → E M_NI_tryOne 106 [] [] m (qV R)) : ∀ (n : Nat) (m : Mem) (x3 : Int32), NI_tryOne_L23 x1 x2 kx n m x3 = some R → E M_NI_tryOne 23 [(0, .ref 40), (1, .int x1), (2, .int x2), (3, .int x3)] [] m (qV R) := by
  intro n
  induction n with
  | zero =>
    intro m x3 h
    exact absurd (show none = some R from h) (fun e => Option.some_ne_none R e.symm)
  | succ n ih =>
    intro m x3 h
    rw [NI_tryOne_L23] at h
    refine E_iload_n (n := 24) 17 rfl rfl rfl 3 rfl <| E_iload_n (n := 25) 18 rfl rfl rfl 2 rfl <| E_icmp_ge (n := 28) (t := 106) 19 rfl rfl rfl (fun hc => ?_) (fun hc => ?_)
    · have h := ifp h hc
      refine E_sub (lv' := []) [] rfl ?_
      exact hx m h
    · have h := ifn h hc
      obtain ⟨hc1, h⟩ := ift h
      obtain ⟨v2, hq3, h⟩ := bI_ex h
      refine E_aload_n (n := 29) 20 rfl rfl rfl 0 rfl <| E_gA (n := 32) 21 rfl rfl fg_3_62 sh_40 <| E_aload_n (n := 33) 22 rfl rfl rfl 0 rfl <| E_gJ (n := 36) 23 rfl rfl fg_3_80 sh_40 <| E_aload_n (n := 37) 24 rfl rfl rfl 0 rfl <| E_gF (r := 57) (n := 40) 25 rfl rfl fg_3_50 sh_40 rfl <| E_gF (r := 58) (n := 43) 26 rfl rfl fg_3_118 sh_57 rfl <| E_iload_n (n := 44) 27 rfl rfl rfl 3 rfl <| E_lald (n := 45) 28 rfl rfl sh_58 hc1 <| E_ladd (n := 46) 29 rfl rfl <| E_aload_n (n := 47) 30 rfl rfl rfl 0 rfl <| E_gI (n := 50) 31 rfl rfl fg_3_84 sh_40 <| E_aload_n (n := 51) 32 rfl rfl rfl 0 rfl <| E_gF (r := 57) (n := 54) 33 rfl rfl fg_3_50 sh_40 rfl <| E_gF (r := 59) (n := 57) 34 rfl rfl fg_3_132 sh_57 rfl <| E_iload_n (n := 58) 35 rfl rfl rfl 3 rfl <| E_iald (n := 59) 36 rfl rfl sh_59 hc1 <| E_ior (n := 60) 37 rfl rfl <| E_cV2r (n := 63) 38 rfl rfl co_3_87 rfl sh_36 rfl (K_PT_fit m ((gJ m 40 15) + (gJ m 58 (ixn x3))) ((gI m 40 16) ||| (gI m 59 (ixn x3))) _ hq3) <| E_if_eq (n := 66) (t := 100) 39 rfl rfl rfl (fun hc => ?_) (fun hc => ?_)
      · have h := ifp h hc
        refine E_iinc (v := (x3 + 1)) (lv' := [(0, .ref 40), (1, .int x1), (2, .int x2), (3, .int (x3 + 1))]) (n := 103) 60 rfl rfl 3 rfl (by rw [icz_1]) (Nat.le_of_ble_eq_true rfl) [1, 2, 3, 0] rfl <| E_goto (t := 23) 61 rfl rfl <| ?_
        exact ih m (x3 + 1) h
      · have h := ifn h hc
        refine E_aload_n (n := 67) 40 rfl rfl rfl 0 rfl <| E_gI (n := 70) 41 rfl rfl fg_3_73 sh_40 <| E_if_ne (n := 73) (t := 85) 42 rfl rfl rfl (fun hc => ?_) (fun hc => ?_)
        · have h := ifn h hc
          exact NI_tryOne_J85_ok _ _ m x1 x2 x3 _ ih hx h
        · have h := ifp h hc
          obtain ⟨m4, hq5, h⟩ := bM_ex h
          refine E_aload_n (n := 74) 43 rfl rfl rfl 0 rfl <| E_iconst (v := 0) (n := 75) 44 rfl rfl icz_0 <| E_iload_n (n := 76) 45 rfl rfl rfl 1 rfl <| E_aload_n (n := 77) 46 rfl rfl rfl 0 rfl <| E_gF (r := 62) (n := 80) 47 rfl rfl fg_3_59 sh_40 rfl <| E_iload_n (n := 81) 48 rfl rfl rfl 3 rfl <| E_iald (n := 82) 49 rfl rfl sh_62 hc1 <| E_cV3v (n := 85) 50 rfl rfl co_3_159 rfl sh_40 rfl (K_NI_keepFirst m 0 x1 (gI m 62 (ixn x3)) _ hq5) <| ?_
          exact NI_tryOne_J85_ok _ _ m4 x1 x2 x3 _ ih hx h
theorem K_NI_tryOne (m : Mem) (x1 : Int32) (R : Mem) (h : NI_tryOne m x1 = some R) : Mt M_NI_tryOne [.ref 40, .int x1] m (qV R) := by
  refine Mt.of G_NI_tryOne (Nat.le_of_ble_eq_true rfl) (E_sub (lv' := [(0, .ref 40), (1, .int x1)]) [0, 1] rfl ?_)
  unfold NI_tryOne at h
  obtain ⟨m1, hq2, h⟩ := bM_ex h
  obtain ⟨hc3, h⟩ := ift h
  obtain ⟨v4, hv4, h⟩ := letV_ex h
  obtain ⟨v5, hv5, h⟩ := letV_ex h
  refine E_aload_n (n := 1) 0 rfl rfl rfl 0 rfl <| E_iload_n (n := 2) 1 rfl rfl rfl 1 rfl <| E_iload_n (n := 3) 2 rfl rfl rfl 1 rfl <| E_cV2v (n := 6) 3 rfl rfl co_3_76 rfl sh_40 rfl (K_NI_leaveOut m x1 x1 _ hq2) <| E_iload_n (n := 7) 4 rfl rfl rfl 1 rfl <| E_bipush (v := 48) (n := 9) 5 rfl rfl bpz_48 <| E_imul (n := 10) 6 rfl rfl <| E_aload_n (n := 11) 7 rfl rfl rfl 0 rfl <| E_gF (r := 60) (n := 14) 8 rfl rfl fg_3_53 sh_40 rfl <| E_iload_n (n := 15) 9 rfl rfl rfl 1 rfl <| E_iald (n := 16) 10 rfl rfl sh_60 hc3 <| E_iadd (n := 17) 11 rfl rfl <| E_top hv4 <| E_istore_n (lv' := [(0, .ref 40), (1, .int x1), (2, .int v4)]) (n := 18) 12 rfl rfl rfl (Nat.le_of_ble_eq_true rfl) [1, 2, 0] rfl <| E_iload_n (n := 19) 13 rfl rfl rfl 1 rfl <| E_bipush (v := 48) (n := 21) 14 rfl rfl bpz_48 <| E_imul (n := 22) 15 rfl rfl <| E_top hv5 <| E_istore_n (lv' := [(0, .ref 40), (1, .int x1), (2, .int v4), (3, .int v5)]) (n := 23) 16 rfl rfl rfl (Nat.le_of_ble_eq_true rfl) [1, 2, 3, 0] rfl <| ?_
  refine NI_tryOne_L23_ok x1 v4 _ R ?_ FU m1 v5 h
  intro m6 h
  refine E_return 62 rfl rfl (eV h)
theorem PT_fitWithEdge_J73_ok (kr : Int32 → Option Int32) (kx : Option Int32) (m : Mem) (x1 : Int64) (x3 : Int32) (x4 : Int32) (x5 : Int32) (x6 : Int32) (x7 : Int32) (x8 : Int32) (s1 : Int32) (s2 : Int32) (s3 : Int32) (R : Int32) (hr : ∀ (x8 : Int32), kr x8 = some R → E M_PT_fitWithEdge 3 [(0, .ref 36), (1, .long x1), (3, .int x3), (4, .int x4), (5, .int x5), (6, .int x6), (7, .int x7), (8, .int x8)] [] m (qI R m)) (hx : kx = some R → E M_PT_fitWithEdge 87 [] [] m (qI R m)) (h : PT_fitWithEdge_J73 kr kx m x1 x3 x4 x5 x6 x7 x8 s1 s2 s3 = some R) : E M_PT_fitWithEdge 73 [(0, .ref 36), (1, .long x1), (3, .int x3), (4, .int x4), (5, .int x5), (6, .int x6), (7, .int x7), (8, .int x8)] [.int s3, .int s2, .int s1, .ref 36] m (qI R m) := by
  unfold PT_fitWithEdge_J73 at h
  obtain ⟨v1, hq2, h⟩ := bI_ex h
  refine E_cV3r (n := 76) 39 rfl rfl co_7_45 rfl sh_36 rfl (K_PT_fitOne m s1 s2 s3 _ hq2) <| E_if_ne (n := 79) (t := 81) 40 rfl rfl rfl (fun hc => ?_) (fun hc => ?_)
  · have h := ifn h hc
    refine E_iinc (v := (x8 + 1)) (lv' := [(0, .ref 36), (1, .long x1), (3, .int x3), (4, .int x4), (5, .int x5), (6, .int x6), (7, .int x7), (8, .int (x8 + 1))]) (n := 84) 43 rfl rfl 7 rfl (by rw [icz_1]) (Nat.le_of_ble_eq_true rfl) [1, 2, 3, 4, 5, 6, 7, 0] rfl <| E_goto (t := 3) 44 rfl rfl <| ?_
    exact hr (x8 + 1) h
  · have h := ifp h hc
    refine E_iconst (v := 0) (n := 80) 41 rfl rfl icz_0 <| E_zreturn 42 rfl rfl z0 (eP h)
theorem PT_fitWithEdge_L3_ok (m : Mem) (x1 : Int64) (x3 : Int32) (x4 : Int32) (x5 : Int32) (x6 : Int32) (x7 : Int32) (kx : Option Int32) (R : Int32) (hx : kx = some R → E M_PT_fitWithEdge 87 [] [] m (qI R m)) : ∀ (n : Nat) (x8 : Int32), PT_fitWithEdge_L3 m x1 x3 x4 x5 x6 x7 kx n x8 = some R → E M_PT_fitWithEdge 3 [(0, .ref 36), (1, .long x1), (3, .int x3), (4, .int x4), (5, .int x5), (6, .int x6), (7, .int x7), (8, .int x8)] [] m (qI R m) := by
  intro n
  induction n with
  | zero =>
    intro x8 h
    exact absurd (show none = some R from h) (fun e => Option.some_ne_none R e.symm)
  | succ n ih =>
    intro x8 h
    rw [PT_fitWithEdge_L3] at h
    refine E_iload (n := 5) 2 rfl rfl 7 rfl <| E_aload_n (n := 6) 3 rfl rfl rfl 0 rfl <| E_gI (n := 9) 4 rfl rfl fg_7_21 sh_36 <| E_icmp_ge (n := 12) (t := 87) 5 rfl rfl rfl (fun hc => ?_) (fun hc => ?_)
    · have h := ifp h hc
      refine E_sub (lv' := []) [] rfl ?_
      exact hx h
    · have h := ifn h hc
      obtain ⟨hc1, h⟩ := ift h
      obtain ⟨v2, hv2, h⟩ := letV_ex h
      refine E_iload (n := 14) 6 rfl rfl 3 rfl <| E_iload (n := 16) 7 rfl rfl 4 rfl <| E_iload (n := 18) 8 rfl rfl 5 rfl <| E_iload (n := 20) 9 rfl rfl 6 rfl <| E_aload_n (n := 21) 10 rfl rfl rfl 0 rfl <| E_gF (r := 37) (n := 24) 11 rfl rfl fg_7_11 sh_36 rfl <| E_iload (n := 26) 12 rfl rfl 7 rfl <| E_iald (n := 27) 13 rfl rfl sh_37 hc1 <| E_aload_n (n := 28) 14 rfl rfl rfl 0 rfl <| E_gF (r := 38) (n := 31) 15 rfl rfl fg_7_15 sh_36 rfl <| E_iload (n := 33) 16 rfl rfl 7 rfl <| E_iald (n := 34) 17 rfl rfl sh_38 hc1 <| E_dN6r (n := 37) 18 rfl rfl co_7_37 rfl rfl (K_OH_passes m x4 x5 x6 x7 (gI m 37 (ixn x8)) (gI m 38 (ixn x8)) _ rfl) <| E_top hv2 <| E_istore (lv' := [(0, .ref 36), (1, .long x1), (3, .int x3), (4, .int x4), (5, .int x5), (6, .int x6), (7, .int x7), (8, .int x8), (9, .int v2)]) (n := 39) 19 rfl rfl (Nat.le_of_ble_eq_true rfl) [1, 2, 3, 4, 5, 6, 7, 8, 0] rfl <| E_aload_n (n := 40) 20 rfl rfl rfl 0 rfl <| E_iload (n := 42) 21 rfl rfl 7 rfl <| E_lload_n (n := 43) 22 rfl rfl rfl 1 rfl <| E_iload (n := 45) 23 rfl rfl 7 rfl <| E_dS2r (n := 48) 24 rfl rfl co_7_41 rfl rfl (K_PT_roundOf m x1 x8 _ rfl) <| E_iload (n := 50) 25 rfl rfl 8 rfl <| E_iadd (n := 51) 26 rfl rfl <| E_iload (n := 53) 27 rfl rfl 8 rfl <| E_sipush (v := 1000) (n := 56) 28 rfl rfl spz_1000 <| E_icmp_eq (n := 59) (t := 68) 29 rfl rfl rfl (fun hc => ?_) (fun hc => ?_)
      · have h := ifp h hc
        refine E_iconst (v := 1) (n := 69) 36 rfl rfl icz_1 <| E_goto (t := 73) 37 rfl rfl <| ?_
        refine E_sub (lv' := [(0, .ref 36), (1, .long x1), (3, .int x3), (4, .int x4), (5, .int x5), (6, .int x6), (7, .int x7), (8, .int x8)]) [0, 1, 2, 3, 4, 5, 6, 7] rfl ?_
        exact PT_fitWithEdge_J73_ok _ _ m x1 x3 x4 x5 x6 x7 x8 x8 ((PT_roundOf x1 x8) + v2) 1 _ ih hx h
      · have h := ifn h hc
        refine E_iload_n (n := 60) 30 rfl rfl rfl 2 rfl <| E_iload (n := 62) 31 rfl rfl 7 rfl <| E_jshr (n := 63) 32 rfl rfl <| E_iconst (v := 1) (n := 64) 33 rfl rfl icz_1 <| E_iand (n := 65) 34 rfl rfl <| E_if_eq (n := 68) (t := 72) 35 rfl rfl rfl (fun hc => ?_) (fun hc => ?_)
        · have h := ifp h hc
          refine E_iconst (v := 0) (n := 73) 38 rfl rfl icz_0 <| ?_
          refine E_sub (lv' := [(0, .ref 36), (1, .long x1), (3, .int x3), (4, .int x4), (5, .int x5), (6, .int x6), (7, .int x7), (8, .int x8)]) [0, 1, 2, 3, 4, 5, 6, 7] rfl ?_
          exact PT_fitWithEdge_J73_ok _ _ m x1 x3 x4 x5 x6 x7 x8 x8 ((PT_roundOf x1 x8) + v2) 0 _ ih hx h
        · have h := ifn h hc
          refine E_iconst (v := 1) (n := 69) 36 rfl rfl icz_1 <| E_goto (t := 73) 37 rfl rfl <| ?_
          refine E_sub (lv' := [(0, .ref 36), (1, .long x1), (3, .int x3), (4, .int x4), (5, .int x5), (6, .int x6), (7, .int x7), (8, .int x8)]) [0, 1, 2, 3, 4, 5, 6, 7] rfl ?_
          exact PT_fitWithEdge_J73_ok _ _ m x1 x3 x4 x5 x6 x7 x8 x8 ((PT_roundOf x1 x8) + v2) 1 _ ih hx h
theorem K_PT_fitWithEdge (m : Mem) (x1 : Int64) (x3 : Int32) (x4 : Int32) (x5 : Int32) (x6 : Int32) (x7 : Int32) (R : Int32) (h : PT_fitWithEdge m x1 x3 x4 x5 x6 x7 = some R) : Mt M_PT_fitWithEdge [.ref 36, .long x1, .int x3, .int x4, .int x5, .int x6, .int x7] m (qI R m) := by
  refine Mt.of G_PT_fitWithEdge (Nat.le_of_ble_eq_true rfl) (E_sub (lv' := [(0, .ref 36), (1, .long x1), (3, .int x3), (4, .int x4), (5, .int x5), (6, .int x6), (7, .int x7)]) [0, 1, 2, 3, 4, 5, 6] rfl ?_)
  unfold PT_fitWithEdge at h
  refine E_iconst (v := 0) (n := 1) 0 rfl rfl icz_0 <| E_istore (lv' := [(0, .ref 36), (1, .long x1), (3, .int x3), (4, .int x4), (5, .int x5), (6, .int x6), (7, .int x7), (8, .int 0)]) (n := 3) 1 rfl rfl (Nat.le_of_ble_eq_true rfl) [1, 2, 3, 4, 5, 6, 7, 0] rfl <| ?_
  refine PT_fitWithEdge_L3_ok m x1 x3 x4 x5 x6 x7 _ R ?_ FU 0 h
  intro h
  refine E_iconst (v := 1) (n := 88) 45 rfl rfl icz_1 <| E_zreturn 46 rfl rfl z1 (eP h)
theorem NI_fitBetween_J96_ok (m : Mem) (x2 : Int32) (x4 : Int32) (R : Int32) (h : NI_fitBetween_J96 m x2 x4 = some R) : E M_NI_fitBetween 96 [(0, .ref 40), (2, .int x2), (4, .int x4)] [] m (qI R m) := by
  unfold NI_fitBetween_J96 at h
  obtain ⟨hc1, h⟩ := ift h
  obtain ⟨hc2, h⟩ := ift h
  obtain ⟨w3, hw3, h⟩ := letL_ex h
  obtain ⟨v4, hv4, h⟩ := letV_ex h
  obtain ⟨v5, hq6, h⟩ := bI_ex h
  obtain ⟨hc7, h⟩ := ift h
  refine E_aload_n (n := 97) 52 rfl rfl rfl 0 rfl <| E_gJ (n := 100) 53 rfl rfl fg_3_80 sh_40 <| E_aload_n (n := 101) 54 rfl rfl rfl 0 rfl <| E_gF (r := 51) (n := 104) 55 rfl rfl fg_3_44 sh_40 rfl <| E_gF (r := 52) (n := 107) 56 rfl rfl fg_3_118 sh_51 rfl <| E_iload_n (n := 108) 57 rfl rfl rfl 1 rfl <| E_lald (n := 109) 58 rfl rfl sh_52 hc1 <| E_ladd (n := 110) 59 rfl rfl <| E_aload_n (n := 111) 60 rfl rfl rfl 0 rfl <| E_gF (r := 54) (n := 114) 61 rfl rfl fg_3_47 sh_40 rfl <| E_gF (r := 55) (n := 117) 62 rfl rfl fg_3_118 sh_54 rfl <| E_iload (n := 119) 63 rfl rfl 2 rfl <| E_lald (n := 120) 64 rfl rfl sh_55 hc2 <| E_ladd (n := 121) 65 rfl rfl <| E_topl hw3 <| E_lstore (lv' := [(0, .ref 40), (2, .int x2), (4, .int x4), (5, .long w3)]) (n := 123) 66 rfl rfl (Nat.le_of_ble_eq_true rfl) [1, 2, 3, 0] rfl <| E_aload_n (n := 124) 67 rfl rfl rfl 0 rfl <| E_gI (n := 127) 68 rfl rfl fg_3_84 sh_40 <| E_aload_n (n := 128) 69 rfl rfl rfl 0 rfl <| E_gF (r := 51) (n := 131) 70 rfl rfl fg_3_44 sh_40 rfl <| E_gF (r := 53) (n := 134) 71 rfl rfl fg_3_132 sh_51 rfl <| E_iload_n (n := 135) 72 rfl rfl rfl 1 rfl <| E_iald (n := 136) 73 rfl rfl sh_53 hc1 <| E_ior (n := 137) 74 rfl rfl <| E_aload_n (n := 138) 75 rfl rfl rfl 0 rfl <| E_gF (r := 54) (n := 141) 76 rfl rfl fg_3_47 sh_40 rfl <| E_gF (r := 56) (n := 144) 77 rfl rfl fg_3_132 sh_54 rfl <| E_iload (n := 146) 78 rfl rfl 2 rfl <| E_iald (n := 147) 79 rfl rfl sh_56 hc2 <| E_ior (n := 148) 80 rfl rfl <| E_top hv4 <| E_istore (lv' := [(0, .ref 40), (2, .int x2), (4, .int x4), (5, .long w3), (7, .int v4)]) (n := 150) 81 rfl rfl (Nat.le_of_ble_eq_true rfl) [1, 2, 3, 4, 0] rfl <| E_aload_n (n := 151) 82 rfl rfl rfl 0 rfl <| E_gA (n := 154) 83 rfl rfl fg_3_62 sh_40 <| E_lload (n := 156) 84 rfl rfl 3 rfl <| E_iload (n := 158) 85 rfl rfl 4 rfl <| E_aload_n (n := 159) 86 rfl rfl rfl 0 rfl <| E_gF (r := 49) (n := 162) 87 rfl rfl fg_3_38 sh_40 rfl <| E_iload_n (n := 163) 88 rfl rfl rfl 1 rfl <| E_iald (n := 164) 89 rfl rfl sh_49 hc1 <| E_aload_n (n := 165) 90 rfl rfl rfl 0 rfl <| E_gF (r := 50) (n := 168) 91 rfl rfl fg_3_41 sh_40 rfl <| E_iload_n (n := 169) 92 rfl rfl rfl 1 rfl <| E_iald (n := 170) 93 rfl rfl sh_50 hc1 <| E_aload_n (n := 171) 94 rfl rfl rfl 0 rfl <| E_gF (r := 49) (n := 174) 95 rfl rfl fg_3_38 sh_40 rfl <| E_iload (n := 176) 96 rfl rfl 2 rfl <| E_iald (n := 177) 97 rfl rfl sh_49 hc2 <| E_aload_n (n := 178) 98 rfl rfl rfl 0 rfl <| E_gF (r := 50) (n := 181) 99 rfl rfl fg_3_41 sh_40 rfl <| E_iload (n := 183) 100 rfl rfl 2 rfl <| E_iald (n := 184) 101 rfl rfl sh_50 hc2 <| E_cV6r (n := 187) 102 rfl rfl co_3_179 rfl sh_36 rfl (K_PT_fitWithEdge m w3 v4 (gI m 49 (ixn x2)) (gI m 50 (ixn x2)) (gI m 49 (ixn x4)) (gI m 50 (ixn x4)) _ hq6) <| E_zreturn 103 rfl rfl hc7 (eP h)
theorem K_NI_fitBetween (m : Mem) (x1 : Int32) (x2 : Int32) (x3 : Int32) (x4 : Int32) (R : Int32) (h : NI_fitBetween m x1 x2 x3 x4 = some R) : Mt M_NI_fitBetween [.ref 40, .int x1, .int x2, .int x3, .int x4] m (qI R m) := by
  refine Mt.of G_NI_fitBetween (Nat.le_of_ble_eq_true rfl) (E_sub (lv' := [(0, .ref 40), (1, .int x1), (2, .int x2), (3, .int x3), (4, .int x4)]) [0, 1, 2, 3, 4] rfl ?_)
  unfold NI_fitBetween at h
  obtain ⟨hc1, h⟩ := ift h
  obtain ⟨v2, hq3, h⟩ := bI_ex h
  refine E_aload_n (n := 1) 0 rfl rfl rfl 0 rfl <| E_gF (r := 42) (n := 4) 1 rfl rfl fg_3_22 sh_40 rfl <| E_aload_n (n := 5) 2 rfl rfl rfl 0 rfl <| E_gF (r := 42) (n := 8) 3 rfl rfl fg_3_22 sh_40 rfl <| E_iload_n (n := 9) 4 rfl rfl rfl 1 rfl <| E_cV1r (n := 12) 5 rfl rfl co_3_147 rfl sh_42 rfl (K_LN_before m 42 x1 sh_42 _ rfl) <| E_aload_n (n := 13) 6 rfl rfl rfl 0 rfl <| E_gF (r := 49) (n := 16) 7 rfl rfl fg_3_38 sh_40 rfl <| E_iload_n (n := 17) 8 rfl rfl rfl 2 rfl <| E_iald (n := 18) 9 rfl rfl sh_49 hc1 <| E_aload_n (n := 19) 10 rfl rfl rfl 0 rfl <| E_gF (r := 50) (n := 22) 11 rfl rfl fg_3_41 sh_40 rfl <| E_iload_n (n := 23) 12 rfl rfl rfl 2 rfl <| E_iald (n := 24) 13 rfl rfl sh_50 hc1 <| E_cV3r (n := 27) 14 rfl rfl co_3_176 rfl sh_42 rfl (K_LN_isAt m 42 (LN_before m 42 x1) (gI m 49 (ixn x2)) (gI m 50 (ixn x2)) sh_42 _ hq3) <| E_if_ne (n := 30) (t := 94) 15 rfl rfl rfl (fun hc => ?_) (fun hc => ?_)
  · have h := ifn h hc
    refine E_iconst (v := 0) (n := 95) 50 rfl rfl icz_0 <| E_zreturn 51 rfl rfl z0 (eP h)
  · have h := ifp h hc
    obtain ⟨hc4, h⟩ := ift h
    obtain ⟨v5, hq6, h⟩ := bI_ex h
    refine E_aload_n (n := 31) 16 rfl rfl rfl 0 rfl <| E_gF (r := 42) (n := 34) 17 rfl rfl fg_3_22 sh_40 rfl <| E_aload_n (n := 35) 18 rfl rfl rfl 0 rfl <| E_gF (r := 42) (n := 38) 19 rfl rfl fg_3_22 sh_40 rfl <| E_iload_n (n := 39) 20 rfl rfl rfl 3 rfl <| E_cV1r (n := 42) 21 rfl rfl co_3_115 rfl sh_42 rfl (K_LN_after m 42 x3 sh_42 _ rfl) <| E_aload_n (n := 43) 22 rfl rfl rfl 0 rfl <| E_gF (r := 49) (n := 46) 23 rfl rfl fg_3_38 sh_40 rfl <| E_iload (n := 48) 24 rfl rfl 4 rfl <| E_iald (n := 49) 25 rfl rfl sh_49 hc4 <| E_aload_n (n := 50) 26 rfl rfl rfl 0 rfl <| E_gF (r := 50) (n := 53) 27 rfl rfl fg_3_41 sh_40 rfl <| E_iload (n := 55) 28 rfl rfl 4 rfl <| E_iald (n := 56) 29 rfl rfl sh_50 hc4 <| E_cV3r (n := 59) 30 rfl rfl co_3_176 rfl sh_42 rfl (K_LN_isAt m 42 (LN_after m 42 x3) (gI m 49 (ixn x4)) (gI m 50 (ixn x4)) sh_42 _ hq6) <| E_if_ne (n := 62) (t := 94) 31 rfl rfl rfl (fun hc => ?_) (fun hc => ?_)
    · have h := ifn h hc
      refine E_iconst (v := 0) (n := 95) 50 rfl rfl icz_0 <| E_zreturn 51 rfl rfl z0 (eP h)
    · have h := ifp h hc
      refine E_aload_n (n := 63) 32 rfl rfl rfl 0 rfl <| E_gF (r := 49) (n := 66) 33 rfl rfl fg_3_38 sh_40 rfl <| E_iload_n (n := 67) 34 rfl rfl rfl 2 rfl <| E_iald (n := 68) 35 rfl rfl sh_49 hc1 <| E_aload_n (n := 69) 36 rfl rfl rfl 0 rfl <| E_gF (r := 49) (n := 72) 37 rfl rfl fg_3_38 sh_40 rfl <| E_iload (n := 74) 38 rfl rfl 4 rfl <| E_iald (n := 75) 39 rfl rfl sh_49 hc4 <| E_icmp_ne (n := 78) (t := 96) 40 rfl rfl rfl (fun hc => ?_) (fun hc => ?_)
      · have h := ifn h hc
        refine E_sub (lv' := [(0, .ref 40), (2, .int x2), (4, .int x4)]) [0, 2, 4] rfl ?_
        exact NI_fitBetween_J96_ok m x2 x4 _ h
      · have h := ifp h hc
        refine E_aload_n (n := 79) 41 rfl rfl rfl 0 rfl <| E_gF (r := 50) (n := 82) 42 rfl rfl fg_3_41 sh_40 rfl <| E_iload_n (n := 83) 43 rfl rfl rfl 2 rfl <| E_iald (n := 84) 44 rfl rfl sh_50 hc1 <| E_aload_n (n := 85) 45 rfl rfl rfl 0 rfl <| E_gF (r := 50) (n := 88) 46 rfl rfl fg_3_41 sh_40 rfl <| E_iload (n := 90) 47 rfl rfl 4 rfl <| E_iald (n := 91) 48 rfl rfl sh_50 hc4 <| E_icmp_ne (n := 94) (t := 96) 49 rfl rfl rfl (fun hc => ?_) (fun hc => ?_)
        · have h := ifn h hc
          refine E_sub (lv' := [(0, .ref 40), (2, .int x2), (4, .int x4)]) [0, 2, 4] rfl ?_
          exact NI_fitBetween_J96_ok m x2 x4 _ h
        · have h := ifp h hc
          refine E_iconst (v := 0) (n := 95) 50 rfl rfl icz_0 <| E_zreturn 51 rfl rfl z0 (eP h)
theorem K_NI_keepFirstTwo (m : Mem) (x1 : Int32) (x2 : Int32) (x3 : Int32) (x4 : Int32) (R : Mem) (h : NI_keepFirstTwo m x1 x2 x3 x4 = some R) : Mt M_NI_keepFirstTwo [.ref 40, .int x1, .int x2, .int x3, .int x4] m (qV R) := by
  refine Mt.of G_NI_keepFirstTwo (Nat.le_of_ble_eq_true rfl) (E_sub (lv' := [(0, .ref 40), (1, .int x1), (2, .int x2), (3, .int x3), (4, .int x4)]) [0, 1, 2, 3, 4] rfl ?_)
  unfold NI_keepFirstTwo at h
  refine E_aload_n (n := 1) 0 rfl rfl rfl 0 rfl <| E_gI (n := 4) 1 rfl rfl fg_3_73 sh_40 <| E_if_ne (n := 7) (t := 22) 2 rfl rfl rfl (fun hc => ?_) (fun hc => ?_)
  · have h := ifn h hc
    refine E_return 13 rfl rfl (eV h)
  · have h := ifp h hc
    obtain ⟨m1, hq2, h⟩ := bM_ex h
    obtain ⟨m3, hq4, h⟩ := bM_ex h
    refine E_aload_n (n := 8) 3 rfl rfl rfl 0 rfl <| E_iconst (v := 0) (n := 9) 4 rfl rfl icz_0 <| E_iload_n (n := 10) 5 rfl rfl rfl 1 rfl <| E_iload_n (n := 11) 6 rfl rfl rfl 2 rfl <| E_cV3v (n := 14) 7 rfl rfl co_3_159 rfl sh_40 rfl (K_NI_keepFirst m 0 x1 x2 _ hq2) <| E_aload_n (n := 15) 8 rfl rfl rfl 0 rfl <| E_iconst (v := 1) (n := 16) 9 rfl rfl icz_1 <| E_iload_n (n := 17) 10 rfl rfl rfl 3 rfl <| E_iload (n := 19) 11 rfl rfl 4 rfl <| E_cV3v (n := 22) 12 rfl rfl co_3_159 rfl sh_40 rfl (K_NI_keepFirst m1 1 x3 x4 _ hq4) <| ?_
    refine E_return 13 rfl rfl (eV h)
theorem NI_tryNeighbours_J103_ok (kr : Mem → Int32 → Option Mem) (kx : Mem → Option Mem) (m : Mem) (x1 : Int32) (x2 : Int32) (x3 : Int32) (x4 : Int32) (x5 : Int32) (x6 : Int32) (x7 : Int32) (R : Mem) (hr : ∀ (m : Mem) (x7 : Int32), kr m x7 = some R → E M_NI_tryNeighbours 62 [(0, .ref 40), (1, .int x1), (2, .int x2), (3, .int x3), (4, .int x4), (5, .int x5), (6, .int x6), (7, .int x7)] [] m (qV R)) (hx : ∀ (m : Mem), kx m = some R → E M_NI_tryNeighbours 129 [(0, .ref 40), (1, .int x1), (2, .int x2), (3, .int x3), (4, .int x4), (5, .int x5), (6, .int x6)] [] m (qV R)) (h : NI_tryNeighbours_J103 kr kx m x1 x2 x3 x4 x5 x6 x7 = some R) : E M_NI_tryNeighbours 103 [(0, .ref 40), (1, .int x1), (2, .int x2), (3, .int x3), (4, .int x4), (5, .int x5), (6, .int x6), (7, .int x7)] [] m (qV R) := by
  unfold NI_tryNeighbours_J103 at h
  obtain ⟨m1, hq2, h⟩ := bM_ex h
  obtain ⟨m3, hm3, h⟩ := letM_ex h
  refine E_aload_n (n := 104) 59 rfl rfl rfl 0 rfl <| E_iload_n (n := 105) 60 rfl rfl rfl 1 rfl <| E_iload (n := 107) 61 rfl rfl 6 rfl <| E_iload_n (n := 108) 62 rfl rfl rfl 2 rfl <| E_iload (n := 110) 63 rfl rfl 7 rfl <| E_cV4v (n := 113) 64 rfl rfl co_3_168 rfl sh_40 rfl (K_NI_keepFirstTwo m x1 x6 x2 x7 _ hq2) <| E_aload_n (n := 114) 65 rfl rfl rfl 0 rfl <| E_dup (n := 115) 66 rfl rfl rfl <| E_gI (n := 118) 67 rfl rfl fg_3_73 sh_40 <| E_iconst (v := 1) (n := 119) 68 rfl rfl icz_1 <| E_iadd (n := 120) 69 rfl rfl <| E_pI (n := 123) 70 rfl rfl fp_3_73 sh_40 <| E_mem hm3 <| ?_
  refine E_iinc (v := (x7 + 1)) (lv' := [(0, .ref 40), (1, .int x1), (2, .int x2), (3, .int x3), (4, .int x4), (5, .int x5), (6, .int x6), (7, .int (x7 + 1))]) (n := 126) 71 rfl rfl 7 rfl (by rw [icz_1]) (Nat.le_of_ble_eq_true rfl) [1, 2, 3, 4, 5, 6, 7, 0] rfl <| E_goto (t := 62) 72 rfl rfl <| ?_
  exact hr m3 (x7 + 1) h
theorem NI_tryNeighbours_L62_ok (x1 : Int32) (x2 : Int32) (x3 : Int32) (x4 : Int32) (x5 : Int32) (x6 : Int32) (kx : Mem → Option Mem) (R : Mem) (hx : ∀ (m : Mem), kx m = some R → E M_NI_tryNeighbours 129 [(0, .ref 40), (1, .int x1), (2, .int x2), (3, .int x3), (4, .int x4), (5, .int x5), (6, .int x6)] [] m (qV R)) : ∀ (n : Nat) (m : Mem) (x7 : Int32), NI_tryNeighbours_L62 x1 x2 x3 x4 x5 x6 kx n m x7 = some R → E M_NI_tryNeighbours 62 [(0, .ref 40), (1, .int x1), (2, .int x2), (3, .int x3), (4, .int x4), (5, .int x5), (6, .int x6), (7, .int x7)] [] m (qV R) := by
  intro n
  induction n with
  | zero =>
    intro m x7 h
    exact absurd (show none = some R from h) (fun e => Option.some_ne_none R e.symm)
  | succ n ih =>
    intro m x7 h
    rw [NI_tryNeighbours_L62] at h
    refine E_iload (n := 64) 39 rfl rfl 7 rfl <| E_iload (n := 66) 40 rfl rfl 4 rfl <| E_icmp_ge (n := 69) (t := 129) 41 rfl rfl rfl (fun hc => ?_) (fun hc => ?_)
    · have h := ifp h hc
      refine E_sub (lv' := [(0, .ref 40), (1, .int x1), (2, .int x2), (3, .int x3), (4, .int x4), (5, .int x5), (6, .int x6)]) [0, 1, 2, 3, 4, 5, 6] rfl ?_
      exact hx m h
    · have h := ifn h hc
      refine E_iload (n := 71) 42 rfl rfl 5 rfl <| E_if_eq (n := 74) (t := 90) 43 rfl rfl rfl (fun hc => ?_) (fun hc => ?_)
      · have h := ifp h hc
        obtain ⟨v1, hq2, h⟩ := bI_ex h
        refine E_aload_n (n := 91) 52 rfl rfl rfl 0 rfl <| E_iload_n (n := 92) 53 rfl rfl rfl 2 rfl <| E_iload (n := 94) 54 rfl rfl 7 rfl <| E_iload_n (n := 95) 55 rfl rfl rfl 1 rfl <| E_iload (n := 97) 56 rfl rfl 6 rfl <| E_cV4r (n := 100) 57 rfl rfl co_3_172 rfl sh_40 rfl (K_NI_fitBetween m x2 x7 x1 x6 _ hq2) <| E_if_eq (n := 103) (t := 123) 58 rfl rfl rfl (fun hc => ?_) (fun hc => ?_)
        · have h := ifp h hc
          refine E_iinc (v := (x7 + 1)) (lv' := [(0, .ref 40), (1, .int x1), (2, .int x2), (3, .int x3), (4, .int x4), (5, .int x5), (6, .int x6), (7, .int (x7 + 1))]) (n := 126) 71 rfl rfl 7 rfl (by rw [icz_1]) (Nat.le_of_ble_eq_true rfl) [1, 2, 3, 4, 5, 6, 7, 0] rfl <| E_goto (t := 62) 72 rfl rfl <| ?_
          exact ih m (x7 + 1) h
        · have h := ifn h hc
          exact NI_tryNeighbours_J103_ok _ _ m x1 x2 x3 x4 x5 x6 x7 _ ih hx h
      · have h := ifn h hc
        obtain ⟨v3, hq4, h⟩ := bI_ex h
        refine E_aload_n (n := 75) 44 rfl rfl rfl 0 rfl <| E_iload_n (n := 76) 45 rfl rfl rfl 1 rfl <| E_iload (n := 78) 46 rfl rfl 6 rfl <| E_iload_n (n := 79) 47 rfl rfl rfl 2 rfl <| E_iload (n := 81) 48 rfl rfl 7 rfl <| E_cV4r (n := 84) 49 rfl rfl co_3_172 rfl sh_40 rfl (K_NI_fitBetween m x1 x6 x2 x7 _ hq4) <| E_if_eq (n := 87) (t := 123) 50 rfl rfl rfl (fun hc => ?_) (fun hc => ?_)
        · have h := ifp h hc
          refine E_iinc (v := (x7 + 1)) (lv' := [(0, .ref 40), (1, .int x1), (2, .int x2), (3, .int x3), (4, .int x4), (5, .int x5), (6, .int x6), (7, .int (x7 + 1))]) (n := 126) 71 rfl rfl 7 rfl (by rw [icz_1]) (Nat.le_of_ble_eq_true rfl) [1, 2, 3, 4, 5, 6, 7, 0] rfl <| E_goto (t := 62) 72 rfl rfl <| ?_
          exact ih m (x7 + 1) h
        · have h := ifn h hc
          refine E_goto (t := 103) 51 rfl rfl <| ?_
          exact NI_tryNeighbours_J103_ok _ _ m x1 x2 x3 x4 x5 x6 x7 _ ih hx h
theorem NI_tryNeighbours_L50_ok (x1 : Int32) (x2 : Int32) (x3 : Int32) (x4 : Int32) (x5 : Int32) (kx : Mem → Option Mem) (R : Mem) (hx : ∀ (m : Mem), kx m = some R → E M_NI_tryNeighbours 135 [] [] m (qV R)) : ∀ (n : Nat) (m : Mem) (x6 : Int32), NI_tryNeighbours_L50 x1 x2 x3 x4 x5 kx n m x6 = some R → E M_NI_tryNeighbours 50 [(0, .ref 40), (1, .int x1), (2, .int x2), (3, .int x3), (4, .int x4), (5, .int x5), (6, .int x6)] [] m (qV R) := by
  intro n
  induction n with
  | zero =>
    intro m x6 h
    exact absurd (show none = some R from h) (fun e => Option.some_ne_none R e.symm)
  | succ n ih =>
    intro m x6 h
    rw [NI_tryNeighbours_L50] at h
    refine E_iload (n := 52) 32 rfl rfl 6 rfl <| E_iload_n (n := 53) 33 rfl rfl rfl 3 rfl <| E_icmp_ge (n := 56) (t := 135) 34 rfl rfl rfl (fun hc => ?_) (fun hc => ?_)
    · have h := ifp h hc
      refine E_sub (lv' := []) [] rfl ?_
      exact hx m h
    · have h := ifn h hc
      obtain ⟨v1, hv1, h⟩ := letV_ex h
      refine E_iload_n (n := 57) 35 rfl rfl rfl 2 rfl <| E_bipush (v := 48) (n := 59) 36 rfl rfl bpz_48 <| E_imul (n := 60) 37 rfl rfl <| E_top hv1 <| E_istore (lv' := [(0, .ref 40), (1, .int x1), (2, .int x2), (3, .int x3), (4, .int x4), (5, .int x5), (6, .int x6), (7, .int v1)]) (n := 62) 38 rfl rfl (Nat.le_of_ble_eq_true rfl) [1, 2, 3, 4, 5, 6, 7, 0] rfl <| ?_
      refine NI_tryNeighbours_L62_ok x1 x2 x3 x4 x5 x6 _ R ?_ FU m v1 h
      intro m2 h
      refine E_iinc (v := (x6 + 1)) (lv' := [(0, .ref 40), (1, .int x1), (2, .int x2), (3, .int x3), (4, .int x4), (5, .int x5), (6, .int (x6 + 1))]) (n := 132) 73 rfl rfl 6 rfl (by rw [icz_1]) (Nat.le_of_ble_eq_true rfl) [1, 2, 3, 4, 5, 6, 0] rfl <| E_goto (t := 50) 74 rfl rfl <| ?_
      exact ih m2 (x6 + 1) h
theorem NI_tryNeighbours_J42_ok (m : Mem) (x1 : Int32) (x2 : Int32) (x3 : Int32) (x4 : Int32) (s0 : Int32) (R : Mem) (h : NI_tryNeighbours_J42 m x1 x2 x3 x4 s0 = some R) : E M_NI_tryNeighbours 42 [(0, .ref 40), (1, .int x1), (2, .int x2), (3, .int x3), (4, .int x4)] [.int s0] m (qV R) := by
  unfold NI_tryNeighbours_J42 at h
  obtain ⟨v1, hv1, h⟩ := letV_ex h
  refine E_istore (lv' := [(0, .ref 40), (1, .int x1), (2, .int x2), (3, .int x3), (4, .int x4), (5, .int s0)]) (n := 44) 27 rfl rfl (Nat.le_of_ble_eq_true rfl) [1, 2, 3, 4, 5, 0] rfl <| E_iload_n (n := 45) 28 rfl rfl rfl 1 rfl <| E_bipush (v := 48) (n := 47) 29 rfl rfl bpz_48 <| E_imul (n := 48) 30 rfl rfl <| E_top hv1 <| E_istore (lv' := [(0, .ref 40), (1, .int x1), (2, .int x2), (3, .int x3), (4, .int x4), (5, .int s0), (6, .int v1)]) (n := 50) 31 rfl rfl (Nat.le_of_ble_eq_true rfl) [1, 2, 3, 4, 5, 6, 0] rfl <| ?_
  refine NI_tryNeighbours_L50_ok x1 x2 x3 x4 s0 _ R ?_ FU m v1 h
  intro m2 h
  refine E_return 75 rfl rfl (eV h)
theorem K_NI_tryNeighbours (m : Mem) (x1 : Int32) (x2 : Int32) (R : Mem) (h : NI_tryNeighbours m x1 x2 = some R) : Mt M_NI_tryNeighbours [.ref 40, .int x1, .int x2] m (qV R) := by
  refine Mt.of G_NI_tryNeighbours (Nat.le_of_ble_eq_true rfl) (E_sub (lv' := [(0, .ref 40), (1, .int x1), (2, .int x2)]) [0, 1, 2] rfl ?_)
  unfold NI_tryNeighbours at h
  obtain ⟨hc1, h⟩ := ift h
  obtain ⟨v2, hv2, h⟩ := letV_ex h
  obtain ⟨hc3, h⟩ := ift h
  obtain ⟨v4, hv4, h⟩ := letV_ex h
  refine E_iload_n (n := 1) 0 rfl rfl rfl 1 rfl <| E_bipush (v := 48) (n := 3) 1 rfl rfl bpz_48 <| E_imul (n := 4) 2 rfl rfl <| E_aload_n (n := 5) 3 rfl rfl rfl 0 rfl <| E_gF (r := 48) (n := 8) 4 rfl rfl fg_3_35 sh_40 rfl <| E_iload_n (n := 9) 5 rfl rfl rfl 1 rfl <| E_iald (n := 10) 6 rfl rfl sh_48 hc1 <| E_iadd (n := 11) 7 rfl rfl <| E_top hv2 <| E_istore_n (lv' := [(0, .ref 40), (1, .int x1), (2, .int x2), (3, .int v2)]) (n := 12) 8 rfl rfl rfl (Nat.le_of_ble_eq_true rfl) [1, 2, 3, 0] rfl <| E_iload_n (n := 13) 9 rfl rfl rfl 2 rfl <| E_bipush (v := 48) (n := 15) 10 rfl rfl bpz_48 <| E_imul (n := 16) 11 rfl rfl <| E_aload_n (n := 17) 12 rfl rfl rfl 0 rfl <| E_gF (r := 48) (n := 20) 13 rfl rfl fg_3_35 sh_40 rfl <| E_iload_n (n := 21) 14 rfl rfl rfl 2 rfl <| E_iald (n := 22) 15 rfl rfl sh_48 hc3 <| E_iadd (n := 23) 16 rfl rfl <| E_top hv4 <| E_istore (lv' := [(0, .ref 40), (1, .int x1), (2, .int x2), (3, .int v2), (4, .int v4)]) (n := 25) 17 rfl rfl (Nat.le_of_ble_eq_true rfl) [1, 2, 3, 4, 0] rfl <| E_aload_n (n := 26) 18 rfl rfl rfl 0 rfl <| E_gF (r := 42) (n := 29) 19 rfl rfl fg_3_22 sh_40 rfl <| E_iload_n (n := 30) 20 rfl rfl rfl 1 rfl <| E_cV1r (n := 33) 21 rfl rfl co_3_115 rfl sh_42 rfl (K_LN_after m 42 x1 sh_42 _ rfl) <| E_iload_n (n := 34) 22 rfl rfl rfl 2 rfl <| E_icmp_ne (n := 37) (t := 41) 23 rfl rfl rfl (fun hc => ?_) (fun hc => ?_)
  · have h := ifn h hc
    refine E_iconst (v := 0) (n := 42) 26 rfl rfl icz_0 <| ?_
    exact NI_tryNeighbours_J42_ok m x1 x2 v2 v4 0 _ h
  · have h := ifp h hc
    refine E_iconst (v := 1) (n := 38) 24 rfl rfl icz_1 <| E_goto (t := 42) 25 rfl rfl <| ?_
    exact NI_tryNeighbours_J42_ok m x1 x2 v2 v4 1 _ h
theorem NI_tryApart_L77_ok (x1 : Int32) (x2 : Int32) (x3 : Int32) (x4 : Int32) (x5 : Int32) (x6 : Int64) (x8 : Int32) (kx : Mem → Option Mem) (R : Mem) (hx : ∀ (m : Mem), kx m = some R → E M_NI_tryApart 170 [(0, .ref 40), (1, .int x1), (2, .int x2), (3, .int x3), (4, .int x4), (5, .int x5)] [] m (qV R)) : ∀ (n : Nat) (m : Mem) (x9 : Int32), NI_tryApart_L77 x1 x2 x3 x4 x5 x6 x8 kx n m x9 = some R → E M_NI_tryApart 77 [(0, .ref 40), (1, .int x1), (2, .int x2), (3, .int x3), (4, .int x4), (5, .int x5), (6, .long x6), (8, .int x8), (9, .int x9)] [] m (qV R) := by
  intro n
  induction n with
  | zero =>
    intro m x9 h
    exact absurd (show none = some R from h) (fun e => Option.some_ne_none R e.symm)
  | succ n ih =>
    intro m x9 h
    rw [NI_tryApart_L77] at h
    refine E_iload (n := 79) 47 rfl rfl 8 rfl <| E_iload (n := 81) 48 rfl rfl 4 rfl <| E_icmp_ge (n := 84) (t := 170) 49 rfl rfl rfl (fun hc => ?_) (fun hc => ?_)
    · have h := ifp h hc
      refine E_sub (lv' := [(0, .ref 40), (1, .int x1), (2, .int x2), (3, .int x3), (4, .int x4), (5, .int x5)]) [0, 1, 2, 3, 4, 5] rfl ?_
      exact hx m h
    · have h := ifn h hc
      obtain ⟨hc1, h⟩ := ift h
      obtain ⟨v2, hq3, h⟩ := bI_ex h
      refine E_aload_n (n := 85) 50 rfl rfl rfl 0 rfl <| E_gA (n := 88) 51 rfl rfl fg_3_62 sh_40 <| E_lload (n := 90) 52 rfl rfl 6 rfl <| E_aload_n (n := 91) 53 rfl rfl rfl 0 rfl <| E_gF (r := 57) (n := 94) 54 rfl rfl fg_3_50 sh_40 rfl <| E_gF (r := 58) (n := 97) 55 rfl rfl fg_3_118 sh_57 rfl <| E_iload (n := 99) 56 rfl rfl 8 rfl <| E_lald (n := 100) 57 rfl rfl sh_58 hc1 <| E_ladd (n := 101) 58 rfl rfl <| E_iload (n := 103) 59 rfl rfl 7 rfl <| E_aload_n (n := 104) 60 rfl rfl rfl 0 rfl <| E_gF (r := 57) (n := 107) 61 rfl rfl fg_3_50 sh_40 rfl <| E_gF (r := 59) (n := 110) 62 rfl rfl fg_3_132 sh_57 rfl <| E_iload (n := 112) 63 rfl rfl 8 rfl <| E_iald (n := 113) 64 rfl rfl sh_59 hc1 <| E_ior (n := 114) 65 rfl rfl <| E_cV2r (n := 117) 66 rfl rfl co_3_87 rfl sh_36 rfl (K_PT_fit m (x6 + (gJ m 58 (ixn x9))) (x8 ||| (gI m 59 (ixn x9))) _ hq3) <| E_if_eq (n := 120) (t := 164) 67 rfl rfl rfl (fun hc => ?_) (fun hc => ?_)
      · have h := ifp h hc
        refine E_iinc (v := (x9 + 1)) (lv' := [(0, .ref 40), (1, .int x1), (2, .int x2), (3, .int x3), (4, .int x4), (5, .int x5), (6, .long x6), (8, .int x8), (9, .int (x9 + 1))]) (n := 167) 94 rfl rfl 8 rfl (by rw [icz_1]) (Nat.le_of_ble_eq_true rfl) [1, 2, 3, 4, 5, 6, 7, 8, 0] rfl <| E_goto (t := 77) 95 rfl rfl <| ?_
        exact ih m (x9 + 1) h
      · have h := ifn h hc
        obtain ⟨hc4, h⟩ := ift h
        obtain ⟨m5, hq6, h⟩ := bM_ex h
        obtain ⟨m7, hm7, h⟩ := letM_ex h
        refine E_aload_n (n := 121) 68 rfl rfl rfl 0 rfl <| E_iload_n (n := 122) 69 rfl rfl rfl 1 rfl <| E_aload_n (n := 123) 70 rfl rfl rfl 0 rfl <| E_gF (r := 62) (n := 126) 71 rfl rfl fg_3_59 sh_40 rfl <| E_iload (n := 128) 72 rfl rfl 5 rfl <| E_iald (n := 129) 73 rfl rfl sh_62 hc4 <| E_iload_n (n := 130) 74 rfl rfl rfl 2 rfl <| E_aload_n (n := 131) 75 rfl rfl rfl 0 rfl <| E_gF (r := 62) (n := 134) 76 rfl rfl fg_3_59 sh_40 rfl <| E_iload (n := 136) 77 rfl rfl 8 rfl <| E_iald (n := 137) 78 rfl rfl sh_62 hc1 <| E_cV4v (n := 140) 79 rfl rfl co_3_168 rfl sh_40 rfl (K_NI_keepFirstTwo m x1 (gI m 62 (ixn x5)) x2 (gI m 62 (ixn x9)) _ hq6) <| E_aload_n (n := 141) 80 rfl rfl rfl 0 rfl <| E_dup (n := 142) 81 rfl rfl rfl <| E_gI (n := 145) 82 rfl rfl fg_3_73 sh_40 <| E_aload_n (n := 146) 83 rfl rfl rfl 0 rfl <| E_gF (r := 61) (n := 149) 84 rfl rfl fg_3_56 sh_40 rfl <| E_iload (n := 151) 85 rfl rfl 5 rfl <| E_iald (n := 152) 86 rfl rfl sh_61 hc4 <| E_aload_n (n := 153) 87 rfl rfl rfl 0 rfl <| E_gF (r := 61) (n := 156) 88 rfl rfl fg_3_56 sh_40 rfl <| E_iload (n := 158) 89 rfl rfl 8 rfl <| E_iald (n := 159) 90 rfl rfl sh_61 hc1 <| E_imul (n := 160) 91 rfl rfl <| E_iadd (n := 161) 92 rfl rfl <| E_pI (n := 164) 93 rfl rfl fp_3_73 sh_40 <| E_mem hm7 <| ?_
        refine E_iinc (v := (x9 + 1)) (lv' := [(0, .ref 40), (1, .int x1), (2, .int x2), (3, .int x3), (4, .int x4), (5, .int x5), (6, .long x6), (8, .int x8), (9, .int (x9 + 1))]) (n := 167) 94 rfl rfl 8 rfl (by rw [icz_1]) (Nat.le_of_ble_eq_true rfl) [1, 2, 3, 4, 5, 6, 7, 8, 0] rfl <| E_goto (t := 77) 95 rfl rfl <| ?_
        exact ih m7 (x9 + 1) h
theorem NI_tryApart_L31_ok (x1 : Int32) (x2 : Int32) (x3 : Int32) (x4 : Int32) (kx : Mem → Option Mem) (R : Mem) (hx : ∀ (m : Mem), kx m = some R → E M_NI_tryApart 176 [] [] m (qV R)) : ∀ (n : Nat) (m : Mem) (x5 : Int32), NI_tryApart_L31 x1 x2 x3 x4 kx n m x5 = some R → E M_NI_tryApart 31 [(0, .ref 40), (1, .int x1), (2, .int x2), (3, .int x3), (4, .int x4), (5, .int x5)] [] m (qV R) := by
  intro n
  induction n with
  | zero =>
    intro m x5 h
    exact absurd (show none = some R from h) (fun e => Option.some_ne_none R e.symm)
  | succ n ih =>
    intro m x5 h
    rw [NI_tryApart_L31] at h
    refine E_iload (n := 33) 22 rfl rfl 5 rfl <| E_iload_n (n := 34) 23 rfl rfl rfl 3 rfl <| E_icmp_ge (n := 37) (t := 176) 24 rfl rfl rfl (fun hc => ?_) (fun hc => ?_)
    · have h := ifp h hc
      refine E_sub (lv' := []) [] rfl ?_
      exact hx m h
    · have h := ifn h hc
      obtain ⟨hc1, h⟩ := ift h
      obtain ⟨w2, hw2, h⟩ := letL_ex h
      obtain ⟨v3, hv3, h⟩ := letV_ex h
      obtain ⟨v4, hv4, h⟩ := letV_ex h
      refine E_aload_n (n := 38) 25 rfl rfl rfl 0 rfl <| E_gJ (n := 41) 26 rfl rfl fg_3_80 sh_40 <| E_aload_n (n := 42) 27 rfl rfl rfl 0 rfl <| E_gF (r := 57) (n := 45) 28 rfl rfl fg_3_50 sh_40 rfl <| E_gF (r := 58) (n := 48) 29 rfl rfl fg_3_118 sh_57 rfl <| E_iload (n := 50) 30 rfl rfl 5 rfl <| E_lald (n := 51) 31 rfl rfl sh_58 hc1 <| E_ladd (n := 52) 32 rfl rfl <| E_topl hw2 <| E_lstore (lv' := [(0, .ref 40), (1, .int x1), (2, .int x2), (3, .int x3), (4, .int x4), (5, .int x5), (6, .long w2)]) (n := 54) 33 rfl rfl (Nat.le_of_ble_eq_true rfl) [1, 2, 3, 4, 5, 6, 0] rfl <| E_aload_n (n := 55) 34 rfl rfl rfl 0 rfl <| E_gI (n := 58) 35 rfl rfl fg_3_84 sh_40 <| E_aload_n (n := 59) 36 rfl rfl rfl 0 rfl <| E_gF (r := 57) (n := 62) 37 rfl rfl fg_3_50 sh_40 rfl <| E_gF (r := 59) (n := 65) 38 rfl rfl fg_3_132 sh_57 rfl <| E_iload (n := 67) 39 rfl rfl 5 rfl <| E_iald (n := 68) 40 rfl rfl sh_59 hc1 <| E_ior (n := 69) 41 rfl rfl <| E_top hv3 <| E_istore (lv' := [(0, .ref 40), (1, .int x1), (2, .int x2), (3, .int x3), (4, .int x4), (5, .int x5), (6, .long w2), (8, .int v3)]) (n := 71) 42 rfl rfl (Nat.le_of_ble_eq_true rfl) [1, 2, 3, 4, 5, 6, 7, 0] rfl <| E_iload_n (n := 72) 43 rfl rfl rfl 2 rfl <| E_bipush (v := 48) (n := 74) 44 rfl rfl bpz_48 <| E_imul (n := 75) 45 rfl rfl <| E_top hv4 <| E_istore (lv' := [(0, .ref 40), (1, .int x1), (2, .int x2), (3, .int x3), (4, .int x4), (5, .int x5), (6, .long w2), (8, .int v3), (9, .int v4)]) (n := 77) 46 rfl rfl (Nat.le_of_ble_eq_true rfl) [1, 2, 3, 4, 5, 6, 7, 8, 0] rfl <| ?_
      refine NI_tryApart_L77_ok x1 x2 x3 x4 x5 w2 v3 _ R ?_ FU m v4 h
      intro m5 h
      refine E_iinc (v := (x5 + 1)) (lv' := [(0, .ref 40), (1, .int x1), (2, .int x2), (3, .int x3), (4, .int x4), (5, .int (x5 + 1))]) (n := 173) 96 rfl rfl 5 rfl (by rw [icz_1]) (Nat.le_of_ble_eq_true rfl) [1, 2, 3, 4, 5, 0] rfl <| E_goto (t := 31) 97 rfl rfl <| ?_
      exact ih m5 (x5 + 1) h
theorem K_NI_tryApart (m : Mem) (x1 : Int32) (x2 : Int32) (R : Mem) (h : NI_tryApart m x1 x2 = some R) : Mt M_NI_tryApart [.ref 40, .int x1, .int x2] m (qV R) := by
  refine Mt.of G_NI_tryApart (Nat.le_of_ble_eq_true rfl) (E_sub (lv' := [(0, .ref 40), (1, .int x1), (2, .int x2)]) [0, 1, 2] rfl ?_)
  unfold NI_tryApart at h
  obtain ⟨hc1, h⟩ := ift h
  obtain ⟨v2, hv2, h⟩ := letV_ex h
  obtain ⟨hc3, h⟩ := ift h
  obtain ⟨v4, hv4, h⟩ := letV_ex h
  obtain ⟨v5, hv5, h⟩ := letV_ex h
  refine E_iload_n (n := 1) 0 rfl rfl rfl 1 rfl <| E_bipush (v := 48) (n := 3) 1 rfl rfl bpz_48 <| E_imul (n := 4) 2 rfl rfl <| E_aload_n (n := 5) 3 rfl rfl rfl 0 rfl <| E_gF (r := 60) (n := 8) 4 rfl rfl fg_3_53 sh_40 rfl <| E_iload_n (n := 9) 5 rfl rfl rfl 1 rfl <| E_iald (n := 10) 6 rfl rfl sh_60 hc1 <| E_iadd (n := 11) 7 rfl rfl <| E_top hv2 <| E_istore_n (lv' := [(0, .ref 40), (1, .int x1), (2, .int x2), (3, .int v2)]) (n := 12) 8 rfl rfl rfl (Nat.le_of_ble_eq_true rfl) [1, 2, 3, 0] rfl <| E_iload_n (n := 13) 9 rfl rfl rfl 2 rfl <| E_bipush (v := 48) (n := 15) 10 rfl rfl bpz_48 <| E_imul (n := 16) 11 rfl rfl <| E_aload_n (n := 17) 12 rfl rfl rfl 0 rfl <| E_gF (r := 60) (n := 20) 13 rfl rfl fg_3_53 sh_40 rfl <| E_iload_n (n := 21) 14 rfl rfl rfl 2 rfl <| E_iald (n := 22) 15 rfl rfl sh_60 hc3 <| E_iadd (n := 23) 16 rfl rfl <| E_top hv4 <| E_istore (lv' := [(0, .ref 40), (1, .int x1), (2, .int x2), (3, .int v2), (4, .int v4)]) (n := 25) 17 rfl rfl (Nat.le_of_ble_eq_true rfl) [1, 2, 3, 4, 0] rfl <| E_iload_n (n := 26) 18 rfl rfl rfl 1 rfl <| E_bipush (v := 48) (n := 28) 19 rfl rfl bpz_48 <| E_imul (n := 29) 20 rfl rfl <| E_top hv5 <| E_istore (lv' := [(0, .ref 40), (1, .int x1), (2, .int x2), (3, .int v2), (4, .int v4), (5, .int v5)]) (n := 31) 21 rfl rfl (Nat.le_of_ble_eq_true rfl) [1, 2, 3, 4, 5, 0] rfl <| ?_
  refine NI_tryApart_L31_ok x1 x2 v2 v4 _ R ?_ FU m v5 h
  intro m6 h
  refine E_return 98 rfl rfl (eV h)
theorem NI_tryTwo_J30_ok (m : Mem) (x1 : Int32) (x2 : Int32) (R : Mem) (h : NI_tryTwo_J30 m x1 x2 = some R) : E M_NI_tryTwo 30 [(0, .ref 40), (1, .int x1), (2, .int x2)] [] m (qV R) := by
  unfold NI_tryTwo_J30 at h
  obtain ⟨m1, hq2, h⟩ := bM_ex h
  refine E_aload_n (n := 31) 16 rfl rfl rfl 0 rfl <| E_iload_n (n := 32) 17 rfl rfl rfl 1 rfl <| E_iload_n (n := 33) 18 rfl rfl rfl 2 rfl <| E_cV2v (n := 36) 19 rfl rfl co_3_162 rfl sh_40 rfl (K_NI_tryNeighbours m x1 x2 _ hq2) <| E_goto (t := 45) 20 rfl rfl <| ?_
  refine E_return 25 rfl rfl (eV h)
theorem K_NI_tryTwo (m : Mem) (x1 : Int32) (x2 : Int32) (R : Mem) (h : NI_tryTwo m x1 x2 = some R) : Mt M_NI_tryTwo [.ref 40, .int x1, .int x2] m (qV R) := by
  refine Mt.of G_NI_tryTwo (Nat.le_of_ble_eq_true rfl) (E_sub (lv' := [(0, .ref 40), (1, .int x1), (2, .int x2)]) [0, 1, 2] rfl ?_)
  unfold NI_tryTwo at h
  obtain ⟨m1, hq2, h⟩ := bM_ex h
  refine E_aload_n (n := 1) 0 rfl rfl rfl 0 rfl <| E_iload_n (n := 2) 1 rfl rfl rfl 1 rfl <| E_iload_n (n := 3) 2 rfl rfl rfl 2 rfl <| E_cV2v (n := 6) 3 rfl rfl co_3_76 rfl sh_40 rfl (K_NI_leaveOut m x1 x2 _ hq2) <| E_aload_n (n := 7) 4 rfl rfl rfl 0 rfl <| E_gF (r := 42) (n := 10) 5 rfl rfl fg_3_22 sh_40 rfl <| E_iload_n (n := 11) 6 rfl rfl rfl 1 rfl <| E_cV1r (n := 14) 7 rfl rfl co_3_115 rfl sh_42 rfl (K_LN_after m1 42 x1 sh_42 _ rfl) <| E_iload_n (n := 15) 8 rfl rfl rfl 2 rfl <| E_icmp_eq (n := 18) (t := 30) 9 rfl rfl rfl (fun hc => ?_) (fun hc => ?_)
  · have h := ifp h hc
    exact NI_tryTwo_J30_ok m1 x1 x2 _ h
  · have h := ifn h hc
    refine E_aload_n (n := 19) 10 rfl rfl rfl 0 rfl <| E_gF (r := 42) (n := 22) 11 rfl rfl fg_3_22 sh_40 rfl <| E_iload_n (n := 23) 12 rfl rfl rfl 2 rfl <| E_cV1r (n := 26) 13 rfl rfl co_3_115 rfl sh_42 rfl (K_LN_after m1 42 x2 sh_42 _ rfl) <| E_iload_n (n := 27) 14 rfl rfl rfl 1 rfl <| E_icmp_ne (n := 30) (t := 39) 15 rfl rfl rfl (fun hc => ?_) (fun hc => ?_)
    · have h := ifn h hc
      obtain ⟨m3, hq4, h⟩ := bM_ex h
      refine E_aload_n (n := 40) 21 rfl rfl rfl 0 rfl <| E_iload_n (n := 41) 22 rfl rfl rfl 1 rfl <| E_iload_n (n := 42) 23 rfl rfl rfl 2 rfl <| E_cV2v (n := 45) 24 rfl rfl co_3_165 rfl sh_40 rfl (K_NI_tryApart m1 x1 x2 _ hq4) <| ?_
      refine E_return 25 rfl rfl (eV h)
    · have h := ifp h hc
      exact NI_tryTwo_J30_ok m1 x1 x2 _ h
theorem NI_search_L54_ok (x2 : Int32) (kx : Mem → Option (Int32 × Mem)) (R : Int32 × Mem) (hx : ∀ (m : Mem), kx m = some R → E M_NI_search 82 [(0, .ref 40)] [] m (qI R.1 R.2)) : ∀ (n : Nat) (m : Mem) (x3 : Int32), NI_search_L54 x2 kx n m x3 = some R → E M_NI_search 54 [(0, .ref 40), (2, .int x2), (3, .int x3)] [] m (qI R.1 R.2) := by
  intro n
  induction n with
  | zero =>
    intro m x3 h
    exact absurd (show none = some R from h) (fun e => Option.some_ne_none R e.symm)
  | succ n ih =>
    intro m x3 h
    rw [NI_search_L54] at h
    refine E_iload_n (n := 55) 30 rfl rfl rfl 2 rfl <| E_aload_n (n := 56) 31 rfl rfl rfl 0 rfl <| E_gF (r := 42) (n := 59) 32 rfl rfl fg_3_22 sh_40 rfl <| E_gI (n := 62) 33 rfl rfl fg_3_97 sh_42 <| E_icmp_ge (n := 65) (t := 82) 34 rfl rfl rfl (fun hc => ?_) (fun hc => ?_)
    · have h := ifp h hc
      refine E_sub (lv' := [(0, .ref 40)]) [0] rfl ?_
      exact hx m h
    · have h := ifn h hc
      obtain ⟨m1, hq2, h⟩ := bM_ex h
      obtain ⟨m3, hq4, h⟩ := bM_ex h
      refine E_aload_n (n := 66) 35 rfl rfl rfl 0 rfl <| E_iload_n (n := 67) 36 rfl rfl rfl 2 rfl <| E_iload_n (n := 68) 37 rfl rfl rfl 1 rfl <| E_cV2v (n := 71) 38 rfl rfl co_3_100 rfl sh_40 rfl (K_NI_seePlaces m x3 x2 _ hq2) <| E_aload_n (n := 72) 39 rfl rfl rfl 0 rfl <| E_iload_n (n := 73) 40 rfl rfl rfl 2 rfl <| E_cV1v (n := 76) 41 rfl rfl co_3_103 rfl sh_40 rfl (K_NI_sortKinds m1 x3 _ hq4) <| E_iinc (v := (x3 + 1)) (lv' := [(0, .ref 40), (2, .int x2), (3, .int (x3 + 1))]) (n := 79) 42 rfl rfl 2 rfl (by rw [icz_1]) (Nat.le_of_ble_eq_true rfl) [1, 2, 0] rfl <| E_goto (t := 54) 43 rfl rfl <| ?_
      exact ih m3 (x3 + 1) h
theorem NI_search_L84_ok (kx : Mem → Option (Int32 × Mem)) (R : Int32 × Mem) (hx : ∀ (m : Mem), kx m = some R → E M_NI_search 106 [(0, .ref 40)] [] m (qI R.1 R.2)) : ∀ (n : Nat) (m : Mem) (x3 : Int32), NI_search_L84 kx n m x3 = some R → E M_NI_search 84 [(0, .ref 40), (3, .int x3)] [] m (qI R.1 R.2) := by
  intro n
  induction n with
  | zero =>
    intro m x3 h
    exact absurd (show none = some R from h) (fun e => Option.some_ne_none R e.symm)
  | succ n ih =>
    intro m x3 h
    rw [NI_search_L84] at h
    refine E_iload_n (n := 85) 46 rfl rfl rfl 1 rfl <| E_aload_n (n := 86) 47 rfl rfl rfl 0 rfl <| E_gF (r := 42) (n := 89) 48 rfl rfl fg_3_22 sh_40 rfl <| E_gI (n := 92) 49 rfl rfl fg_3_97 sh_42 <| E_icmp_ge (n := 95) (t := 106) 50 rfl rfl rfl (fun hc => ?_) (fun hc => ?_)
    · have h := ifp h hc
      refine E_sub (lv' := [(0, .ref 40)]) [0] rfl ?_
      exact hx m h
    · have h := ifn h hc
      obtain ⟨m1, hq2, h⟩ := bM_ex h
      refine E_aload_n (n := 96) 51 rfl rfl rfl 0 rfl <| E_iload_n (n := 97) 52 rfl rfl rfl 1 rfl <| E_cV1v (n := 100) 53 rfl rfl co_3_106 rfl sh_40 rfl (K_NI_tryOne m x3 _ hq2) <| E_iinc (v := (x3 + 1)) (lv' := [(0, .ref 40), (3, .int (x3 + 1))]) (n := 103) 54 rfl rfl 1 rfl (by rw [icz_1]) (Nat.le_of_ble_eq_true rfl) [1, 0] rfl <| E_goto (t := 84) 55 rfl rfl <| ?_
      exact ih m1 (x3 + 1) h
theorem NI_search_L137_ok (x3 : Int32) (kx : Mem → Option (Int32 × Mem)) (R : Int32 × Mem) (hx : ∀ (m : Mem), kx m = some R → E M_NI_search 162 [(0, .ref 40), (3, .int x3)] [] m (qI R.1 R.2)) : ∀ (n : Nat) (m : Mem) (x4 : Int32), NI_search_L137 x3 kx n m x4 = some R → E M_NI_search 137 [(0, .ref 40), (3, .int x3), (4, .int x4)] [] m (qI R.1 R.2) := by
  intro n
  induction n with
  | zero =>
    intro m x4 h
    exact absurd (show none = some R from h) (fun e => Option.some_ne_none R e.symm)
  | succ n ih =>
    intro m x4 h
    rw [NI_search_L137] at h
    refine E_iload (n := 139) 74 rfl rfl 2 rfl <| E_aload_n (n := 140) 75 rfl rfl rfl 0 rfl <| E_gF (r := 42) (n := 143) 76 rfl rfl fg_3_22 sh_40 rfl <| E_gI (n := 146) 77 rfl rfl fg_3_97 sh_42 <| E_icmp_ge (n := 149) (t := 162) 78 rfl rfl rfl (fun hc => ?_) (fun hc => ?_)
    · have h := ifp h hc
      refine E_sub (lv' := [(0, .ref 40), (3, .int x3)]) [0, 1] rfl ?_
      exact hx m h
    · have h := ifn h hc
      obtain ⟨m1, hq2, h⟩ := bM_ex h
      refine E_aload_n (n := 150) 79 rfl rfl rfl 0 rfl <| E_iload_n (n := 151) 80 rfl rfl rfl 1 rfl <| E_iload (n := 153) 81 rfl rfl 2 rfl <| E_cV2v (n := 156) 82 rfl rfl co_3_109 rfl sh_40 rfl (K_NI_tryTwo m x3 x4 _ hq2) <| E_iinc (v := (x4 + 1)) (lv' := [(0, .ref 40), (3, .int x3), (4, .int (x4 + 1))]) (n := 159) 83 rfl rfl 2 rfl (by rw [icz_1]) (Nat.le_of_ble_eq_true rfl) [1, 2, 0] rfl <| E_goto (t := 137) 84 rfl rfl <| ?_
      exact ih m1 (x4 + 1) h
theorem NI_search_L121_ok (kx : Mem → Option (Int32 × Mem)) (R : Int32 × Mem) (hx : ∀ (m : Mem), kx m = some R → E M_NI_search 168 [(0, .ref 40)] [] m (qI R.1 R.2)) : ∀ (n : Nat) (m : Mem) (x3 : Int32), NI_search_L121 kx n m x3 = some R → E M_NI_search 121 [(0, .ref 40), (3, .int x3)] [] m (qI R.1 R.2) := by
  intro n
  induction n with
  | zero =>
    intro m x3 h
    exact absurd (show none = some R from h) (fun e => Option.some_ne_none R e.symm)
  | succ n ih =>
    intro m x3 h
    rw [NI_search_L121] at h
    refine E_iload_n (n := 122) 65 rfl rfl rfl 1 rfl <| E_aload_n (n := 123) 66 rfl rfl rfl 0 rfl <| E_gF (r := 42) (n := 126) 67 rfl rfl fg_3_22 sh_40 rfl <| E_gI (n := 129) 68 rfl rfl fg_3_97 sh_42 <| E_icmp_ge (n := 132) (t := 168) 69 rfl rfl rfl (fun hc => ?_) (fun hc => ?_)
    · have h := ifp h hc
      refine E_sub (lv' := [(0, .ref 40)]) [0] rfl ?_
      exact hx m h
    · have h := ifn h hc
      obtain ⟨v1, hv1, h⟩ := letV_ex h
      refine E_iload_n (n := 133) 70 rfl rfl rfl 1 rfl <| E_iconst (v := 1) (n := 134) 71 rfl rfl icz_1 <| E_iadd (n := 135) 72 rfl rfl <| E_top hv1 <| E_istore (lv' := [(0, .ref 40), (3, .int x3), (4, .int v1)]) (n := 137) 73 rfl rfl (Nat.le_of_ble_eq_true rfl) [1, 2, 0] rfl <| ?_
      refine NI_search_L137_ok x3 _ R ?_ FU m v1 h
      intro m2 h
      refine E_iinc (v := (x3 + 1)) (lv' := [(0, .ref 40), (3, .int (x3 + 1))]) (n := 165) 85 rfl rfl 1 rfl (by rw [icz_1]) (Nat.le_of_ble_eq_true rfl) [1, 0] rfl <| E_goto (t := 121) 86 rfl rfl <| ?_
      exact ih m2 (x3 + 1) h
theorem K_NI_search (m : Mem) (x1 : Nat) (x2 : Int32) (h_x1 : shp x1 = (2, 0)) (R : Int32 × Mem) (h : NI_search m x1 x2 = some R) : Mt M_NI_search [.ref 40, .ref x1, .int x2] m (qI R.1 R.2) := by
  refine Mt.of G_NI_search (Nat.le_of_ble_eq_true rfl) (E_sub (lv' := [(0, .ref 40), (1, .ref x1), (2, .int x2)]) [0, 1, 2] rfl ?_)
  unfold NI_search at h
  obtain ⟨m1, hq2, h⟩ := bM_ex h
  obtain ⟨m3, hq4, h⟩ := bM_ex h
  obtain ⟨m5, hm5, h⟩ := letM_ex h
  obtain ⟨m6, hq7, h⟩ := bM_ex h
  obtain ⟨v8, hq9, h⟩ := bI_ex h
  refine E_aload_n (n := 1) 0 rfl rfl rfl 0 rfl <| E_gF (r := 42) (n := 4) 1 rfl rfl fg_3_22 sh_40 rfl <| E_aload_n (n := 5) 2 rfl rfl rfl 1 rfl <| E_cV1v (n := 8) 3 rfl rfl co_3_66 rfl sh_42 rfl (K_LN_copyFrom m 42 x1 sh_42 h_x1 _ hq2) <| E_aload_n (n := 9) 4 rfl rfl rfl 0 rfl <| E_cV0v (n := 12) 5 rfl rfl co_3_70 rfl sh_40 rfl (K_NI_seeEdges m1 _ hq4) <| E_aload_n (n := 13) 6 rfl rfl rfl 0 rfl <| E_iconst (v := 0) (n := 14) 7 rfl rfl icz_0 <| E_pI (n := 17) 8 rfl rfl fp_3_73 sh_40 <| E_mem hm5 <| E_aload_n (n := 18) 9 rfl rfl rfl 0 rfl <| E_iconst (v := (-1)) (n := 19) 10 rfl rfl icz_m1 <| E_iconst (v := (-1)) (n := 20) 11 rfl rfl icz_m1 <| E_cV2v (n := 23) 12 rfl rfl co_3_76 rfl sh_40 rfl (K_NI_leaveOut m5 (-1) (-1) _ hq7) <| E_aload_n (n := 24) 13 rfl rfl rfl 0 rfl <| E_gA (n := 27) 14 rfl rfl fg_3_62 sh_40 <| E_aload_n (n := 28) 15 rfl rfl rfl 0 rfl <| E_gJ (n := 31) 16 rfl rfl fg_3_80 sh_40 <| E_aload_n (n := 32) 17 rfl rfl rfl 0 rfl <| E_gI (n := 35) 18 rfl rfl fg_3_84 sh_40 <| E_cV2r (n := 38) 19 rfl rfl co_3_87 rfl sh_36 rfl (K_PT_fit m6 (gJ m6 40 15) (gI m6 40 16) _ hq9) <| E_if_eq (n := 41) (t := 52) 20 rfl rfl rfl (fun hc => ?_) (fun hc => ?_)
  · have h := ifp h hc
    refine E_iconst (v := 0) (n := 53) 28 rfl rfl icz_0 <| E_istore_n (lv' := [(0, .ref 40), (1, .ref x1), (2, .int x2), (3, .int 0)]) (n := 54) 29 rfl rfl rfl (Nat.le_of_ble_eq_true rfl) [1, 2, 3, 0] rfl <| ?_
    refine E_sub (lv' := [(0, .ref 40), (2, .int x2), (3, .int 0)]) [0, 2, 3] rfl ?_
    refine NI_search_L54_ok x2 _ R ?_ FU m6 0 h
    intro m10 h
    refine E_iconst (v := 0) (n := 83) 44 rfl rfl icz_0 <| E_istore_n (lv' := [(0, .ref 40), (3, .int 0)]) (n := 84) 45 rfl rfl rfl (Nat.le_of_ble_eq_true rfl) [1, 0] rfl <| ?_
    refine NI_search_L84_ok _ R ?_ FU m10 0 h
    intro m11 h
    refine E_aload_n (n := 107) 56 rfl rfl rfl 0 rfl <| E_gI (n := 110) 57 rfl rfl fg_3_73 sh_40 <| E_if_le (n := 113) (t := 119) 58 rfl rfl rfl (fun hc => ?_) (fun hc => ?_)
    · have h := ifp h hc
      refine E_iconst (v := 0) (n := 120) 63 rfl rfl icz_0 <| E_istore_n (lv' := [(0, .ref 40), (3, .int 0)]) (n := 121) 64 rfl rfl rfl (Nat.le_of_ble_eq_true rfl) [1, 0] rfl <| ?_
      refine NI_search_L121_ok _ R ?_ FU m11 0 h
      intro m12 h
      refine E_aload_n (n := 169) 87 rfl rfl rfl 0 rfl <| E_gI (n := 172) 88 rfl rfl fg_3_73 sh_40 <| E_if_le (n := 175) (t := 183) 89 rfl rfl rfl (fun hc => ?_) (fun hc => ?_)
      · have h := ifp h hc
        refine E_iconst (v := (-1)) (n := 184) 94 rfl rfl icz_m1 <| ?_
        refine E_ireturn 95 rfl rfl (eS h)
      · have h := ifn h hc
        obtain ⟨v13, m14, hq15, h⟩ := bV_ex h
        refine E_aload_n (n := 176) 90 rfl rfl rfl 0 rfl <| E_iconst (v := 2) (n := 177) 91 rfl rfl icz_2 <| E_cV1r (n := 180) 92 rfl rfl co_3_93 rfl sh_40 rfl (K_NI_conclude m12 2 _ hq15) <| E_goto (t := 184) 93 rfl rfl <| ?_
        refine E_ireturn 95 rfl rfl (eS h)
    · have h := ifn h hc
      obtain ⟨v16, m17, hq18, h⟩ := bV_ex h
      refine E_aload_n (n := 114) 59 rfl rfl rfl 0 rfl <| E_iconst (v := 1) (n := 115) 60 rfl rfl icz_1 <| E_cV1r (n := 118) 61 rfl rfl co_3_93 rfl sh_40 rfl (K_NI_conclude m11 1 _ hq18) <| E_ireturn 62 rfl rfl (eS h)
  · have h := ifn h hc
    obtain ⟨m19, hm19, h⟩ := letM_ex h
    obtain ⟨v20, m21, hq22, h⟩ := bV_ex h
    refine E_aload_n (n := 42) 21 rfl rfl rfl 0 rfl <| E_iconst (v := 1) (n := 43) 22 rfl rfl icz_1 <| E_pI (n := 46) 23 rfl rfl fp_3_73 sh_40 <| E_mem hm19 <| E_aload_n (n := 47) 24 rfl rfl rfl 0 rfl <| E_iconst (v := 0) (n := 48) 25 rfl rfl icz_0 <| E_cV1r (n := 51) 26 rfl rfl co_3_93 rfl sh_40 rfl (K_NI_conclude m19 0 _ hq22) <| E_ireturn 27 rfl rfl (eS h)
theorem K_OH_byNight (m : Mem) (x1 : Int32) (x2 : Int32) (R : Int32 × Mem) (h : OH_byNight m x1 x2 = some R) : Mt M_OH_byNight [.ref 0, .int x1, .int x2] m (qI R.1 R.2) := by
  refine Mt.of G_OH_byNight (Nat.le_of_ble_eq_true rfl) (E_sub (lv' := [(0, .ref 0), (1, .int x1), (2, .int x2)]) [0, 1, 2] rfl ?_)
  unfold OH_byNight at h
  obtain ⟨v1, m2, hq3, h⟩ := bV_ex h
  obtain ⟨m4, hm4, h⟩ := letM_ex h
  refine E_aload_n (n := 1) 0 rfl rfl rfl 0 rfl <| E_gF (r := 36) (n := 4) 1 rfl rfl fg_11_57 sh_0 rfl <| E_aload_n (n := 5) 2 rfl rfl rfl 0 rfl <| E_gF (r := 1) (n := 8) 3 rfl rfl fg_11_12 sh_0 rfl <| E_cV1r (n := 11) 4 rfl rfl co_11_317 rfl sh_36 rfl (K_PT_take m _ hq3) <| E_istore_n (lv' := [(0, .ref 0), (1, .int x1), (2, .int x2), (3, .int v1)]) (n := 12) 5 rfl rfl rfl (Nat.le_of_ble_eq_true rfl) [1, 2, 3, 0] rfl <| E_aload_n (n := 13) 6 rfl rfl rfl 0 rfl <| E_gF (r := 1) (n := 16) 7 rfl rfl fg_11_12 sh_0 rfl <| E_iconst (v := 0) (n := 17) 8 rfl rfl icz_0 <| E_pI (n := 20) 9 rfl rfl fp_11_103 sh_1 <| E_mem hm4 <| E_iload_n (n := 21) 10 rfl rfl rfl 3 rfl <| E_if_eq (n := 24) (t := 45) 11 rfl rfl rfl (fun hc => ?_) (fun hc => ?_)
  · have h := ifp h hc
    refine E_bipush (v := (-2)) (n := 47) 23 rfl rfl bpz_m2 <| E_ireturn 24 rfl rfl (eS h)
  · have h := ifn h hc
    refine E_aload_n (n := 25) 12 rfl rfl rfl 0 rfl <| E_gN (n := 28) 13 rfl rfl fg_11_92 sh_0 (Or.inl rfl) fun hN5 => E_iload_n (n := 29) 14 rfl rfl rfl 1 rfl <| E_cV1r (n := 32) 15 rfl rfl co_11_173 rfl hN5 rfl (K_PH_hasLine m4 (gN m4 13) x1 hN5 _ rfl) <| E_if_eq (n := 35) (t := 45) 16 rfl rfl rfl (fun hc => ?_) (fun hc => ?_)
    · have h := ifp h hc
      refine E_bipush (v := (-2)) (n := 47) 23 rfl rfl bpz_m2 <| E_ireturn 24 rfl rfl (eS h)
    · have h := ifn h hc
      refine E_iload_n (n := 36) 17 rfl rfl rfl 2 rfl <| E_iconst (v := 1) (n := 37) 18 rfl rfl icz_1 <| E_icmp_lt (n := 40) (t := 45) 19 rfl rfl rfl (fun hc => ?_) (fun hc => ?_)
      · have h := ifp h hc
        refine E_bipush (v := (-2)) (n := 47) 23 rfl rfl bpz_m2 <| E_ireturn 24 rfl rfl (eS h)
      · have h := ifn h hc
        refine E_iload_n (n := 41) 20 rfl rfl rfl 2 rfl <| E_iconst (v := 3) (n := 42) 21 rfl rfl icz_3 <| E_icmp_le (n := 45) (t := 48) 22 rfl rfl rfl (fun hc => ?_) (fun hc => ?_)
        · have h := ifp h hc
          obtain ⟨m7, hm7, h⟩ := letM_ex h
          obtain ⟨m9, hm9, h⟩ := letM_ex h
          obtain ⟨hc11, h⟩ := ift h
          obtain ⟨v12, m13, hq14, h⟩ := bV_ex h
          refine E_aload_n (n := 49) 25 rfl rfl rfl 0 rfl <| E_gF (r := 36) (n := 52) 26 rfl rfl fg_11_57 sh_0 rfl <| E_aload_n (n := 53) 27 rfl rfl rfl 0 rfl <| E_gN (n := 56) 28 rfl rfl fg_11_92 sh_0 (Or.inl rfl) fun hN6 => E_gI (n := 59) 29 rfl rfl fg_11_298 hN6 <| E_pI (n := 62) 30 rfl rfl fp_11_321 sh_36 <| E_mem hm7 <| E_aload_n (n := 63) 31 rfl rfl rfl 0 rfl <| E_gF (r := 36) (n := 66) 32 rfl rfl fg_11_57 sh_0 rfl <| E_aload_n (n := 67) 33 rfl rfl rfl 0 rfl <| E_gN (n := 70) 34 rfl rfl fg_11_92 sh_0 (Or.inl rfl) fun hN8 => E_gI (n := 73) 35 rfl rfl fg_11_301 hN8 <| E_pI (n := 76) 36 rfl rfl fp_11_322 sh_36 <| E_mem hm9 <| E_aload_n (n := 77) 37 rfl rfl rfl 0 rfl <| E_gF (r := 40) (n := 80) 38 rfl rfl fg_11_66 sh_0 rfl <| E_aload_n (n := 81) 39 rfl rfl rfl 0 rfl <| E_gN (n := 84) 40 rfl rfl fg_11_92 sh_0 (Or.inl rfl) fun hN10 => E_gF (r := ((gN m9 13) + 1)) (n := 87) 41 rfl rfl fg_11_138 hN10 rfl <| E_iload_n (n := 88) 42 rfl rfl rfl 1 rfl <| E_aL (r := ((gN m9 13) + 2 + 3 * ixn x1)) (n := 89) 43 rfl rfl (shc_5_0 hN10) hc11 rfl <| E_iload_n (n := 90) 44 rfl rfl rfl 2 rfl <| E_cV2r (n := 93) 45 rfl rfl co_11_323 rfl sh_40 rfl (K_NI_search m9 ((gN m9 13) + 2 + 3 * ixn x1) x2 (shln hN10 hc11) _ hq14) <| E_ireturn 46 rfl rfl (eS h)
        · have h := ifn h hc
          refine E_bipush (v := (-2)) (n := 47) 23 rfl rfl bpz_m2 <| E_ireturn 24 rfl rfl (eS h)
theorem K_OH_ways (m : Mem) (R : Int32) (h : OH_ways m = R) : Mt M_OH_ways [.ref 0] m (qI R m) := by
  refine Mt.of G_OH_ways (Nat.le_of_ble_eq_true rfl) (E_sub (lv' := [(0, .ref 0)]) [0] rfl ?_)
  unfold OH_ways at h
  refine E_aload_n (n := 1) 0 rfl rfl rfl 0 rfl <| E_gF (r := 40) (n := 4) 1 rfl rfl fg_11_66 sh_0 rfl <| E_gI (n := 7) 2 rfl rfl fg_11_327 sh_40 <| E_ireturn 3 rfl rfl (eT h)
theorem K_OH_way (m : Mem) (x1 : Int32) (x2 : Int32) (R : Int32) (h : OH_way m x1 x2 = some R) : Mt M_OH_way [.ref 0, .int x1, .int x2] m (qI R m) := by
  refine Mt.of G_OH_way (Nat.le_of_ble_eq_true rfl) (E_sub (lv' := [(0, .ref 0), (1, .int x1), (2, .int x2)]) [0, 1, 2] rfl ?_)
  unfold OH_way at h
  refine E_iload_n (n := 1) 0 rfl rfl rfl 1 rfl <| E_if_lt (n := 4) (t := 29) 1 rfl rfl rfl (fun hc => ?_) (fun hc => ?_)
  · have h := ifp h hc
    refine E_iconst (v := (-1)) (n := 30) 15 rfl rfl icz_m1 <| E_ireturn 16 rfl rfl (eP h)
  · have h := ifn h hc
    refine E_iload_n (n := 5) 2 rfl rfl rfl 1 rfl <| E_iconst (v := 1) (n := 6) 3 rfl rfl icz_1 <| E_icmp_gt (n := 9) (t := 29) 4 rfl rfl rfl (fun hc => ?_) (fun hc => ?_)
    · have h := ifp h hc
      refine E_iconst (v := (-1)) (n := 30) 15 rfl rfl icz_m1 <| E_ireturn 16 rfl rfl (eP h)
    · have h := ifn h hc
      refine E_iload_n (n := 10) 5 rfl rfl rfl 1 rfl <| E_aload_n (n := 11) 6 rfl rfl rfl 0 rfl <| E_gF (r := 40) (n := 14) 7 rfl rfl fg_11_66 sh_0 rfl <| E_gI (n := 17) 8 rfl rfl fg_11_330 sh_40 <| E_icmp_ge (n := 20) (t := 29) 9 rfl rfl rfl (fun hc => ?_) (fun hc => ?_)
      · have h := ifp h hc
        refine E_iconst (v := (-1)) (n := 30) 15 rfl rfl icz_m1 <| E_ireturn 16 rfl rfl (eP h)
      · have h := ifn h hc
        refine E_iload_n (n := 21) 10 rfl rfl rfl 2 rfl <| E_if_lt (n := 24) (t := 29) 11 rfl rfl rfl (fun hc => ?_) (fun hc => ?_)
        · have h := ifp h hc
          refine E_iconst (v := (-1)) (n := 30) 15 rfl rfl icz_m1 <| E_ireturn 16 rfl rfl (eP h)
        · have h := ifn h hc
          refine E_iload_n (n := 25) 12 rfl rfl rfl 2 rfl <| E_iconst (v := 2) (n := 26) 13 rfl rfl icz_2 <| E_icmp_le (n := 29) (t := 31) 14 rfl rfl rfl (fun hc => ?_) (fun hc => ?_)
          · have h := ifp h hc
            obtain ⟨hc1, h⟩ := ift h
            refine E_aload_n (n := 32) 17 rfl rfl rfl 0 rfl <| E_gF (r := 40) (n := 35) 18 rfl rfl fg_11_66 sh_0 rfl <| E_gF (r := 41) (n := 38) 19 rfl rfl fg_11_333 sh_40 rfl <| E_iload_n (n := 39) 20 rfl rfl rfl 1 rfl <| E_iconst (v := 3) (n := 40) 21 rfl rfl icz_3 <| E_imul (n := 41) 22 rfl rfl <| E_iload_n (n := 42) 23 rfl rfl rfl 2 rfl <| E_iadd (n := 43) 24 rfl rfl <| E_iald (n := 44) 25 rfl rfl sh_41 hc1 <| E_ireturn 26 rfl rfl (eP h)
          · have h := ifn h hc
            refine E_iconst (v := (-1)) (n := 30) 15 rfl rfl icz_m1 <| E_ireturn 16 rfl rfl (eP h)
theorem PT_fitRectangle_J102_ok (kr : Int32 → Option Int32) (kx : Option Int32) (m : Mem) (x1 : Int32) (x2 : Int32) (x3 : Int32) (x4 : Int32) (x5 : Int32) (x6 : Int32) (s0 : Int32) (s1 : Int32) (R : Int32) (hr : ∀ (x6 : Int32), kr x6 = some R → E M_PT_fitRectangle 11 [(0, .ref 36), (1, .int x1), (2, .int x2), (3, .int x3), (4, .int x4), (5, .int x5), (6, .int x6)] [] m (qI R m)) (hx : kx = some R → E M_PT_fitRectangle 113 [] [] m (qI R m)) (h : PT_fitRectangle_J102 kr kx m x1 x2 x3 x4 x5 x6 s0 s1 = some R) : E M_PT_fitRectangle 102 [(0, .ref 36), (1, .int x1), (2, .int x2), (3, .int x3), (4, .int x4), (5, .int x5), (6, .int x6)] [.int s1, .int s0] m (qI R m) := by
  unfold PT_fitRectangle_J102 at h
  refine E_icmp_eq (n := 105) (t := 107) 57 rfl rfl rfl (fun hc => ?_) (fun hc => ?_)
  · have h := ifp h hc
    refine E_iinc (v := (x6 + 1)) (lv' := [(0, .ref 36), (1, .int x1), (2, .int x2), (3, .int x3), (4, .int x4), (5, .int x5), (6, .int (x6 + 1))]) (n := 110) 60 rfl rfl 6 rfl (by rw [icz_1]) (Nat.le_of_ble_eq_true rfl) [1, 2, 3, 4, 5, 6, 0] rfl <| E_goto (t := 11) 61 rfl rfl <| ?_
    exact hr (x6 + 1) h
  · have h := ifn h hc
    refine E_iconst (v := 0) (n := 106) 58 rfl rfl icz_0 <| E_zreturn 59 rfl rfl z0 (eP h)
theorem PT_fitRectangle_J82_ok (kr : Int32 → Option Int32) (kx : Option Int32) (m : Mem) (x1 : Int32) (x2 : Int32) (x3 : Int32) (x4 : Int32) (x5 : Int32) (x6 : Int32) (s0 : Int32) (R : Int32) (hr : ∀ (x6 : Int32), kr x6 = some R → E M_PT_fitRectangle 11 [(0, .ref 36), (1, .int x1), (2, .int x2), (3, .int x3), (4, .int x4), (5, .int x5), (6, .int x6)] [] m (qI R m)) (hx : kx = some R → E M_PT_fitRectangle 113 [] [] m (qI R m)) (h : PT_fitRectangle_J82 kr kx m x1 x2 x3 x4 x5 x6 s0 = some R) : E M_PT_fitRectangle 82 [(0, .ref 36), (1, .int x1), (2, .int x2), (3, .int x3), (4, .int x4), (5, .int x5), (6, .int x6)] [.int s0] m (qI R m) := by
  unfold PT_fitRectangle_J82 at h
  obtain ⟨hc1, h⟩ := ift h
  refine E_istore (lv' := [(0, .ref 36), (1, .int x1), (2, .int x2), (3, .int x3), (4, .int x4), (5, .int x5), (6, .int x6), (7, .int s0)]) (n := 84) 46 rfl rfl (Nat.le_of_ble_eq_true rfl) [1, 2, 3, 4, 5, 6, 7, 0] rfl <| E_iload (n := 86) 47 rfl rfl 7 rfl <| E_aload_n (n := 87) 48 rfl rfl rfl 0 rfl <| E_gF (r := 39) (n := 90) 49 rfl rfl fg_7_18 sh_36 rfl <| E_iload (n := 92) 50 rfl rfl 6 rfl <| E_iald (n := 93) 51 rfl rfl sh_39 hc1 <| E_iconst (v := 1) (n := 94) 52 rfl rfl icz_1 <| E_icmp_ne (n := 97) (t := 101) 53 rfl rfl rfl (fun hc => ?_) (fun hc => ?_)
  · have h := ifn h hc
    refine E_iconst (v := 0) (n := 102) 56 rfl rfl icz_0 <| ?_
    refine E_sub (lv' := [(0, .ref 36), (1, .int x1), (2, .int x2), (3, .int x3), (4, .int x4), (5, .int x5), (6, .int x6)]) [0, 1, 2, 3, 4, 5, 6] rfl ?_
    exact PT_fitRectangle_J102_ok _ _ m x1 x2 x3 x4 x5 x6 s0 0 _ hr hx h
  · have h := ifp h hc
    refine E_iconst (v := 1) (n := 98) 54 rfl rfl icz_1 <| E_goto (t := 102) 55 rfl rfl <| ?_
    refine E_sub (lv' := [(0, .ref 36), (1, .int x1), (2, .int x2), (3, .int x3), (4, .int x4), (5, .int x5), (6, .int x6)]) [0, 1, 2, 3, 4, 5, 6] rfl ?_
    exact PT_fitRectangle_J102_ok _ _ m x1 x2 x3 x4 x5 x6 s0 1 _ hr hx h
theorem PT_fitRectangle_L11_ok (m : Mem) (x1 : Int32) (x2 : Int32) (x3 : Int32) (x4 : Int32) (x5 : Int32) (kx : Option Int32) (R : Int32) (hx : kx = some R → E M_PT_fitRectangle 113 [] [] m (qI R m)) : ∀ (n : Nat) (x6 : Int32), PT_fitRectangle_L11 m x1 x2 x3 x4 x5 kx n x6 = some R → E M_PT_fitRectangle 11 [(0, .ref 36), (1, .int x1), (2, .int x2), (3, .int x3), (4, .int x4), (5, .int x5), (6, .int x6)] [] m (qI R m) := by
  intro n
  induction n with
  | zero =>
    intro x6 h
    exact absurd (show none = some R from h) (fun e => Option.some_ne_none R e.symm)
  | succ n ih =>
    intro x6 h
    rw [PT_fitRectangle_L11] at h
    refine E_iload (n := 13) 7 rfl rfl 6 rfl <| E_aload_n (n := 14) 8 rfl rfl rfl 0 rfl <| E_gI (n := 17) 9 rfl rfl fg_7_21 sh_36 <| E_icmp_ge (n := 20) (t := 113) 10 rfl rfl rfl (fun hc => ?_) (fun hc => ?_)
    · have h := ifp h hc
      refine E_sub (lv' := []) [] rfl ?_
      exact hx h
    · have h := ifn h hc
      obtain ⟨hc1, h⟩ := ift h
      refine E_iload_n (n := 21) 11 rfl rfl rfl 1 rfl <| E_iload (n := 23) 12 rfl rfl 5 rfl <| E_iadd (n := 24) 13 rfl rfl <| E_aload_n (n := 25) 14 rfl rfl rfl 0 rfl <| E_gF (r := 37) (n := 28) 15 rfl rfl fg_7_11 sh_36 rfl <| E_iload (n := 30) 16 rfl rfl 6 rfl <| E_iald (n := 31) 17 rfl rfl sh_37 hc1 <| E_icmp_gt (n := 34) (t := 81) 18 rfl rfl rfl (fun hc => ?_) (fun hc => ?_)
      · have h := ifp h hc
        refine E_iconst (v := 0) (n := 82) 45 rfl rfl icz_0 <| ?_
        exact PT_fitRectangle_J82_ok _ _ m x1 x2 x3 x4 x5 x6 0 _ ih hx h
      · have h := ifn h hc
        refine E_aload_n (n := 35) 19 rfl rfl rfl 0 rfl <| E_gF (r := 37) (n := 38) 20 rfl rfl fg_7_11 sh_36 rfl <| E_iload (n := 40) 21 rfl rfl 6 rfl <| E_iald (n := 41) 22 rfl rfl sh_37 hc1 <| E_iload_n (n := 42) 23 rfl rfl rfl 3 rfl <| E_iload (n := 44) 24 rfl rfl 5 rfl <| E_isub (n := 45) 25 rfl rfl <| E_icmp_gt (n := 48) (t := 81) 26 rfl rfl rfl (fun hc => ?_) (fun hc => ?_)
        · have h := ifp h hc
          refine E_iconst (v := 0) (n := 82) 45 rfl rfl icz_0 <| ?_
          exact PT_fitRectangle_J82_ok _ _ m x1 x2 x3 x4 x5 x6 0 _ ih hx h
        · have h := ifn h hc
          refine E_iload_n (n := 49) 27 rfl rfl rfl 2 rfl <| E_iload (n := 51) 28 rfl rfl 5 rfl <| E_iadd (n := 52) 29 rfl rfl <| E_aload_n (n := 53) 30 rfl rfl rfl 0 rfl <| E_gF (r := 38) (n := 56) 31 rfl rfl fg_7_15 sh_36 rfl <| E_iload (n := 58) 32 rfl rfl 6 rfl <| E_iald (n := 59) 33 rfl rfl sh_38 hc1 <| E_icmp_gt (n := 62) (t := 81) 34 rfl rfl rfl (fun hc => ?_) (fun hc => ?_)
          · have h := ifp h hc
            refine E_iconst (v := 0) (n := 82) 45 rfl rfl icz_0 <| ?_
            exact PT_fitRectangle_J82_ok _ _ m x1 x2 x3 x4 x5 x6 0 _ ih hx h
          · have h := ifn h hc
            refine E_aload_n (n := 63) 35 rfl rfl rfl 0 rfl <| E_gF (r := 38) (n := 66) 36 rfl rfl fg_7_15 sh_36 rfl <| E_iload (n := 68) 37 rfl rfl 6 rfl <| E_iald (n := 69) 38 rfl rfl sh_38 hc1 <| E_iload (n := 71) 39 rfl rfl 4 rfl <| E_iload (n := 73) 40 rfl rfl 5 rfl <| E_isub (n := 74) 41 rfl rfl <| E_icmp_gt (n := 77) (t := 81) 42 rfl rfl rfl (fun hc => ?_) (fun hc => ?_)
            · have h := ifp h hc
              refine E_iconst (v := 0) (n := 82) 45 rfl rfl icz_0 <| ?_
              exact PT_fitRectangle_J82_ok _ _ m x1 x2 x3 x4 x5 x6 0 _ ih hx h
            · have h := ifn h hc
              refine E_iconst (v := 1) (n := 78) 43 rfl rfl icz_1 <| E_goto (t := 82) 44 rfl rfl <| ?_
              exact PT_fitRectangle_J82_ok _ _ m x1 x2 x3 x4 x5 x6 1 _ ih hx h
theorem K_PT_fitRectangle (m : Mem) (x1 : Int32) (x2 : Int32) (x3 : Int32) (x4 : Int32) (R : Int32) (h : PT_fitRectangle m x1 x2 x3 x4 = some R) : Mt M_PT_fitRectangle [.ref 36, .int x1, .int x2, .int x3, .int x4] m (qI R m) := by
  refine Mt.of G_PT_fitRectangle (Nat.le_of_ble_eq_true rfl) (E_sub (lv' := [(0, .ref 36), (1, .int x1), (2, .int x2), (3, .int x3), (4, .int x4)]) [0, 1, 2, 3, 4] rfl ?_)
  unfold PT_fitRectangle at h
  obtain ⟨v1, hv1, h⟩ := letV_ex h
  refine E_iconst (v := 1) (n := 1) 0 rfl rfl icz_1 <| E_aload_n (n := 2) 1 rfl rfl rfl 0 rfl <| E_gI (n := 5) 2 rfl rfl fg_7_51 sh_36 <| E_isub (n := 6) 3 rfl rfl <| E_top hv1 <| E_istore (lv' := [(0, .ref 36), (1, .int x1), (2, .int x2), (3, .int x3), (4, .int x4), (5, .int v1)]) (n := 8) 4 rfl rfl (Nat.le_of_ble_eq_true rfl) [1, 2, 3, 4, 5, 0] rfl <| E_iconst (v := 0) (n := 9) 5 rfl rfl icz_0 <| E_istore (lv' := [(0, .ref 36), (1, .int x1), (2, .int x2), (3, .int x3), (4, .int x4), (5, .int v1), (6, .int 0)]) (n := 11) 6 rfl rfl (Nat.le_of_ble_eq_true rfl) [1, 2, 3, 4, 5, 6, 0] rfl <| ?_
  refine PT_fitRectangle_L11_ok m x1 x2 x3 x4 v1 _ R ?_ FU 0 h
  intro h
  refine E_iconst (v := 1) (n := 114) 62 rfl rfl icz_1 <| E_zreturn 63 rfl rfl z1 (eP h)

/-! the law up to its loop -/
theorem dl_0 : decode code 0 = .ok (.new 8, 3) := by decide +kernel
theorem dl_3 : decode code 3 = .ok (.dup, 1) := by decide +kernel
theorem dl_4 : decode code 4 = .ok (.invokespecial 22, 3) := by decide +kernel
theorem dl_7 : decode code 7 = .ok (.astore_n 1, 1) := by decide +kernel
theorem dl_8 : decode code 8 = .ok (.new 23, 3) := by decide +kernel
theorem dl_11 : decode code 11 = .ok (.dup, 1) := by decide +kernel
theorem dl_12 : decode code 12 = .ok (.invokespecial 25, 3) := by decide +kernel
theorem dl_15 : decode code 15 = .ok (.astore_n 2, 1) := by decide +kernel
theorem dl_16 : decode code 16 = .ok (.iconst 1, 1) := by decide +kernel
theorem dl_17 : decode code 17 = .ok (.newarray .long, 2) := by decide +kernel
theorem dl_19 : decode code 19 = .ok (.astore_n 3, 1) := by decide +kernel
theorem dl_20 : decode code 20 = .ok (.iconst 0, 1) := by decide +kernel
theorem dl_21 : decode code 21 = .ok (.istore 4, 2) := by decide +kernel
theorem law_start {x : Cx} {b0 : Nat} (hR : xR x = room_1) (hE : EnvM M_law x.1 (xS x) x.2.2.2.2.2.1 x.2.2.2.2.2.2.1 x.2.2.2.2.2.2.2.2.1 x.2.2.2.2.2.2.2.2.2.1 (xG x)) (h : EV M_law x 163 99700 23 (lvL x b0 0) [] m0) : CN M_law x (xG x).2.1 0 0 0 [(0, .ref b0)] [] [] := by
  refine N_new (n := 3) (k := 0) (ci := 11) (N := 17) (C := RX11) (T := TX11) (ty := tyX11) dl_0 rfl rfl inwX11 tyX11_ok tw_136 tw_137 tw_111 (by rw [hR]; decide) (by rfl) ?_
  refine N_dup (n := 4) dl_3 rfl ?_
  refine N_initP (n := 7) (na := 0) (k := 0) (M' := M_IN_OH) (As := []) dl_4 rfl G_IN_OH rfl rfl tw_138 tw_139 (by decide +kernel) (by rw [hR]; decide) (by rw [hR]; decide) I_OH (by rfl) rfl (Nat.le_of_ble_eq_true rfl) rfl rfl rfl (Nat.le_of_ble_eq_true rfl) (len_OH _ _) ?_
  refine N_astore_n (n := 8) dl_7 rfl rfl (by decide) [0, 1] rfl ?_
  refine N_new (n := 11) (k := 133) (ci := 12) (N := 58) (C := RX12) (T := TX12) (ty := tyX12) dl_8 rfl rfl inwX12 tyX12_ok tw_1502 tw_1496 tw_123 (by rw [hR]; decide) (by simp only [List.length_append, List.length_cons, List.length_nil, len_OH, len_RMx]) ?_
  refine N_dup (n := 12) dl_11 rfl ?_
  refine N_initP (n := 15) (na := 0) (k := 133) (M' := M_IN_RM) (As := []) dl_12 rfl G_IN_RM rfl rfl tw_1503 tw_1504 (by decide +kernel) (by rw [hR]; decide) (by rw [hR]; decide) I_RM (by simp only [List.length_append, List.length_cons, List.length_nil, len_OH, len_RMx]) rfl (Nat.le_of_ble_eq_true rfl) rfl rfl rfl (Nat.le_of_ble_eq_true rfl) (len_RMx _ _ _ _) ?_
  refine N_astore_n (n := 16) dl_15 rfl rfl (by decide) [0, 1, 2] rfl ?_
  refine N_iconst (n := 17) (v := 1) dl_16 rfl (by decide) ?_
  refine N_nj (n := 19) (k := 162) (N := 1) dl_17 rfl (by decide) (by decide) (by decide) (by rw [hR]; decide) (by simp only [List.length_append, List.length_cons, List.length_nil, len_OH, len_RMx]) ?_
  refine N_astore_n (n := 20) dl_19 rfl rfl (by decide) [0, 1, 2, 3] rfl ?_
  refine N_iconst (n := 21) (v := 0) dl_20 rfl (by decide) ?_
  refine N_istore (n := 23) dl_21 rfl (by decide) [4, 3, 2, 1, 0] rfl ?_
  intro _ _ _ H locs ls hP hS hl
  exact h hE H locs ls ⟨start_world hP, hS, mok0⟩ hl

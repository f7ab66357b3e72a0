/-! constructors: OddHayModel (printed by wip/tools/genctor.py) -/
def M_IN_RM : MI := (({ cls := "OddHayModel", name := "<init>", desc := "()V" } : MethodName), prog_14_method_10_code, 2, none, 1, 21, [(0, .aload_n 0, 1), (1, .invokespecial 27, 3), (4, .aload_n 0, 1), (5, .sipush 940, 3), (8, .newarray .byte, 2), (10, .putfield 14, 3), (13, .aload_n 0, 1), (14, .bipush 116, 2), (16, .newarray .int, 2), (18, .putfield 33, 3), (21, .aload_n 0, 1), (22, .bipush 116, 2), (24, .newarray .int, 2), (26, .putfield 37, 3), (29, .aload_n 0, 1), (30, .bipush 26, 2), (32, .newarray .long, 2), (34, .putfield 40, 3), (37, .aload_n 0, 1), (38, .bipush 17, 2), (40, .newarray .long, 2), (42, .putfield 44, 3), (45, .aload_n 0, 1), (46, .bipush 13, 2), (48, .newarray .int, 2), (50, .putfield 47, 3), (53, .aload_n 0, 1), (54, .bipush 13, 2), (56, .newarray .int, 2), (58, .putfield 50, 3), (61, .aload_n 0, 1), (62, .sipush 400, 3), (65, .newarray .boolean, 2), (67, .putfield 53, 3), (70, .aload_n 0, 1), (71, .sipush 400, 3), (74, .newarray .boolean, 2), (76, .putfield 57, 3), (79, .aload_n 0, 1), (80, .iconst (-1), 1), (81, .putfield 60, 3), (84, .aload_n 0, 1), (85, .sipush 400, 3), (88, .newarray .int, 2), (90, .putfield 63, 3), (93, .aload_n 0, 1), (94, .sipush 400, 3), (97, .newarray .int, 2), (99, .putfield 66, 3), (102, .aload_n 0, 1), (103, .sipush 400, 3), (106, .newarray .int, 2), (108, .putfield 69, 3), (111, .aload_n 0, 1), (112, .sipush 400, 3), (115, .newarray .int, 2), (117, .putfield 72, 3), (120, .aload_n 0, 1), (121, .sipush 400, 3), (124, .newarray .boolean, 2), (126, .putfield 75, 3), (129, .aload_n 0, 1), (130, .iconst 3, 1), (131, .newarray .int, 2), (133, .putfield 78, 3), (136, .aload_n 0, 1), (137, .sipush 400, 3), (140, .newarray .int, 2), (142, .putfield 81, 3), (145, .aload_n 0, 1), (146, .ldc 84, 2), (148, .newarray .int, 2), (150, .putfield 85, 3), (153, .aload_n 0, 1), (154, .sipush 928, 3), (157, .newarray .int, 2), (159, .putfield 88, 3), (162, .aload_n 0, 1), (163, .bipush 24, 2), (165, .newarray .int, 2), (167, .putfield 91, 3), (170, .aload_n 0, 1), (171, .bipush 6, 2), (173, .newarray .int, 2), (175, .putfield 94, 3), (178, .aload_n 0, 1), (179, .iconst (-1), 1), (180, .putfield 97, 3), (183, .aload_n 0, 1), (184, .iconst 4, 1), (185, .newarray .int, 2), (187, .putfield 100, 3), (190, .aload_n 0, 1), (191, .iconst 4, 1), (192, .newarray .int, 2), (194, .putfield 103, 3), (197, .aload_n 0, 1), (198, .bipush 30, 2), (200, .newarray .int, 2), (202, .putfield 106, 3), (205, .aload_n 0, 1), (206, .bipush 30, 2), (208, .newarray .int, 2), (210, .putfield 109, 3), (213, .aload_n 0, 1), (214, .bipush 30, 2), (216, .newarray .int, 2), (218, .putfield 112, 3), (221, .aload_n 0, 1), (222, .sipush 232, 3), (225, .newarray .int, 2), (227, .putfield 115, 3), (230, .aload_n 0, 1), (231, .bipush 26, 2), (233, .newarray .long, 2), (235, .putfield 118, 3), (238, .aload_n 0, 1), (239, .iconst 2, 1), (240, .newarray .boolean, 2), (242, .putfield 121, 3), (245, .aload_n 0, 1), (246, .getfield 44, 3), (249, .iconst 0, 1), (250, .ldc2_w 124, 3), (253, .lastore, 1), (254, .aload_n 0, 1), (255, .getfield 44, 3), (258, .iconst 1, 1), (259, .ldc2_w 126, 3), (262, .lastore, 1), (263, .aload_n 0, 1), (264, .getfield 44, 3), (267, .iconst 2, 1), (268, .ldc2_w 128, 3), (271, .lastore, 1), (272, .aload_n 0, 1), (273, .getfield 44, 3), (276, .iconst 3, 1), (277, .ldc2_w 130, 3), (280, .lastore, 1), (281, .aload_n 0, 1), (282, .getfield 44, 3), (285, .iconst 4, 1), (286, .ldc2_w 132, 3), (289, .lastore, 1), (290, .aload_n 0, 1), (291, .getfield 44, 3), (294, .iconst 5, 1), (295, .ldc2_w 134, 3), (298, .lastore, 1), (299, .aload_n 0, 1), (300, .getfield 44, 3), (303, .bipush 6, 2), (305, .ldc2_w 136, 3), (308, .lastore, 1), (309, .aload_n 0, 1), (310, .getfield 44, 3), (313, .bipush 7, 2), (315, .ldc2_w 138, 3), (318, .lastore, 1), (319, .aload_n 0, 1), (320, .getfield 44, 3), (323, .bipush 8, 2), (325, .ldc2_w 140, 3), (328, .lastore, 1), (329, .aload_n 0, 1), (330, .getfield 44, 3), (333, .bipush 9, 2), (335, .ldc2_w 142, 3), (338, .lastore, 1), (339, .aload_n 0, 1), (340, .getfield 44, 3), (343, .bipush 10, 2), (345, .ldc2_w 144, 3), (348, .lastore, 1), (349, .aload_n 0, 1), (350, .getfield 44, 3), (353, .bipush 11, 2), (355, .ldc2_w 146, 3), (358, .lastore, 1), (359, .aload_n 0, 1), (360, .getfield 44, 3), (363, .bipush 12, 2), (365, .ldc2_w 148, 3), (368, .lastore, 1), (369, .aload_n 0, 1), (370, .getfield 44, 3), (373, .bipush 13, 2), (375, .ldc2_w 150, 3), (378, .lastore, 1), (379, .aload_n 0, 1), (380, .getfield 44, 3), (383, .bipush 14, 2), (385, .ldc2_w 152, 3), (388, .lastore, 1), (389, .aload_n 0, 1), (390, .getfield 44, 3), (393, .bipush 15, 2), (395, .ldc2_w 154, 3), (398, .lastore, 1), (399, .aload_n 0, 1), (400, .getfield 44, 3), (403, .bipush 16, 2), (405, .ldc2_w 156, 3), (408, .lastore, 1), (409, .aload_n 0, 1), (410, .invokevirtual 158, 3), (413, .iconst 0, 1), (414, .istore_n 1, 1), (415, .iload_n 1, 1), (416, .bipush 116, 2), (418, .if_icmp .ge 21, 3), (421, .aload_n 0, 1), (422, .getfield 33, 3), (425, .iload_n 1, 1), (426, .aload_n 0, 1), (427, .getfield 37, 3), (430, .iload_n 1, 1), (431, .iaload, 1), (432, .iastore, 1), (433, .iinc 1 1, 3), (436, .goto (-21), 3), (439, .return_, 1)])
theorem G_IN_RM : GoodM M_IN_RM := ⟨by decide, tw_1505, tw_123, by decide +kernel⟩
def H0r : Nat → Int32 := upd (upd (upd (upd (fun _ => 0) 7 0) 8 1) 9 2) 10 3
def bl_RMx (fs fh : Nat → Int32) (cA : Nat → ClassId) (b : Nat) : List va_E := [.inr (12, [.int 0, .ref (b + 1), .int 0, .int 0, .int 0, .int 0, .ref (b + 2), .ref (b + 3), .ref (b + 4), .ref (b + 5), .int 0, .int 0, .int 0, .int 0, .int 0, .int 0, .long 0, .int 0, .int 0, .int 0, .ref (b + 6), .ref (b + 7), .int 0, .int 0, .int 0, .ref (b + 8), .ref (b + 9), .int (-1), .int 0, .ref (b + 10), .ref (b + 11), .ref (b + 12), .ref (b + 13), .int 0, .ref (b + 14), .ref (b + 15), .int 0, .ref (b + 16), .ref (b + 17), .ref (b + 18), .int 0, .int 0, .ref (b + 19), .int 0, .ref (b + 20), .int (-1), .int 0, .int 0, .ref (b + 21), .int 0, .ref (b + 22), .ref (b + 23), .int 0, .ref (b + 24), .ref (b + 25), .ref (b + 26), .ref (b + 27), .ref (b + 28)]), oB cA 940, .inl (cA 0, 116, .inl fs), .inl (cA 0, 116, .inl fh), oJ cA 26, .inl (cA 1, 17, .inr (.inl (vp_updL (vp_updL (vp_updL (vp_updL (vp_updL (vp_updL (vp_updL (vp_updL (vp_updL (vp_updL (vp_updL (vp_updL (vp_updL (vp_updL (vp_updL (vp_updL (vp_updL (fun _ => 0) 0 1818848869) 1 6840697) 2 109300298179432) 3 7102839) 4 7300196) 5 491496238692) 6 1818584692) 7 1701078885) 8 6842739) 9 123563833652072) 10 448378008179) 11 110) 12 101) 13 115) 14 119) 15 482905517684) 16 28526))), oI cA 13, oI cA 13, oZ cA 400, oZ cA 400, oI cA 400, oI cA 400, oI cA 400, oI cA 400, oZ cA 400, oI cA 3, oI cA 400, oI cA 51200, oI cA 928, oI cA 24, oI cA 6, oI cA 4, oI cA 4, oI cA 30, oI cA 30, oI cA 30, oI cA 232, oJ cA 26, oZ cA 2]
theorem upd_same {f : Nat → Int32} {i : Nat} {v : Int32} (h : f i = v) : upd f i v = f := by
  funext k
  by_cases hk : k = i
  · subst hk; simp [upd, h]
  · simp [upd, hk]
theorem N_iaddv {M : MI} {x : Cx} {b cs ss pc n : Nat} {lv : List (Nat × Value)} {st : List Value} {ws : List va_E} {y z v : Int32} (hdg : decode M.2.1 pc = .ok (.iadd, 1)) (hn : pc + 1 = n) (hv : y + z = v) (h : CN M x b cs ss n lv (.int v :: st) ws) : CN M x b cs ss pc lv (.int z :: .int y :: st) ws := by
  subst hv
  exact N_iadd hdg hn h
theorem pl_step {x : Cx} {b i : Nat} {fs : Nat → Int32} (hi : i ≤ 116) (he : i = 116 → CN M_RM_plain x b 0 0 21 [(1, .int (nI i)), (0, .ref b)] [] (bl_RMx fs (fun _ => 0) (xC x) b)) (hs : i < 116 → CN M_RM_plain x b 0 0 2 [(1, .int (nI (i + 1))), (0, .ref b)] [] (bl_RMx fs (fun _ => 0) (xC x) b)) : CN M_RM_plain x b 0 0 2 [(1, .int (nI i)), (0, .ref b)] [] (bl_RMx fs (fun _ => 0) (xC x) b) := by
  have g := G_RM_plain
  refine N_iload_n (n := 3) (gdec g (k := 2) rfl) rfl rfl 0 rfl ?_
  refine N_bipush (n := 5) (v := 116) (gdec g (k := 3) rfl) rfl (by decide) ?_
  refine N_icmp_ge (n := 8) (t := 21) (gdec g (k := 4) rfl) rfl rfl (fun h => ?_) (fun h => ?_)
  · have h : nI 116 ≤ nI i := h
    rw [n_le (by omega) (by omega)] at h
    exact he (by omega)
  · have h : ¬ nI 116 ≤ nI i := h
    rw [n_le (by omega) (by omega)] at h
    have h2 : i < 116 := by omega
    refine N_aload_n (n := 9) (gdec g (k := 5) rfl) rfl rfl 1 rfl ?_
    refine N_get (n := 12) (q0 := 0) (j := 7) (gdec g (k := 6) rfl) rfl ⟨RX12, TX12, 58, tyX12, rfl, by decide, inwX12, tyX12_ok, nmX12, tw_1536⟩ rfl (by rfl) (by rfl) ?_
    refine N_iload_n (n := 13) (gdec g (k := 7) rfl) rfl rfl 0 rfl ?_
    refine N_iconst (n := 14) (v := 0) (gdec g (k := 8) rfl) rfl (by decide) ?_
    refine N_iast (n := 15) (q0 := 3) (f := fun _ => 0) (N := 116) (ws' := (bl_RMx fs (fun _ => 0) (xC x) b)) (gdec g (k := 9) rfl) rfl rfl (by rfl) (n_in h2 (by omega)) (by rw [upd_same rfl]; rfl) ?_
    refine N_iinc (n := 18) (v := nI (i + 1)) (gdec g (k := 10) rfl) rfl 0 rfl (by rw [show Int32.ofInt 1 = nI 1 from by decide]; exact n_add i 1) (by decide) [0, 1] rfl ?_
    exact N_goto (t := 2) (gdec g (k := 11) rfl) rfl (hs h2)
theorem pl_loop {x : Cx} {b : Nat} {fs : Nat → Int32} (he : CN M_RM_plain x b 0 0 21 [(1, .int (nI 116)), (0, .ref b)] [] (bl_RMx fs (fun _ => 0) (xC x) b)) : ∀ d i : Nat, i + d = 116 → CN M_RM_plain x b 0 0 2 [(1, .int (nI i)), (0, .ref b)] [] (bl_RMx fs (fun _ => 0) (xC x) b) := by
  intro d
  induction d with
  | zero => exact fun i h => pl_step (by omega) (fun h => by rw [h]; exact he) (fun h => by omega)
  | succ d ih => exact fun i h => pl_step (by omega) (fun h => by omega) (fun _ => ih (i + 1) (by omega))
theorem I_plain (fs : Nat → Int32) : Mn M_RM_plain (fun b => [.ref b]) (bl_RMx fs (fun _ => 0)) (bl_RMx fs H0r) 0 0 := by
  refine Mn.of G_RM_plain (fun _ => Nat.le_of_ble_eq_true rfl) ?_
  intro b x hx
  have g := G_RM_plain
  refine N_iconst (n := 1) (v := 0) (gdec g (k := 0) rfl) rfl (by decide) ?_
  refine N_istore_n (n := 2) (gdec g (k := 1) rfl) rfl rfl (by decide) [0, 1] rfl ?_
  refine pl_loop ?_ 116 0 rfl
  refine N_iconst (n := 22) (v := 0) (gdec g (k := 12) rfl) rfl (by decide) ?_
  refine N_istore_n (n := 23) (gdec g (k := 13) rfl) rfl rfl (by decide) [0, 1] rfl ?_
  refine N_iload_n (n := 24) (gdec g (k := 14) rfl) rfl rfl 0 rfl ?_
  refine N_iconst (n := 25) (v := 4) (gdec g (k := 15) rfl) rfl (by decide) ?_
  refine N_icmp_ge (n := 28) (t := 44) (gdec g (k := 16) rfl) rfl rfl (fun h => absurd h (by decide)) (fun _ => ?_)
  refine N_aload_n (n := 29) (gdec g (k := 17) rfl) rfl rfl 1 rfl ?_
  refine N_get (n := 32) (q0 := 0) (j := 7) (gdec g (k := 18) rfl) rfl ⟨RX12, TX12, 58, tyX12, rfl, by decide, inwX12, tyX12_ok, nmX12, tw_1536⟩ rfl (by rfl) (by rfl) ?_
  refine N_bipush (n := 34) (v := 7) (gdec g (k := 19) rfl) rfl (by decide) ?_
  refine N_iload_n (n := 35) (gdec g (k := 20) rfl) rfl rfl 0 rfl ?_
  refine N_iaddv (n := 36) (v := 7) (gdec g (k := 21) rfl) rfl (by decide) ?_
  refine N_iload_n (n := 37) (gdec g (k := 22) rfl) rfl rfl 0 rfl ?_
  refine N_iast (n := 38) (q0 := 3) (f := (fun _ => 0)) (N := 116) (ws' := bl_RMx fs (upd (fun _ => 0) 7 0) (xC x) b) (gdec g (k := 23) rfl) rfl rfl (by rfl) (by decide) (by rfl) ?_
  refine N_iinc (n := 41) (v := 1) (gdec g (k := 24) rfl) rfl 0 rfl (by decide) (by decide) [0, 1] rfl ?_
  refine N_goto (t := 23) (gdec g (k := 25) rfl) rfl ?_
  refine N_iload_n (n := 24) (gdec g (k := 14) rfl) rfl rfl 0 rfl ?_
  refine N_iconst (n := 25) (v := 4) (gdec g (k := 15) rfl) rfl (by decide) ?_
  refine N_icmp_ge (n := 28) (t := 44) (gdec g (k := 16) rfl) rfl rfl (fun h => absurd h (by decide)) (fun _ => ?_)
  refine N_aload_n (n := 29) (gdec g (k := 17) rfl) rfl rfl 1 rfl ?_
  refine N_get (n := 32) (q0 := 0) (j := 7) (gdec g (k := 18) rfl) rfl ⟨RX12, TX12, 58, tyX12, rfl, by decide, inwX12, tyX12_ok, nmX12, tw_1536⟩ rfl (by rfl) (by rfl) ?_
  refine N_bipush (n := 34) (v := 7) (gdec g (k := 19) rfl) rfl (by decide) ?_
  refine N_iload_n (n := 35) (gdec g (k := 20) rfl) rfl rfl 0 rfl ?_
  refine N_iaddv (n := 36) (v := 8) (gdec g (k := 21) rfl) rfl (by decide) ?_
  refine N_iload_n (n := 37) (gdec g (k := 22) rfl) rfl rfl 0 rfl ?_
  refine N_iast (n := 38) (q0 := 3) (f := (upd (fun _ => 0) 7 0)) (N := 116) (ws' := bl_RMx fs (upd (upd (fun _ => 0) 7 0) 8 1) (xC x) b) (gdec g (k := 23) rfl) rfl rfl (by rfl) (by decide) (by rfl) ?_
  refine N_iinc (n := 41) (v := 2) (gdec g (k := 24) rfl) rfl 0 rfl (by decide) (by decide) [0, 1] rfl ?_
  refine N_goto (t := 23) (gdec g (k := 25) rfl) rfl ?_
  refine N_iload_n (n := 24) (gdec g (k := 14) rfl) rfl rfl 0 rfl ?_
  refine N_iconst (n := 25) (v := 4) (gdec g (k := 15) rfl) rfl (by decide) ?_
  refine N_icmp_ge (n := 28) (t := 44) (gdec g (k := 16) rfl) rfl rfl (fun h => absurd h (by decide)) (fun _ => ?_)
  refine N_aload_n (n := 29) (gdec g (k := 17) rfl) rfl rfl 1 rfl ?_
  refine N_get (n := 32) (q0 := 0) (j := 7) (gdec g (k := 18) rfl) rfl ⟨RX12, TX12, 58, tyX12, rfl, by decide, inwX12, tyX12_ok, nmX12, tw_1536⟩ rfl (by rfl) (by rfl) ?_
  refine N_bipush (n := 34) (v := 7) (gdec g (k := 19) rfl) rfl (by decide) ?_
  refine N_iload_n (n := 35) (gdec g (k := 20) rfl) rfl rfl 0 rfl ?_
  refine N_iaddv (n := 36) (v := 9) (gdec g (k := 21) rfl) rfl (by decide) ?_
  refine N_iload_n (n := 37) (gdec g (k := 22) rfl) rfl rfl 0 rfl ?_
  refine N_iast (n := 38) (q0 := 3) (f := (upd (upd (fun _ => 0) 7 0) 8 1)) (N := 116) (ws' := bl_RMx fs (upd (upd (upd (fun _ => 0) 7 0) 8 1) 9 2) (xC x) b) (gdec g (k := 23) rfl) rfl rfl (by rfl) (by decide) (by rfl) ?_
  refine N_iinc (n := 41) (v := 3) (gdec g (k := 24) rfl) rfl 0 rfl (by decide) (by decide) [0, 1] rfl ?_
  refine N_goto (t := 23) (gdec g (k := 25) rfl) rfl ?_
  refine N_iload_n (n := 24) (gdec g (k := 14) rfl) rfl rfl 0 rfl ?_
  refine N_iconst (n := 25) (v := 4) (gdec g (k := 15) rfl) rfl (by decide) ?_
  refine N_icmp_ge (n := 28) (t := 44) (gdec g (k := 16) rfl) rfl rfl (fun h => absurd h (by decide)) (fun _ => ?_)
  refine N_aload_n (n := 29) (gdec g (k := 17) rfl) rfl rfl 1 rfl ?_
  refine N_get (n := 32) (q0 := 0) (j := 7) (gdec g (k := 18) rfl) rfl ⟨RX12, TX12, 58, tyX12, rfl, by decide, inwX12, tyX12_ok, nmX12, tw_1536⟩ rfl (by rfl) (by rfl) ?_
  refine N_bipush (n := 34) (v := 7) (gdec g (k := 19) rfl) rfl (by decide) ?_
  refine N_iload_n (n := 35) (gdec g (k := 20) rfl) rfl rfl 0 rfl ?_
  refine N_iaddv (n := 36) (v := 10) (gdec g (k := 21) rfl) rfl (by decide) ?_
  refine N_iload_n (n := 37) (gdec g (k := 22) rfl) rfl rfl 0 rfl ?_
  refine N_iast (n := 38) (q0 := 3) (f := (upd (upd (upd (fun _ => 0) 7 0) 8 1) 9 2)) (N := 116) (ws' := bl_RMx fs (upd (upd (upd (upd (fun _ => 0) 7 0) 8 1) 9 2) 10 3) (xC x) b) (gdec g (k := 23) rfl) rfl rfl (by rfl) (by decide) (by rfl) ?_
  refine N_iinc (n := 41) (v := 4) (gdec g (k := 24) rfl) rfl 0 rfl (by decide) (by decide) [0, 1] rfl ?_
  refine N_goto (t := 23) (gdec g (k := 25) rfl) rfl ?_
  refine N_iload_n (n := 24) (gdec g (k := 14) rfl) rfl rfl 0 rfl ?_
  refine N_iconst (n := 25) (v := 4) (gdec g (k := 15) rfl) rfl (by decide) ?_
  refine N_icmp_ge (n := 28) (t := 44) (gdec g (k := 16) rfl) rfl rfl (fun _ => ?_) (fun h => absurd (by decide) h)
  exact N_ret hx (gdec g (k := 26) rfl) rfl rfl rfl (by rfl)
def cpH (i : Nat) : Nat → Int32 := fun k => if k < i then H0r k else 0
theorem cpH_z : cpH 0 = fun _ => 0 := by funext k; simp [cpH]
theorem cpH_s (i : Nat) : upd (cpH i) i (H0r i) = cpH (i + 1) := by
  funext k
  by_cases hk : k = i
  · subst hk; simp [upd, cpH]
  · by_cases h2 : k < i
    · simp [upd, cpH, hk, h2, show k < i + 1 by omega]
    · simp [upd, cpH, hk, h2, show ¬ k < i + 1 by omega]
theorem cpH_e : cpH 116 = H0r := by
  funext k
  by_cases h : k < 116
  · simp [cpH, h]
  · simp [cpH, h, H0r, upd, show k ≠ 7 by omega, show k ≠ 8 by omega, show k ≠ 9 by omega, show k ≠ 10 by omega]
theorem n_cl {i : Nat} (h : i < 2147483648) : (nI i).toNatClampNeg = i := n_ixn h
theorem rm_step {x : Cx} {b i : Nat} (hi : i ≤ 116) (he : i = 116 → CN M_IN_RM x b 28 56960 439 [(1, .int (nI i)), (0, .ref b)] [] (bl_RMx (cpH i) H0r (xC x) b)) (hs : i < 116 → CN M_IN_RM x b 28 56960 415 [(1, .int (nI (i + 1))), (0, .ref b)] [] (bl_RMx (cpH (i + 1)) H0r (xC x) b)) : CN M_IN_RM x b 28 56960 415 [(1, .int (nI i)), (0, .ref b)] [] (bl_RMx (cpH i) H0r (xC x) b) := by
  have g := G_IN_RM
  refine N_iload_n (n := 416) (gdec g (k := 209) rfl) rfl rfl 0 rfl ?_
  refine N_bipush (n := 418) (v := 116) (gdec g (k := 210) rfl) rfl (by decide) ?_
  refine N_icmp_ge (n := 421) (t := 439) (gdec g (k := 211) rfl) rfl rfl (fun h => ?_) (fun h => ?_)
  · have h : nI 116 ≤ nI i := h
    rw [n_le (by omega) (by omega)] at h
    exact he (by omega)
  · have h : ¬ nI 116 ≤ nI i := h
    rw [n_le (by omega) (by omega)] at h
    have h2 : i < 116 := by omega
    refine N_aload_n (n := 422) (gdec g (k := 212) rfl) rfl rfl 1 rfl ?_
    refine N_get (n := 425) (q0 := 0) (j := 6) (gdec g (k := 213) rfl) rfl ⟨RX12, TX12, 58, tyX12, rfl, by decide, inwX12, tyX12_ok, nmX12, tw_1535⟩ rfl (by rfl) (by rfl) ?_
    refine N_iload_n (n := 426) (gdec g (k := 214) rfl) rfl rfl 0 rfl ?_
    refine N_aload_n (n := 427) (gdec g (k := 215) rfl) rfl rfl 1 rfl ?_
    refine N_get (n := 430) (q0 := 0) (j := 7) (gdec g (k := 216) rfl) rfl ⟨RX12, TX12, 58, tyX12, rfl, by decide, inwX12, tyX12_ok, nmX12, tw_1536⟩ rfl (by rfl) (by rfl) ?_
    refine N_iload_n (n := 431) (gdec g (k := 217) rfl) rfl rfl 0 rfl ?_
    refine N_iald (n := 432) (q0 := 3) (f := H0r) (N := 116) (gdec g (k := 218) rfl) rfl rfl (by rfl) (n_in h2 (by omega)) ?_
    refine N_iast (n := 433) (q0 := 2) (f := cpH i) (N := 116) (ws' := (bl_RMx (cpH (i + 1)) H0r (xC x) b)) (gdec g (k := 219) rfl) rfl rfl (by rfl) (n_in h2 (by omega)) (by rw [n_cl (by omega), cpH_s]; rfl) ?_
    refine N_iinc (n := 436) (v := nI (i + 1)) (gdec g (k := 220) rfl) rfl 0 rfl (by rw [show Int32.ofInt 1 = nI 1 from by decide]; exact n_add i 1) (by decide) [0, 1] rfl ?_
    exact N_goto (t := 415) (gdec g (k := 221) rfl) rfl (hs h2)
theorem rm_loop {x : Cx} {b : Nat} (he : CN M_IN_RM x b 28 56960 439 [(1, .int (nI 116)), (0, .ref b)] [] (bl_RMx (cpH 116) H0r (xC x) b)) : ∀ d i : Nat, i + d = 116 → CN M_IN_RM x b 28 56960 415 [(1, .int (nI i)), (0, .ref b)] [] (bl_RMx (cpH i) H0r (xC x) b) := by
  intro d
  induction d with
  | zero => exact fun i h => rm_step (by omega) (fun h => by rw [h]; exact he) (fun h => by omega)
  | succ d ih => exact fun i h => rm_step (by omega) (fun h => by omega) (fun _ => ih (i + 1) (by omega))

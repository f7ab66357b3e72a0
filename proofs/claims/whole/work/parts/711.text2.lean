theorem Txt.z {aK aV : Nat → Nat} {b : Nat} {U : State} {H : Heap} (h : Txt aK aV b U H) : va_Z "java/lang/String" "COMPACT_STRINGS" "Z" (.int 1) (Ab b) U H := sorry
theorem Txt.zf {aK aV : Nat → Nat} {b : Nat} {U : State} {H : Heap} (h : Txt aK aV b U H) : ∃ v, v.category = 1 ∧ va_Z "jdk/internal/util/Preconditions" "SIOOBE_FORMATTER" "Ljava/util/function/BiFunction;" v (Ab b) U H := sorry
def M_ST_coder : MI := (⟨"java/lang/String", "coder", "()B"⟩, prog_22_method_152_code, 1, some .byte, 0, 0, [(0, .getstatic 38, 3), (3, .ifCond .eq 10, 3), (6, .aload_n 0, 1), (7, .getfield 15, 3), (10, .goto 4, 3), (13, .iconst 1, 1), (14, .ireturn, 1)])
theorem G_ST_coder : GoodF M_ST_coder := ⟨by decide +kernel, tw_660, tw_126, by decide +kernel⟩
def M_ST_isL : MI := (⟨"java/lang/String", "isLatin1", "()Z"⟩, prog_22_method_154_code, 1, some .boolean, 0, 0, [(0, .getstatic 38, 3), (3, .ifCond .eq 14, 3), (6, .aload_n 0, 1), (7, .getfield 15, 3), (10, .ifCond .ne 7, 3), (13, .iconst 1, 1), (14, .goto 4, 3), (17, .iconst 0, 1), (18, .ireturn, 1)])
theorem G_ST_isL : GoodF M_ST_isL := ⟨by decide +kernel, tw_670, tw_126, by decide +kernel⟩
def M_ST_len : MI := (⟨"java/lang/String", "length", "()I"⟩, prog_22_method_54_code, 1, some .int, 1, 20, [(0, .aload_n 0, 1), (1, .getfield 9, 3), (4, .arraylength, 1), (5, .aload_n 0, 1), (6, .invokevirtual 335, 3), (9, .ishr, 1), (10, .ireturn, 1)])
theorem G_ST_len : GoodF M_ST_len := ⟨by decide +kernel, tw_656, tw_126, by decide +kernel⟩
def M_PR_ck : MI := (⟨"jdk/internal/util/Preconditions", "checkIndex", "(IILjava/util/function/BiFunction;)I"⟩, prog_31_method_11_code, 3, some .int, 0, 0, [(0, .iload_n 0, 1), (1, .ifCond .lt 8, 3), (4, .iload_n 0, 1), (5, .iload_n 1, 1), (6, .if_icmp .lt 10, 3), (16, .iload_n 0, 1), (17, .ireturn, 1)])
theorem G_PR_ck : GoodF M_PR_ck := ⟨by decide +kernel, tw_681, tw_128, by decide +kernel⟩
def M_ST_ck : MI := (⟨"java/lang/String", "checkIndex", "(II)V"⟩, prog_22_method_155_code, 2, none, 1, 22, [(0, .iload_n 0, 1), (1, .iload_n 1, 1), (2, .getstatic 1053, 3), (5, .invokestatic 1059, 3), (8, .pop, 1), (9, .return_, 1)])
theorem G_ST_ck : GoodF M_ST_ck := ⟨by decide +kernel, tw_676, tw_126, by decide +kernel⟩
def M_L1_ch : MI := (⟨"java/lang/StringLatin1", "charAt", "([BI)C"⟩, prog_23_method_2_code, 2, some .char, 2, 43, [(0, .iload_n 1, 1), (1, .aload_n 0, 1), (2, .arraylength, 1), (3, .invokestatic 9, 3), (6, .aload_n 0, 1), (7, .iload_n 1, 1), (8, .baload, 1), (9, .sipush 255, 3), (12, .iand, 1), (13, .i2c, 1), (14, .ireturn, 1)])
theorem G_L1_ch : GoodF M_L1_ch := ⟨by decide +kernel, tw_673, tw_127, by decide +kernel⟩
def M_ST_ch : MI := (⟨"java/lang/String", "charAt", "(I)C"⟩, prog_22_method_56_code, 2, some .char, 3, 64, [(0, .aload_n 0, 1), (1, .invokevirtual 492, 3), (4, .ifCond .eq 12, 3), (7, .aload_n 0, 1), (8, .getfield 9, 3), (11, .iload_n 1, 1), (12, .invokestatic 495, 3), (15, .ireturn, 1)])
theorem G_ST_ch : GoodF M_ST_ch := ⟨by decide +kernel, tw_666, tw_126, by decide +kernel⟩
theorem K_ST_coder (m : Mem) {i : Nat} (hi : i < 5) : MtS M_ST_coder (fun G => [.ref (G.2.2.2.1 i)]) m (qI 0 m) := by
  refine MtS.of G_ST_coder (fun G => Nat.le_refl _) ?_
  intro p l e s mid args below meth c H locs G ls hE hw hl
  have hT := hE.2.2.2.2.2.2.2.2.1
  refine va_gets hE.1 hE.2.1 hT.z hw.2.1 hE.2.2.2.1 (hE.2.2.2.2.1 _ tw_661) (fun x h => h) (fdec G_ST_coder (k := 0) rfl) ?_
  refine lv_if_eq hE.1 hE.2.1 (fdec G_ST_coder (k := 1) rfl) (tgt := 13) rfl (fun h => absurd h (show ¬ (1 : Int32) = 0 by decide)) (fun _ => ?_)
  refine lv_aload_n hE.1 hE.2.1 (fdec G_ST_coder (k := 2) rfl) rfl (lv_at hl 0 rfl) ?_
  refine vk_getf hE.1 hE.2.1 (hT.1.1 i hi).2.1 hw.2.1 hE.2.2.2.1 (hE.2.2.2.2.1 _ tw_2097) (fun x h => h) (fdec G_ST_coder (k := 3) rfl) ?_
  refine lv_goto hE.1 hE.2.1 (fdec G_ST_coder (k := 4) rfl) (tgt := 14) rfl ?_
  exact W.zret (ty := .byte) hE.1 hE.2.1 (by rw [hE.2.2.2.2.2.1]; rfl) rfl (fun t ht _ => ⟨⟨some (.int 0), m, rfl, ⟨rfl, rfl⟩, by rw [ht]; exact hw.1, hw.2.2⟩, hw.2.1.F ht⟩) hw.2.1.2.2 (fdec G_ST_coder (k := 6) rfl) (hlocks := hE.2.2.2.2.2.2.1)
theorem K_ST_isL (m : Mem) {i : Nat} (hi : i < 5) : MtS M_ST_isL (fun G => [.ref (G.2.2.2.1 i)]) m (qI 1 m) := by
  refine MtS.of G_ST_isL (fun G => Nat.le_refl _) ?_
  intro p l e s mid args below meth c H locs G ls hE hw hl
  have hT := hE.2.2.2.2.2.2.2.2.1
  refine va_gets hE.1 hE.2.1 hT.z hw.2.1 hE.2.2.2.1 (hE.2.2.2.2.1 _ tw_661) (fun x h => h) (fdec G_ST_isL (k := 0) rfl) ?_
  refine lv_if_eq hE.1 hE.2.1 (fdec G_ST_isL (k := 1) rfl) (tgt := 17) rfl (fun h => absurd h (show ¬ (1 : Int32) = 0 by decide)) (fun _ => ?_)
  refine lv_aload_n hE.1 hE.2.1 (fdec G_ST_isL (k := 2) rfl) rfl (lv_at hl 0 rfl) ?_
  refine vk_getf hE.1 hE.2.1 (hT.1.1 i hi).2.1 hw.2.1 hE.2.2.2.1 (hE.2.2.2.2.1 _ tw_2097) (fun x h => h) (fdec G_ST_isL (k := 3) rfl) ?_
  refine lv_if_ne hE.1 hE.2.1 (fdec G_ST_isL (k := 4) rfl) (tgt := 17) rfl (fun h => absurd rfl h) (fun _ => ?_)
  refine lv_iconst hE.1 hE.2.1 (fdec G_ST_isL (k := 5) rfl) (v := 1) (by decide) ?_
  refine lv_goto hE.1 hE.2.1 (fdec G_ST_isL (k := 6) rfl) (tgt := 18) rfl ?_
  exact W.zret (ty := .boolean) hE.1 hE.2.1 (by rw [hE.2.2.2.2.2.1]; rfl) rfl (fun t ht _ => ⟨⟨some (.int 1), m, rfl, ⟨rfl, rfl⟩, by rw [ht]; exact hw.1, hw.2.2⟩, hw.2.1.F ht⟩) hw.2.1.2.2 (fdec G_ST_isL (k := 8) rfl) (hlocks := hE.2.2.2.2.2.2.1)
theorem K_ST_len (m : Mem) {i : Nat} (hi : i < 5) : MtS M_ST_len (fun G => [.ref (G.2.2.2.1 i)]) m (qI (nI (txLen.getD i 0)) m) := by
  refine MtS.of G_ST_len (fun G => Nat.le_refl _) ?_
  intro p l e s mid args below meth c H locs G ls hE hw hl
  have hT := hE.2.2.2.2.2.2.2.2.1
  have hsh : nI (txLen.getD i 0) >>> ((0 : Int32) &&& 31) = nI (txLen.getD i 0) := by
    have key : ∀ i, i < 5 → nI (txLen.getD i 0) >>> ((0 : Int32) &&& 31) = nI (txLen.getD i 0) := by decide +kernel
    exact key i hi
  refine lv_aload_n hE.1 hE.2.1 (fdec G_ST_len (k := 0) rfl) rfl (lv_at hl 0 rfl) ?_
  refine vk_getf hE.1 hE.2.1 (hT.1.1 i hi).2.2.1 hw.2.1 hE.2.2.2.1 (hE.2.2.2.2.1 _ tw_2096) (fun x h => h) (fdec G_ST_len (k := 1) rfl) ?_
  refine va_tlen hE.1 hE.2.1 (hT.1.1 i hi).2.2.2 hw.2.1 (v := nI (txLen.getD i 0)) rfl (fdec G_ST_len (k := 2) rfl) ?_
  refine lv_aload_n hE.1 hE.2.1 (fdec G_ST_len (k := 3) rfl) rfl (lv_at hl 0 rfl) ?_
  refine T_callV (M := M_ST_len) (M' := M_ST_coder) (as := fun _ => []) (st := [.int (nI (txLen.getD i 0))]) (fdec G_ST_len (k := 4) rfl) ⟨G_ST_coder, tw_657, tw_658, tw_659, rfl, by decide +kernel⟩ (by decide) hi rfl (Nat.le_of_ble_eq_true rfl) hE hw hl.1 (K_ST_coder m hi) ?_
  rintro r m' ⟨rfl, rfl⟩ H1 locs1 hw1
  refine lv_ishr hE.1 hE.2.1 (fdec G_ST_len (k := 5) rfl) ?_
  rw [hsh]
  exact W.iret hE.1 hE.2.1 (by rw [hE.2.2.2.2.2.1]; rfl) (fun t ht _ => ⟨⟨some (.int (nI (txLen.getD i 0))), _, rfl, ⟨rfl, rfl⟩, by rw [ht]; exact hw1.1, hw1.2.2⟩, hw1.2.1.F ht⟩) hw1.2.1.2.2 (fdec G_ST_len (k := 6) rfl) (hlocks := hE.2.2.2.2.2.2.1)
theorem K_PR_ck (m : Mem) {x y : Int32} {v : Value} (hv : v.category = 1) (h0 : ¬ x < 0) (h1 : x < y) : MtS M_PR_ck (fun _ => [.int x, .int y, v]) m (qI x m) := by
  refine MtS.of G_PR_ck (fun G => by
    have this : (if v.category = 2 then [Slot.val v, Slot.second] else [Slot.val v]) = [Slot.val v] := if_neg (by rw [hv]; decide)
    show (lg_sl [.int x, .int y, v]).length ≤ 3
    simp only [lg_sl, List.flatMap_cons, List.flatMap_nil, this]
    exact Nat.le_refl _) ?_
  intro p l e s mid args below meth c H locs G ls hE hw hl
  refine lv_iload_n hE.1 hE.2.1 (fdec G_PR_ck (k := 0) rfl) rfl (lv_at hl 0 rfl) ?_
  refine lv_if_lt hE.1 hE.2.1 (fdec G_PR_ck (k := 1) rfl) (tgt := 9) rfl (fun h => absurd h h0) (fun _ => ?_)
  refine lv_iload_n hE.1 hE.2.1 (fdec G_PR_ck (k := 2) rfl) rfl (lv_at hl 0 rfl) ?_
  refine lv_iload_n hE.1 hE.2.1 (fdec G_PR_ck (k := 3) rfl) rfl (lv_at hl 1 rfl) ?_
  refine lv_icmp_lt hE.1 hE.2.1 (fdec G_PR_ck (k := 4) rfl) (tgt := 16) rfl (fun _ => ?_) (fun h => absurd h1 h)
  refine lv_iload_n hE.1 hE.2.1 (fdec G_PR_ck (k := 5) rfl) rfl (lv_at hl 0 rfl) ?_
  exact W.iret hE.1 hE.2.1 (by rw [hE.2.2.2.2.2.1]; rfl) (fun t ht _ => ⟨⟨some (.int x), m, rfl, ⟨rfl, rfl⟩, by rw [ht]; exact hw.1, hw.2.2⟩, hw.2.1.F ht⟩) hw.2.1.2.2 (fdec G_PR_ck (k := 6) rfl) (hlocks := hE.2.2.2.2.2.2.1)
theorem K_ST_ck (m : Mem) {x y : Int32} (h0 : ¬ x < 0) (h1 : x < y) : MtS M_ST_ck (fun _ => [.int x, .int y]) m (fun r m' => r = none ∧ m' = m) := by
  refine MtS.of G_ST_ck (fun G => Nat.le_refl _) ?_
  intro p l e s mid args below meth c H locs G ls hE hw hl
  have hT := hE.2.2.2.2.2.2.2.2.1
  obtain ⟨v, hv, hz⟩ := hT.zf
  refine lv_iload_n hE.1 hE.2.1 (fdec G_ST_ck (k := 0) rfl) rfl (lv_at hl 0 rfl) ?_
  refine lv_iload_n hE.1 hE.2.1 (fdec G_ST_ck (k := 1) rfl) rfl (lv_at hl 1 rfl) ?_
  refine va_gets hE.1 hE.2.1 hz hw.2.1 hE.2.2.2.1 (hE.2.2.2.2.1 _ tw_677) (fun x h => h) (fdec G_ST_ck (k := 2) rfl) ?_
  refine T_callS (na := 3) (M := M_ST_ck) (M' := M_PR_ck) (as := fun _ => [.int x, .int y, v]) (st := []) (fdec G_ST_ck (k := 3) rfl) ⟨G_PR_ck, tw_679, tw_680, by decide +kernel⟩ (by decide) rfl (Nat.le_of_ble_eq_true rfl) hE hw hl.1 (K_PR_ck m hv h0 h1) ?_
  rintro r m' ⟨rfl, rfl⟩ H1 locs1 hw1
  refine lv_pop hE.1 hE.2.1 (fdec G_ST_ck (k := 4) rfl) rfl ?_
  exact W.vret hE.1 hE.2.1 (by rw [hE.2.2.2.2.2.1]; rfl) (fun t ht _ => ⟨⟨none, _, rfl, ⟨rfl, rfl⟩, by rw [ht]; exact hw1.1, hw1.2.2⟩, hw1.2.1.F ht⟩) hw1.2.1.2.2 (fdec G_ST_ck (k := 5) rfl) (hlocks := hE.2.2.2.2.2.2.1)
def tch (k : Nat) : Int32 := (txByt.getD 0 []).getD k 0
theorem tch_ok : ∀ k, k < 74 → ((tch k &&& 255).toUInt32 % 65536).toInt32 = tch k ∧ narrow .char (.int (tch k)) = .int (tch k) := by decide +kernel
theorem K_L1_ch (m : Mem) {k : Nat} (hk : k < 74) : MtS M_L1_ch (fun G => [.ref (G.2.2.2.2 0), .int (nI k)]) m (qI (tch k) m) := by
  refine MtS.of G_L1_ch (fun G => Nat.le_refl _) ?_
  intro p l e s mid args below meth c H locs G ls hE hw hl
  have hT := hE.2.2.2.2.2.2.2.2.1
  have hA := (hT.1.1 0 (by omega)).2.2.2
  have key : ∀ k, k < 74 → ¬ nI k < 0 ∧ nI k < nI 74 ∧ (nI k).toNatClampNeg = k := by decide +kernel
  obtain ⟨q1, q2, q3⟩ := key k hk
  refine lv_iload_n hE.1 hE.2.1 (fdec G_L1_ch (k := 0) rfl) rfl (lv_at hl 1 rfl) ?_
  refine lv_aload_n hE.1 hE.2.1 (fdec G_L1_ch (k := 1) rfl) rfl (lv_at hl 0 rfl) ?_
  refine va_tlen hE.1 hE.2.1 hA hw.2.1 (v := nI 74) rfl (fdec G_L1_ch (k := 2) rfl) ?_
  refine T_callS (na := 2) (M := M_L1_ch) (M' := M_ST_ck) (as := fun _ => [.int (nI k), .int (nI 74)]) (st := []) (fdec G_L1_ch (k := 3) rfl) ⟨G_ST_ck, tw_674, tw_675, by decide +kernel⟩ (by decide) rfl (Nat.le_of_ble_eq_true rfl) hE hw hl.1 (K_ST_ck m q1 q2) ?_
  rintro r m' ⟨rfl, rfl⟩ H1 locs1 hw1
  refine lv_aload_n hE.1 hE.2.1 (fdec G_L1_ch (k := 4) rfl) rfl (lv_at hl 0 rfl) ?_
  refine lv_iload_n hE.1 hE.2.1 (fdec G_L1_ch (k := 5) rfl) rfl (lv_at hl 1 rfl) ?_
  refine va_tb hE.1 hE.2.1 hA hw1.2.1 (i := nI k) (v := .int (tch k)) (by
    rintro (z | z)
    · exact q1 z
    · rw [q3] at z; have : txLen.getD 0 0 = 74 := rfl; omega) (by rw [q3]; rfl) (fdec G_L1_ch (k := 6) rfl) ?_
  refine lv_sipush hE.1 hE.2.1 (fdec G_L1_ch (k := 7) rfl) (v := 255) (by decide) ?_
  refine lv_iand hE.1 hE.2.1 (fdec G_L1_ch (k := 8) rfl) ?_
  refine lv_i2c hE.1 hE.2.1 (fdec G_L1_ch (k := 9) rfl) (tch_ok k hk).1 ?_
  exact W.zret (ty := .char) hE.1 hE.2.1 (by rw [hE.2.2.2.2.2.1]; rfl) (tch_ok k hk).2 (fun t ht _ => ⟨⟨some (.int (tch k)), _, rfl, ⟨rfl, rfl⟩, by rw [ht]; exact hw1.1, hw1.2.2⟩, hw1.2.1.F ht⟩) hw1.2.1.2.2 (fdec G_L1_ch (k := 10) rfl) (hlocks := hE.2.2.2.2.2.2.1)
theorem K_ST_ch (m : Mem) {k : Nat} (hk : k < 74) : MtS M_ST_ch (fun G => [.ref (G.2.2.2.1 0), .int (nI k)]) m (qI (tch k) m) := by
  refine MtS.of G_ST_ch (fun G => Nat.le_refl _) ?_
  intro p l e s mid args below meth c H locs G ls hE hw hl
  have hT := hE.2.2.2.2.2.2.2.2.1
  refine lv_aload_n hE.1 hE.2.1 (fdec G_ST_ch (k := 0) rfl) rfl (lv_at hl 0 rfl) ?_
  refine T_callV (M := M_ST_ch) (M' := M_ST_isL) (as := fun _ => []) (st := []) (fdec G_ST_ch (k := 1) rfl) ⟨G_ST_isL, tw_667, tw_668, tw_669, rfl, by decide +kernel⟩ (by decide) (show 0 < 5 by omega) rfl (Nat.le_of_ble_eq_true rfl) hE hw hl.1 (K_ST_isL m (by omega)) ?_
  rintro r m' ⟨rfl, rfl⟩ H1 locs1 hw1
  refine lv_if_eq hE.1 hE.2.1 (fdec G_ST_ch (k := 2) rfl) (tgt := 16) rfl (fun h => absurd h (show ¬ (1 : Int32) = 0 by decide)) (fun _ => ?_)
  refine lv_aload_n hE.1 hE.2.1 (fdec G_ST_ch (k := 3) rfl) rfl (lv_at hl 0 rfl) ?_
  refine vk_getf hE.1 hE.2.1 (hT.1.1 0 (by omega)).2.2.1 hw1.2.1 hE.2.2.2.1 (hE.2.2.2.2.1 _ tw_2096) (fun x h => h) (fdec G_ST_ch (k := 4) rfl) ?_
  refine lv_iload_n hE.1 hE.2.1 (fdec G_ST_ch (k := 5) rfl) rfl (lv_at hl 1 rfl) ?_
  refine T_callS (na := 2) (M := M_ST_ch) (M' := M_L1_ch) (as := fun G => [.ref (G.2.2.2.2 0), .int (nI k)]) (st := []) (fdec G_ST_ch (k := 6) rfl) ⟨G_L1_ch, tw_671, tw_672, by decide +kernel⟩ (by decide) rfl (Nat.le_of_ble_eq_true rfl) hE hw1 hl.1 (K_L1_ch _ hk) ?_
  rintro r m' ⟨rfl, rfl⟩ H2 locs2 hw2
  exact W.zret (ty := .char) hE.1 hE.2.1 (by rw [hE.2.2.2.2.2.1]; rfl) (tch_ok k hk).2 (fun t ht _ => ⟨⟨some (.int (tch k)), _, rfl, ⟨rfl, rfl⟩, by rw [ht]; exact hw2.1, hw2.2.2⟩, hw2.2.1.F ht⟩) hw2.2.1.2.2 (fdec G_ST_ch (k := 7) rfl) (hlocks := hE.2.2.2.2.2.2.1)

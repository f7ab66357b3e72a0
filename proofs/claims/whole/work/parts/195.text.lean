/-! texts: String.length and String.charAt of the class's own texts -/
def PcS (G : Gx) (as : List Value) (m : Mem) : Array Value → State → Prop := fun v U => v = as.toArray ∧ WU G m U
def MtS (M : MI) (as : Gx → List Value) (m : Mem) (Q : Option Value → Mem → Prop) : Prop := ∀ (l : Launch) (G : Gx), Met l M.1 (twM M) (rmM M) (PcS G (as G) m) (QcM G Q) 0 0 (Ab G.2.1)
theorem PcS_blind (G : Gx) (as : List Value) (m : Mem) : FrameBlind (PcS G as m) := by
  intro a U g mk h
  obtain ⟨h1, h2, h3, h4, h5, h6⟩ := h
  exact ⟨h1, h2, va_K.moved (u := U) (U := U.calling g mk a) (Vm.Alike.refl U.vm) h3, Txt.same (s := U) (U := U.calling g mk a) rfl h4, Nst.same (s := U) (U := U.calling g mk a) rfl h5, h6⟩
def GoodF (M : MI) : Prop := plainFor M.1 = true ∧ Cond.code M.1 M.2.1 M.2.2.1 M.2.2.2.1 ∈ TW ∧ Cond.initialized M.1.cls ∈ TW ∧ (∀ q ∈ M.2.2.2.2.2.2, decode M.2.1 q.1 = .ok q.2)
theorem tw_payF {M' : MI} (hg : GoodF M') : GoodIn TW (twM M') := by
  intro w hw
  rcases List.mem_cons.mp hw with rfl | h
  · exact ⟨hg.2.1, good_of_word (TW_good _ hg.2.1)⟩
  · exact ⟨h, good_of_word (TW_good _ h)⟩
theorem fdec {M : MI} (g : GoodF M) {k pc n : Nat} {i : Instr} (h : M.2.2.2.2.2.2[k]? = some (pc, i, n)) : decode M.2.1 pc = .ok (i, n) := g.2.2.2 (pc, i, n) (List.mem_of_getElem? h)
def ES (M : MI) (pc : Nat) (lv : Gx → List (Nat × Value)) (st : Gx → List Value) (m : Mem) (Q : Option Value → Mem → Prop) : Prop :=
  ∀ (p : Program) (l : Launch) (e : Env) (s : State) (mid : MethodId) (args : Array Value) (below : List Frame) (meth : Method) (c : Code) (H : Heap) (locs : List Loc) (G : Gx) (ls : Array Slot),
    EnvM M p s mid args meth c G → WldM s H locs G m → lv_has ls M.2.2.1 (lv G) →
    W p l e (rmM M) s mid args below meth c H locs 0 0 (MQ below (QcM G Q) args s 0 0 (Ab G.2.1)) (F0 mid pc ls (st G))
theorem MtS.of {M : MI} {as : Gx → List Value} {m : Mem} {Q : Option Value → Mem → Prop} (g : GoodF M) (hl : ∀ G, (lg_sl (as G)).length ≤ M.2.2.1) (h : ES M 0 (fun G => lv_args 0 (as G)) (fun _ => []) m Q) : MtS M as m Q := by
  intro l G
  refine va_MetF (cc := M.2.1) (maxL := M.2.2.1) (ret := M.2.2.2.1) g.1 rfl ?_
  intro p e s mid args below meth c s₁ B hml hv
  obtain ⟨rfl, hP, hK, hT, hN, hM⟩ := hv
  have hts := atoms_spec (ws := twM M) B.pre
  have he := lv_entry (as G) (n := M.2.2.1) (hl G)
  rw [lg_entry_eq]
  exact h p l e s mid _ below meth c s.heap [] G _ ⟨B.exec, B.bytes, hml, findClass_of_methodNamed B.named, fun w hw => hts w (List.mem_cons_of_mem _ hw), B.returns, B.notSynchronized, hK, hT, hN⟩ ⟨hP, va_S.rf, hM⟩ he
theorem S_run {M : MI} {pc : Nat} {m : Mem} {Q' : Option Value → Mem → Prop} {QQ : State → Prop} {p : Program} {l : Launch} {e : Env} {s : State} {mid : MethodId} {args : Array Value} {below : List Frame} {meth : Method} {c : Code} {H : Heap} {locs : List Loc} {G : Gx} {ls : Array Slot} {sk st : List Value} {av : Array Value}
    (hw : WldM s H locs G m) (hr : va_Run p l e (rmM M) s mid args below meth c H locs 0 0 0 0 (F0 mid pc ls sk) st (QcM G Q' av) (Ab G.2.1))
    (kk : ∀ r m', Q' r m' → ∀ H1 locs1, WldM s H1 locs1 G m' → W p l e (rmM M) s mid args below meth c H1 locs1 0 0 QQ (F0 mid (pc + 3) ls ((r.map (cv G.2.1)).toList ++ st))) : W p l e (rmM M) s mid args below meth c H locs 0 0 QQ (F0 mid pc ls sk) := by
  intro T hT X
  obtain ⟨v, st₀, t, T', L, h0, X', hL, e1, e2, ⟨⟨r, m', hv, hq, hP, hM⟩, hz, hk⟩, stp⟩ := hr T hT X
  have hv : v = r.map (cv G.2.1) := by injection hv
  subst hv
  rw [h0] at hz hk
  have hS : va_S (Ab G.2.1) s.heap T'.heap (locs ++ L) := by
    refine ⟨Nat.le_trans hw.2.1.1 (by rw [e1]; exact hz), fun q h1 h2 => ?_, fun q hq => ?_⟩
    · rw [e1, hk q (Nat.lt_of_lt_of_le h1 hw.2.1.1) h2]
      exact hw.2.1.2.1 q h1 h2
    · rcases List.mem_append.mp hq with h | h
      · exact hw.2.1.2.2 q h
      · exact hL q h
  obtain ⟨t2, a1, b1⟩ := kk r m' hq T'.heap (locs ++ L) ⟨by rw [e1]; exact hP, hS, hM⟩ T' rfl X'
  exact ⟨t2, stp t2 a1, b1⟩
/-- words of a call of these: virtual on a text, static -/
def CTV (own : String) (ix : Nat) (M' : MI) (na : Nat) : Prop := GoodF M' ∧ Cond.methodLink own ix M'.1 ∈ TW ∧ Cond.instanceMethod M'.1 ∈ TW ∧ Cond.selects M'.1.cls M'.1 M'.1 ∈ TW ∧ M'.1.cls = "java/lang/String" ∧ (M'.1.cls ≠ "java/lang/invoke/MethodHandle" ∧ M'.1.cls ≠ "java/lang/invoke/VarHandle" ∧ (parseMethodDescriptor M'.1.desc).map (fun d => d.parameters.length) = some na)
def CTS (own : String) (ix : Nat) (M' : MI) (na : Nat) : Prop := GoodF M' ∧ Cond.methodLink own ix M'.1 ∈ TW ∧ Cond.static M'.1 ∈ TW ∧ (M'.1.cls ≠ "java/lang/invoke/MethodHandle" ∧ M'.1.cls ≠ "java/lang/invoke/VarHandle" ∧ (parseMethodDescriptor M'.1.desc).map (fun d => d.parameters.length) = some na)
section
variable {M M' : MI} {pc ix na i : Nat} {m : Mem} {Q' : Option Value → Mem → Prop} {QQ : State → Prop} {p : Program} {l : Launch} {e : Env} {s : State} {mid : MethodId} {args : Array Value} {below : List Frame} {meth : Method} {c : Code} {H : Heap} {locs : List Loc} {G : Gx} {ls : Array Slot} {st : List Value}
theorem T_callV (hdg : decode M.2.1 pc = .ok (.invokevirtual ix, 3)) (co : CTV M.1.cls ix M' na) (hf : Fits M M') (hi : i < 5) (as : Gx → List Value) (ha : (as G).length = na) (hc : (st.map fun v => v.category).sum ≤ 8)
    (hE : EnvM M p s mid args meth c G) (hw : WldM s H locs G m) (hl : ls.size = M.2.2.1) (ht : MtS M' (fun G => .ref (G.2.2.2.1 i) :: as G) m Q')
    (kk : ∀ r m', Q' r m' → ∀ H1 locs1, WldM s H1 locs1 G m' → W p l e (rmM M) s mid args below meth c H1 locs1 0 0 QQ (F0 mid (pc + 3) ls ((r.map (cv G.2.1)).toList ++ st))) : W p l e (rmM M) s mid args below meth c H locs 0 0 QQ (F0 mid pc ls ((as G).reverse ++ .ref (G.2.2.2.1 i) :: st)) := by
  obtain ⟨hg, c1, c2, c3, c5, c6⟩ := co
  refine S_run hw (va_runV (As := as G) (b := G.2.2.2.1 i) (C := M'.1.cls) (index := ix) (y := M'.1) (bytes := M'.2.1) (maxL := M'.2.2.1) (ret := M'.2.2.2.1) (n := na) (Ts := TW) (own := M.1.cls) (nL := M.2.2.1) ⟨hE.1, hE.2.1, hE.2.2.1, hE.2.2.2.1, hE.2.2.2.2.1⟩ (ht l G) ⟨callB_of na hE.2.2.2.2.1 (tw_payF hg) rfl rfl rfl (hE.2.2.2.2.1 _ hg.2.2.1) (hE.2.2.2.2.1 _ c1) c6 hf, hE.2.2.2.2.1 _ c2, hE.2.2.2.2.1 _ c3⟩ ⟨PcS_blind _ _ _, ?_, fun U hU hW => ⟨rfl, WU_of hE hw hU hW⟩⟩ rfl ha hl rfl (lv_room hc) hdg ⟨Nat.le_refl _, Nat.le_refl _⟩) kk
  rw [c5]
  exact vk_recv hE.2.2.2.2.2.2.2.2.1.1 hi hw.2.1
theorem T_callS (hdg : decode M.2.1 pc = .ok (.invokestatic ix, 3)) (co : CTS M.1.cls ix M' na) (hf : Fits M M') (as : Gx → List Value) (ha : (as G).length = na) (hc : (st.map fun v => v.category).sum ≤ 8)
    (hE : EnvM M p s mid args meth c G) (hw : WldM s H locs G m) (hl : ls.size = M.2.2.1) (ht : MtS M' as m Q')
    (kk : ∀ r m', Q' r m' → ∀ H1 locs1, WldM s H1 locs1 G m' → W p l e (rmM M) s mid args below meth c H1 locs1 0 0 QQ (F0 mid (pc + 3) ls ((r.map (cv G.2.1)).toList ++ st))) : W p l e (rmM M) s mid args below meth c H locs 0 0 QQ (F0 mid pc ls ((as G).reverse ++ st)) := by
  obtain ⟨hg, c1, c2, c6⟩ := co
  exact S_run hw (va_runS (As := as G) (index := ix) (y := M'.1) (bytes := M'.2.1) (maxL := M'.2.2.1) (ret := M'.2.2.2.1) (n := na) (Ts := TW) (own := M.1.cls) (nL := M.2.2.1) ⟨hE.1, hE.2.1, hE.2.2.1, hE.2.2.2.1, hE.2.2.2.2.1⟩ (ht l G) ⟨callB_of na hE.2.2.2.2.1 (tw_payF hg) rfl rfl rfl (hE.2.2.2.2.1 _ hg.2.2.1) (hE.2.2.2.2.1 _ c1) c6 hf, hE.2.2.2.2.1 _ c2⟩ ⟨PcS_blind _ _ _, fun U hU hW => ⟨rfl, WU_of hE hw hU hW⟩⟩ rfl ha hl rfl (lv_room hc) hdg ⟨Nat.le_refl _, Nat.le_refl _⟩) kk
end
def M_ST_coder : MI := (⟨"java/lang/String", "coder", "()B"⟩, prog_22_method_152_code, 1, some .byte, 0, 0, [(0, .getstatic 38, 3), (3, .ifCond .eq 10, 3), (6, .aload_n 0, 1), (7, .getfield 15, 3), (10, .goto 4, 3), (13, .iconst 1, 1), (14, .ireturn, 1)])
theorem G_ST_coder : GoodF M_ST_coder := ⟨by decide +kernel, tw_659, tw_125, by decide +kernel⟩
def M_ST_isL : MI := (⟨"java/lang/String", "isLatin1", "()Z"⟩, prog_22_method_154_code, 1, some .boolean, 0, 0, [(0, .getstatic 38, 3), (3, .ifCond .eq 14, 3), (6, .aload_n 0, 1), (7, .getfield 15, 3), (10, .ifCond .ne 7, 3), (13, .iconst 1, 1), (14, .goto 4, 3), (17, .iconst 0, 1), (18, .ireturn, 1)])
theorem G_ST_isL : GoodF M_ST_isL := ⟨by decide +kernel, tw_669, tw_125, by decide +kernel⟩
def M_ST_len : MI := (⟨"java/lang/String", "length", "()I"⟩, prog_22_method_54_code, 1, some .int, 1, 20, [(0, .aload_n 0, 1), (1, .getfield 9, 3), (4, .arraylength, 1), (5, .aload_n 0, 1), (6, .invokevirtual 335, 3), (9, .ishr, 1), (10, .ireturn, 1)])
theorem G_ST_len : GoodF M_ST_len := ⟨by decide +kernel, tw_655, tw_125, by decide +kernel⟩
def M_PR_ck : MI := (⟨"jdk/internal/util/Preconditions", "checkIndex", "(IILjava/util/function/BiFunction;)I"⟩, prog_31_method_11_code, 3, some .int, 0, 0, [(0, .iload_n 0, 1), (1, .ifCond .lt 8, 3), (4, .iload_n 0, 1), (5, .iload_n 1, 1), (6, .if_icmp .lt 10, 3), (16, .iload_n 0, 1), (17, .ireturn, 1)])
theorem G_PR_ck : GoodF M_PR_ck := ⟨by decide +kernel, tw_680, tw_127, by decide +kernel⟩
def M_ST_ck : MI := (⟨"java/lang/String", "checkIndex", "(II)V"⟩, prog_22_method_155_code, 2, none, 1, 22, [(0, .iload_n 0, 1), (1, .iload_n 1, 1), (2, .getstatic 1053, 3), (5, .invokestatic 1059, 3), (8, .pop, 1), (9, .return_, 1)])
theorem G_ST_ck : GoodF M_ST_ck := ⟨by decide +kernel, tw_675, tw_125, by decide +kernel⟩
def M_L1_ch : MI := (⟨"java/lang/StringLatin1", "charAt", "([BI)C"⟩, prog_23_method_2_code, 2, some .char, 2, 43, [(0, .iload_n 1, 1), (1, .aload_n 0, 1), (2, .arraylength, 1), (3, .invokestatic 9, 3), (6, .aload_n 0, 1), (7, .iload_n 1, 1), (8, .baload, 1), (9, .sipush 255, 3), (12, .iand, 1), (13, .i2c, 1), (14, .ireturn, 1)])
theorem G_L1_ch : GoodF M_L1_ch := ⟨by decide +kernel, tw_672, tw_126, by decide +kernel⟩
def M_ST_ch : MI := (⟨"java/lang/String", "charAt", "(I)C"⟩, prog_22_method_56_code, 2, some .char, 3, 64, [(0, .aload_n 0, 1), (1, .invokevirtual 492, 3), (4, .ifCond .eq 12, 3), (7, .aload_n 0, 1), (8, .getfield 9, 3), (11, .iload_n 1, 1), (12, .invokestatic 495, 3), (15, .ireturn, 1)])
theorem G_ST_ch : GoodF M_ST_ch := ⟨by decide +kernel, tw_665, tw_125, by decide +kernel⟩
theorem K_ST_coder (m : Mem) {i : Nat} (hi : i < 5) : MtS M_ST_coder (fun G => [.ref (G.2.2.2.1 i)]) m (qI 0 m) := by
  refine MtS.of G_ST_coder (fun G => Nat.le_refl _) ?_
  intro p l e s mid args below meth c H locs G ls hE hw hl
  have hT := hE.2.2.2.2.2.2.2.2.1
  refine va_gets hE.1 hE.2.1 hT.z hw.2.1 hE.2.2.2.1 (hE.2.2.2.2.1 _ tw_660) (fun x h => h) (fdec G_ST_coder (k := 0) rfl) ?_
  refine lv_if_eq hE.1 hE.2.1 (fdec G_ST_coder (k := 1) rfl) (tgt := 13) rfl (fun h => absurd h (show ¬ (1 : Int32) = 0 by decide)) (fun _ => ?_)
  refine lv_aload_n hE.1 hE.2.1 (fdec G_ST_coder (k := 2) rfl) rfl (lv_at hl 0 rfl) ?_
  refine vk_getf hE.1 hE.2.1 (hT.1.1 i hi).2.1 hw.2.1 hE.2.2.2.1 (hE.2.2.2.2.1 _ tw_2102) (fun x h => h) (fdec G_ST_coder (k := 3) rfl) ?_
  refine lv_goto hE.1 hE.2.1 (fdec G_ST_coder (k := 4) rfl) (tgt := 14) rfl ?_
  exact W.zret (ty := .byte) hE.1 hE.2.1 (by rw [hE.2.2.2.2.2.1]; rfl) rfl (fun t ht _ => ⟨⟨some (.int 0), m, rfl, ⟨rfl, rfl⟩, by rw [ht]; exact hw.1, hw.2.2⟩, hw.2.1.F ht⟩) hw.2.1.2.2 (fdec G_ST_coder (k := 6) rfl) (hlocks := hE.2.2.2.2.2.2.1)
theorem K_ST_isL (m : Mem) {i : Nat} (hi : i < 5) : MtS M_ST_isL (fun G => [.ref (G.2.2.2.1 i)]) m (qI 1 m) := by
  refine MtS.of G_ST_isL (fun G => Nat.le_refl _) ?_
  intro p l e s mid args below meth c H locs G ls hE hw hl
  have hT := hE.2.2.2.2.2.2.2.2.1
  refine va_gets hE.1 hE.2.1 hT.z hw.2.1 hE.2.2.2.1 (hE.2.2.2.2.1 _ tw_660) (fun x h => h) (fdec G_ST_isL (k := 0) rfl) ?_
  refine lv_if_eq hE.1 hE.2.1 (fdec G_ST_isL (k := 1) rfl) (tgt := 17) rfl (fun h => absurd h (show ¬ (1 : Int32) = 0 by decide)) (fun _ => ?_)
  refine lv_aload_n hE.1 hE.2.1 (fdec G_ST_isL (k := 2) rfl) rfl (lv_at hl 0 rfl) ?_
  refine vk_getf hE.1 hE.2.1 (hT.1.1 i hi).2.1 hw.2.1 hE.2.2.2.1 (hE.2.2.2.2.1 _ tw_2102) (fun x h => h) (fdec G_ST_isL (k := 3) rfl) ?_
  refine lv_if_ne hE.1 hE.2.1 (fdec G_ST_isL (k := 4) rfl) (tgt := 17) rfl (fun h => absurd rfl h) (fun _ => ?_)
  refine lv_iconst hE.1 hE.2.1 (fdec G_ST_isL (k := 5) rfl) (v := 1) (by decide) ?_
  refine lv_goto hE.1 hE.2.1 (fdec G_ST_isL (k := 6) rfl) (tgt := 18) rfl ?_
  exact W.zret (ty := .boolean) hE.1 hE.2.1 (by rw [hE.2.2.2.2.2.1]; rfl) rfl (fun t ht _ => ⟨⟨some (.int 1), m, rfl, ⟨rfl, rfl⟩, by rw [ht]; exact hw.1, hw.2.2⟩, hw.2.1.F ht⟩) hw.2.1.2.2 (fdec G_ST_isL (k := 8) rfl) (hlocks := hE.2.2.2.2.2.2.1)
theorem K_ST_len (m : Mem) {i : Nat} (hi : i < 5) : MtS M_ST_len (fun G => [.ref (G.2.2.2.1 i)]) m (qI (nI (txLen.getD i 0)) m) := by
  refine MtS.of G_ST_len (fun G => Nat.le_refl _) ?_
  intro p l e s mid args below meth c H locs G ls hE hw hl
  have hT := hE.2.2.2.2.2.2.2.2.1
  have hsh : nI (txLen.getD i 0) >>> ((0 : Int32) &&& 31) = nI (txLen.getD i 0) := by
    have key : ∀ i, i < 5 → nI (txLen.getD i 0) >>> ((0 : Int32) &&& 31) = nI (txLen.getD i 0) := by decide +kernel
    exact key i hi
  refine lv_aload_n hE.1 hE.2.1 (fdec G_ST_len (k := 0) rfl) rfl (lv_at hl 0 rfl) ?_
  refine vk_getf hE.1 hE.2.1 (hT.1.1 i hi).2.2.1 hw.2.1 hE.2.2.2.1 (hE.2.2.2.2.1 _ tw_2101) (fun x h => h) (fdec G_ST_len (k := 1) rfl) ?_
  refine va_tlen hE.1 hE.2.1 (hT.1.1 i hi).2.2.2 hw.2.1 (v := nI (txLen.getD i 0)) rfl (fdec G_ST_len (k := 2) rfl) ?_
  refine lv_aload_n hE.1 hE.2.1 (fdec G_ST_len (k := 3) rfl) rfl (lv_at hl 0 rfl) ?_
  refine T_callV (M := M_ST_len) (M' := M_ST_coder) (as := fun _ => []) (st := [.int (nI (txLen.getD i 0))]) (fdec G_ST_len (k := 4) rfl) ⟨G_ST_coder, tw_656, tw_657, tw_658, rfl, by decide +kernel⟩ (by decide) hi rfl (Nat.le_of_ble_eq_true rfl) hE hw hl.1 (K_ST_coder m hi) ?_
  rintro r m' ⟨rfl, rfl⟩ H1 locs1 hw1
  refine lv_ishr hE.1 hE.2.1 (fdec G_ST_len (k := 5) rfl) ?_
  rw [hsh]
  exact W.iret hE.1 hE.2.1 (by rw [hE.2.2.2.2.2.1]; rfl) (fun t ht _ => ⟨⟨some (.int (nI (txLen.getD i 0))), _, rfl, ⟨rfl, rfl⟩, by rw [ht]; exact hw1.1, hw1.2.2⟩, hw1.2.1.F ht⟩) hw1.2.1.2.2 (fdec G_ST_len (k := 6) rfl) (hlocks := hE.2.2.2.2.2.2.1)
theorem K_PR_ck (m : Mem) {x y : Int32} {v : Value} (hv : v.category = 1) (h0 : ¬ x < 0) (h1 : x < y) : MtS M_PR_ck (fun _ => [.int x, .int y, v]) m (qI x m) := by
  refine MtS.of G_PR_ck (fun G => by
    have this : (if v.category = 2 then [Slot.val v, Slot.second] else [Slot.val v]) = [Slot.val v] := if_neg (by rw [hv]; decide)
    show (lg_sl [.int x, .int y, v]).length ≤ 3
    simp only [lg_sl, List.flatMap_cons, List.flatMap_nil, this]
    exact Nat.le_refl _) ?_
  intro p l e s mid args below meth c H locs G ls hE hw hl
  refine lv_iload_n hE.1 hE.2.1 (fdec G_PR_ck (k := 0) rfl) rfl (lv_at hl 0 rfl) ?_
  refine lv_if_lt hE.1 hE.2.1 (fdec G_PR_ck (k := 1) rfl) (tgt := 9) rfl (fun h => absurd h h0) (fun _ => ?_)
  refine lv_iload_n hE.1 hE.2.1 (fdec G_PR_ck (k := 2) rfl) rfl (lv_at hl 0 rfl) ?_
  refine lv_iload_n hE.1 hE.2.1 (fdec G_PR_ck (k := 3) rfl) rfl (lv_at hl 1 rfl) ?_
  refine lv_icmp_lt hE.1 hE.2.1 (fdec G_PR_ck (k := 4) rfl) (tgt := 16) rfl (fun _ => ?_) (fun h => absurd h1 h)
  refine lv_iload_n hE.1 hE.2.1 (fdec G_PR_ck (k := 5) rfl) rfl (lv_at hl 0 rfl) ?_
  exact W.iret hE.1 hE.2.1 (by rw [hE.2.2.2.2.2.1]; rfl) (fun t ht _ => ⟨⟨some (.int x), m, rfl, ⟨rfl, rfl⟩, by rw [ht]; exact hw.1, hw.2.2⟩, hw.2.1.F ht⟩) hw.2.1.2.2 (fdec G_PR_ck (k := 6) rfl) (hlocks := hE.2.2.2.2.2.2.1)
theorem K_ST_ck (m : Mem) {x y : Int32} (h0 : ¬ x < 0) (h1 : x < y) : MtS M_ST_ck (fun _ => [.int x, .int y]) m (fun r m' => r = none ∧ m' = m) := by
  refine MtS.of G_ST_ck (fun G => Nat.le_refl _) ?_
  intro p l e s mid args below meth c H locs G ls hE hw hl
  have hT := hE.2.2.2.2.2.2.2.2.1
  obtain ⟨v, hv, hz⟩ := hT.zf
  refine lv_iload_n hE.1 hE.2.1 (fdec G_ST_ck (k := 0) rfl) rfl (lv_at hl 0 rfl) ?_
  refine lv_iload_n hE.1 hE.2.1 (fdec G_ST_ck (k := 1) rfl) rfl (lv_at hl 1 rfl) ?_
  refine va_gets hE.1 hE.2.1 hz hw.2.1 hE.2.2.2.1 (hE.2.2.2.2.1 _ tw_676) (fun x h => h) (fdec G_ST_ck (k := 2) rfl) ?_
  refine T_callS (na := 3) (M := M_ST_ck) (M' := M_PR_ck) (as := fun _ => [.int x, .int y, v]) (st := []) (fdec G_ST_ck (k := 3) rfl) ⟨G_PR_ck, tw_678, tw_679, by decide +kernel⟩ (by decide) rfl (Nat.le_of_ble_eq_true rfl) hE hw hl.1 (K_PR_ck m hv h0 h1) ?_
  rintro r m' ⟨rfl, rfl⟩ H1 locs1 hw1
  refine lv_pop hE.1 hE.2.1 (fdec G_ST_ck (k := 4) rfl) rfl ?_
  exact W.vret hE.1 hE.2.1 (by rw [hE.2.2.2.2.2.1]; rfl) (fun t ht _ => ⟨⟨none, _, rfl, ⟨rfl, rfl⟩, by rw [ht]; exact hw1.1, hw1.2.2⟩, hw1.2.1.F ht⟩) hw1.2.1.2.2 (fdec G_ST_ck (k := 5) rfl) (hlocks := hE.2.2.2.2.2.2.1)
def tch (k : Nat) : Int32 := (txByt.getD 0 []).getD k 0
theorem tch_ok : ∀ k, k < 74 → ((tch k &&& 255).toUInt32 % 65536).toInt32 = tch k ∧ narrow .char (.int (tch k)) = .int (tch k) := by decide +kernel
theorem K_L1_ch (m : Mem) {k : Nat} (hk : k < 74) : MtS M_L1_ch (fun G => [.ref (G.2.2.2.2 0), .int (nI k)]) m (qI (tch k) m) := by
  refine MtS.of G_L1_ch (fun G => Nat.le_refl _) ?_
  intro p l e s mid args below meth c H locs G ls hE hw hl
  have hT := hE.2.2.2.2.2.2.2.2.1
  have hA := (hT.1.1 0 (by omega)).2.2.2
  have key : ∀ k, k < 74 → ¬ nI k < 0 ∧ nI k < nI 74 ∧ (nI k).toNatClampNeg = k := by decide +kernel
  obtain ⟨q1, q2, q3⟩ := key k hk
  refine lv_iload_n hE.1 hE.2.1 (fdec G_L1_ch (k := 0) rfl) rfl (lv_at hl 1 rfl) ?_
  refine lv_aload_n hE.1 hE.2.1 (fdec G_L1_ch (k := 1) rfl) rfl (lv_at hl 0 rfl) ?_
  refine va_tlen hE.1 hE.2.1 hA hw.2.1 (v := nI 74) rfl (fdec G_L1_ch (k := 2) rfl) ?_
  refine T_callS (na := 2) (M := M_L1_ch) (M' := M_ST_ck) (as := fun _ => [.int (nI k), .int (nI 74)]) (st := []) (fdec G_L1_ch (k := 3) rfl) ⟨G_ST_ck, tw_673, tw_674, by decide +kernel⟩ (by decide) rfl (Nat.le_of_ble_eq_true rfl) hE hw hl.1 (K_ST_ck m q1 q2) ?_
  rintro r m' ⟨rfl, rfl⟩ H1 locs1 hw1
  refine lv_aload_n hE.1 hE.2.1 (fdec G_L1_ch (k := 4) rfl) rfl (lv_at hl 0 rfl) ?_
  refine lv_iload_n hE.1 hE.2.1 (fdec G_L1_ch (k := 5) rfl) rfl (lv_at hl 1 rfl) ?_
  refine va_tb hE.1 hE.2.1 hA hw1.2.1 (i := nI k) (v := .int (tch k)) (by
    rintro (z | z)
    · exact q1 z
    · rw [q3] at z; have : txLen.getD 0 0 = 74 := rfl; omega) (by rw [q3]; rfl) (fdec G_L1_ch (k := 6) rfl) ?_
  refine lv_sipush hE.1 hE.2.1 (fdec G_L1_ch (k := 7) rfl) (v := 255) (by decide) ?_
  refine lv_iand hE.1 hE.2.1 (fdec G_L1_ch (k := 8) rfl) ?_
  refine lv_i2c hE.1 hE.2.1 (fdec G_L1_ch (k := 9) rfl) (tch_ok k hk).1 ?_
  exact W.zret (ty := .char) hE.1 hE.2.1 (by rw [hE.2.2.2.2.2.1]; rfl) (tch_ok k hk).2 (fun t ht _ => ⟨⟨some (.int (tch k)), _, rfl, ⟨rfl, rfl⟩, by rw [ht]; exact hw1.1, hw1.2.2⟩, hw1.2.1.F ht⟩) hw1.2.1.2.2 (fdec G_L1_ch (k := 10) rfl) (hlocks := hE.2.2.2.2.2.2.1)
theorem K_ST_ch (m : Mem) {k : Nat} (hk : k < 74) : MtS M_ST_ch (fun G => [.ref (G.2.2.2.1 0), .int (nI k)]) m (qI (tch k) m) := by
  refine MtS.of G_ST_ch (fun G => Nat.le_refl _) ?_
  intro p l e s mid args below meth c H locs G ls hE hw hl
  have hT := hE.2.2.2.2.2.2.2.2.1
  refine lv_aload_n hE.1 hE.2.1 (fdec G_ST_ch (k := 0) rfl) rfl (lv_at hl 0 rfl) ?_
  refine T_callV (M := M_ST_ch) (M' := M_ST_isL) (as := fun _ => []) (st := []) (fdec G_ST_ch (k := 1) rfl) ⟨G_ST_isL, tw_666, tw_667, tw_668, rfl, by decide +kernel⟩ (by decide) (show 0 < 5 by omega) rfl (Nat.le_of_ble_eq_true rfl) hE hw hl.1 (K_ST_isL m (by omega)) ?_
  rintro r m' ⟨rfl, rfl⟩ H1 locs1 hw1
  refine lv_if_eq hE.1 hE.2.1 (fdec G_ST_ch (k := 2) rfl) (tgt := 16) rfl (fun h => absurd h (show ¬ (1 : Int32) = 0 by decide)) (fun _ => ?_)
  refine lv_aload_n hE.1 hE.2.1 (fdec G_ST_ch (k := 3) rfl) rfl (lv_at hl 0 rfl) ?_
  refine vk_getf hE.1 hE.2.1 (hT.1.1 0 (by omega)).2.2.1 hw1.2.1 hE.2.2.2.1 (hE.2.2.2.2.1 _ tw_2101) (fun x h => h) (fdec G_ST_ch (k := 4) rfl) ?_
  refine lv_iload_n hE.1 hE.2.1 (fdec G_ST_ch (k := 5) rfl) rfl (lv_at hl 1 rfl) ?_
  refine T_callS (na := 2) (M := M_ST_ch) (M' := M_L1_ch) (as := fun G => [.ref (G.2.2.2.2 0), .int (nI k)]) (st := []) (fdec G_ST_ch (k := 6) rfl) ⟨G_L1_ch, tw_670, tw_671, by decide +kernel⟩ (by decide) rfl (Nat.le_of_ble_eq_true rfl) hE hw1 hl.1 (K_L1_ch _ hk) ?_
  rintro r m' ⟨rfl, rfl⟩ H2 locs2 hw2
  exact W.zret (ty := .char) hE.1 hE.2.1 (by rw [hE.2.2.2.2.2.1]; rfl) (tch_ok k hk).2 (fun t ht _ => ⟨⟨some (.int (tch k)), _, rfl, ⟨rfl, rfl⟩, by rw [ht]; exact hw2.1, hw2.2.2⟩, hw2.2.1.F ht⟩) hw2.2.1.2.2 (fdec G_ST_ch (k := 7) rfl) (hlocks := hE.2.2.2.2.2.2.1)
/-! wordOf -/
theorem wo_len {lv : List (Nat × Value)} {st : List Value} {m : Mem} {Q : Option Value → Mem → Prop} (hc : (st.map fun v => v.category).sum ≤ 8) (h : E M_RD_wordOf 15 lv (.int (nI 74) :: st) m Q) : E M_RD_wordOf 10 lv st m Q := by
  intro g p l e s mid args below meth c H locs G ls hE hw hl
  have hT := hE.2.2.2.2.2.2.2.2.1
  refine va_ldcS hE.1 hE.2.1 hE.2.2.2.1 (hT.2.1 ("OddHay$Reader", 74, "n e s w odd round left parish his on line hay church law edge heirs point ", 0) (List.mem_cons_self ..)) (gdec g (k := 7) rfl) ?_
  refine T_callV (na := 0) (M := M_RD_wordOf) (M' := M_ST_len) (as := fun _ => []) (st := st.map (cv G.2.1)) (gdec g (k := 8) rfl) ⟨G_ST_len, tw_652, tw_653, tw_654, rfl, by decide +kernel⟩ (by decide) (show 0 < 5 by omega) rfl (by rw [cat_sum]; exact hc) hE hw hl.1 (K_ST_len m (by omega)) ?_
  rintro r m' ⟨rfl, rfl⟩ H1 locs1 hw1
  exact h g p l e s mid args below meth c H1 locs1 G ls hE hw1 hl
theorem wo_ch {lv : List (Nat × Value)} {m : Mem} {Q : Option Value → Mem → Prop} {k : Nat} (hk : k < 74) (q : Nat) (hq : lv[q]? = some (5, .int (nI k))) (h : E M_RD_wordOf 25 lv [.int (tch k)] m Q) : E M_RD_wordOf 18 lv [] m Q := by
  intro g p l e s mid args below meth c H locs G ls hE hw hl
  have hT := hE.2.2.2.2.2.2.2.2.1
  refine va_ldcS hE.1 hE.2.1 hE.2.2.2.1 (hT.2.1 ("OddHay$Reader", 74, "n e s w odd round left parish his on line hay church law edge heirs point ", 0) (List.mem_cons_self ..)) (gdec g (k := 10) rfl) ?_
  refine lv_iload hE.1 hE.2.1 (gdec g (k := 11) rfl) (lv_at hl q (lc_at G.2.1 hq)) ?_
  refine T_callV (na := 1) (M := M_RD_wordOf) (M' := M_ST_ch) (as := fun _ => [.int (nI k)]) (st := []) (gdec g (k := 12) rfl) ⟨G_ST_ch, tw_662, tw_663, tw_664, rfl, by decide +kernel⟩ (by decide) (show 0 < 5 by omega) rfl (Nat.le_of_ble_eq_true rfl) hE hw hl.1 (K_ST_ch m hk) ?_
  rintro r m' ⟨rfl, rfl⟩ H1 locs1 hw1
  exact h g p l e s mid args below meth c H1 locs1 G ls hE hw1 hl
def wf (x0 : Int64) : Nat → Nat → Int64 → Int32 → Int32
  | 0, _, _, _ => 17
  | d + 1, k, kn, pl => if tch k = 32 then (if lg_cmp kn x0 = 0 then pl else wf x0 d (k + 1) 0 (pl + 1)) else wf x0 d (k + 1) (jlshl kn 8 ||| (tch k).toInt64) pl
theorem wo_loop {x0 : Int64} {m : Mem} : ∀ (d k : Nat) (kn : Int64) (pl : Int32), k + d = 74 → E M_RD_wordOf 8 [(0, .long x0), (2, .long kn), (4, .int pl), (5, .int (nI k))] [] m (qI (wf x0 d k kn pl) m)
  | 0, k, kn, pl, hd => by
    obtain rfl : k = 74 := by omega
    refine E_iload (n := 10) 6 rfl rfl 3 rfl <| wo_len (Nat.le_of_ble_eq_true rfl) <| E_icmp_ge (n := 18) (t := 66) 9 rfl rfl rfl (fun _ => ?_) (fun h => absurd (show nI 74 ≤ nI 74 by decide) h)
    exact E_bipush (v := 17) (n := 68) 36 rfl rfl (by decide) <| E_ireturn 37 rfl rfl ⟨rfl, rfl⟩
  | d + 1, k, kn, pl, hd => by
    have key : ∀ k, k < 74 → ¬ nI 74 ≤ nI k ∧ nI k + Int32.ofInt 1 = nI (k + 1) := by decide +kernel
    obtain ⟨q1, q2⟩ := key k (by omega)
    have ih := fun kn pl => wo_loop (x0 := x0) (m := m) d (k + 1) kn pl (by omega)
    refine E_iload (n := 10) 6 rfl rfl 3 rfl <| wo_len (Nat.le_of_ble_eq_true rfl) <| E_icmp_ge (n := 18) (t := 66) 9 rfl rfl rfl (fun h => absurd h q1) (fun _ => ?_)
    refine wo_ch (show k < 74 by omega) 3 rfl ?_
    refine E_istore (n := 27) (lv' := [(6, .int (tch k)), (0, .long x0), (2, .long kn), (4, .int pl), (5, .int (nI k))]) 13 rfl rfl (by decide) [0, 1, 2, 3, 4] rfl <| E_iload (n := 29) 14 rfl rfl 0 rfl <| E_bipush (v := 32) (n := 31) 15 rfl rfl (by decide) <| E_icmp_eq (n := 34) (t := 46) 16 rfl rfl rfl (fun hc => ?_) (fun hc => ?_)
    · refine E_lload_n (n := 47) 25 rfl rfl rfl 2 rfl <| E_lload_n (n := 48) 26 rfl rfl rfl 1 rfl <| E_lcmp (n := 49) 27 rfl rfl <| E_if_ne (n := 52) (t := 55) 28 rfl rfl rfl (fun hz => ?_) (fun hz => ?_)
      · have ew : wf x0 (d + 1) k kn pl = wf x0 d (k + 1) 0 (pl + 1) := by rw [wf, if_pos hc, if_neg hz]
        rw [ew]
        exact E_lconst (v := 0) (n := 56) 31 rfl rfl rfl <| E_lstore_n (n := 57) (lv' := [(2, .long 0), (0, .long x0), (4, .int pl), (5, .int (nI k))]) 32 rfl rfl rfl (by decide) [0, 2, 3, 4] rfl <| E_iinc (n := 60) (v := pl + 1) (lv' := [(4, .int (pl + 1)), (2, .long 0), (0, .long x0), (5, .int (nI k))]) 33 rfl rfl 2 rfl rfl (by decide) [0, 1, 2, 3] rfl <| E_iinc (n := 63) (v := nI (k + 1)) (lv' := [(0, .long x0), (2, .long 0), (4, .int (pl + 1)), (5, .int (nI (k + 1)))]) 34 rfl rfl 3 rfl q2 (by decide) [3, 2, 1, 0] rfl <| E_goto (t := 8) 35 rfl rfl <| ih 0 (pl + 1)
      · have ew : wf x0 (d + 1) k kn pl = pl := by rw [wf, if_pos hc, if_pos hz]
        rw [ew]
        exact E_iload (n := 54) 29 rfl rfl 3 rfl <| E_ireturn 30 rfl rfl ⟨rfl, rfl⟩
    · have ew : wf x0 (d + 1) k kn pl = wf x0 d (k + 1) (jlshl kn 8 ||| (tch k).toInt64) pl := by rw [wf, if_neg hc]
      rw [ew]
      exact E_lload_n (n := 35) 17 rfl rfl rfl 2 rfl <| E_bipush (v := 8) (n := 37) 18 rfl rfl (by decide) <| E_jlshl (n := 38) 19 rfl rfl <| E_iload (n := 40) 20 rfl rfl 0 rfl <| E_i2l (n := 41) 21 rfl rfl <| E_lor (n := 42) 22 rfl rfl <| E_lstore_n (n := 43) (lv' := [(2, .long (jlshl kn 8 ||| (tch k).toInt64)), (0, .long x0), (4, .int pl), (5, .int (nI k))]) 23 rfl rfl rfl (by decide) [0, 2, 3, 4] rfl <| E_goto (t := 60) 24 rfl rfl <| E_iinc (n := 63) (v := nI (k + 1)) (lv' := [(0, .long x0), (2, .long (jlshl kn 8 ||| (tch k).toInt64)), (4, .int pl), (5, .int (nI (k + 1)))]) 34 rfl rfl 3 rfl q2 (by decide) [2, 1, 3, 0] rfl <| E_goto (t := 8) 35 rfl rfl <| ih _ pl

theorem wfL {x0 : Int64} {d k : Nat} {kn kn' : Int64} {pl : Int32} (h : ¬ tch k = 32) (e : jlshl kn 8 ||| (tch k).toInt64 = kn') : wf x0 (d + 1) k kn pl = wf x0 d (k + 1) kn' pl := by rw [wf, if_neg h, e]
theorem wfS {x0 : Int64} {d k : Nat} {kn : Int64} {pl : Int32} (h : tch k = 32) : wf x0 (d + 1) k kn pl = if lg_cmp kn x0 = 0 then pl else wf x0 d (k + 1) 0 (pl + 1) := by rw [wf, if_pos h]
theorem wf_0 (x0 : Int64) (pl : Int32) : wf x0 74 0 0 pl = if lg_cmp 110 x0 = 0 then pl else wf x0 72 2 0 (pl + 1) := Eq.trans (wfL (d := 73) (k := 0) (kn := 0) (kn' := 110) (by decide +kernel) (by decide +kernel)) ((wfS (d := 72) (k := 1) (kn := 110) (by decide +kernel)))
theorem wf_1 (x0 : Int64) (pl : Int32) : wf x0 72 2 0 pl = if lg_cmp 101 x0 = 0 then pl else wf x0 70 4 0 (pl + 1) := Eq.trans (wfL (d := 71) (k := 2) (kn := 0) (kn' := 101) (by decide +kernel) (by decide +kernel)) ((wfS (d := 70) (k := 3) (kn := 101) (by decide +kernel)))
theorem wf_2 (x0 : Int64) (pl : Int32) : wf x0 70 4 0 pl = if lg_cmp 115 x0 = 0 then pl else wf x0 68 6 0 (pl + 1) := Eq.trans (wfL (d := 69) (k := 4) (kn := 0) (kn' := 115) (by decide +kernel) (by decide +kernel)) ((wfS (d := 68) (k := 5) (kn := 115) (by decide +kernel)))
theorem wf_3 (x0 : Int64) (pl : Int32) : wf x0 68 6 0 pl = if lg_cmp 119 x0 = 0 then pl else wf x0 66 8 0 (pl + 1) := Eq.trans (wfL (d := 67) (k := 6) (kn := 0) (kn' := 119) (by decide +kernel) (by decide +kernel)) ((wfS (d := 66) (k := 7) (kn := 119) (by decide +kernel)))
theorem wf_4 (x0 : Int64) (pl : Int32) : wf x0 66 8 0 pl = if lg_cmp 7300196 x0 = 0 then pl else wf x0 62 12 0 (pl + 1) := Eq.trans (wfL (d := 65) (k := 8) (kn := 0) (kn' := 111) (by decide +kernel) (by decide +kernel)) (Eq.trans (wfL (d := 64) (k := 9) (kn := 111) (kn' := 28516) (by decide +kernel) (by decide +kernel)) (Eq.trans (wfL (d := 63) (k := 10) (kn := 28516) (kn' := 7300196) (by decide +kernel) (by decide +kernel)) ((wfS (d := 62) (k := 11) (kn := 7300196) (by decide +kernel)))))
theorem wf_5 (x0 : Int64) (pl : Int32) : wf x0 62 12 0 pl = if lg_cmp 491496238692 x0 = 0 then pl else wf x0 56 18 0 (pl + 1) := Eq.trans (wfL (d := 61) (k := 12) (kn := 0) (kn' := 114) (by decide +kernel) (by decide +kernel)) (Eq.trans (wfL (d := 60) (k := 13) (kn := 114) (kn' := 29295) (by decide +kernel) (by decide +kernel)) (Eq.trans (wfL (d := 59) (k := 14) (kn := 29295) (kn' := 7499637) (by decide +kernel) (by decide +kernel)) (Eq.trans (wfL (d := 58) (k := 15) (kn := 7499637) (kn' := 1919907182) (by decide +kernel) (by decide +kernel)) (Eq.trans (wfL (d := 57) (k := 16) (kn := 1919907182) (kn' := 491496238692) (by decide +kernel) (by decide +kernel)) ((wfS (d := 56) (k := 17) (kn := 491496238692) (by decide +kernel)))))))
theorem wf_6 (x0 : Int64) (pl : Int32) : wf x0 56 18 0 pl = if lg_cmp 1818584692 x0 = 0 then pl else wf x0 51 23 0 (pl + 1) := Eq.trans (wfL (d := 55) (k := 18) (kn := 0) (kn' := 108) (by decide +kernel) (by decide +kernel)) (Eq.trans (wfL (d := 54) (k := 19) (kn := 108) (kn' := 27749) (by decide +kernel) (by decide +kernel)) (Eq.trans (wfL (d := 53) (k := 20) (kn := 27749) (kn' := 7103846) (by decide +kernel) (by decide +kernel)) (Eq.trans (wfL (d := 52) (k := 21) (kn := 7103846) (kn' := 1818584692) (by decide +kernel) (by decide +kernel)) ((wfS (d := 51) (k := 22) (kn := 1818584692) (by decide +kernel))))))
theorem wf_7 (x0 : Int64) (pl : Int32) : wf x0 51 23 0 pl = if lg_cmp 123563833652072 x0 = 0 then pl else wf x0 44 30 0 (pl + 1) := Eq.trans (wfL (d := 50) (k := 23) (kn := 0) (kn' := 112) (by decide +kernel) (by decide +kernel)) (Eq.trans (wfL (d := 49) (k := 24) (kn := 112) (kn' := 28769) (by decide +kernel) (by decide +kernel)) (Eq.trans (wfL (d := 48) (k := 25) (kn := 28769) (kn' := 7364978) (by decide +kernel) (by decide +kernel)) (Eq.trans (wfL (d := 47) (k := 26) (kn := 7364978) (kn' := 1885434473) (by decide +kernel) (by decide +kernel)) (Eq.trans (wfL (d := 46) (k := 27) (kn := 1885434473) (kn' := 482671225203) (by decide +kernel) (by decide +kernel)) (Eq.trans (wfL (d := 45) (k := 28) (kn := 482671225203) (kn' := 123563833652072) (by decide +kernel) (by decide +kernel)) ((wfS (d := 44) (k := 29) (kn := 123563833652072) (by decide +kernel))))))))
theorem wf_8 (x0 : Int64) (pl : Int32) : wf x0 44 30 0 pl = if lg_cmp 6842739 x0 = 0 then pl else wf x0 40 34 0 (pl + 1) := Eq.trans (wfL (d := 43) (k := 30) (kn := 0) (kn' := 104) (by decide +kernel) (by decide +kernel)) (Eq.trans (wfL (d := 42) (k := 31) (kn := 104) (kn' := 26729) (by decide +kernel) (by decide +kernel)) (Eq.trans (wfL (d := 41) (k := 32) (kn := 26729) (kn' := 6842739) (by decide +kernel) (by decide +kernel)) ((wfS (d := 40) (k := 33) (kn := 6842739) (by decide +kernel)))))
theorem wf_9 (x0 : Int64) (pl : Int32) : wf x0 40 34 0 pl = if lg_cmp 28526 x0 = 0 then pl else wf x0 37 37 0 (pl + 1) := Eq.trans (wfL (d := 39) (k := 34) (kn := 0) (kn' := 111) (by decide +kernel) (by decide +kernel)) (Eq.trans (wfL (d := 38) (k := 35) (kn := 111) (kn' := 28526) (by decide +kernel) (by decide +kernel)) ((wfS (d := 37) (k := 36) (kn := 28526) (by decide +kernel))))
theorem wf_10 (x0 : Int64) (pl : Int32) : wf x0 37 37 0 pl = if lg_cmp 1818848869 x0 = 0 then pl else wf x0 32 42 0 (pl + 1) := Eq.trans (wfL (d := 36) (k := 37) (kn := 0) (kn' := 108) (by decide +kernel) (by decide +kernel)) (Eq.trans (wfL (d := 35) (k := 38) (kn := 108) (kn' := 27753) (by decide +kernel) (by decide +kernel)) (Eq.trans (wfL (d := 34) (k := 39) (kn := 27753) (kn' := 7104878) (by decide +kernel) (by decide +kernel)) (Eq.trans (wfL (d := 33) (k := 40) (kn := 7104878) (kn' := 1818848869) (by decide +kernel) (by decide +kernel)) ((wfS (d := 32) (k := 41) (kn := 1818848869) (by decide +kernel))))))
theorem wf_11 (x0 : Int64) (pl : Int32) : wf x0 32 42 0 pl = if lg_cmp 6840697 x0 = 0 then pl else wf x0 28 46 0 (pl + 1) := Eq.trans (wfL (d := 31) (k := 42) (kn := 0) (kn' := 104) (by decide +kernel) (by decide +kernel)) (Eq.trans (wfL (d := 30) (k := 43) (kn := 104) (kn' := 26721) (by decide +kernel) (by decide +kernel)) (Eq.trans (wfL (d := 29) (k := 44) (kn := 26721) (kn' := 6840697) (by decide +kernel) (by decide +kernel)) ((wfS (d := 28) (k := 45) (kn := 6840697) (by decide +kernel)))))
theorem wf_12 (x0 : Int64) (pl : Int32) : wf x0 28 46 0 pl = if lg_cmp 109300298179432 x0 = 0 then pl else wf x0 21 53 0 (pl + 1) := Eq.trans (wfL (d := 27) (k := 46) (kn := 0) (kn' := 99) (by decide +kernel) (by decide +kernel)) (Eq.trans (wfL (d := 26) (k := 47) (kn := 99) (kn' := 25448) (by decide +kernel) (by decide +kernel)) (Eq.trans (wfL (d := 25) (k := 48) (kn := 25448) (kn' := 6514805) (by decide +kernel) (by decide +kernel)) (Eq.trans (wfL (d := 24) (k := 49) (kn := 6514805) (kn' := 1667790194) (by decide +kernel) (by decide +kernel)) (Eq.trans (wfL (d := 23) (k := 50) (kn := 1667790194) (kn' := 426954289763) (by decide +kernel) (by decide +kernel)) (Eq.trans (wfL (d := 22) (k := 51) (kn := 426954289763) (kn' := 109300298179432) (by decide +kernel) (by decide +kernel)) ((wfS (d := 21) (k := 52) (kn := 109300298179432) (by decide +kernel))))))))
theorem wf_13 (x0 : Int64) (pl : Int32) : wf x0 21 53 0 pl = if lg_cmp 7102839 x0 = 0 then pl else wf x0 17 57 0 (pl + 1) := Eq.trans (wfL (d := 20) (k := 53) (kn := 0) (kn' := 108) (by decide +kernel) (by decide +kernel)) (Eq.trans (wfL (d := 19) (k := 54) (kn := 108) (kn' := 27745) (by decide +kernel) (by decide +kernel)) (Eq.trans (wfL (d := 18) (k := 55) (kn := 27745) (kn' := 7102839) (by decide +kernel) (by decide +kernel)) ((wfS (d := 17) (k := 56) (kn := 7102839) (by decide +kernel)))))
theorem wf_14 (x0 : Int64) (pl : Int32) : wf x0 17 57 0 pl = if lg_cmp 1701078885 x0 = 0 then pl else wf x0 12 62 0 (pl + 1) := Eq.trans (wfL (d := 16) (k := 57) (kn := 0) (kn' := 101) (by decide +kernel) (by decide +kernel)) (Eq.trans (wfL (d := 15) (k := 58) (kn := 101) (kn' := 25956) (by decide +kernel) (by decide +kernel)) (Eq.trans (wfL (d := 14) (k := 59) (kn := 25956) (kn' := 6644839) (by decide +kernel) (by decide +kernel)) (Eq.trans (wfL (d := 13) (k := 60) (kn := 6644839) (kn' := 1701078885) (by decide +kernel) (by decide +kernel)) ((wfS (d := 12) (k := 61) (kn := 1701078885) (by decide +kernel))))))
theorem wf_15 (x0 : Int64) (pl : Int32) : wf x0 12 62 0 pl = if lg_cmp 448378008179 x0 = 0 then pl else wf x0 6 68 0 (pl + 1) := Eq.trans (wfL (d := 11) (k := 62) (kn := 0) (kn' := 104) (by decide +kernel) (by decide +kernel)) (Eq.trans (wfL (d := 10) (k := 63) (kn := 104) (kn' := 26725) (by decide +kernel) (by decide +kernel)) (Eq.trans (wfL (d := 9) (k := 64) (kn := 26725) (kn' := 6841705) (by decide +kernel) (by decide +kernel)) (Eq.trans (wfL (d := 8) (k := 65) (kn := 6841705) (kn' := 1751476594) (by decide +kernel) (by decide +kernel)) (Eq.trans (wfL (d := 7) (k := 66) (kn := 1751476594) (kn' := 448378008179) (by decide +kernel) (by decide +kernel)) ((wfS (d := 6) (k := 67) (kn := 448378008179) (by decide +kernel)))))))
theorem wf_16 (x0 : Int64) (pl : Int32) : wf x0 6 68 0 pl = if lg_cmp 482905517684 x0 = 0 then pl else wf x0 0 74 0 (pl + 1) := Eq.trans (wfL (d := 5) (k := 68) (kn := 0) (kn' := 112) (by decide +kernel) (by decide +kernel)) (Eq.trans (wfL (d := 4) (k := 69) (kn := 112) (kn' := 28783) (by decide +kernel) (by decide +kernel)) (Eq.trans (wfL (d := 3) (k := 70) (kn := 28783) (kn' := 7368553) (by decide +kernel) (by decide +kernel)) (Eq.trans (wfL (d := 2) (k := 71) (kn := 7368553) (kn' := 1886349678) (by decide +kernel) (by decide +kernel)) (Eq.trans (wfL (d := 1) (k := 72) (kn := 1886349678) (kn' := 482905517684) (by decide +kernel) (by decide +kernel)) ((wfS (d := 0) (k := 73) (kn := 482905517684) (by decide +kernel)))))))
theorem wcmp (a b : Int64) : (lg_cmp a b = 0) ↔ b = a := by
  unfold lg_cmp
  by_cases h1 : a > b
  · rw [if_pos h1]
    exact ⟨fun h => absurd h (by decide), fun h => absurd h1 (by rw [h]; exact Int64.lt_irrefl)⟩
  · by_cases h2 : a = b
    · rw [if_neg h1, if_pos h2]; exact ⟨fun _ => h2.symm, fun _ => rfl⟩
    · rw [if_neg h1, if_neg h2]; exact ⟨fun h => absurd h (by decide), fun h => absurd h.symm h2⟩
theorem ite_cmp (c x0 : Int64) (a b : Int32) : (if lg_cmp c x0 = 0 then a else b) = if x0 = c then a else b := by
  by_cases h : x0 = c
  · rw [if_pos h, if_pos ((wcmp c x0).mpr h)]
  · rw [if_neg h, if_neg (fun z => h ((wcmp c x0).mp z))]
theorem wg_0 (x0 : Int64) : wf x0 74 0 0 0 = if x0 = 110 then 0 else wf x0 72 2 0 1 := by rw [wf_0, ite_cmp, show (0 : Int32) + 1 = 1 by decide]
theorem wg_1 (x0 : Int64) : wf x0 72 2 0 1 = if x0 = 101 then 1 else wf x0 70 4 0 2 := by rw [wf_1, ite_cmp, show (1 : Int32) + 1 = 2 by decide]
theorem wg_2 (x0 : Int64) : wf x0 70 4 0 2 = if x0 = 115 then 2 else wf x0 68 6 0 3 := by rw [wf_2, ite_cmp, show (2 : Int32) + 1 = 3 by decide]
theorem wg_3 (x0 : Int64) : wf x0 68 6 0 3 = if x0 = 119 then 3 else wf x0 66 8 0 4 := by rw [wf_3, ite_cmp, show (3 : Int32) + 1 = 4 by decide]
theorem wg_4 (x0 : Int64) : wf x0 66 8 0 4 = if x0 = 7300196 then 4 else wf x0 62 12 0 5 := by rw [wf_4, ite_cmp, show (4 : Int32) + 1 = 5 by decide]
theorem wg_5 (x0 : Int64) : wf x0 62 12 0 5 = if x0 = 491496238692 then 5 else wf x0 56 18 0 6 := by rw [wf_5, ite_cmp, show (5 : Int32) + 1 = 6 by decide]
theorem wg_6 (x0 : Int64) : wf x0 56 18 0 6 = if x0 = 1818584692 then 6 else wf x0 51 23 0 7 := by rw [wf_6, ite_cmp, show (6 : Int32) + 1 = 7 by decide]
theorem wg_7 (x0 : Int64) : wf x0 51 23 0 7 = if x0 = 123563833652072 then 7 else wf x0 44 30 0 8 := by rw [wf_7, ite_cmp, show (7 : Int32) + 1 = 8 by decide]
theorem wg_8 (x0 : Int64) : wf x0 44 30 0 8 = if x0 = 6842739 then 8 else wf x0 40 34 0 9 := by rw [wf_8, ite_cmp, show (8 : Int32) + 1 = 9 by decide]
theorem wg_9 (x0 : Int64) : wf x0 40 34 0 9 = if x0 = 28526 then 9 else wf x0 37 37 0 10 := by rw [wf_9, ite_cmp, show (9 : Int32) + 1 = 10 by decide]
theorem wg_10 (x0 : Int64) : wf x0 37 37 0 10 = if x0 = 1818848869 then 10 else wf x0 32 42 0 11 := by rw [wf_10, ite_cmp, show (10 : Int32) + 1 = 11 by decide]
theorem wg_11 (x0 : Int64) : wf x0 32 42 0 11 = if x0 = 6840697 then 11 else wf x0 28 46 0 12 := by rw [wf_11, ite_cmp, show (11 : Int32) + 1 = 12 by decide]
theorem wg_12 (x0 : Int64) : wf x0 28 46 0 12 = if x0 = 109300298179432 then 12 else wf x0 21 53 0 13 := by rw [wf_12, ite_cmp, show (12 : Int32) + 1 = 13 by decide]
theorem wg_13 (x0 : Int64) : wf x0 21 53 0 13 = if x0 = 7102839 then 13 else wf x0 17 57 0 14 := by rw [wf_13, ite_cmp, show (13 : Int32) + 1 = 14 by decide]
theorem wg_14 (x0 : Int64) : wf x0 17 57 0 14 = if x0 = 1701078885 then 14 else wf x0 12 62 0 15 := by rw [wf_14, ite_cmp, show (14 : Int32) + 1 = 15 by decide]
theorem wg_15 (x0 : Int64) : wf x0 12 62 0 15 = if x0 = 448378008179 then 15 else wf x0 6 68 0 16 := by rw [wf_15, ite_cmp, show (15 : Int32) + 1 = 16 by decide]
theorem wg_16 (x0 : Int64) : wf x0 6 68 0 16 = if x0 = 482905517684 then 16 else wf x0 0 74 0 17 := by rw [wf_16, ite_cmp, show (16 : Int32) + 1 = 17 by decide]
theorem wf_all (x0 : Int64) : wf x0 74 0 0 0 = RD_wordOf x0 := by
  rw [wg_0, wg_1, wg_2, wg_3, wg_4, wg_5, wg_6, wg_7, wg_8, wg_9, wg_10, wg_11, wg_12, wg_13, wg_14, wg_15, wg_16, wf]
  unfold RD_wordOf
  rfl
theorem K_RD_wordOf (m : Mem) (x0 : Int64) (R : Int32) (h : RD_wordOf x0 = R) : Mt M_RD_wordOf [.long x0] m (qI R m) := by
  subst h
  refine Mt.of G_RD_wordOf (Nat.le_of_ble_eq_true rfl) (E_sub (lv' := [(0, .long x0)]) [0] rfl ?_)
  rw [← wf_all]
  exact E_lconst (v := 0) (n := 1) 0 rfl rfl rfl <| E_lstore_n (n := 2) (lv' := [(0, .long x0), (2, .long 0)]) 1 rfl rfl rfl (by decide) [1, 0] rfl <| E_iconst (v := 0) (n := 3) 2 rfl rfl (by decide) <| E_istore (n := 5) (lv' := [(0, .long x0), (2, .long 0), (4, .int 0)]) 3 rfl rfl (by decide) [1, 2, 0] rfl <| E_iconst (v := 0) (n := 6) 4 rfl rfl (by decide) <| E_istore (n := 8) (lv' := [(0, .long x0), (2, .long 0), (4, .int 0), (5, .int 0)]) 5 rfl rfl (by decide) [1, 2, 3, 0] rfl <| wo_loop 74 0 0 0 rfl

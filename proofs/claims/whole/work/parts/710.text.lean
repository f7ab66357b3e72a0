/-! texts: String.length and String.charAt of the class's own texts -/
def PcS (G : Gx) (as : List Value) (m : Mem) : Array Value → State → Prop := fun v U => v = as.toArray ∧ WU G m U
def MtS (M : MI) (as : Gx → List Value) (m : Mem) (Q : Option Value → Mem → Prop) : Prop := ∀ (l : Launch) (G : Gx), Met l M.1 (twM M) (rmM M) (PcS G (as G) m) (QcM G Q) 0 0 (Ab G.2.1)
theorem PcS_blind (G : Gx) (as : List Value) (m : Mem) : FrameBlind (PcS G as m) := by
  intro a U g mk h
  obtain ⟨h1, h2, h3, h4, h5, h6⟩ := h
  exact ⟨h1, h2, va_K.moved (u := U) (U := U.calling g mk a) (Vm.Alike.refl U.vm) h3, Txt.same (s := U) (U := U.calling g mk a) rfl h4, Nst.same (s := U) (U := U.calling g mk a) rfl h5, h6⟩
def GoodF (M : MI) : Prop := plainFor M.1 = true ∧ Cond.code M.1 M.2.1 M.2.2.1 M.2.2.2.1 ∈ TW ∧ Cond.initialized M.1.cls ∈ TW ∧ (∀ q ∈ M.2.2.2.2.2.2, decode M.2.1 q.1 = .ok q.2)
theorem tw_payF {M' : MI} (hg : GoodF M') : GoodIn TW (twM M') := by
  intro w hw
  rcases List.mem_cons.mp hw with rfl | h
  · exact ⟨hg.2.1, good_of_word (TW_good _ hg.2.1)⟩
  · exact ⟨h, good_of_word (TW_good _ h)⟩
theorem fdec {M : MI} (g : GoodF M) {k pc n : Nat} {i : Instr} (h : M.2.2.2.2.2.2[k]? = some (pc, i, n)) : decode M.2.1 pc = .ok (i, n) := g.2.2.2 (pc, i, n) (List.mem_of_getElem? h)
def ES (M : MI) (pc : Nat) (lv : Gx → List (Nat × Value)) (st : Gx → List Value) (m : Mem) (Q : Option Value → Mem → Prop) : Prop :=
  ∀ (p : Program) (l : Launch) (e : Env) (s : State) (mid : MethodId) (args : Array Value) (below : List Frame) (meth : Method) (c : Code) (H : Heap) (locs : List Loc) (G : Gx) (ls : Array Slot),
    EnvM M p s mid args meth c G → WldM s H locs G m → lv_has ls M.2.2.1 (lv G) →
    W p l e (rmM M) s mid args below meth c H locs 0 0 (MQ below (QcM G Q) args s 0 0 (Ab G.2.1)) (F0 mid pc ls (st G))
theorem MtS.of {M : MI} {as : Gx → List Value} {m : Mem} {Q : Option Value → Mem → Prop} (g : GoodF M) (hl : ∀ G, (lg_sl (as G)).length ≤ M.2.2.1) (h : ES M 0 (fun G => lv_args 0 (as G)) (fun _ => []) m Q) : MtS M as m Q := by
  intro l G
  refine va_MetF (cc := M.2.1) (maxL := M.2.2.1) (ret := M.2.2.2.1) g.1 rfl ?_
  intro p e s mid args below meth c s₁ B hml hv
  obtain ⟨rfl, hP, hK, hT, hN, hM⟩ := hv
  have hts := atoms_spec (ws := twM M) B.pre
  have he := lv_entry (as G) (n := M.2.2.1) (hl G)
  rw [lg_entry_eq]
  exact h p l e s mid _ below meth c s.heap [] G _ ⟨B.exec, B.bytes, hml, findClass_of_methodNamed B.named, fun w hw => hts w (List.mem_cons_of_mem _ hw), B.returns, B.notSynchronized, hK, hT, hN⟩ ⟨hP, va_S.rf, hM⟩ he
theorem S_run {M : MI} {pc : Nat} {m : Mem} {Q' : Option Value → Mem → Prop} {QQ : State → Prop} {p : Program} {l : Launch} {e : Env} {s : State} {mid : MethodId} {args : Array Value} {below : List Frame} {meth : Method} {c : Code} {H : Heap} {locs : List Loc} {G : Gx} {ls : Array Slot} {sk st : List Value} {av : Array Value}
    (hw : WldM s H locs G m) (hr : va_Run p l e (rmM M) s mid args below meth c H locs 0 0 0 0 (F0 mid pc ls sk) st (QcM G Q' av) (Ab G.2.1))
    (kk : ∀ r m', Q' r m' → ∀ H1 locs1, WldM s H1 locs1 G m' → W p l e (rmM M) s mid args below meth c H1 locs1 0 0 QQ (F0 mid (pc + 3) ls ((r.map (cv G.2.1)).toList ++ st))) : W p l e (rmM M) s mid args below meth c H locs 0 0 QQ (F0 mid pc ls sk) := by
  intro T hT X
  obtain ⟨v, st₀, t, T', L, h0, X', hL, e1, e2, ⟨⟨r, m', hv, hq, hP, hM⟩, hz, hk⟩, stp⟩ := hr T hT X
  have hv : v = r.map (cv G.2.1) := by injection hv
  subst hv
  rw [h0] at hz hk
  have hS : va_S (Ab G.2.1) s.heap T'.heap (locs ++ L) := by
    refine ⟨Nat.le_trans hw.2.1.1 (by rw [e1]; exact hz), fun q h1 h2 => ?_, fun q hq => ?_⟩
    · rw [e1, hk q (Nat.lt_of_lt_of_le h1 hw.2.1.1) h2]
      exact hw.2.1.2.1 q h1 h2
    · rcases List.mem_append.mp hq with h | h
      · exact hw.2.1.2.2 q h
      · exact hL q h
  obtain ⟨t2, a1, b1⟩ := kk r m' hq T'.heap (locs ++ L) ⟨by rw [e1]; exact hP, hS, hM⟩ T' rfl X'
  exact ⟨t2, stp t2 a1, b1⟩
/-- words of a call of these: virtual on a text, static -/
def CTV (own : String) (ix : Nat) (M' : MI) (na : Nat) : Prop := GoodF M' ∧ Cond.methodLink own ix M'.1 ∈ TW ∧ Cond.instanceMethod M'.1 ∈ TW ∧ Cond.selects M'.1.cls M'.1 M'.1 ∈ TW ∧ M'.1.cls = "java/lang/String" ∧ (M'.1.cls ≠ "java/lang/invoke/MethodHandle" ∧ M'.1.cls ≠ "java/lang/invoke/VarHandle" ∧ (parseMethodDescriptor M'.1.desc).map (fun d => d.parameters.length) = some na)
def CTS (own : String) (ix : Nat) (M' : MI) (na : Nat) : Prop := GoodF M' ∧ Cond.methodLink own ix M'.1 ∈ TW ∧ Cond.static M'.1 ∈ TW ∧ (M'.1.cls ≠ "java/lang/invoke/MethodHandle" ∧ M'.1.cls ≠ "java/lang/invoke/VarHandle" ∧ (parseMethodDescriptor M'.1.desc).map (fun d => d.parameters.length) = some na)
section
variable {M M' : MI} {pc ix na i : Nat} {m : Mem} {Q' : Option Value → Mem → Prop} {QQ : State → Prop} {p : Program} {l : Launch} {e : Env} {s : State} {mid : MethodId} {args : Array Value} {below : List Frame} {meth : Method} {c : Code} {H : Heap} {locs : List Loc} {G : Gx} {ls : Array Slot} {st : List Value}
theorem T_callV (hdg : decode M.2.1 pc = .ok (.invokevirtual ix, 3)) (co : CTV M.1.cls ix M' na) (hf : Fits M M') (hi : i < 5) (as : Gx → List Value) (ha : (as G).length = na) (hc : (st.map fun v => v.category).sum ≤ 8)
    (hE : EnvM M p s mid args meth c G) (hw : WldM s H locs G m) (hl : ls.size = M.2.2.1) (ht : MtS M' (fun G => .ref (G.2.2.2.1 i) :: as G) m Q')
    (kk : ∀ r m', Q' r m' → ∀ H1 locs1, WldM s H1 locs1 G m' → W p l e (rmM M) s mid args below meth c H1 locs1 0 0 QQ (F0 mid (pc + 3) ls ((r.map (cv G.2.1)).toList ++ st))) : W p l e (rmM M) s mid args below meth c H locs 0 0 QQ (F0 mid pc ls ((as G).reverse ++ .ref (G.2.2.2.1 i) :: st)) := by
  obtain ⟨hg, c1, c2, c3, c5, c6⟩ := co
  refine S_run hw (va_runV (As := as G) (b := G.2.2.2.1 i) (C := M'.1.cls) (index := ix) (y := M'.1) (bytes := M'.2.1) (maxL := M'.2.2.1) (ret := M'.2.2.2.1) (n := na) (Ts := TW) (own := M.1.cls) (nL := M.2.2.1) ⟨hE.1, hE.2.1, hE.2.2.1, hE.2.2.2.1, hE.2.2.2.2.1⟩ (ht l G) ⟨callB_of na hE.2.2.2.2.1 (tw_payF hg) rfl rfl rfl (hE.2.2.2.2.1 _ hg.2.2.1) (hE.2.2.2.2.1 _ c1) c6 hf, hE.2.2.2.2.1 _ c2, hE.2.2.2.2.1 _ c3⟩ ⟨PcS_blind _ _ _, ?_, fun U hU hW => ⟨rfl, WU_of hE hw hU hW⟩⟩ rfl ha hl rfl (lv_room hc) hdg ⟨Nat.le_refl _, Nat.le_refl _⟩) kk
  rw [c5]
  exact vk_recv hE.2.2.2.2.2.2.2.2.1.1 hi hw.2.1
theorem T_callS (hdg : decode M.2.1 pc = .ok (.invokestatic ix, 3)) (co : CTS M.1.cls ix M' na) (hf : Fits M M') (as : Gx → List Value) (ha : (as G).length = na) (hc : (st.map fun v => v.category).sum ≤ 8)
    (hE : EnvM M p s mid args meth c G) (hw : WldM s H locs G m) (hl : ls.size = M.2.2.1) (ht : MtS M' as m Q')
    (kk : ∀ r m', Q' r m' → ∀ H1 locs1, WldM s H1 locs1 G m' → W p l e (rmM M) s mid args below meth c H1 locs1 0 0 QQ (F0 mid (pc + 3) ls ((r.map (cv G.2.1)).toList ++ st))) : W p l e (rmM M) s mid args below meth c H locs 0 0 QQ (F0 mid pc ls ((as G).reverse ++ st)) := by
  obtain ⟨hg, c1, c2, c6⟩ := co
  exact S_run hw (va_runS (As := as G) (index := ix) (y := M'.1) (bytes := M'.2.1) (maxL := M'.2.2.1) (ret := M'.2.2.2.1) (n := na) (Ts := TW) (own := M.1.cls) (nL := M.2.2.1) ⟨hE.1, hE.2.1, hE.2.2.1, hE.2.2.2.1, hE.2.2.2.2.1⟩ (ht l G) ⟨callB_of na hE.2.2.2.2.1 (tw_payF hg) rfl rfl rfl (hE.2.2.2.2.1 _ hg.2.2.1) (hE.2.2.2.2.1 _ c1) c6 hf, hE.2.2.2.2.1 _ c2⟩ ⟨PcS_blind _ _ _, fun U hU hW => ⟨rfl, WU_of hE hw hU hW⟩⟩ rfl ha hl rfl (lv_room hc) hdg ⟨Nat.le_refl _, Nat.le_refl _⟩) kk
end

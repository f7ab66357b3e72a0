/-! CORE: one judgement over the machine: E M pc lv st m Q -/
/-- a method: name, bytes, locals, answer's type, frames, room of locals, its instructions -/
abbrev MI : Type := MethodName × ByteArray × Nat × Option FieldType × Nat × Nat × List (Nat × Instr × Nat)
/-- memory: ints (and booleans, bytes), longs, the two references that change -/
abbrev Mem : Type := (Nat → Nat → Int32) × (Nat → Nat → Int64) × (Nat → Nat)
/-- base, classes, array classes, the text constants' places -/
abbrev Gx : Type := va_G × Nat × (Nat → ClassId) × (Nat → Nat) × (Nat → Nat)
def cv (b : Nat) (v : Value) : Value := match v with
  | .ref a => .ref (b + a)
  | v => v
def lc (b : Nat) (q : Nat × Value) : Nat × Value := (q.1, cv b q.2)
theorem cv_cat (b : Nat) (v : Value) : (cv b v).category = v.category := by cases v <;> rfl
theorem lc_at {lv : List (Nat × Value)} {k i : Nat} {v : Value} (b : Nat) (h : lv[k]? = some (i, v)) : (lv.map (lc b))[k]? = some (i, cv b v) := by simp [h, lc]
def shp (c : Nat) : Nat × Nat := shpL.getD c (999, 0)
def fkd (ci : Nat) : List (Nat × Nat) := fkL.getD ci []
def fval (b : Nat) (m : Mem) (c k : Nat) (q : Nat × Nat) : Value := match q.1 with
  | 0 => .int (m.1 c k)
  | 1 => .long (m.2.1 c k)
  | 2 => .ref (b + m.2.2 k)
  | 5 => .ref (b + (c + q.2))
  | _ => .ref (b + q.2)
def flds (b : Nat) (m : Mem) (c ci : Nat) : List Value := (fkd ci).mapIdx (fun k q => fval b m c k q)
def ent (b : Nat) (cA : Nat → ClassId) (m : Mem) (c : Nat) : va_E :=
  if (shp c).1 = 100 then .inl (cA 0, (shp c).2, .inl (m.1 c))
  else if (shp c).1 = 101 then .inl (cA 1, (shp c).2, .inr (.inl (m.2.1 c)))
  else if (shp c).1 = 102 then .inl (cA 2, (shp c).2, .inl (m.1 c))
  else if (shp c).1 = 103 then .inl (cA 3, (shp c).2, .inl (m.1 c))
  else if (shp c).1 = 104 then .inl (cA 4, (shp c).2, .inr (.inr (.inr (.inr (fun k => some (b + (c + 1 + 3 * k)))))))
  else if (shp c).1 = 105 then .inl (cA 5, (shp c).2, .inr (.inr (.inr (.inr (fun k => some (b + (c + 1 + 16 * k)))))))
  else .inr ((shp c).1, flds b m c (shp c).1)
def Wd (b : Nat) (cA : Nat → ClassId) (m : Mem) : va_W := (List.range shpL.length).map (fun c => (b + c, ent b cA m c))
theorem Wd_get {b : Nat} {cA : Nat → ClassId} {m : Mem} {c : Nat} (h : c < shpL.length) : (Wd b cA m)[c]? = some (b + c, ent b cA m c) := by
  simp [Wd, h]
theorem shp_lt {c k n : Nat} (h : shp c = (k, n)) (hk : k ≠ 999) : c < shpL.length := by
  rcases Nat.lt_or_ge c shpL.length with h1 | h1
  · exact h1
  · exfalso
    have : shp c = (999, 0) := by
      unfold shp
      rw [List.getD_eq_getElem?_getD, List.getElem?_eq_none h1]
      rfl
    rw [this] at h
    exact hk (congrArg Prod.fst h).symm
theorem Wd_set {b : Nat} {cA : Nat → ClassId} {m m' : Mem} {c : Nat} {e : va_E} (he : e = ent b cA m' c) (hne : ∀ d, d ≠ c → ent b cA m' d = ent b cA m d) : (Wd b cA m).set c (b + c, e) = Wd b cA m' := by
  subst he
  apply List.ext_getElem?
  intro i
  rw [List.getElem?_set]
  by_cases hi : i < shpL.length
  · by_cases hc : c = i
    · subst hc
      rw [if_pos rfl, if_pos (by simpa [Wd] using hi), Wd_get hi]
    · rw [if_neg hc, Wd_get hi, Wd_get hi, hne i (fun h => hc h.symm)]
  · have h1 : (Wd b cA m)[i]? = none := by simp [Wd]; omega
    have h2 : (Wd b cA m')[i]? = none := by simp [Wd]; omega
    by_cases hc : c = i
    · subst hc
      rw [if_pos rfl, if_neg (by simpa [Wd] using hi), h2]
    · rw [if_neg hc, h1, h2]
theorem Wd_D (b : Nat) (cA : Nat → ClassId) (m : Mem) : va_D (fun q => b ≤ q) (Wd b cA m) := by
  have key : ∀ (k : Nat) (q : Nat × va_E), (Wd b cA m)[k]? = some q → q.1 = b + k := by
    intro k q hk
    have hl : k < shpL.length := by
      have := (List.getElem?_eq_some_iff.mp hk).1
      simpa [Wd] using this
    rw [Wd_get hl] at hk
    cases hk; rfl
  refine ⟨fun i j p q hi hj h => ?_, fun k q hk => ?_⟩
  · rw [key i p hi, key j q hj] at h; omega
  · show b ≤ q.1
    rw [key k q hk]; omega
abbrev tysOf (cA : Nat → ClassId) : List (ClassId × FieldType) := [(cA 0, .int), (cA 1, .long), (cA 2, .byte), (cA 3, .boolean), (cA 4, .object "OddHay$Line"), (cA 5, .object "OddHay$Parish")]
abbrev Ab (b : Nat) : Nat → Prop := fun q => b ≤ q
/-- the nest mates' words -/
def Nst (U : State) : Prop := ∀ q ∈ nwL, va_Nw (.methodLinkNest q.1 q.2.1 q.2.2.1 q.2.2.2) U
theorem Nst.warm {s U : State} (hW : s.WarmedH U.vm) (h : Nst s) : Nst U := fun q hq => va_Nw.warmM hW (h q hq)
theorem Nst.same {s U : State} (hv : s.vm = U.vm) (h : Nst s) : Nst U := fun q hq => va_Nw.same rfl hv (h q hq)
/-- the text constants, and the JDK's statics that are read -/
def txSt : List (String × String × String) := [("jdk/internal/util/Preconditions", "SIOOBE_FORMATTER", "Ljava/util/function/BiFunction;"), ("java/lang/Throwable", "UNASSIGNED_STACK", "[Ljava/lang/StackTraceElement;"), ("java/lang/Throwable", "SUPPRESSED_SENTINEL", "Ljava/util/List;")]
def Txt (aK aV : Nat → Nat) (b : Nat) (U : State) (H : Heap) : Prop := vk_S 5 txLen txByt aK aV (Ab b) U H ∧ (∀ q ∈ txRef, vk_R q.1 q.2.1 q.2.2.1 (aK q.2.2.2) U) ∧ va_Z "java/lang/String" "COMPACT_STRINGS" "Z" (.int 1) (Ab b) U H ∧ ∀ q ∈ txSt, ∃ v, (v = .null ∨ ∃ a, v = .ref a) ∧ va_Z q.1 q.2.1 q.2.2 v (Ab b) U H
theorem Txt.warm {aK aV : Nat → Nat} {b : Nat} {s U : State} {H : Heap} (hW : s.WarmedH U.vm) (h : Txt aK aV b s H) : Txt aK aV b U H := ⟨h.1.moved hW.alike, fun q hq => (h.2.1 q hq).warm hW, h.2.2.1.moved hW.alike, fun q hq => (h.2.2.2 q hq).imp fun _ hv => ⟨hv.1, hv.2.moved hW.alike⟩⟩
theorem Txt.same {aK aV : Nat → Nat} {b : Nat} {s U : State} {H : Heap} (hv : s.vm = U.vm) (h : Txt aK aV b s H) : Txt aK aV b U H := ⟨h.1.moved (by rw [hv]; exact Vm.Alike.refl _), fun q hq => (h.2.1 q hq).same hv.symm, h.2.2.1.moved (by rw [hv]; exact Vm.Alike.refl _), fun q hq => (h.2.2.2 q hq).imp fun _ hz => ⟨hz.1, hz.2.moved (by rw [hv]; exact Vm.Alike.refl _)⟩⟩
theorem Txt.kept {aK aV : Nat → Nat} {b : Nat} {U : State} {H H1 : Heap} (hq : ∀ a : Nat, a < H.size → ¬ Ab b a → H1[a]? = H[a]?) (h : Txt aK aV b U H) : Txt aK aV b U H1 := ⟨h.1.kept hq, h.2.1, h.2.2.1.kept hq, fun q hm => (h.2.2.2 q hm).imp fun _ hz => ⟨hz.1, hz.2.kept hq⟩⟩
theorem Txt.z {aK aV : Nat → Nat} {b : Nat} {U : State} {H : Heap} (h : Txt aK aV b U H) : va_Z "java/lang/String" "COMPACT_STRINGS" "Z" (.int 1) (Ab b) U H := h.2.2.1
theorem Txt.zf {aK aV : Nat → Nat} {b : Nat} {U : State} {H : Heap} (h : Txt aK aV b U H) : ∃ v, v.category = 1 ∧ va_Z "jdk/internal/util/Preconditions" "SIOOBE_FORMATTER" "Ljava/util/function/BiFunction;" v (Ab b) U H := (h.2.2.2 ("jdk/internal/util/Preconditions", "SIOOBE_FORMATTER", "Ljava/util/function/BiFunction;") (List.mem_cons_self ..)).imp fun v hv => ⟨by rcases hv.1 with rfl | ⟨a, rfl⟩ <;> rfl, hv.2⟩
def Mok (m : Mem) : Prop := shp (m.2.2 13) = (5, 0) ∧ shp (m.2.2 14) = (5, 0)
abbrev rmM (M : MI) : Room := { frames := M.2.2.2.2.1, cells := 0, slots := 0, locals := M.2.2.2.2.2.1 }
abbrev twM (M : MI) : List Cond := Cond.code M.1 M.2.1 M.2.2.1 M.2.2.2.1 :: TW
def GoodM (M : MI) : Prop := plainName M.1.cls = true ∧ Cond.code M.1 M.2.1 M.2.2.1 M.2.2.2.1 ∈ TW ∧ Cond.initialized M.1.cls ∈ TW ∧ (∀ q ∈ M.2.2.2.2.2.2, decode M.2.1 q.1 = .ok q.2)
def WU (G : Gx) (m : Mem) (U : State) : Prop := va_P G.1 vwCl (Wd G.2.1 G.2.2.1 m) U.heap ∧ va_K G.1 vwCl (tysOf G.2.2.1) U ∧ Txt G.2.2.2.1 G.2.2.2.2 G.2.1 U U.heap ∧ Nst U ∧ Mok m
def PcM (G : Gx) (as : List Value) (m : Mem) : Array Value → State → Prop := fun v U => v = (as.map (cv G.2.1)).toArray ∧ WU G m U
def QcM (G : Gx) (Q : Option Value → Mem → Prop) : Array Value → State → Outcome → State → Prop := fun _ st oc t => (∃ (r : Option Value) (m' : Mem), oc = .returned (r.map (cv G.2.1)) ∧ Q r m' ∧ va_P G.1 vwCl (Wd G.2.1 G.2.2.1 m') t.heap ∧ Mok m') ∧ va_F (Ab G.2.1) st t
/-- the contract of a method at these arguments and this memory -/
def Mt (M : MI) (as : List Value) (m : Mem) (Q : Option Value → Mem → Prop) : Prop := ∀ (l : Launch) (G : Gx), Met l M.1 (twM M) (rmM M) (PcM G as m) (QcM G Q) 0 0 (Ab G.2.1)
def EnvM (M : MI) (p : Program) (s : State) (mid : MethodId) (args : Array Value) (meth : Method) (c : Code) (G : Gx) : Prop :=
  p.tables.exec = Jvm.exec ∧ c.code = M.2.1 ∧ c.maxLocals = M.2.2.1 ∧ s.vm.findClass M.1.cls = some mid.cls ∧ (∀ w ∈ TW, w.before args s = true) ∧ meth.sig.returnType = M.2.2.2.1 ∧ meth.locks = false ∧ va_K G.1 vwCl (tysOf G.2.2.1) s ∧ Txt G.2.2.2.1 G.2.2.2.2 G.2.1 s s.heap ∧ Nst s
def WldM (s : State) (H : Heap) (locs : List Loc) (G : Gx) (m : Mem) : Prop := va_P G.1 vwCl (Wd G.2.1 G.2.2.1 m) H ∧ va_S (Ab G.2.1) s.heap H locs ∧ Mok m
def E (M : MI) (pc : Nat) (lv : List (Nat × Value)) (st : List Value) (m : Mem) (Q : Option Value → Mem → Prop) : Prop :=
  GoodM M → ∀ (p : Program) (l : Launch) (e : Env) (s : State) (mid : MethodId) (args : Array Value) (below : List Frame) (meth : Method) (c : Code) (H : Heap) (locs : List Loc) (G : Gx) (ls : Array Slot),
    EnvM M p s mid args meth c G → WldM s H locs G m → lv_has ls M.2.2.1 (lv.map (lc G.2.1)) →
    W p l e (rmM M) s mid args below meth c H locs 0 0 (MQ below (QcM G Q) args s 0 0 (Ab G.2.1)) (F0 mid pc ls (st.map (cv G.2.1)))
theorem TW_good : ∀ w ∈ TW, goodWord w = true := fun w h => (List.mem_filter.mp h).2
theorem PcM_blind (G : Gx) (as : List Value) (m : Mem) : FrameBlind (PcM G as m) := by
  intro a U g mk h
  obtain ⟨h1, h2, h3, h4, h5, h6⟩ := h
  exact ⟨h1, h2, va_K.moved (u := U) (U := U.calling g mk a) (Vm.Alike.refl U.vm) h3, Txt.same (s := U) (U := U.calling g mk a) rfl h4, Nst.same (s := U) (U := U.calling g mk a) rfl h5, h6⟩
theorem lv_args_map (b : Nat) : ∀ (vs : List Value) (i : Nat), lv_args i (vs.map (cv b)) = (lv_args i vs).map (lc b) := by
  intro vs
  induction vs with
  | nil => intro i; rfl
  | cons v r ih =>
    intro i
    simp only [List.map_cons, lv_args, cv_cat, ih]
    rfl
/-- a method by its walk -/
theorem Mt.of {M : MI} {as : List Value} {m : Mem} {Q : Option Value → Mem → Prop} (g : GoodM M) (hl : (lg_sl as).length ≤ M.2.2.1) (h : E M 0 (lv_args 0 as) [] m Q) : Mt M as m Q := by
  intro l G
  refine Met.ofW (cc := M.2.1) (maxL := M.2.2.1) (ret := M.2.2.2.1) g.1 rfl ?_
  intro p e s mid args below meth c s₁ B hml hv
  obtain ⟨rfl, hP, hK, hT, hN, hM⟩ := hv
  have hts := atoms_spec (ws := twM M) B.pre
  have hl2 : (lg_sl (as.map (cv G.2.1))).length ≤ M.2.2.1 := by
    have : ∀ vs : List Value, (lg_sl (vs.map (cv G.2.1))).length = (lg_sl vs).length := by
      intro vs
      induction vs with
      | nil => rfl
      | cons v r ih =>
        simp only [lg_sl, List.map_cons, List.flatMap_cons, List.length_append, cv_cat] at ih ⊢
        rw [ih]
        split <;> rfl
    rw [this]; exact hl
  have he := lv_entry (as.map (cv G.2.1)) (n := M.2.2.1) hl2
  rw [lg_entry_eq]
  refine h g p l e s mid _ below meth c s.heap [] G _ ⟨B.exec, B.bytes, hml, findClass_of_methodNamed B.named, fun w hw => hts w (List.mem_cons_of_mem _ hw), B.returns, B.notSynchronized, hK, hT, hN⟩ ⟨hP, va_S.rf, hM⟩ ?_
  rw [← lv_args_map]
  exact he
theorem Mt.mono {M : MI} {as : List Value} {m : Mem} {Q Q' : Option Value → Mem → Prop} (h : Mt M as m Q) (hq : ∀ r m', Q r m' → Q' r m') : Mt M as m Q' := by
  intro l G p e ha hc hk s mid args below hf hfit hP ht
  obtain ⟨k, o, h1, h2, h3, ⟨⟨r, m', q1, q2, q3⟩, q4⟩, q5⟩ := h l G p e ha hc hk s mid args below hf hfit hP ht
  exact ⟨k, o, h1, h2, h3, ⟨⟨r, m', q1, hq r m' q2, q3⟩, q4⟩, q5⟩
theorem E.mono {M : MI} {pc : Nat} {lv : List (Nat × Value)} {st : List Value} {m : Mem} {Q Q' : Option Value → Mem → Prop} (h : E M pc lv st m Q) (hq : ∀ r m', Q r m' → Q' r m') : E M pc lv st m Q' := by
  intro g p l e s mid args below meth c H locs G ls hE hw hl T hT X
  obtain ⟨t, a1, o, b1, b2, ⟨⟨r, m', q1, q2, q3⟩, q4⟩, b4⟩ := h g p l e s mid args below meth c H locs G ls hE hw hl T hT X
  exact ⟨t, a1, o, b1, b2, ⟨⟨r, m', q1, hq r m' q2, q3⟩, q4⟩, b4⟩
theorem gdec {M : MI} (g : GoodM M) {k pc n : Nat} {i : Instr} (h : M.2.2.2.2.2.2[k]? = some (pc, i, n)) : decode M.2.1 pc = .ok (i, n) := g.2.2.2 (pc, i, n) (List.mem_of_getElem? h)
theorem lc_has {ls : Array Slot} {n b : Nat} {lv lv' : List (Nat × Value)} (ks : List Nat) (h : lv_has ls n (lv.map (lc b))) (hl : lv_pick lv ks = lv') : lv_has ls n (lv'.map (lc b)) := by
  refine lv_sub h ks ?_
  rw [← hl]
  simp only [lv_pick, List.map_filterMap, List.getElem?_map]
theorem lc_filter (b : Nat) (lv : List (Nat × Value)) (f : Nat × Value → Bool) (hf : ∀ q, f (lc b q) = f q) : (lv.map (lc b)).filter f = (lv.filter f).map (lc b) := by
  rw [List.filter_map]
  congr 1
  apply List.filter_congr
  intro q _
  exact hf q

/-! a catch whose class may not be resolved yet (after the library's Shelf42/NT85, NT86, which are no part of what these rows are printed over) -/
def Fto (e : Env) (s : State) (f : JFrame) (a : Addr) (h : Handler) (vm' : Vm) : Prop :=
  ∀ (Q : Handler → Pre) (E : CtlPost) (d : Bool) (acts : List Action), wp (findHandler f a) Q E e d acts s ↔ Q h d acts (s.setVm vm')
theorem fto_go {Q : Handler → Pre} {E : CtlPost} {e : Env} {d : Bool} {acts : List Action} {s : State} {f : JFrame} {a : Addr} {x : ExceptionTableEntry} {t : List ExceptionTableEntry} {c : ClassId} {cell : Cell} (hx : covers x f.pc = true) (h0 : x.catchType ≠ 0)
    (hl : s.vm.ClassLinks e.platform f.method.cls x.catchType c) (hcell : s.heap[a]? = some cell) (hobj : ∀ k, cell.vm ≠ .statics k)
    (hk : ∃ k, s.vm.classes[cell.cls]? = some k) (hc : ∃ k, s.vm.classes[c]? = some k) (hfit : s.vm.assignable cell.cls c = true) :
    wp (findHandler.go f a (x :: t)) Q E e d acts s ↔ Q (.found x.handlerPc) d acts (s.setVm (s.vm.noted f.method.cls x.catchType (.cls c))) := by
  simp only [covers] at hx
  obtain ⟨ha, ht⟩ := (resolveClass_links e.toSetting hl).op (op := VmOp.resolveClass f.method.cls x.catchType) rfl
  have hal : s.vm.Alike (s.vm.noted f.method.cls x.catchType (.cls c)) := (Vm.Alike.refl s.vm).noted _ _ _
  obtain ⟨k1, hk1⟩ := hk
  obtain ⟨k2, hk2⟩ := hc
  obtain ⟨k1', hk1', -⟩ := hal.2.2 _ _ hk1
  obtain ⟨k2', hk2', -⟩ := hal.2.2 _ _ hk2
  have hfit' : (s.vm.noted f.method.cls x.catchType (.cls c)).assignable cell.cls c = true := by rw [hal.assignable]; exact hfit
  simp [findHandler.go, hx, h0, ha, ht, hcell, hobj, hk1', hk2', hfit', VmOp.dirties, VmOp.acts]
theorem fto_step {e : Env} {s : State} {a : Addr} {f : JFrame} {r : List Frame} {pc : Nat} {vm' : Vm} (hfind : Fto e s f a (.found pc) vm') :
    (stepThrowing e s a (.java f :: r)).Is ((s.setVm vm').setFrames (.java { f with pc := pc, stack := [.ref a] } :: r)) [] := by
  simp only [stepThrowing, searchFrame, vmDo]
  generalize hr : Sem.go _ e false [] s = res
  obtain ⟨as, rfl, ha⟩ := Sem.eq_ok_of hr (a := Handler.found pc) (s' := s.setVm vm') (acts' := []) (by simp [hfind _ _ _ _])
  exact ⟨rfl, ha⟩
theorem frames_vm (u : State) (vm' : Vm) (F F' : List Frame) : ((u.setFrames F).setVm vm').setFrames F' = (u.setVm vm').setFrames F' := by
  have h1 : (u.setFrames F).setVm vm' = (u.setVm vm').setFrames F := rfl
  rw [h1, State.setFrames_setFrames]
theorem fto_steps {tb : Tables} {e : Env} {s target : State} {g : JFrame} {c : Code} {below : List Frame} {a : Addr} (h : At s g.method c below) {pc : Nat} {vm' : Vm}
    (hfind : Fto e ((s.setTop g).pushFrame (.throwing a)) g a (.found pc) vm') (hrest : Steps tb e below ((s.setVm vm').setTop { g with pc := pc, stack := [.ref a] }) target) :
    Steps tb e below ((s.setTop g).pushFrame (.throwing a)) target := by
  obtain ⟨hgo, hw⟩ := h.throwing a
  refine Steps.head hgo hw ?_
  rw [stepThread_throwing (frames_entered h.top _), (fto_step (s := (s.setTop g).pushFrame (.throwing a)) hfind).1]
  obtain ⟨g₀, hg⟩ := Option.isSome_iff_exists.mp h.top
  obtain ⟨r, hr⟩ := State.topJava?_eq_some.mp hg
  have hr' : (s.setVm vm').frames = .java g₀ :: r := hr
  rw [State.setTop_of_frames _ hr'] at hrest
  rw [hr, List.tail_cons, State.pushFrame, frames_vm, State.setTop_of_frames _ hr, frames_vm]
  exact hrest
theorem caught_link {p : Program} {l : Launch} {e : Env} {R : Room} {s : State} {m₀ : MethodId} {args : Array Value} {below : List Frame} {meth : Method} {c : Code} {T : State} {locs : List Loc} {cells slots : Nat} (X : Stand p l e R s m₀ args below meth c T locs cells slots) (a : Addr) {g : JFrame} (hg : g.method = m₀) {own name : String} (hown : s.vm.findClass own = some m₀.cls)
    (x : ExceptionTableEntry) (rest : List ExceptionTableEntry) (hsplit : c.exceptionTable.toList = x :: rest) (hx : covers x g.pc = true) (h0 : x.catchType ≠ 0)
    (hlink : (Cond.classLink own x.catchType name).before args s = true) {cT : ClassId} {cell : Cell} (hcT : s.vm.findClass name = some cT) (hcell : T.heap[a]? = some cell) (hobj : cell.vm.isStatics = false) (hfit : s.vm.assignable cell.cls cT = true) :
    ∃ vm', Stand p l e R s m₀ args below meth c (T.setVm vm') locs cells slots ∧
      ∀ target, Steps p.tables e below ((T.setVm vm').setTop { g with pc := x.handlerPc, stack := [.ref a] }) target → Steps p.tables e below ((T.setTop g).pushFrame (.throwing a)) target := by
  have hpl : e.platform.magicAccessors = ({} : Platform).magicAccessors := by rw [X.admits.platform]
  obtain ⟨c', hc', hcl⟩ := Cond.classLink_spec hown hlink e.platform hpl
  cases hcT.symm.trans hc'
  obtain ⟨dk, _, _, kt, hd, _, _, _, _, hkt, _, hopen⟩ := hcl.here
  have hcl₀ := X.warmed.classLinks hcl
  have hW' : s.WarmedH (T.vm.noted m₀.cls x.catchType (.cls cT)) := X.warmed.noted hd hopen (State.rightAt_cls hcl)
  have hal := X.warmed.alike
  obtain ⟨kt', hkt', -⟩ := hal.2.2 _ _ hkt
  have hfit' : T.vm.assignable cell.cls cT = true := by rw [hal.assignable]; exact hfit
  refine ⟨_, X.noted hW', fun target hrest => ?_⟩
  subst hg
  refine fto_steps X.here (fun Q E d acts => ?_) hrest
  rw [W.findHandler_eq (s := (T.setTop g).pushFrame (.throwing a)) (meth := meth) (code := c) X.method' X.code, hsplit]
  exact fto_go (s := (T.setTop g).pushFrame (.throwing a)) hx h0 hcl₀ hcell (VmData.ne_statics_of hobj) (Vm.classAt_of_assignable hfit' ⟨kt', hkt'⟩) ⟨kt', hkt'⟩ hfit'
/-! a call that throws, caught by the caller; corner, hay, round of OddHayLaw -/
theorem V_callT {M M' : MI} {x : Cx} {cs ss pc : Nat} {lv : List (Nat × Value)} {st sk : List Value} {m : Mem} {ix ci na o z : Nat} {w : ExceptionTableEntry} (hdg : decode M.2.1 pc = .ok (.invokevirtual ix, 3)) (co : COV M.1.cls ix M' ci na) (hf : FitR (xR x) M') (hz : cs + 1 ≤ (xR x).cells ∧ ss + 6 ≤ (xR x).slots) (hs : shp o = (ci, z)) (as : List Value) (ha : as.length = na) (hsk : sk = (as.map (cv (xG x).2.1)).reverse ++ .ref ((xG x).2.1 + o) :: st) (hc : (st.map fun v => v.category).sum ≤ 8) (ht : MtT M' (.ref o :: as) m)
    (hth : ThA (xG x).2.1 (xS x) (xS x).heap) (hl0 : x.2.1.stackTraces = false) (htab : x.2.2.2.2.2.2.2.2.2.1.exceptionTable.toList = [w]) (hcov : covers w pc = true) (h0 : w.catchType ≠ 0) (hlink : Cond.classLink M.1.cls w.catchType nse ∈ TW)
    (kk : ∀ a, EV M x (cs + 1) (ss + 6) w.handlerPc lv [.ref a] m) : EV M x cs ss pc lv sk m := by
  obtain ⟨p, l, e, R, s, mid, args, below, meth, c, G, QQ⟩ := x
  intro hE H locs ls hw hl T hT X
  obtain ⟨hg, c1, c2, c3, ⟨q, c4, c5⟩, c6⟩ := co
  have hlt := shp_lt hs (by have := vw_lt c4; omega)
  have hTW := hE.2.2.2.2.1
  have hcode := hTW _ hg.2.1
  obtain ⟨cellB, hcB, hoB, hclB⟩ := va_recv hE.2.2.2.2.2.2.2.1 hw.1 c4 (q0 := o) (fs := flds G.2.1 m o ci) (by rw [Wd_get hlt, ent_obj hs (vw_lt c4)])
  rw [c5] at hclB
  obtain ⟨mk, methM, hnamed, hmethM, hstM, habM⟩ := Cond.instanceMethod_spec (hTW _ c2)
  obtain ⟨methM', cM, hmethM', hcM, hbM, hlM, -, -, -, hsigM⟩ := Cond.code_spec hnamed hcode
  cases hmethM.symm.trans hmethM'
  obtain ⟨c2', r2, m2, q1, q2, q3, q4, kP, hkP, hkPi⟩ := Cond.selects_spec (hTW _ c3)
  cases hclB.symm.trans q1
  have hy : M'.1.cls ≠ "java/lang/invoke/MethodHandle" ∧ M'.1.cls ≠ "java/lang/invoke/VarHandle" := ⟨c6.1, c6.2.1⟩
  cases (State.methodFound?_of_named hnamed hy).symm.trans q2
  cases hnamed.symm.trans q3
  have hselP : selectMethod e.platform s.vm cellB.cls mk = .method mk := by rw [Launch.admits_selectMethod X.admits]; exact q4
  have hlen : (as.map (cv G.2.1)).length = methM.sig.parameters.length := by
    have h2 := c6.2.2
    rw [hsigM] at h2
    rw [List.length_map, ha]
    exact (Option.some.inj h2).symm
  obtain ⟨vm₁, X₁, hstep₁⟩ := X.invokevirtual hE.1 hE.2.2.2.1 (hTW _ c1) hnamed hmethM hstM hkP hkPi hy (a := G.2.1 + o) (cell := cellB) (by rw [hT]; exact hcB)
    (fun z h => by rw [h] at hoB; cases hoB) hselP hmethM habM hkP hkPi (g := F0 mid pc ls sk) rfl (argsL := as.map (cv G.2.1)) (rest := st) hlen hsk (by rw [hE.2.1]; exact hdg)
  have hsz : (F0 mid pc ls st).locals.size = c.maxLocals := by rw [hE.2.2.1]; exact hl.1
  have hn₁ := X₁.named hnamed
  obtain ⟨kY, hkY, -⟩ := className_of_methodNamed hn₁
  have hW₁ := X₁.warmed
  have hTW₁ : ∀ w ∈ TW, ∀ A : Array Value, w.before A (T.setVm vm₁) = true := fun w hw A => word_at hW₁ (good_of_word (TW_good w hw)) (hTW w hw)
  have hinitY : kY.init = .initialized := Cond.initialized_spec (findClass_of_methodNamed hn₁) hkY (hTW₁ _ hg.2.2.1 args)
  have hAt : At (T.setVm vm₁) (F0 mid pc ls st).method c below := X₁.here
  obtain ⟨methY, cY, hmY, hcY, -, hlY, -⟩ := Cond.code_spec hn₁ (hTW₁ _ hg.2.1 args)
  have happ : (headSpec (twM M') (rmT M')).appliesLoose M'.1 e.platform ((T.setVm vm₁).calling (F0 mid pc ls st) mk (Value.ref (G.2.1 + o) :: as.map (cv G.2.1)).toArray) = true :=
    Spec.appliesLoose_calling (g := F0 mid pc ls st) hAt (show decode c.code pc = .ok (.invokevirtual ix, 3) by rw [hE.2.1]; exact hdg) hn₁ hkY hinitY
      (X₁.room_calling (g := F0 mid pc ls st) (R' := rmT M') hsz hmY hcY hf.1 (by
        have := hf.2
        have h3 : 2 * (F0 mid pc ls st).monitorRoom + (st.map fun v => v.category).sum ≤ 8 := lv_room hc
        rw [hlY]
        show 2 * (F0 mid pc ls st).monitorRoom + (st.map fun v => v.category).sum + (M'.2.2.1 + 11) + M'.2.2.2.2.2.1 ≤ R.locals
        have h4 : 8 + (M'.2.2.1 + 11) + M'.2.2.2.2.2.1 ≤ R.locals := this
        omega) hz.1 hz.2)
      (atoms_intro fun w hw => by
        rcases List.mem_cons.mp hw with rfl | h
        · exact hTW₁ _ hg.2.1 _
        · exact hTW₁ _ h _)
  obtain ⟨midf, hmid⟩ := hAt.above
  have hfr : ((T.setVm vm₁).setTop (F0 mid pc ls st)).frames = (.java (F0 mid pc ls st) :: midf) ++ below := by rw [State.frames_setTop' _ hAt.top, hmid]; rfl
  have hPc : PcT G (.ref o :: as) m (Value.ref (G.2.1 + o) :: as.map (cv G.2.1)).toArray ((T.setVm vm₁).calling (F0 mid pc ls st) mk (Value.ref (G.2.1 + o) :: as.map (cv G.2.1)).toArray) :=
    PcT_blind G _ m _ _ _ _ ⟨⟨rfl, WU_of hE hw hT hW₁⟩, ThA.moved hW₁.alike (by show ThA G.2.1 s T.heap; rw [hT]; exact hth.kept hw.2.1.2.1)⟩
  obtain ⟨oc, s₂, hsteps, -, hend, a, ce, L, rfl, hW2, hsame, hL, hP2, hF2, hce, hfc, hv⟩ := Steps.callFree (ht l G hl0) p X₁.admits X₁.cas X₁.clock (acts := []) hfr happ hPc trivial
  rw [State.frames_setTop' _ hAt.top, show (T.setVm vm₁).frames.tail = below from X₁.tail] at hend
  obtain ⟨T', X', hW', hB, rfl⟩ := X₁.outOfThrown (g := F0 mid pc ls st) rfl hend hW2 hsame
  have hheap : ((T'.setTop (F0 mid pc ls st)).pushFrame (.throwing a)).heap = T'.heap := Stand.throwing_heap _ _ _
  rw [hheap] at hP2 hce
  have hF1 : T.heap.size ≤ T'.heap.size ∧ ∀ q : Nat, q < T.heap.size → ¬ Ab G.2.1 q → T'.heap[q]? = T.heap[q]? := by
    obtain ⟨f1, f2⟩ := hF2
    rw [hheap] at f1 f2
    exact ⟨f1, f2⟩
  have hfc' : s.vm.findClass nse = some ce.cls := by
    rw [← hW₁.alike.findClass]
    exact hfc
  obtain ⟨vm', X'', st''⟩ := caught_link X' a (g := F0 mid pc ls st) rfl hE.2.2.2.1 w [] htab hcov h0 (hTW _ hlink) hfc' hce (by rw [hv]; rfl) (by
    show s.vm.assignableAux (255 + 1) ce.cls ce.cls = true
    rw [Vm.assignableAux]; simp)
  have hw2 : WldM s T'.heap (locs ++ L) G m := by
    refine ⟨hP2, ⟨?_, fun q h1 h2 => ?_, fun q hq => ?_⟩, hw.2.2⟩
    · have := hw.2.1.1
      have h5 : s.heap.size ≤ H.size := this
      have h6 : T.heap.size ≤ T'.heap.size := hF1.1
      rw [hT] at h6
      exact Nat.le_trans h5 h6
    · have h5 : s.heap.size ≤ H.size := hw.2.1.1
      rw [hF1.2 q (by rw [hT]; exact Nat.lt_of_lt_of_le h1 h5) h2, hT]
      exact hw.2.1.2.1 q h1 h2
    · rcases List.mem_append.mp hq with h | h
      · exact hw.2.1.2.2 q h
      · exact hL q h
  obtain ⟨t, a1, b1⟩ := kk a hE T'.heap (locs ++ L) ls hw2 hl (T'.setVm vm') rfl X''
  refine ⟨t, hstep₁ _ fun acts => ?_, b1⟩
  rw [doInvoke_state]
  refine hsteps.trans ?_
  exact st'' t a1

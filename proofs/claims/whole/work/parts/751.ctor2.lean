/-! constructors: contracts -/
def PcN (G : Gx) (b : Nat) (as : List Value) (ws : List va_E) : Array Value → State → Prop := fun v U => v = as.toArray ∧ va_P G.1 vwCl (Wl b ws) U.heap ∧ U.heap.size = b + ws.length ∧ EK G U
def QcN (G : Gx) (b : Nat) (ws : List va_E) : Array Value → State → Outcome → State → Prop := fun _ st oc t => (oc = .returned none ∧ va_P G.1 vwCl (Wl b ws) t.heap) ∧ va_F (Ab b) st t
theorem PcN_blind (G : Gx) (b : Nat) (as : List Value) (ws : List va_E) : FrameBlind (PcN G b as ws) := by
  intro a U g mk h
  obtain ⟨h1, h2, h3, h4, h5, h6, h7⟩ := h
  exact ⟨h1, h2, h3, va_K.moved (u := U) (U := U.calling g mk a) (Vm.Alike.refl U.vm) h4, Nst.same (s := U) (U := U.calling g mk a) rfl h5, va_AO.moved (u := U) (U := U.calling g mk a) (Vm.Alike.refl U.vm) h6, va_AO.moved (u := U) (U := U.calling g mk a) (Vm.Alike.refl U.vm) h7⟩
abbrev rmN (M : MI) (mc ms : Nat) : Room := { frames := M.2.2.2.2.1, cells := mc, slots := ms, locals := M.2.2.2.2.2.1 }
def Mn (M : MI) (as : Nat → List Value) (w1 w2 : (Nat → ClassId) → Nat → List va_E) (mc ms : Nat) : Prop := ∀ (l : Launch) (G : Gx) (b : Nat), 1 ≤ (w1 G.2.2.1 b).length → Met l M.1 (twM M) (rmN M mc ms) (PcN G b (as b) (w1 G.2.2.1 b)) (QcN G b (w2 G.2.2.1 b)) mc ms (Ab b)
def NX (M : MI) (b mc ms : Nat) (w2 : (Nat → ClassId) → Nat → List va_E) (x : Cx) : Prop := xR x = rmN M mc ms ∧ x.2.2.2.2.2.2.2.2.2.2.2 = MQ x.2.2.2.2.2.2.2.1 (QcN (xG x) b (w2 (xG x).2.2.1 b)) x.2.2.2.2.2.2.1 (xS x) mc ms (Ab b)
theorem Mn.of {M : MI} {as : Nat → List Value} {w1 w2 : (Nat → ClassId) → Nat → List va_E} {mc ms : Nat} (g : GoodM M) (hl : ∀ b, (lg_sl (as b)).length ≤ M.2.2.1) (h : ∀ b (x : Cx), NX M b mc ms w2 x → CN M x b 0 0 0 (lv_args 0 (as b)) [] (w1 (xG x).2.2.1 b)) : Mn M as w1 w2 mc ms := by
  intro l G b h1
  refine Met.ofW (cc := M.2.1) (maxL := M.2.2.1) (ret := M.2.2.2.1) g.1 rfl ?_
  intro p e s mid args below meth c s₁ B hml hv
  obtain ⟨rfl, hP, hz, hK⟩ := hv
  have hts := atoms_spec (ws := twM M) B.pre
  have he := lv_entry (as b) (n := M.2.2.1) (hl b)
  rw [lg_entry_eq]
  exact h b (p, l, e, rmN M mc ms, s, mid, (as b).toArray, below, meth, c, G, _) ⟨rfl, rfl⟩ ⟨B.exec, B.bytes, hml, findClass_of_methodNamed B.named, fun w hw => hts w (List.mem_cons_of_mem _ hw), B.returns, B.notSynchronized, (name_of_methodNamed B.named B.method).1, hK⟩ (by show s.heap.size + 0 = _; rw [hz]; rfl) (by show b ≤ s.heap.size; omega) s.heap [] _ hP va_S.rf he
theorem N_ret {M : MI} {b mc ms cs ss pc : Nat} {w2 : (Nat → ClassId) → Nat → List va_E} {x : Cx} {lv : List (Nat × Value)} {ws : List va_E} (hx : NX M b mc ms w2 x) (hdg : decode M.2.1 pc = .ok (.return_, 1)) (hr : M.2.2.2.1 = none) (hc : cs = mc) (hs : ss = ms) (hws : ws = w2 (xG x).2.2.1 b) : CN M x b cs ss pc lv [] ws := by
  obtain ⟨p, l, e, R, s, mid, args, below, meth, c, G, QQ⟩ := x
  obtain ⟨-, hQ⟩ := hx
  have hQ : QQ = MQ below (QcN G b (w2 G.2.2.1 b)) args s mc ms (Ab b) := hQ
  subst hQ
  subst hc
  subst hs
  intro hE hz hb H locs ls hP hS hl
  have hP : va_P G.1 vwCl (Wl b ws) H := hP
  rw [hws] at hP
  exact W.vret hE.1 hE.2.1 (by rw [hE.2.2.2.2.2.1]; exact hr) (fun t ht _ => ⟨⟨rfl, by rw [ht]; exact hP⟩, hS.F ht⟩) hS.2.2 hdg (hlocks := hE.2.2.2.2.2.2.1)
theorem N_run {p : Program} {l : Launch} {e : Env} {R : Room} {s : State} {mid : MethodId} {args : Array Value} {below : List Frame} {meth : Method} {c : Code} {H : Heap} {locs : List Loc} {G : Gx} {ls : Array Slot} {QQ : State → Prop} {av : Array Value} {b cs ss mc ms pc : Nat} {w0 w1 w2 : List va_E} {st sk : List Value}
    (hP : va_P G.1 vwCl (Wl b (w0 ++ w1)) H) (hS : va_S (Ab b) s.heap H locs) (hr : va_Run p l e R s mid args below meth c H locs cs ss mc ms (F0 mid pc ls sk) st (QcN G (b + w0.length) w2 av) (Ab (b + w0.length)))
    (kk : ∀ H1 locs1, va_P G.1 vwCl (Wl b (w0 ++ w2)) H1 → va_S (Ab b) s.heap H1 locs1 → W p l e R s mid args below meth c H1 locs1 (cs + mc) (ss + ms) QQ (F0 mid (pc + 3) ls st)) : W p l e R s mid args below meth c H locs cs ss QQ (F0 mid pc ls sk) := by
  intro T hT X
  obtain ⟨v, st₀, t, T', L, h0, X', hL, e1, e2, ⟨⟨hv, hP2⟩, hz, hk⟩, stp⟩ := hr T hT X
  have hv : v = none := by injection hv
  subst hv
  rw [h0] at hz hk
  have hS1 : va_S (Ab b) s.heap T'.heap (locs ++ L) := by
    refine ⟨Nat.le_trans hS.1 (by rw [e1]; exact hz), fun q h1 h2 => ?_, fun q hq => ?_⟩
    · rw [e1, hk q (Nat.lt_of_lt_of_le h1 hS.1) (fun h => h2 (by have h : b + w0.length ≤ q := h; show b ≤ q; omega))]
      exact hS.2.1 q h1 h2
    · rcases List.mem_append.mp hq with h | h
      · exact hS.2.2 q h
      · have h := hL q h
        have h : b + w0.length ≤ q.base := h
        show b ≤ q.base
        exact Nat.le_trans (Nat.le_add_right _ _) h
  have hP1 : va_P G.1 vwCl (Wl b (w0 ++ w2)) T'.heap := by
    rw [Wl_app, e1]
    refine va_P.app (fun k q hq => ?_) hP2
    have hq2 := Wl_mem hq
    have hq3 : (Wl b (w0 ++ w1))[k]? = some q := by
      rw [Wl_app, List.getElem?_append_left (by rw [Wl_len]; exact hq2.2)]
      exact hq
    have hlt := (hP k q hq3).lt
    exact (hP k q hq3).kept (hk q.1 hlt (fun h => by have h : b + w0.length ≤ q.1 := h; omega))
  obtain ⟨t2, a1, b1⟩ := kk T'.heap (locs ++ L) hP1 hS1 T' rfl X'
  exact ⟨t2, stp t2 a1, b1⟩
/-- the callee's part of the world -/
theorem pre_N {s : State} {args : Array Value} {G : Gx} {b cs : Nat} {w0 w1 : List va_E} {H : Heap} {as : List Value} (hK : EK G s) (hP : va_P G.1 vwCl (Wl b (w0 ++ w1)) H) (hsz : H.size = b + (w0 ++ w1).length) : PreS s H (PcN G (b + w0.length) as w1) as := by
  refine ⟨PcN_blind _ _ _ _, fun U hU hW => ⟨rfl, ?_, ?_, hK.warm hW⟩⟩
  · rw [hU]
    intro k q hq
    refine hP (w0.length + k) q ?_
    rw [Wl_app, List.getElem?_append_right (by rw [Wl_len]; omega), Wl_len, show w0.length + k - w0.length = k by omega]
    exact hq
  · rw [hU, hsz, List.length_append]; omega
section
variable {M M' : MI} {x : Cx} {b cs ss pc n : Nat} {lv : List (Nat × Value)} {st sk : List Value} {ws ws' w0 : List va_E}
/-- a constructor of a nest mate that is private -/
theorem N_initN {ix na k mc ms : Nat} {as : Nat → List Value} {w1 w2 : (Nat → ClassId) → Nat → List va_E} {As : List Value} (hdg : decode M.2.1 pc = .ok (.invokespecial ix, 3)) (hn : pc + 3 = n) (g : GoodM M') (hret : M'.2.2.2.1 = none) (hin : M'.1.name = "<init>") (hl : ∃ host, (M.1.cls, ix, M'.1, host) ∈ nwL) (c2 : Cond.instanceMethod M'.1 ∈ TW) (c6 : M'.1.cls ≠ "java/lang/invoke/MethodHandle" ∧ M'.1.cls ≠ "java/lang/invoke/VarHandle" ∧ (parseMethodDescriptor M'.1.desc).map (fun d => d.parameters.length) = some na) (hf : FitR (xR x) M') (hr : cs + mc ≤ (xR x).cells ∧ ss + ms ≤ (xR x).slots) (hm : Mn M' as w1 w2 mc ms) (hk : w0.length = k) (hw : ws = w0 ++ w1 (xG x).2.2.1 (b + k)) (h1 : 1 ≤ (w1 (xG x).2.2.1 (b + k)).length) (has : as (b + k) = .ref (b + k) :: As) (ha : As.length = na) (hsk : sk = As.reverse ++ .ref (b + k) :: st) (hc : (st.map fun v => v.category).sum ≤ 8) (hlen : (w2 (xG x).2.2.1 (b + k)).length = (w1 (xG x).2.2.1 (b + k)).length + mc) (h : CN M x b (cs + mc) (ss + ms) n lv st (w0 ++ w2 (xG x).2.2.1 (b + k))) : CN M x b cs ss pc lv sk ws := by
  obtain ⟨p, l, e, R, s, mid, args, below, meth, c, G, QQ⟩ := x
  intro hE hz hb H locs ls hP hS hlv T hT X
  subst hn
  subst hk
  subst hw
  obtain ⟨host, hl⟩ := hl
  have hsz := en_size hz hb hP hS.1 (by rw [← hT]; exact X.heapSize)
  have hTW := hE.2.2.2.2.1
  have hMet := hm l G (b + w0.length) h1
  rw [has] at hMet
  have cw := va_cnB (R := R) (rm := rmN M' mc ms) (mc := mc) (ms := ms) na hTW (tw_pay g) rfl rfl rfl (hE.2.2.2.2.2.2.2.2.2.1 _ hl) (hTW _ g.2.2.1) c6 hf
  rw [hret] at cw
  exact N_run hP hS (va_runIN (As := As) (b := b + w0.length) (index := ix) (y := M'.1) (host := host) (bytes := M'.2.1) (maxL := M'.2.2.1) (n := na) (Ts := TW) (own := M.1.cls) (nL := M.2.2.1) ⟨hE.1, hE.2.1, hE.2.2.1, hE.2.2.2.1, hTW⟩ hMet ⟨cw, hin, hTW _ c2⟩ (pre_N (args := args) (cs := cs) hE.2.2.2.2.2.2.2.2 hP hsz) rfl ha hlv.1 hsk (lv_room hc) hdg hr) (fun H1 locs1 hP1 hS1 => h hE (by
      have hz : s.heap.size + cs = b + (w0 ++ w1 G.2.2.1 (b + w0.length)).length := hz
      have hlen : (w2 G.2.2.1 (b + w0.length)).length = (w1 G.2.2.1 (b + w0.length)).length + mc := hlen
      show s.heap.size + (cs + mc) = b + (w0 ++ w2 G.2.2.1 (b + w0.length)).length
      rw [List.length_append] at hz ⊢
      omega) hb H1 locs1 ls hP1 hS1 hlv) T hT X
/-- a constructor that is not private -/
theorem N_initP {ix na k mc ms : Nat} {as : Nat → List Value} {w1 w2 : (Nat → ClassId) → Nat → List va_E} {As : List Value} (hdg : decode M.2.1 pc = .ok (.invokespecial ix, 3)) (hn : pc + 3 = n) (g : GoodM M') (hret : M'.2.2.2.1 = none) (hin : M'.1.name = "<init>") (c1 : Cond.methodLink M.1.cls ix M'.1 ∈ TW) (c2 : Cond.instanceMethod M'.1 ∈ TW) (c6 : M'.1.cls ≠ "java/lang/invoke/MethodHandle" ∧ M'.1.cls ≠ "java/lang/invoke/VarHandle" ∧ (parseMethodDescriptor M'.1.desc).map (fun d => d.parameters.length) = some na) (hf : FitR (xR x) M') (hr : cs + mc ≤ (xR x).cells ∧ ss + ms ≤ (xR x).slots) (hm : Mn M' as w1 w2 mc ms) (hk : w0.length = k) (hw : ws = w0 ++ w1 (xG x).2.2.1 (b + k)) (h1 : 1 ≤ (w1 (xG x).2.2.1 (b + k)).length) (has : as (b + k) = .ref (b + k) :: As) (ha : As.length = na) (hsk : sk = As.reverse ++ .ref (b + k) :: st) (hc : (st.map fun v => v.category).sum ≤ 8) (hlen : (w2 (xG x).2.2.1 (b + k)).length = (w1 (xG x).2.2.1 (b + k)).length + mc) (h : CN M x b (cs + mc) (ss + ms) n lv st (w0 ++ w2 (xG x).2.2.1 (b + k))) : CN M x b cs ss pc lv sk ws := by
  obtain ⟨p, l, e, R, s, mid, args, below, meth, c, G, QQ⟩ := x
  intro hE hz hb H locs ls hP hS hlv T hT X
  subst hn
  subst hk
  subst hw
  have hsz := en_size hz hb hP hS.1 (by rw [← hT]; exact X.heapSize)
  have hTW := hE.2.2.2.2.1
  have hMet := hm l G (b + w0.length) h1
  rw [has] at hMet
  have cw := callB_of (R := R) (rm := rmN M' mc ms) (mc := mc) (ms := ms) na hTW (tw_pay g) rfl rfl rfl (hTW _ g.2.2.1) (hTW _ c1) c6 hf
  rw [hret] at cw
  exact N_run hP hS (va_runI (As := As) (b := b + w0.length) (index := ix) (y := M'.1) (bytes := M'.2.1) (maxL := M'.2.2.1) (n := na) (Ts := TW) (own := M.1.cls) (nL := M.2.2.1) ⟨hE.1, hE.2.1, hE.2.2.1, hE.2.2.2.1, hTW⟩ hMet ⟨cw, hin, hTW _ c2⟩ (pre_N (args := args) (cs := cs) hE.2.2.2.2.2.2.2.2 hP hsz) rfl ha hlv.1 hsk (lv_room hc) hdg hr) (fun H1 locs1 hP1 hS1 => h hE (by
      have hz : s.heap.size + cs = b + (w0 ++ w1 G.2.2.1 (b + w0.length)).length := hz
      have hlen : (w2 G.2.2.1 (b + w0.length)).length = (w1 G.2.2.1 (b + w0.length)).length + mc := hlen
      show s.heap.size + (cs + mc) = b + (w0 ++ w2 G.2.2.1 (b + w0.length)).length
      rw [List.length_append] at hz ⊢
      omega) hb H1 locs1 ls hP1 hS1 hlv) T hT X
/-- a method of the object itself, without arguments, that makes nothing -/
theorem N_self {ix ci : Nat} {w1 w2 : (Nat → ClassId) → Nat → List va_E} {fs : List Value} (hdg : decode M.2.1 pc = .ok (.invokevirtual ix, 3)) (hn : pc + 3 = n) (co : COV M.1.cls ix M' ci 0) (hf : FitR (xR x) M') (hr : cs ≤ (xR x).cells ∧ ss ≤ (xR x).slots) (hm : Mn M' (fun b => [.ref b]) w1 w2 0 0) (hw : ws = w1 (xG x).2.2.1 b) (h1 : 1 ≤ (w1 (xG x).2.2.1 b).length) (he : ws[0]? = some (.inr (ci, fs))) (hc : (st.map fun v => v.category).sum ≤ 8) (hlen : (w2 (xG x).2.2.1 b).length = (w1 (xG x).2.2.1 b).length) (h : CN M x b cs ss n lv st (w2 (xG x).2.2.1 b)) : CN M x b cs ss pc lv (.ref b :: st) ws := by
  obtain ⟨p, l, e, R, s, mid, args, below, meth, c, G, QQ⟩ := x
  intro hE hz hb H locs ls hP hS hlv T hT X
  subst hn
  have hsz := en_size hz hb hP hS.1 (by rw [← hT]; exact X.heapSize)
  have hTW := hE.2.2.2.2.1
  obtain ⟨hg, c1, c2, c3, ⟨q, c4, c5⟩, c6⟩ := co
  have hPV : ∃ cellB : Cell, H[b]? = some cellB ∧ cellB.vm.isStatics = false ∧ s.vm.findClass M'.1.cls = some cellB.cls := by
    rw [← c5]
    exact va_recv hE.2.2.2.2.2.2.2.2.1 hP c4 (q0 := 0) (fs := fs) (Wl_at he)
  have hpre := pre_N (args := args) (cs := cs) (w0 := []) (w1 := ws) (as := [.ref b]) hE.2.2.2.2.2.2.2.2 hP hsz
  subst hw
  refine N_run (w0 := []) (w2 := w2 G.2.2.1 b) (mc := 0) (ms := 0) hP hS (va_runV (As := []) (b := b) (C := M'.1.cls) (index := ix) (y := M'.1) (bytes := M'.2.1) (maxL := M'.2.2.1) (ret := M'.2.2.2.1) (n := 0) (Ts := TW) (own := M.1.cls) (nL := M.2.2.1) ⟨hE.1, hE.2.1, hE.2.2.1, hE.2.2.2.1, hTW⟩ (hm l G b h1) ⟨callB_of 0 hTW (tw_pay hg) rfl rfl rfl (hTW _ hg.2.2.1) (hTW _ c1) c6 hf, hTW _ c2, hTW _ c3⟩ ⟨hpre.1, hPV, hpre.2⟩ rfl rfl hlv.1 rfl (lv_room hc) hdg hr) (fun H1 locs1 hP1 hS1 => h hE (by
      have hz : s.heap.size + cs = b + (w1 G.2.2.1 b).length := hz
      have hlen : (w2 G.2.2.1 b).length = (w1 G.2.2.1 b).length := hlen
      show s.heap.size + cs = b + (w2 G.2.2.1 b).length
      omega) hb H1 locs1 ls hP1 hS1 hlv) T hT X
end

/-! corner, hay, round where they throw -/
section
variable {M M' : MI} {x : Cx} {cs ss pc n : Nat} {lv lv' : List (Nat × Value)} {st sk : List Value} {m : Mem}
theorem V_sipush {z : Int} {v : Int32} (hdg : decode M.2.1 pc = .ok (.sipush z, 3)) (hn : pc + 3 = n) (hv : (Int16.ofInt z).toInt32 = v) (h : EV M x cs ss n lv (.int v :: st) m) : EV M x cs ss pc lv (st) m := by
  intro hE H locs ls hw hl
  subst hn
  exact lv_sipush hE.1 hE.2.1 hdg hv (h hE H locs ls hw hl)
theorem V_if_lt {y : Int32} {off : Int} {t : Nat} (hdg : decode M.2.1 pc = .ok (.ifCond .lt off, 3)) (hn : pc + 3 = n) (ht : (pc : Int) + off = (t : Int)) (kt : y < 0 → EV M x cs ss t lv st m) (kf : ¬ y < 0 → EV M x cs ss n lv st m) : EV M x cs ss pc lv (.int y :: st) m := by
  intro hE H locs ls hw hl
  subst hn
  exact lv_if_lt hE.1 hE.2.1 hdg ht (fun hc => kt hc hE H locs ls hw hl) (fun hc => kf hc hE H locs ls hw hl)
theorem V_icmp_ne {y z : Int32} {off : Int} {t : Nat} (hdg : decode M.2.1 pc = .ok (.if_icmp .ne off, 3)) (hn : pc + 3 = n) (ht : (pc : Int) + off = (t : Int)) (kt : ¬ y = z → EV M x cs ss t lv st m) (kf : y = z → EV M x cs ss n lv st m) : EV M x cs ss pc lv (.int z :: .int y :: st) m := by
  intro hE H locs ls hw hl
  subst hn
  exact lv_icmp_ne hE.1 hE.2.1 hdg ht (fun hc => kt hc hE H locs ls hw hl) (fun hc => kf hc hE H locs ls hw hl)
theorem V_icmp_le {y z : Int32} {off : Int} {t : Nat} (hdg : decode M.2.1 pc = .ok (.if_icmp .le off, 3)) (hn : pc + 3 = n) (ht : (pc : Int) + off = (t : Int)) (kt : y ≤ z → EV M x cs ss t lv st m) (kf : ¬ y ≤ z → EV M x cs ss n lv st m) : EV M x cs ss pc lv (.int z :: .int y :: st) m := by
  intro hE H locs ls hw hl
  subst hn
  exact lv_icmp_le hE.1 hE.2.1 hdg ht (fun hc => kt hc hE H locs ls hw hl) (fun hc => kf hc hE H locs ls hw hl)
theorem V_get {ix o ci j z : Nat} {q : Nat × Nat} (hdg : decode M.2.1 pc = .ok (.getfield ix, 3)) (hn : pc + 3 = n) (hf : FOk M.1.cls ix ci j) (hs : shp o = (ci, z)) (hk : (fkd ci)[j]? = some q) (h : Mok m → EV M x cs ss n lv (fval (xG x).2.1 m o j q :: st) m) : EV M x cs ss pc lv (.ref ((xG x).2.1 + o) :: st) m := by
  obtain ⟨p, l, e, R, s, mid, args, below, meth, c, G, QQ⟩ := x
  intro hE H locs ls hw hl
  subst hn
  obtain ⟨C, T, N, ty, f1, f2, f3, f4, f5, f6⟩ := hf
  have hlt := shp_lt hs (by have := vw_lt f1; omega)
  refine va_get (own := M.1.cls) (ref := (T j).1) (C := C) (T := T) (N := N) (ci := ci) (index := ix) (Ts := TW) (v := fval G.2.1 m o j q) hE.1 hE.2.1 hE.2.2.2.2.1 f3 hE.2.2.2.1 hE.2.2.2.2.2.2.2.1 hw.1 o (fs := flds G.2.1 m o ci) ?_ f1 j f2 (hE.2.2.2.2.1 _ f6) (fun _ h => h) ?_ hdg ?_
  · show _ = some (G.2.1 + o, _)
    rw [Wd_get hlt, ent_obj hs (vw_lt f1)]
  · rw [flds_at hk]
  · exact h hw.2.2 hE H locs ls hw hl
theorem V_gN {ix o ci j z d : Nat} (hdg : decode M.2.1 pc = .ok (.getfield ix, 3)) (hn : pc + 3 = n) (hf : FG M.1.cls ix ci j 2 d) (hs : shp o = (ci, z)) (hj : j = 13 ∨ j = 14) (h : shp (gN m j) = (5, 0) → EV M x cs ss n lv (.ref ((xG x).2.1 + gN m j) :: st) m) : EV M x cs ss pc lv (.ref ((xG x).2.1 + o) :: st) m :=
  V_get hdg hn hf.1 hs hf.2 (fun hm => h (by rcases hj with rfl | rfl; exact hm.1; exact hm.2))
theorem V_gF {ix o ci j z d r : Nat} (hdg : decode M.2.1 pc = .ok (.getfield ix, 3)) (hn : pc + 3 = n) (hf : FG M.1.cls ix ci j 5 d) (hs : shp o = (ci, z)) (hr : o + d = r) (h : EV M x cs ss n lv (.ref ((xG x).2.1 + r) :: st) m) : EV M x cs ss pc lv (.ref ((xG x).2.1 + o) :: st) m :=
  V_get hdg hn hf.1 hs hf.2 (fun _ => by subst hr; exact h)
theorem V_aL {a L r : Nat} {i : Int32} (hdg : decode M.2.1 pc = .ok (.aaload, 1)) (hn : pc + 1 = n) (hs : shp a = (104, L)) (hi : inb i L) (hr : a + 1 + 3 * ixn i = r) (h : EV M x cs ss n lv (.ref ((xG x).2.1 + r) :: st) m) : EV M x cs ss pc lv (.int i :: .ref ((xG x).2.1 + a) :: st) m := by
  obtain ⟨p, l, e, R, s, mid, args, below, meth, c, G, QQ⟩ := x
  intro hE H locs ls hw hl
  subst hn
  subst hr
  exact va_aldq (f := fun k => some (G.2.1 + (a + 1 + 3 * k))) hE.1 hE.2.1 hE.2.2.2.2.2.2.2.1 hw.1 a 4 (by rw [Wd_get (shp_lt hs (by omega)), ent_arL hs]) rfl (inb_vp hi) hdg (h hE H locs ls hw hl)
theorem V_callS {ix na : Nat} {v : Int32} {m' : Mem} (hdg : decode M.2.1 pc = .ok (.invokestatic ix, 3)) (hn : pc + 3 = n) (co : COS M.1.cls ix M' na) (hf : FitR (xR x) M') (hz : cs ≤ (xR x).cells ∧ ss ≤ (xR x).slots) (as : List Value) (ha : as.length = na) (hsk : sk = (as.map (cv (xG x).2.1)).reverse ++ st) (hc : (st.map fun v => v.category).sum ≤ 8) (ht : Mt M' as m (qI v m')) (kk : EV M x cs ss n lv (.int v :: st) m') : EV M x cs ss pc lv sk m := by
  obtain ⟨p, l, e, R, s, mid, args, below, meth, c, G, QQ⟩ := x
  intro hE H locs ls hw hl
  subst hn
  obtain ⟨hg, c1, c2, c6⟩ := co
  exact V_run hw (va_runS (As := as.map (cv G.2.1)) (index := ix) (y := M'.1) (bytes := M'.2.1) (maxL := M'.2.2.1) (ret := M'.2.2.2.1) (n := na) (Ts := TW) (own := M.1.cls) (nL := M.2.2.1) ⟨hE.1, hE.2.1, hE.2.2.1, hE.2.2.2.1, hE.2.2.2.2.1⟩ (ht l G) ⟨callB_of na hE.2.2.2.2.1 (tw_pay hg) rfl rfl rfl (hE.2.2.2.2.1 _ hg.2.2.1) (hE.2.2.2.2.1 _ c1) c6 hf, hE.2.2.2.2.1 _ c2⟩ ⟨PcM_blind _ _ _, fun U hU hW => ⟨rfl, WU_of hE hw hU hW⟩⟩ rfl (by simpa using ha) hl.1 hsk (lv_room hc) hdg hz) (fun r m'' q H1 locs1 hw1 => by obtain ⟨rfl, rfl⟩ := q; exact kk hE H1 locs1 ls hw1 hl)
end
/-- the statics of Throwable -/
def thSt : List (String × String) := [("UNASSIGNED_STACK", Bundle.steD), ("SUPPRESSED_SENTINEL", Bundle.listD)]
def ThA (b : Nat) (U : State) (H : Heap) : Prop := ∀ q ∈ thSt, ∃ (c : ClassId) (k : Class) (i : Nat) (f : Field) (a : Nat) (cell : Cell), U.vm.findClass Bundle.tN = some c ∧ U.fieldFound? Bundle.tN q.1 q.2 = some (c, k, i, f) ∧ f.isStatic = true ∧ k.statics = some a ∧ H[a]? = some cell ∧ cell.vm.isStatics = true ∧ cell.cls = c ∧ f.slot < cell.slots.size ∧ k.staticTypes[f.slot]? = some f.type ∧ ¬ Ab b a
theorem ThA.moved {b : Nat} {u U : State} {H : Heap} (hvm : u.vm.Alike U.vm) (h : ThA b u H) : ThA b U H := by
  intro q hq
  obtain ⟨c, k, i, f, a, cell, h1, h2, h3, h4, h5, h6, h7, h8, h9, h10⟩ := h q hq
  obtain ⟨k', hi', he⟩ := State.fieldFound?_setVm hvm h2
  exact ⟨c, k', i, f, a, cell, by rw [hvm.findClass]; exact h1, hi', h3, by rw [he]; exact h4, h5, h6, h7, h8, by rw [he]; exact h9, h10⟩
theorem ThA.kept {b : Nat} {U : State} {H H1 : Heap} (hq : ∀ a : Nat, a < H.size → ¬ Ab b a → H1[a]? = H[a]?) (h : ThA b U H) : ThA b U H1 := by
  intro q hm
  obtain ⟨c, k, i, f, a, cell, h1, h2, h3, h4, h5, h6⟩ := h q hm
  exact ⟨c, k, i, f, a, cell, h1, h2, h3, h4, by rw [hq a (Array.getElem?_eq_some_iff.mp h5).1 h6.2.2.2.2]; exact h5, h6⟩
theorem ThA.of {A : Array Value} {s : State} (hw : ∀ q ∈ thSt, (Cond.laysStatic Bundle.tN q.1 q.2).before A s = true) : ThA s.heap.size s s.heap := by
  intro q hq
  obtain ⟨c, k, i, f, a, cell, h1, h2, h3, h4, h5, h6, h7, h8, h9⟩ := Cond.laysStatic_spec (hw q hq)
  exact ⟨c, k, i, f, a, cell, h1, h2, h3, h4, h5, h6, h7, h8, h9, fun h => by have := (Array.getElem?_eq_some_iff.mp h5).1; exact absurd h (by show ¬ s.heap.size ≤ a; omega)⟩
theorem th_in : ∀ w ∈ Bundle.throwableAtoms, w ∈ TW ∨ w = .laysStatic Bundle.tN "UNASSIGNED_STACK" Bundle.steD ∨ w = .laysStatic Bundle.tN "SUPPRESSED_SENTINEL" Bundle.listD := by decide +kernel
theorem th_words {A : Array Value} {U : State} {b : Nat} (hw : ∀ w ∈ TW, w.before A U = true) (h : ThA b U U.heap) : ∀ w ∈ Bundle.throwableAtoms, w.before A U = true := by
  have key : ∀ q ∈ thSt, (Cond.laysStatic Bundle.tN q.1 q.2).before A U = true := by
    intro q hq
    obtain ⟨c, k, i, f, a, cell, h1, h2, h3, h4, h5, h6, h7, h8, h9, -⟩ := h q hq
    exact Cond.laysStatic_of h1 h2 h3 h4 h5 h6 h7 h8 h9
  intro w hm
  rcases th_in w hm with h | rfl | rfl
  · exact hw w h
  · exact key _ (List.mem_cons_self ..)
  · exact key _ (List.mem_cons_of_mem _ (List.mem_cons_self ..))
abbrev rmT (M : MI) : Room := { frames := M.2.2.2.2.1, cells := 1, slots := 6, locals := M.2.2.2.2.2.1 }
def PcT (G : Gx) (as : List Value) (m : Mem) : Array Value → State → Prop := fun v U => PcM G as m v U ∧ ThA G.2.1 U U.heap
theorem PcT_blind (G : Gx) (as : List Value) (m : Mem) : FrameBlind (PcT G as m) := by
  intro a U g mk h
  exact ⟨PcM_blind G as m a U g mk h.1, ThA.moved (u := U) (U := U.calling g mk a) (Vm.Alike.refl U.vm) h.2⟩
def QcT (G : Gx) (m : Mem) : Array Value → State → Outcome → State → Prop := fun _ st oc t => ∃ (a : Nat) (ce : Cell) (L : List Loc), oc = .threw a ∧ st.WarmedH t.vm ∧ st.sameButNew ({ t with vm := st.vm } : State) L 1 6 ∧ (∀ q ∈ L, Ab G.2.1 q.base) ∧ va_P G.1 vwCl (Wd G.2.1 G.2.2.1 m) t.heap ∧ va_F (Ab G.2.1) st t ∧ t.heap[a]? = some ce ∧ st.vm.findClass nse = some ce.cls ∧ ce.vm = .none
def MtT (M : MI) (as : List Value) (m : Mem) : Prop := ∀ (l : Launch) (G : Gx), l.stackTraces = false → MetFree l M.1 (headSpec (twM M) (rmT M)) (PcT G as m) (fun _ _ _ _ _ => True) (QcT G m)
def TX (M : MI) (m : Mem) (x : Cx) : Prop := (∀ (pc : Nat), ∀ z ∈ x.2.2.2.2.2.2.2.2.2.1.exceptionTable.toList, covers z pc = false) ∧ (∀ w ∈ Bundle.throwableAtoms, w.before x.2.2.2.2.2.2.1 (xS x) = true) ∧ x.2.2.1.platform.stackTraces = false ∧ xR x = rmT M ∧
  ∀ (U : State) (a : Addr) (locs : List Loc) (H : Heap) (ce : Cell), WldM (xS x) H locs (xG x) m → U.status = .running → Ended U x.2.2.2.2.2.2.2.1 (.threw a) → (xS x).WarmedH U.vm → (xS x).sameButNew ({ U with vm := (xS x).vm } : State) locs (0 + 1) (0 + 6) → U.heap[a]? = some ce → (xS x).vm.findClass nse = some ce.cls → ce.vm = .none → a = H.size → (∀ q, q ≠ a → U.heap[q]? = H[q]?) → x.2.2.2.2.2.2.2.2.2.2.2 U
theorem lg_len (b : Nat) (vs : List Value) : (lg_sl (vs.map (cv b))).length = (lg_sl vs).length := by
  induction vs with
  | nil => rfl
  | cons v r ih =>
    simp only [lg_sl, List.map_cons, List.flatMap_cons, List.length_append, cv_cat] at ih ⊢
    rw [ih]
    split <;> rfl
theorem MtT.of {M : MI} {as : List Value} {m : Mem} (g : GoodM M) (hl : (lg_sl as).length ≤ M.2.2.1) (h : ∀ x : Cx, TX M m x → EV M x 0 0 0 (lv_args 0 (as.map (cv (xG x).2.1))) [] m) : MtT M as m := by
  intro l G hl0
  refine MetFree.of_bodyS (code := M.2.1) (maxLocals := M.2.2.1) (ret := M.2.2.2.1) g.1 ?_ ?_
  · intro args s mid h hn
    obtain ⟨meth, c, h1, h2, h3, h4, h5, h6, -, -⟩ := Cond.code_spec hn (atoms_spec (ws := twM M) h _ List.mem_cons_self)
    exact ⟨meth, c, h1, h2, h3, h4, h5, h6⟩
  · intro p e s mid args below meth c s₁ B hml hP _
    obtain ⟨⟨rfl, hP, hK, hT, hN, hM⟩, hth⟩ := hP
    have hh0 : s₁.heap = s.heap := by rw [B.state]; rfl
    have hts := atoms_spec (ws := twM M) B.pre
    have he := lv_entry (as.map (cv G.2.1)) (n := M.2.2.1) (by rw [lg_len]; exact hl)
    have htw : ∀ w ∈ TW, w.before (as.map (cv G.2.1)).toArray s = true := fun w hw => hts w (List.mem_cons_of_mem _ hw)
    have key := h (p, l, e, rmT M, s, mid, (as.map (cv G.2.1)).toArray, below, meth, c, G, fun U => ∃ o, U.status = .running ∧ Ended U below o ∧ QcT G m (as.map (cv G.2.1)).toArray s o U) ⟨fun pc => covers_of_empty (B.noHandlers (hts _ List.mem_cons_self)) pc, th_words htw hth, by show e.platform.stackTraces = false; rw [B.admits.platform]; exact hl0, rfl, ?_⟩
      ⟨B.exec, B.bytes, hml, findClass_of_methodNamed B.named, htw, B.returns, B.notSynchronized, hK, hT, hN⟩ s.heap [] _ ⟨hP, va_S.rf, hM⟩ he s₁ hh0 (Stand.of_body B)
    · obtain ⟨t, a1, o, b1, b2, b3⟩ := key
      rw [lg_entry_eq]
      exact ⟨t, o, a1, b1, b2, b3⟩
    · intro U a locs H ce hw h1 h2 h3 h4 h5 h6 h7 h8 h9
      subst h8
      have hlt : H.size < U.heap.size := (Array.getElem?_eq_some_iff.mp h5).1
      have h9 : ∀ q : Nat, q < H.size → U.heap[q]? = H[q]? := fun q hq => h9 q (Nat.ne_of_lt hq)
      refine ⟨.threw H.size, h1, h2, H.size, ce, locs, rfl, h3, h4, hw.2.1.2.2, fun k q hq => ?_, ⟨?_, fun q hq1 hq2 => ?_⟩, h5, h6, h7⟩
      · have hl2 := (hw.1 k q hq).lt
        exact (hw.1 k q hq).kept (h9 q.1 hl2)
      · have := hw.2.1.1
        show s.heap.size ≤ U.heap.size
        have : s.heap.size ≤ H.size := hw.2.1.1
        omega
      · have : s.heap.size ≤ H.size := hw.2.1.1
        rw [h9 q (Nat.lt_of_lt_of_le hq1 this)]
        exact hw.2.1.2.1 q hq1 hq2
theorem X_OH_corner (m : Mem) (x1 x2 x3 : Int32) (h : OX_corner m x1 x2 x3 = some none) : MtT M_OH_corner [.ref 0, .int x1, .int x2, .int x3] m := by
  refine MtT.of G_OH_corner (Nat.le_of_ble_eq_true rfl) ?_
  intro x hx
  have g := G_OH_corner
  have hz : 0 ≤ (xR x).cells ∧ 0 ≤ (xR x).slots := ⟨Nat.zero_le _, Nat.zero_le _⟩
  have hthr : EV M_OH_corner x 0 0 21 (lv_args 0 ([Value.ref 0, .int x1, .int x2, .int x3].map (cv (xG x).2.1))) [] m := V_throw rfl (ix := 133) (i := 1) (tx := "no such corner") (by decide) (gdec g (k := 11) rfl) (gdec g (k := 12) rfl) (gdec g (k := 13) rfl) (gdec g (k := 14) rfl) (gdec g (k := 15) rfl) (hx.1 30) hx.2.1 hx.2.2.1 (by rw [hx.2.2.2.1]; decide) (by rw [hx.2.2.2.1]; decide) hx.2.2.2.2
  unfold OX_corner at h
  obtain ⟨v1, hq1, h⟩ := bI_ex h
  refine V_aload_n (n := 1) (gdec g (k := 0) rfl) rfl rfl 0 rfl <| V_gN (o := 0) (n := 4) (gdec g (k := 1) rfl) rfl fg_11_92 sh_0 (Or.inl rfl) fun hN1 => V_iload_n (n := 5) (gdec g (k := 2) rfl) rfl rfl 1 rfl <| V_iload_n (n := 6) (gdec g (k := 3) rfl) rfl rfl 2 rfl <| V_callI (n := 9) (st := []) (gdec g (k := 4) rfl) rfl co_11_127 (by rw [hx.2.2.2.1]; decide) hz hN1 [.int x1, .int x2] rfl rfl (Nat.zero_le _) (K_PH_hasCorner m (gN m 13) x1 x2 hN1 _ hq1) <| V_if_eq (n := 12) (t := 21) (gdec g (k := 5) rfl) rfl rfl (fun hc => ?_) (fun hc => ?_)
  · exact hthr
  · rw [if_neg hc] at h
    refine V_iload_n (n := 13) (gdec g (k := 6) rfl) rfl rfl 3 rfl <| V_if_lt (n := 16) (t := 21) (gdec g (k := 7) rfl) rfl rfl (fun hc => ?_) (fun hc => ?_)
    · exact hthr
    · rw [if_neg hc] at h
      refine V_iload_n (n := 17) (gdec g (k := 8) rfl) rfl rfl 3 rfl <| V_iconst (v := 2) (n := 18) (gdec g (k := 9) rfl) rfl (by decide) <| V_icmp_le (n := 21) (t := 31) (gdec g (k := 10) rfl) rfl rfl (fun hc => ?_) (fun hc => ?_)
      · exfalso
        rw [if_neg (le2n hc)] at h
        split at h
        · split at h
          · split at h <;> cases h
          · split at h
            · split at h <;> cases h
            · obtain ⟨v2, hq2, h⟩ := bI_ex h
              cases h
        · cases h
      · exact hthr
theorem X_OH_hay (m : Mem) (x1 x2 : Int32) (h : OX_hay m x1 x2 = some none) : MtT M_OH_hay [.ref 0, .int x1, .int x2] m := by
  refine MtT.of G_OH_hay (Nat.le_of_ble_eq_true rfl) ?_
  intro x hx
  have g := G_OH_hay
  have hz : 0 ≤ (xR x).cells ∧ 0 ≤ (xR x).slots := ⟨Nat.zero_le _, Nat.zero_le _⟩
  have hthr : EV M_OH_hay x 0 0 20 (lv_args 0 ([Value.ref 0, .int x1, .int x2].map (cv (xG x).2.1))) [] m := V_throw rfl (ix := 162) (i := 2) (tx := "no such hay") (by decide) (gdec g (k := 10) rfl) (gdec g (k := 11) rfl) (gdec g (k := 12) rfl) (gdec g (k := 13) rfl) (gdec g (k := 14) rfl) (hx.1 29) hx.2.1 hx.2.2.1 (by rw [hx.2.2.2.1]; decide) (by rw [hx.2.2.2.1]; decide) hx.2.2.2.2
  unfold OX_hay at h
  refine V_aload_n (n := 1) (gdec g (k := 0) rfl) rfl rfl 0 rfl <| V_gN (o := 0) (n := 4) (gdec g (k := 1) rfl) rfl fg_11_92 sh_0 (Or.inl rfl) fun hN1 => V_iload_n (n := 5) (gdec g (k := 2) rfl) rfl rfl 1 rfl <| V_callI (n := 8) (st := []) (gdec g (k := 3) rfl) rfl co_11_158 (by rw [hx.2.2.2.1]; decide) hz hN1 [.int x1] rfl rfl (Nat.zero_le _) (K_PH_hasHay m (gN m 13) x1 hN1 _ rfl) <| V_if_eq (n := 11) (t := 20) (gdec g (k := 4) rfl) rfl rfl (fun hc => ?_) (fun hc => ?_)
  · exact hthr
  · rw [if_neg hc] at h
    refine V_iload_n (n := 12) (gdec g (k := 5) rfl) rfl rfl 2 rfl <| V_if_lt (n := 15) (t := 20) (gdec g (k := 6) rfl) rfl rfl (fun hc => ?_) (fun hc => ?_)
    · exact hthr
    · rw [if_neg hc] at h
      refine V_iload_n (n := 16) (gdec g (k := 7) rfl) rfl rfl 2 rfl <| V_iconst (v := 2) (n := 17) (gdec g (k := 8) rfl) rfl (by decide) <| V_icmp_le (n := 20) (t := 30) (gdec g (k := 9) rfl) rfl rfl (fun hc => ?_) (fun hc => ?_)
      · exfalso
        rw [if_neg (le2n hc)] at h
        split at h
        · split at h <;> cases h
        · split at h
          · split at h <;> cases h
          · split at h <;> cases h
      · exact hthr
theorem X_OH_round (m : Mem) (x1 x2 x3 : Int32) (h : OX_round m x1 x2 x3 = some none) : MtT M_OH_round [.ref 0, .int x1, .int x2, .int x3] m := by
  refine MtT.of G_OH_round (Nat.le_of_ble_eq_true rfl) ?_
  intro x hx
  have g := G_OH_round
  have hz : 0 ≤ (xR x).cells ∧ 0 ≤ (xR x).slots := ⟨Nat.zero_le _, Nat.zero_le _⟩
  have hthr : EV M_OH_round x 0 0 19 (lv_args 0 ([Value.ref 0, .int x1, .int x2, .int x3].map (cv (xG x).2.1))) [] m := V_throw rfl (ix := 195) (i := 3) (tx := "no such line or point") (by decide) (gdec g (k := 9) rfl) (gdec g (k := 10) rfl) (gdec g (k := 11) rfl) (gdec g (k := 12) rfl) (gdec g (k := 13) rfl) (hx.1 28) hx.2.1 hx.2.2.1 (by rw [hx.2.2.2.1]; decide) (by rw [hx.2.2.2.1]; decide) hx.2.2.2.2
  have hthr2 : ∀ lv, EV M_OH_round x 0 0 53 lv [] m := fun lv => V_throw rfl (ix := 201) (i := 4) (tx := "the point is on the line") (by decide) (gdec g (k := 26) rfl) (gdec g (k := 27) rfl) (gdec g (k := 28) rfl) (gdec g (k := 29) rfl) (gdec g (k := 30) rfl) (hx.1 62) hx.2.1 hx.2.2.1 (by rw [hx.2.2.2.1]; decide) (by rw [hx.2.2.2.1]; decide) hx.2.2.2.2
  unfold OX_round at h
  refine V_aload_n (n := 1) (gdec g (k := 0) rfl) rfl rfl 0 rfl <| V_gN (o := 0) (n := 4) (gdec g (k := 1) rfl) rfl fg_11_92 sh_0 (Or.inl rfl) fun hN1 => V_iload_n (n := 5) (gdec g (k := 2) rfl) rfl rfl 1 rfl <| V_callI (n := 8) (st := []) (gdec g (k := 3) rfl) rfl co_11_173 (by rw [hx.2.2.2.1]; decide) hz hN1 [.int x1] rfl rfl (Nat.zero_le _) (K_PH_hasLine m (gN m 13) x1 hN1 _ rfl) <| V_if_eq (n := 11) (t := 19) (gdec g (k := 4) rfl) rfl rfl (fun hc => ?_) (fun hc => ?_)
  · exact hthr
  · rw [if_neg hc] at h
    refine V_iload_n (n := 12) (gdec g (k := 5) rfl) rfl rfl 2 rfl <| V_iload_n (n := 13) (gdec g (k := 6) rfl) rfl rfl 3 rfl <| V_callS (n := 16) (st := []) (gdec g (k := 7) rfl) rfl co_11_189 (by rw [hx.2.2.2.1]; decide) hz [.int x2, .int x3] rfl rfl (Nat.zero_le _) (K_OH_isPoint m x2 x3 _ rfl) <| V_if_ne (n := 19) (t := 29) (gdec g (k := 8) rfl) rfl rfl (fun hc => ?_) (fun hc => ?_)
    · rw [if_neg hc] at h
      by_cases hb : inb x1 3
      · rw [if_pos hb] at h
        obtain ⟨v2, hq2, h⟩ := bI_ex h
        refine V_aload_n (n := 30) (gdec g (k := 14) rfl) rfl rfl 0 rfl <| V_gN (o := 0) (n := 33) (gdec g (k := 15) rfl) rfl fg_11_92 sh_0 (Or.inl rfl) fun hN2 => V_gF (r := (gN m 13 + 1)) (n := 36) (gdec g (k := 16) rfl) rfl fg_11_138 hN2 rfl <| V_iload_n (n := 37) (gdec g (k := 17) rfl) rfl rfl 1 rfl <| V_aL (r := (gN m 13 + 2 + 3 * ixn x1)) (n := 38) (gdec g (k := 18) rfl) rfl (shc_5_0 hN2) hb rfl <| V_iload_n (n := 39) (gdec g (k := 19) rfl) rfl rfl 2 rfl <| V_iload_n (n := 40) (gdec g (k := 20) rfl) rfl rfl 3 rfl <| V_callI (n := 43) (st := []) (gdec g (k := 21) rfl) rfl co_11_197 (by rw [hx.2.2.2.1]; decide) hz (shln hN2 hb) [.int x2, .int x3] rfl rfl (Nat.zero_le _) (K_LN_timesRound m (gN m 13 + 2 + 3 * ixn x1) x2 x3 (shln hN2 hb) _ hq2) <| V_istore (lv' := [(4, .int v2)]) (n := 45) (gdec g (k := 22) rfl) rfl (Nat.le_of_ble_eq_true rfl) [0] rfl <| V_iload (n := 47) (gdec g (k := 23) rfl) rfl 0 rfl <| V_sipush (v := 1000) (n := 50) (gdec g (k := 24) rfl) rfl spz_1000 <| V_icmp_ne (n := 53) (t := 63) (gdec g (k := 25) rfl) rfl rfl (fun hc => ?_) (fun hc => ?_)
        · rw [if_neg hc] at h; cases h
        · exact hthr2 _
      · rw [if_neg hb] at h; cases h
    · exact hthr

/-! constructors: a world whose cells lie side by side from b on -/
def Wl (b : Nat) (ws : List va_E) : va_W := ws.mapIdx (fun k e => (b + k, e))
theorem Wl_get (b : Nat) (ws : List va_E) (k : Nat) : (Wl b ws)[k]? = ws[k]?.map (fun e => (b + k, e)) := by simp [Wl, List.getElem?_mapIdx]
theorem Wl_at {b k : Nat} {ws : List va_E} {e : va_E} (h : ws[k]? = some e) : (Wl b ws)[k]? = some (b + k, e) := by rw [Wl_get, h]; rfl
theorem Wl_len (b : Nat) (ws : List va_E) : (Wl b ws).length = ws.length := by simp [Wl]
theorem Wl_set (b k : Nat) (ws : List va_E) (e : va_E) : (Wl b ws).set k (b + k, e) = Wl b (ws.set k e) := by
  apply List.ext_getElem?
  intro i
  rw [Wl_get, List.getElem?_set, List.getElem?_set, Wl_len]
  by_cases h : k = i
  · subst h
    rw [if_pos rfl, if_pos rfl]
    by_cases h2 : k < ws.length
    · rw [if_pos h2, if_pos h2]; rfl
    · rw [if_neg h2, if_neg h2]; rfl
  · rw [if_neg h, if_neg h, Wl_get]
theorem Wl_app (b : Nat) (ws r : List va_E) : Wl b (ws ++ r) = Wl b ws ++ Wl (b + ws.length) r := by
  apply List.ext_getElem?
  intro i
  rw [Wl_get]
  by_cases h : i < ws.length
  · rw [List.getElem?_append_left h, List.getElem?_append_left (by rw [Wl_len]; exact h), Wl_get]
  · rw [List.getElem?_append_right (by omega), List.getElem?_append_right (by rw [Wl_len]; omega), Wl_len, Wl_get]
    congr 1
    funext e
    rw [show b + ws.length + (i - ws.length) = b + i by omega]
theorem Wl_mem {b k : Nat} {ws : List va_E} {q : Nat × va_E} (h : (Wl b ws)[k]? = some q) : q.1 = b + k ∧ k < ws.length := by
  have h2 := (List.getElem?_eq_some_iff.mp h).1
  rw [Wl_len] at h2
  rw [Wl_get] at h
  cases hw : ws[k]? with
  | none => rw [hw] at h; cases h
  | some e => rw [hw] at h; cases h; exact ⟨rfl, h2⟩
theorem Wl_D (b : Nat) (ws : List va_E) : va_D (Ab b) (Wl b ws) := by
  refine ⟨fun i j p q hi hj h => ?_, fun k q hk => ?_⟩
  · have := (Wl_mem hi).1; have := (Wl_mem hj).1; omega
  · show b ≤ q.1
    have := (Wl_mem hk).1; omega
def EK (G : Gx) (U : State) : Prop := va_K G.1 vwCl (tysOf G.2.2.1) U ∧ Nst U ∧ va_AO "OddHay$Line" U ∧ va_AO "OddHay$Parish" U
theorem EK.warm {G : Gx} {s U : State} (hW : s.WarmedH U.vm) (h : EK G s) : EK G U := ⟨va_K.moved hW.alike h.1, h.2.1.warm hW, va_AO.moved hW.alike h.2.2.1, va_AO.moved hW.alike h.2.2.2⟩
def EnvN (M : MI) (p : Program) (s : State) (mid : MethodId) (args : Array Value) (meth : Method) (c : Code) (G : Gx) : Prop :=
  p.tables.exec = Jvm.exec ∧ c.code = M.2.1 ∧ c.maxLocals = M.2.2.1 ∧ s.vm.findClass M.1.cls = some mid.cls ∧ (∀ w ∈ TW, w.before args s = true) ∧ meth.sig.returnType = M.2.2.2.1 ∧ meth.locks = false ∧ meth.name = M.1.name ∧ EK G s
def CN (M : MI) (x : Cx) (b cs ss pc : Nat) (lv : List (Nat × Value)) (st : List Value) (ws : List va_E) : Prop :=
  EnvN M x.1 (xS x) x.2.2.2.2.2.1 x.2.2.2.2.2.2.1 x.2.2.2.2.2.2.2.2.1 x.2.2.2.2.2.2.2.2.2.1 (xG x) → (xS x).heap.size + cs = b + ws.length → b ≤ (xS x).heap.size → ∀ (H : Heap) (locs : List Loc) (ls : Array Slot), va_P (xG x).1 vwCl (Wl b ws) H → va_S (Ab b) (xS x).heap H locs → lv_has ls M.2.2.1 lv →
    W x.1 x.2.1 x.2.2.1 (xR x) (xS x) x.2.2.2.2.2.1 x.2.2.2.2.2.2.1 x.2.2.2.2.2.2.2.1 x.2.2.2.2.2.2.2.2.1 x.2.2.2.2.2.2.2.2.2.1 H locs cs ss x.2.2.2.2.2.2.2.2.2.2.2 (F0 x.2.2.2.2.2.1 pc ls st)
theorem en_size {D : va_G} {cl : List vw_C} {b cs n0 : Nat} {ws : List va_E} {H : Heap} (hz : n0 + cs = b + ws.length) (hb : b ≤ n0) (hP : va_P D cl (Wl b ws) H) (h1 : n0 ≤ H.size) (h2 : H.size ≤ n0 + cs) : H.size = b + ws.length := by
  rcases Nat.eq_zero_or_pos ws.length with h | h
  · omega
  · have hl : ws.length - 1 < ws.length := by omega
    have h3 := (hP (ws.length - 1) _ (Wl_at (List.getElem?_eq_getElem hl))).lt
    have h3 : b + (ws.length - 1) < H.size := h3
    omega
def dfs (N : Nat) (ty : Nat → FieldType) : List Value := (List.range N).map (fun j => defaultValue (ty j))
theorem dfs_V {N : Nat} {ty : Nat → FieldType} {j : Nat} (h : j < N) : defaultValue (ty j) = vp_V (dfs N ty) j := by simp [vp_V, dfs, h]
section
variable {M M' : MI} {x : Cx} {b cs ss pc n : Nat} {lv lv' : List (Nat × Value)} {st sk : List Value} {ws ws' : List va_E}
theorem N_aload_n {j : Fin 4} {i : Nat} {y : Nat} (hdg : decode M.2.1 pc = .ok (.aload_n j, 1)) (hn : pc + 1 = n) (hi : (j : Nat) = i) (q : Nat) (hq : lv[q]? = some (i, .ref y)) (h : CN M x b cs ss n lv (.ref y :: st) ws) : CN M x b cs ss pc lv st ws := by
  intro hE hz hb H locs ls hP hS hl
  subst hn
  exact lv_aload_n hE.1 hE.2.1 hdg hi (lv_at hl q hq) (h hE hz hb H locs ls hP hS hl)
theorem N_iload_n {j : Fin 4} {i : Nat} {y : Int32} (hdg : decode M.2.1 pc = .ok (.iload_n j, 1)) (hn : pc + 1 = n) (hi : (j : Nat) = i) (q : Nat) (hq : lv[q]? = some (i, .int y)) (h : CN M x b cs ss n lv (.int y :: st) ws) : CN M x b cs ss pc lv st ws := by
  intro hE hz hb H locs ls hP hS hl
  subst hn
  exact lv_iload_n hE.1 hE.2.1 hdg hi (lv_at hl q hq) (h hE hz hb H locs ls hP hS hl)
theorem N_iconst {z : Int} {v : Int32} (hdg : decode M.2.1 pc = .ok (.iconst z, 1)) (hn : pc + 1 = n) (hv : Int32.ofInt z = v) (h : CN M x b cs ss n lv (.int v :: st) ws) : CN M x b cs ss pc lv st ws := by
  intro hE hz hb H locs ls hP hS hl
  subst hn
  exact lv_iconst hE.1 hE.2.1 hdg hv (h hE hz hb H locs ls hP hS hl)
theorem N_bipush {z : Int} {v : Int32} (hdg : decode M.2.1 pc = .ok (.bipush z, 2)) (hn : pc + 2 = n) (hv : (Int8.ofInt z).toInt32 = v) (h : CN M x b cs ss n lv (.int v :: st) ws) : CN M x b cs ss pc lv st ws := by
  intro hE hz hb H locs ls hP hS hl
  subst hn
  exact lv_bipush hE.1 hE.2.1 hdg hv (h hE hz hb H locs ls hP hS hl)
theorem N_sipush {z : Int} {v : Int32} (hdg : decode M.2.1 pc = .ok (.sipush z, 3)) (hn : pc + 3 = n) (hv : (Int16.ofInt z).toInt32 = v) (h : CN M x b cs ss n lv (.int v :: st) ws) : CN M x b cs ss pc lv st ws := by
  intro hE hz hb H locs ls hP hS hl
  subst hn
  exact lv_sipush hE.1 hE.2.1 hdg hv (h hE hz hb H locs ls hP hS hl)
theorem N_ldc {ix : Nat} {v : Int32} (hdg : decode M.2.1 pc = .ok (.ldc ix, 2)) (hn : pc + 2 = n) (hv : Cond.constant M.1.cls ix v ∈ TW) (h : CN M x b cs ss n lv (.int v :: st) ws) : CN M x b cs ss pc lv st ws := by
  intro hE hz hb H locs ls hP hS hl
  subst hn
  exact lv_ldc hE.1 hE.2.1 hE.2.2.2.1 (hE.2.2.2.2.1 _ hv) hdg (h hE hz hb H locs ls hP hS hl)
theorem N_ldc2 {ix : Nat} {v : Int64} (hdg : decode M.2.1 pc = .ok (.ldc2_w ix, 3)) (hn : pc + 3 = n) (hv : Cond.constantLong M.1.cls ix v ∈ TW) (h : CN M x b cs ss n lv (.long v :: st) ws) : CN M x b cs ss pc lv st ws := by
  intro hE hz hb H locs ls hP hS hl
  subst hn
  exact lv_ldc2 hE.1 hE.2.1 hE.2.2.2.1 (hE.2.2.2.2.1 _ hv) hdg (h hE hz hb H locs ls hP hS hl)
theorem N_dup {y : Nat} (hdg : decode M.2.1 pc = .ok (.dup, 1)) (hn : pc + 1 = n) (h : CN M x b cs ss n lv (.ref y :: .ref y :: st) ws) : CN M x b cs ss pc lv (.ref y :: st) ws := by
  intro hE hz hb H locs ls hP hS hl
  subst hn
  exact lv_dup hE.1 hE.2.1 hdg rfl (h hE hz hb H locs ls hP hS hl)
theorem N_iadd {y z : Int32} (hdg : decode M.2.1 pc = .ok (.iadd, 1)) (hn : pc + 1 = n) (h : CN M x b cs ss n lv (.int (y + z) :: st) ws) : CN M x b cs ss pc lv (.int z :: .int y :: st) ws := by
  intro hE hz hb H locs ls hP hS hl
  subst hn
  exact lv_iadd hE.1 hE.2.1 hdg (h hE hz hb H locs ls hP hS hl)
theorem N_goto {off : Int} {t : Nat} (hdg : decode M.2.1 pc = .ok (.goto off, 3)) (ht : (pc : Int) + off = (t : Int)) (h : CN M x b cs ss t lv st ws) : CN M x b cs ss pc lv st ws := by
  intro hE hz hb H locs ls hP hS hl
  exact lv_goto hE.1 hE.2.1 hdg ht (h hE hz hb H locs ls hP hS hl)
theorem N_icmp_ge {y z : Int32} {off : Int} {t : Nat} (hdg : decode M.2.1 pc = .ok (.if_icmp .ge off, 3)) (hn : pc + 3 = n) (ht : (pc : Int) + off = (t : Int)) (kt : z ≤ y → CN M x b cs ss t lv st ws) (kf : ¬ z ≤ y → CN M x b cs ss n lv st ws) : CN M x b cs ss pc lv (.int z :: .int y :: st) ws := by
  intro hE hz hb H locs ls hP hS hl
  subst hn
  exact lv_icmp_ge hE.1 hE.2.1 hdg ht (fun hc => kt hc hE hz hb H locs ls hP hS hl) (fun hc => kf hc hE hz hb H locs ls hP hS hl)
theorem N_istore_n {j : Fin 4} {i : Nat} {y : Int32} (hdg : decode M.2.1 pc = .ok (.istore_n j, 1)) (hn : pc + 1 = n) (hi : (j : Nat) = i) (hz' : i < M.2.2.1) (ks : List Nat) (hp : lv_pick ((i, .int y) :: lv.filter (fun q => !(q.1 == i) && !(q.1 + 1 == i && q.2.category == 2))) ks = lv') (h : CN M x b cs ss n lv' st ws) : CN M x b cs ss pc lv (.int y :: st) ws := by
  intro hE hz hb H locs ls hP hS hl
  subst hn
  exact lv_istore_n hE.1 hE.2.1 hdg hi hl hz' rfl (fun ls' hl' => h hE hz hb H locs ls' hP hS (lv_sub hl' ks hp))
theorem N_iinc {i : Nat} {z : Int} {y v : Int32} (hdg : decode M.2.1 pc = .ok (.iinc i z, 3)) (hn : pc + 3 = n) (q : Nat) (hq : lv[q]? = some (i, .int y)) (hv : y + Int32.ofInt z = v) (hz' : i < M.2.2.1) (ks : List Nat) (hp : lv_pick ((i, .int v) :: lv.filter (fun q => !(q.1 == i) && !(q.1 + 1 == i && q.2.category == 2))) ks = lv') (h : CN M x b cs ss n lv' st ws) : CN M x b cs ss pc lv st ws := by
  intro hE hz hb H locs ls hP hS hl
  subst hn
  exact lv_iinc hE.1 hE.2.1 hdg hl hq hv hz' rfl (fun ls' hl' => h hE hz hb H locs ls' hP hS (lv_sub hl' ks hp))
theorem N_astore_n {j : Fin 4} {i : Nat} {y : Nat} (hdg : decode M.2.1 pc = .ok (.astore_n j, 1)) (hn : pc + 1 = n) (hi : (j : Nat) = i) (hz' : i < M.2.2.1) (ks : List Nat) (hp : lv_pick ((i, .ref y) :: lv.filter (fun q => !(q.1 == i) && !(q.1 + 1 == i && q.2.category == 2))) ks = lv') (h : CN M x b cs ss n lv' st ws) : CN M x b cs ss pc lv (.ref y :: st) ws := by
  intro hE hz hb H locs ls hP hS hl
  subst hn
  exact lv_astore_n hE.1 hE.2.1 hdg hi hl hz' rfl (fun ls' hl' => h hE hz hb H locs ls' hP hS (lv_sub hl' ks hp))
theorem N_istore {i : Nat} {y : Int32} (hdg : decode M.2.1 pc = .ok (.istore i, 2)) (hn : pc + 2 = n) (hz' : i < M.2.2.1) (ks : List Nat) (hp : lv_pick ((i, .int y) :: lv.filter (fun q => !(q.1 == i) && !(q.1 + 1 == i && q.2.category == 2))) ks = lv') (h : CN M x b cs ss n lv' st ws) : CN M x b cs ss pc lv (.int y :: st) ws := by
  intro hE hz hb H locs ls hP hS hl
  subst hn
  exact lv_istore hE.1 hE.2.1 hdg hl hz' rfl (fun ls' hl' => h hE hz hb H locs ls' hP hS (lv_sub hl' ks hp))
theorem N_obj {ix y : Nat} (hdg : decode M.2.1 pc = .ok (.invokespecial ix, 3)) (hn : pc + 3 = n) (hw : Cond.methodLink M.1.cls ix Lib.objectInit ∈ TW) (hf : 1 ≤ (xR x).frames ∧ (st.map fun v => v.category).sum + 12 ≤ (xR x).locals) (h : CN M x b cs ss n lv st ws) : CN M x b cs ss pc lv (.ref y :: st) ws := by
  obtain ⟨p, l, e, R, s, mid, args, below, meth, c, G, QQ⟩ := x
  intro hE hz hb H locs ls hP hS hl
  subst hn
  refine W.objInit hE.1 hE.2.1 hE.2.2.2.1 (hE.2.2.2.2.1 _ hw) (hE.2.2.2.2.1 _ tw_142) (hE.2.2.2.2.1 _ tw_143) (g := F0 mid pc ls (.ref y :: st)) rfl (hl.1.trans hE.2.2.1.symm) rfl hdg hf.1 (by show 2 * 0 + _ + 12 ≤ _; have := hf.2; omega) (h hE hz hb H locs ls hP hS hl)
theorem N_new {ix ci N k : Nat} {C : String} {T : u_T} {ty : Nat → FieldType} (hdg : decode M.2.1 pc = .ok (.new ix, 3)) (hn : pc + 3 = n) (f1 : vwCl[ci]? = some (C, T, N)) (f3 : ∀ w ∈ u_ws C T N, w ∈ TW) (f4 : ∀ k, k < N → parseFieldDescriptor (T k).2.2.1 = some (ty k)) (c1 : Cond.classLink M.1.cls ix C ∈ TW) (c2 : Cond.instantiable C N ∈ TW) (c3 : Cond.initialized C ∈ TW) (hr : cs + 1 ≤ (xR x).cells ∧ ss + N ≤ (xR x).slots) (hk : ws.length = k) (h : CN M x b (cs + 1) (ss + N) n lv (.ref (b + k) :: st) (ws ++ [.inr (ci, dfs N ty)])) : CN M x b cs ss pc lv st ws := by
  obtain ⟨p, l, e, R, s, mid, args, below, meth, c, G, QQ⟩ := x
  intro hE hz hb H locs ls hP hS hl T0 hT X
  subst hn
  subst hk
  have hsz := en_size hz hb hP hS.1 (by rw [← hT]; exact X.heapSize)
  have hTW := hE.2.2.2.2.1
  have hKn := hE.2.2.2.2.2.2.2.2.1.1 ci _ f1
  refine (W.newcK hE.1 hE.2.1 hE.2.2.2.1 (hTW _ c1) (hTW _ c2) (hTW _ c3) (g := F0 mid pc ls st) rfl hdg hr.1 hr.2 hKn.2.1 hsz fun H1 kC hkC e1 z1 o1 => ?_) T0 hT X
  have hkp : ∀ (k : Nat) (y : Nat × va_E), (Wl b ws)[k]? = some y → H1[y.1]? = H[y.1]? := fun k y hy => o1 y.1 (by have := (hP k y hy).lt; omega)
  refine h hE (by show s.heap.size + (cs + 1) = _; rw [List.length_append]; show _ = b + (ws.length + 1); have hz : s.heap.size + cs = b + ws.length := hz; omega) hb H1 locs ls ?_ ?_ hl
  · rw [Wl_app]
    refine (hP.kept hkp).app (fun k y hy => ?_)
    have hq := Wl_mem hy
    have hk0 : k = 0 := by have := hq.2; simp at this; exact this
    subst hk0
    cases hy
    exact ⟨_, f1, (u_born ty hTW f3 hKn hkC e1 f4).to (fun j hj => dfs_V hj)⟩
  · exact ⟨Nat.le_trans hS.1 (by omega), fun y h1 h2 => (o1 y (by have := hS.1; omega)).trans (hS.2.1 y h1 h2), hS.2.2⟩
theorem N_newa {atype : ArrayType} {ty : FieldType} {t N k : Nat} {n' : Int32} {a0 : vp_A} (hdg : decode M.2.1 pc = .ok (.newarray atype, 2)) (hn : pc + 2 = n) (hty : newarray.typeOf atype = ty) (ht : ∀ cA : Nat → ClassId, (tysOf cA)[t]? = some (cA t, ty)) (hw : Cond.arrayClass ty ∈ TW) (hra : ∀ U cA, va_RA U cA ty = (U.vm.findClass ("[" ++ ty.toString) = some cA)) (ha : ∀ cA : ClassId, vp_cell cA a0 = arrV cA N (fun _ => defaultValue ty)) (hnn : ¬ n' < 0) (hN : n'.toNatClampNeg = N) (hby : N * componentBytes ty ≤ 536870912) (hr : cs + 1 ≤ (xR x).cells ∧ ss + N ≤ (xR x).slots) (hk : ws.length = k) (h : CN M x b (cs + 1) (ss + N) n lv (.ref (b + k) :: st) (ws ++ [.inl ((xG x).2.2.1 t, a0)])) : CN M x b cs ss pc lv (.int n' :: st) ws := by
  obtain ⟨p, l, e, R, s, mid, args, below, meth, c, G, QQ⟩ := x
  intro hE hz hb H locs ls hP hS hl T0 hT X
  subst hn
  subst hk
  subst hty
  have hsz := en_size hz hb hP hS.1 (by rw [← hT]; exact X.heapSize)
  have hTW := hE.2.2.2.2.1
  have hKt := hE.2.2.2.2.2.2.2.2.1.2 t _ (ht G.2.2.1)
  refine (va_newaK hE.1 hE.2.1 (hTW _ hw) (g := F0 mid pc ls (.int n' :: st)) rfl hdg rfl hnn hN hby hr.1 hr.2 hsz fun H1 cA e1 z1 o1 hAr hNm => ?_) T0 hT X
  have hcA : cA = G.2.2.1 t := by
    have h2 := hKt.2
    rw [hra] at h2
    exact Option.some.inj (hNm.symm.trans h2)
  subst hcA
  have hkp : ∀ (k : Nat) (y : Nat × va_E), (Wl b ws)[k]? = some y → H1[y.1]? = H[y.1]? := fun k y hy => o1 y.1 (by have := (hP k y hy).lt; omega)
  refine h hE (by show s.heap.size + (cs + 1) = _; rw [List.length_append]; show _ = b + (ws.length + 1); have hz : s.heap.size + cs = b + ws.length := hz; omega) hb H1 locs ls ?_ ?_ hl
  · rw [Wl_app]
    refine (hP.kept hkp).app (fun k y hy => ?_)
    have hq := Wl_mem hy
    have hk0 : k = 0 := by have := hq.2; simp at this; exact this
    subst hk0
    cases hy
    show H1[b + ws.length]? = some (vp_cell _ _)
    rw [ha]
    exact e1
  · exact ⟨Nat.le_trans hS.1 (by omega), fun y h1 h2 => (o1 y (by have := hS.1; omega)).trans (hS.2.1 y h1 h2), hS.2.2⟩
theorem N_anew {C : String} {ix t N k : Nat} {n' : Int32} (hdg : decode M.2.1 pc = .ok (.anewarray ix, 3)) (hn : pc + 3 = n) (ht : ∀ cA : Nat → ClassId, (tysOf cA)[t]? = some (cA t, .object C)) (c1 : Cond.classLink M.1.cls ix C ∈ TW) (hao : ∀ U, EK (xG x) U → va_AO C U) (hnn : ¬ n' < 0) (hN : n'.toNatClampNeg = N) (hby : N * 4 ≤ 536870912) (hr : cs + 1 ≤ (xR x).cells ∧ ss + N ≤ (xR x).slots) (hk : ws.length = k) (h : CN M x b (cs + 1) (ss + N) n lv (.ref (b + k) :: st) (ws ++ [.inl ((xG x).2.2.1 t, N, .inr (.inr (.inr (.inr (fun _ => none)))))])) : CN M x b cs ss pc lv (.int n' :: st) ws := by
  obtain ⟨p, l, e, R, s, mid, args, below, meth, c, G, QQ⟩ := x
  intro hE hz hb H locs ls hP hS hl T0 hT X
  subst hn
  subst hk
  subst hN
  have hsz := en_size hz hb hP hS.1 (by rw [← hT]; exact X.heapSize)
  have hTW := hE.2.2.2.2.1
  obtain ⟨-, kA', comp', -, -, -, hfc⟩ := hE.2.2.2.2.2.2.2.2.1.2 t _ (ht G.2.2.1)
  refine (W.anew hE.1 hE.2.1 hE.2.2.2.1 (hTW _ c1) (va_AO.use (hao s hE.2.2.2.2.2.2.2.2)) (g := F0 mid pc ls (.int n' :: st)) rfl hdg rfl hnn hby hr.1 hr.2 fun cA kA comp f1 f2 f3 f4 => ?_) T0 hT X
  have hcA : cA = G.2.2.1 t := Option.some.inj (f1.symm.trans hfc)
  subst hcA
  generalize hH1 : H.push ({ cls := G.2.2.1 t, slots := Array.replicate n'.toNatClampNeg .null, vm := .none } : Cell) = H1
  have z1 : H1.size = H.size + 1 := by rw [← hH1, Array.size_push]
  have e1 : H1[H.size]? = some (arrV (G.2.2.1 t) n'.toNatClampNeg (fun _ => .null)) := by rw [← hH1, Array.getElem?_push_size, ← arrV_new]
  have o1 : ∀ q : Nat, q < H.size → H1[q]? = H[q]? := fun q hq => by rw [← hH1, Array.getElem?_push, if_neg (Nat.ne_of_lt hq)]
  have hkp : ∀ (k : Nat) (y : Nat × va_E), (Wl b ws)[k]? = some y → H1[y.1]? = H[y.1]? := fun k y hy => o1 y.1 ((hP k y hy).lt)
  rw [hsz] at e1 ⊢
  refine h hE (by show s.heap.size + (cs + 1) = _; rw [List.length_append]; show _ = b + (ws.length + 1); have hz : s.heap.size + cs = b + ws.length := hz; omega) hb H1 locs ls ?_ ?_ hl
  · rw [Wl_app]
    refine (hP.kept hkp).app (fun k y hy => ?_)
    have hq := Wl_mem hy
    have hk0 : k = 0 := by have := hq.2; simp at this; exact this
    subst hk0
    cases hy
    show H1[b + ws.length]? = some (vp_cell _ _)
    rw [vp_cell_q]
    exact e1
  · exact ⟨Nat.le_trans hS.1 (by omega), fun y h1 h2 => (o1 y (by have := hS.1; omega)).trans (hS.2.1 y h1 h2), hS.2.2⟩
def FPN (y : MethodName) (ix ci j : Nat) (t : FieldType) : Prop := ∃ (C : String) (T : u_T) (N : Nat) (ty : Nat → FieldType), vwCl[ci]? = some (C, T, N) ∧ j < N ∧ (∀ w ∈ u_ws C T N, w ∈ TW) ∧ (∀ k, k < N → parseFieldDescriptor (T k).2.2.1 = some (ty k)) ∧ (∀ a, a < N → ∀ b, b < N → a ≠ b → (T a).2.1 ≠ (T b).2.1) ∧ Cond.fieldLink y.cls ix (T j).1 (T j).2.1 (T j).2.2.1 ∈ TW ∧ ((T j).2.2.2 = false ∨ ((T j).2.2.2 = true ∧ y.name = "<init>" ∧ (T j).1 = y.cls)) ∧ ty j = t
theorem N_put {ix ci j q0 a : Nat} {t : FieldType} {v : Value} {fs : List Value} (hdg : decode M.2.1 pc = .ok (.putfield ix, 3)) (hn : pc + 3 = n) (hf : FPN M.1 ix ci j t) (hnar : narrow t v = v) (hfit : fits t v = true) (ha : b + q0 = a) (he : ws[q0]? = some (.inr (ci, fs))) (hl : j < fs.length) (hws : ws.set q0 (.inr (ci, fs.set j v)) = ws') (h : CN M x b cs ss n lv st ws') : CN M x b cs ss pc lv (v :: .ref a :: st) ws := by
  obtain ⟨p, l, e, R, s, mid, args, below, meth, c, G, QQ⟩ := x
  intro hE hz hb H locs ls hP hS hlv
  subst hn
  subst ha
  subst hws
  obtain ⟨C, T, N, ty, f1, f2, f3, f4, f5, f6, f7, rfl⟩ := hf
  have hTW := hE.2.2.2.2.1
  have hz' : s.heap.size + cs = b + (ws.set q0 (.inr (ci, fs.set j v))).length := by rw [List.length_set]; exact hz
  rcases f7 with f7 | ⟨f7, f8, f9⟩
  · refine va_put (own := M.1.cls) (ref := (T j).1) (C := C) (T := T) (N := N) (ci := ci) (index := ix) (Ts := TW) hE.1 hE.2.1 hTW f3 ty f4 f5 hE.2.2.2.1 hE.2.2.2.2.2.2.2.2.1 hP (Wl_D _ _) hS q0 (Wl_at he) f1 j f2 (hTW _ f6) (fun _ h => h) f7 (f4 j f2) hnar hfit hl hdg (fun H1 locs1 hP1 _ hS1 => ?_)
    rw [Wl_set] at hP1
    exact h hE hz' hb H1 locs1 ls hP1 hS1 hlv
  · refine va_putF (own := M.1.cls) (ref := (T j).1) (C := C) (T := T) (N := N) (ci := ci) (index := ix) (Ts := TW) hE.1 hE.2.1 hTW f3 ty f4 f5 hE.2.2.2.1 hE.2.2.2.2.2.2.2.2.1 hP (Wl_D _ _) hS q0 (Wl_at he) f1 j f2 (hTW _ f6) (fun _ h => h) f7 (hE.2.2.2.2.2.2.2.1.trans f8) f9 (f4 j f2) hnar hfit hl hdg (fun H1 locs1 hP1 _ hS1 => ?_)
    rw [Wl_set] at hP1
    exact h hE hz' hb H1 locs1 ls hP1 hS1 hlv
theorem N_get {ix ci j q0 a : Nat} {v : Value} {fs : List Value} (hdg : decode M.2.1 pc = .ok (.getfield ix, 3)) (hn : pc + 3 = n) (hf : FOk M.1.cls ix ci j) (ha : b + q0 = a) (he : ws[q0]? = some (.inr (ci, fs))) (hv : fs[j]? = some v) (h : CN M x b cs ss n lv (v :: st) ws) : CN M x b cs ss pc lv (.ref a :: st) ws := by
  obtain ⟨p, l, e, R, s, mid, args, below, meth, c, G, QQ⟩ := x
  intro hE hz hb H locs ls hP hS hlv
  subst hn
  subst ha
  obtain ⟨C, T, N, ty, f1, f2, f3, f4, f5, f6⟩ := hf
  have hTW := hE.2.2.2.2.1
  exact va_get (own := M.1.cls) (ref := (T j).1) (C := C) (T := T) (N := N) (ci := ci) (index := ix) (Ts := TW) hE.1 hE.2.1 hTW f3 hE.2.2.2.1 hE.2.2.2.2.2.2.2.2.1 hP q0 (Wl_at he) f1 j f2 (hTW _ f6) (fun _ h => h) hv hdg (h hE hz hb H locs ls hP hS hlv)
theorem N_iast {q0 a N : Nat} {f : Nat → Int32} {i v : Int32} (hdg : decode M.2.1 pc = .ok (.iastore, 1)) (hn : pc + 1 = n) (ha : b + q0 = a) (he : ws[q0]? = some (.inl ((xG x).2.2.1 0, N, .inl f))) (hi : inb i N) (hws : ws.set q0 (.inl ((xG x).2.2.1 0, N, .inl (upd f i.toNatClampNeg v))) = ws') (h : CN M x b cs ss n lv st ws') : CN M x b cs ss pc lv (.int v :: .int i :: .ref a :: st) ws := by
  obtain ⟨p, l, e, R, s, mid, args, below, meth, c, G, QQ⟩ := x
  intro hE hz hb H locs ls hP hS hlv
  subst hn
  subst ha
  subst hws
  refine va_iast hE.1 hE.2.1 hE.2.2.2.2.2.2.2.2.1 hP (Wl_D _ _) hS q0 0 (Wl_at he) rfl (inb_vp hi) hdg (fun H1 locs1 hP1 _ hS1 => ?_)
  rw [Wl_set] at hP1
  exact h hE (by rw [List.length_set]; exact hz) hb H1 locs1 ls hP1 hS1 hlv
theorem N_iald {q0 a N : Nat} {f : Nat → Int32} {i : Int32} (hdg : decode M.2.1 pc = .ok (.iaload, 1)) (hn : pc + 1 = n) (ha : b + q0 = a) (he : ws[q0]? = some (.inl ((xG x).2.2.1 0, N, .inl f))) (hi : inb i N) (h : CN M x b cs ss n lv (.int (f i.toNatClampNeg) :: st) ws) : CN M x b cs ss pc lv (.int i :: .ref a :: st) ws := by
  obtain ⟨p, l, e, R, s, mid, args, below, meth, c, G, QQ⟩ := x
  intro hE hz hb H locs ls hP hS hlv
  subst hn
  subst ha
  exact va_iald hE.1 hE.2.1 hE.2.2.2.2.2.2.2.2.1 hP q0 0 (Wl_at he) rfl (inb_vp hi) hdg (h hE hz hb H locs ls hP hS hlv)
theorem N_last {q0 a N : Nat} {f : Nat → Int64} {i : Int32} {v : Int64} (hdg : decode M.2.1 pc = .ok (.lastore, 1)) (hn : pc + 1 = n) (ha : b + q0 = a) (he : ws[q0]? = some (.inl ((xG x).2.2.1 1, N, .inr (.inl f)))) (hi : inb i N) (hws : ws.set q0 (.inl ((xG x).2.2.1 1, N, .inr (.inl (vp_updL f i.toNatClampNeg v)))) = ws') (h : CN M x b cs ss n lv st ws') : CN M x b cs ss pc lv (.long v :: .int i :: .ref a :: st) ws := by
  obtain ⟨p, l, e, R, s, mid, args, below, meth, c, G, QQ⟩ := x
  intro hE hz hb H locs ls hP hS hlv
  subst hn
  subst ha
  subst hws
  refine va_last hE.1 hE.2.1 hE.2.2.2.2.2.2.2.2.1 hP (Wl_D _ _) hS q0 1 (Wl_at he) rfl (inb_vp hi) hdg (fun H1 locs1 hP1 _ hS1 => ?_)
  rw [Wl_set] at hP1
  exact h hE (by rw [List.length_set]; exact hz) hb H1 locs1 ls hP1 hS1 hlv
theorem N_aast {q0 qk a v N t ci : Nat} {r : vw_C} {f : Nat → Option Nat} {vs : List Value} {i : Int32} (hdg : decode M.2.1 pc = .ok (.aastore, 1)) (hn : pc + 1 = n) (ha : b + q0 = a) (hav : b + qk = v) (he : ws[q0]? = some (.inl ((xG x).2.2.1 t, N, .inr (.inr (.inr (.inr f)))))) (hv : ws[qk]? = some (.inr (ci, vs))) (hc : vwCl[ci]? = some r) (ht : ∀ cA : Nat → ClassId, (tysOf cA)[t]? = some (cA t, .object r.1)) (hi : inb i N) (hws : ws.set q0 (.inl ((xG x).2.2.1 t, N, .inr (.inr (.inr (.inr (va_up f i.toNatClampNeg (some v))))))) = ws') (h : CN M x b cs ss n lv st ws') : CN M x b cs ss pc lv (.ref v :: .int i :: .ref a :: st) ws := by
  obtain ⟨p, l, e, R, s, mid, args, below, meth, c, G, QQ⟩ := x
  intro hE hz hb H locs ls hP hS hlv
  subst hn
  subst ha
  subst hav
  subst hws
  refine va_astq hE.1 hE.2.1 hE.2.2.2.2.2.2.2.2.1 hP (Wl_D _ _) hS q0 t qk ci (Wl_at he) (ht G.2.2.1) (Wl_at hv) hc (inb_vp hi) hdg (fun H1 locs1 hP1 _ hS1 => ?_)
  rw [Wl_set] at hP1
  exact h hE (by rw [List.length_set]; exact hz) hb H1 locs1 ls hP1 hS1 hlv
end

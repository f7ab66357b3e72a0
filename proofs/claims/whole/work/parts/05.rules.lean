theorem E_iconst {M : MI} {pc n : Nat} {lv : List (Nat × Value)} {st : List Value} {m : Mem} {Q : Option Value → Mem → Prop} {z : Int} {v : Int32} (k : Nat) (hd : M.2.2.2.2.2.2[k]? = some (pc, .iconst z, 1)) (hn : pc + 1 = n) (hv : Int32.ofInt z = v) (h : E M n lv (.int v :: st) m Q) : E M pc lv (st) m Q := by
  intro g p l e s mid args below meth c H locs G ls hE hw hl
  subst hn
  exact lv_iconst hE.1 hE.2.1 (gdec g hd) hv (h g p l e s mid args below meth c H locs G ls hE hw hl)
theorem E_bipush {M : MI} {pc n : Nat} {lv : List (Nat × Value)} {st : List Value} {m : Mem} {Q : Option Value → Mem → Prop} {z : Int} {v : Int32} (k : Nat) (hd : M.2.2.2.2.2.2[k]? = some (pc, .bipush z, 2)) (hn : pc + 2 = n) (hv : (Int8.ofInt z).toInt32 = v) (h : E M n lv (.int v :: st) m Q) : E M pc lv (st) m Q := by
  intro g p l e s mid args below meth c H locs G ls hE hw hl
  subst hn
  exact lv_bipush hE.1 hE.2.1 (gdec g hd) hv (h g p l e s mid args below meth c H locs G ls hE hw hl)
theorem E_sipush {M : MI} {pc n : Nat} {lv : List (Nat × Value)} {st : List Value} {m : Mem} {Q : Option Value → Mem → Prop} {z : Int} {v : Int32} (k : Nat) (hd : M.2.2.2.2.2.2[k]? = some (pc, .sipush z, 3)) (hn : pc + 3 = n) (hv : (Int16.ofInt z).toInt32 = v) (h : E M n lv (.int v :: st) m Q) : E M pc lv (st) m Q := by
  intro g p l e s mid args below meth c H locs G ls hE hw hl
  subst hn
  exact lv_sipush hE.1 hE.2.1 (gdec g hd) hv (h g p l e s mid args below meth c H locs G ls hE hw hl)
theorem E_lconst {M : MI} {pc n : Nat} {lv : List (Nat × Value)} {st : List Value} {m : Mem} {Q : Option Value → Mem → Prop} {z : Fin 2} {v : Int64} (k : Nat) (hd : M.2.2.2.2.2.2[k]? = some (pc, .lconst z, 1)) (hn : pc + 1 = n) (hv : Int64.ofNat (z : Nat) = v) (h : E M n lv (.long v :: st) m Q) : E M pc lv (st) m Q := by
  intro g p l e s mid args below meth c H locs G ls hE hw hl
  subst hn
  exact lv_lconst hE.1 hE.2.1 (gdec g hd) hv (h g p l e s mid args below meth c H locs G ls hE hw hl)
theorem E_ldc {M : MI} {pc n : Nat} {lv : List (Nat × Value)} {st : List Value} {m : Mem} {Q : Option Value → Mem → Prop} {ix : Nat} {v : Int32} (k : Nat) (hd : M.2.2.2.2.2.2[k]? = some (pc, .ldc ix, 2)) (hn : pc + 2 = n) (hv : Cond.constant M.1.cls ix v ∈ TW) (h : E M n lv (.int v :: st) m Q) : E M pc lv (st) m Q := by
  intro g p l e s mid args below meth c H locs G ls hE hw hl
  subst hn
  exact lv_ldc hE.1 hE.2.1 hE.2.2.2.1 (hE.2.2.2.2.1 _ hv) (gdec g hd) (h g p l e s mid args below meth c H locs G ls hE hw hl)
theorem E_ldcw {M : MI} {pc n : Nat} {lv : List (Nat × Value)} {st : List Value} {m : Mem} {Q : Option Value → Mem → Prop} {ix : Nat} {v : Int32} (k : Nat) (hd : M.2.2.2.2.2.2[k]? = some (pc, .ldc_w ix, 3)) (hn : pc + 3 = n) (hv : Cond.constant M.1.cls ix v ∈ TW) (h : E M n lv (.int v :: st) m Q) : E M pc lv (st) m Q := by
  intro g p l e s mid args below meth c H locs G ls hE hw hl
  subst hn
  exact lv_ldcw hE.1 hE.2.1 hE.2.2.2.1 (hE.2.2.2.2.1 _ hv) (gdec g hd) (h g p l e s mid args below meth c H locs G ls hE hw hl)
theorem E_ldc2 {M : MI} {pc n : Nat} {lv : List (Nat × Value)} {st : List Value} {m : Mem} {Q : Option Value → Mem → Prop} {ix : Nat} {v : Int64} (k : Nat) (hd : M.2.2.2.2.2.2[k]? = some (pc, .ldc2_w ix, 3)) (hn : pc + 3 = n) (hv : Cond.constantLong M.1.cls ix v ∈ TW) (h : E M n lv (.long v :: st) m Q) : E M pc lv (st) m Q := by
  intro g p l e s mid args below meth c H locs G ls hE hw hl
  subst hn
  exact lv_ldc2 hE.1 hE.2.1 hE.2.2.2.1 (hE.2.2.2.2.1 _ hv) (gdec g hd) (h g p l e s mid args below meth c H locs G ls hE hw hl)
theorem E_iload_n {M : MI} {pc n : Nat} {lv : List (Nat × Value)} {st : List Value} {m : Mem} {Q : Option Value → Mem → Prop} {j : Fin 4} {i : Nat} {x : Int32} (k : Nat) (hd : M.2.2.2.2.2.2[k]? = some (pc, .iload_n j, 1)) (hn : pc + 1 = n) (hi : (j : Nat) = i) (q : Nat) (hq : lv[q]? = some (i, .int x)) (h : E M n lv (.int x :: st) m Q) : E M pc lv (st) m Q := by
  intro g p l e s mid args below meth c H locs G ls hE hw hl
  subst hn
  exact lv_iload_n hE.1 hE.2.1 (gdec g hd) hi (lv_at hl q (lc_at G.2.1 hq)) (h g p l e s mid args below meth c H locs G ls hE hw hl)
theorem E_iload {M : MI} {pc n : Nat} {lv : List (Nat × Value)} {st : List Value} {m : Mem} {Q : Option Value → Mem → Prop} {i : Nat} {x : Int32} (k : Nat) (hd : M.2.2.2.2.2.2[k]? = some (pc, .iload i, 2)) (hn : pc + 2 = n) (q : Nat) (hq : lv[q]? = some (i, .int x)) (h : E M n lv (.int x :: st) m Q) : E M pc lv (st) m Q := by
  intro g p l e s mid args below meth c H locs G ls hE hw hl
  subst hn
  exact lv_iload hE.1 hE.2.1 (gdec g hd) (lv_at hl q (lc_at G.2.1 hq)) (h g p l e s mid args below meth c H locs G ls hE hw hl)
theorem E_lload_n {M : MI} {pc n : Nat} {lv : List (Nat × Value)} {st : List Value} {m : Mem} {Q : Option Value → Mem → Prop} {j : Fin 4} {i : Nat} {x : Int64} (k : Nat) (hd : M.2.2.2.2.2.2[k]? = some (pc, .lload_n j, 1)) (hn : pc + 1 = n) (hi : (j : Nat) = i) (q : Nat) (hq : lv[q]? = some (i, .long x)) (h : E M n lv (.long x :: st) m Q) : E M pc lv (st) m Q := by
  intro g p l e s mid args below meth c H locs G ls hE hw hl
  subst hn
  exact lv_lload_n hE.1 hE.2.1 (gdec g hd) hi (lv_at hl q (lc_at G.2.1 hq)) (h g p l e s mid args below meth c H locs G ls hE hw hl)
theorem E_lload {M : MI} {pc n : Nat} {lv : List (Nat × Value)} {st : List Value} {m : Mem} {Q : Option Value → Mem → Prop} {i : Nat} {x : Int64} (k : Nat) (hd : M.2.2.2.2.2.2[k]? = some (pc, .lload i, 2)) (hn : pc + 2 = n) (q : Nat) (hq : lv[q]? = some (i, .long x)) (h : E M n lv (.long x :: st) m Q) : E M pc lv (st) m Q := by
  intro g p l e s mid args below meth c H locs G ls hE hw hl
  subst hn
  exact lv_lload hE.1 hE.2.1 (gdec g hd) (lv_at hl q (lc_at G.2.1 hq)) (h g p l e s mid args below meth c H locs G ls hE hw hl)
theorem E_aload_n {M : MI} {pc n : Nat} {lv : List (Nat × Value)} {st : List Value} {m : Mem} {Q : Option Value → Mem → Prop} {j : Fin 4} {i : Nat} {x : Nat} (k : Nat) (hd : M.2.2.2.2.2.2[k]? = some (pc, .aload_n j, 1)) (hn : pc + 1 = n) (hi : (j : Nat) = i) (q : Nat) (hq : lv[q]? = some (i, .ref x)) (h : E M n lv (.ref x :: st) m Q) : E M pc lv (st) m Q := by
  intro g p l e s mid args below meth c H locs G ls hE hw hl
  subst hn
  exact lv_aload_n hE.1 hE.2.1 (gdec g hd) hi (lv_at hl q (lc_at G.2.1 hq)) (h g p l e s mid args below meth c H locs G ls hE hw hl)
theorem E_aload {M : MI} {pc n : Nat} {lv : List (Nat × Value)} {st : List Value} {m : Mem} {Q : Option Value → Mem → Prop} {i : Nat} {x : Nat} (k : Nat) (hd : M.2.2.2.2.2.2[k]? = some (pc, .aload i, 2)) (hn : pc + 2 = n) (q : Nat) (hq : lv[q]? = some (i, .ref x)) (h : E M n lv (.ref x :: st) m Q) : E M pc lv (st) m Q := by
  intro g p l e s mid args below meth c H locs G ls hE hw hl
  subst hn
  exact lv_aload hE.1 hE.2.1 (gdec g hd) (lv_at hl q (lc_at G.2.1 hq)) (h g p l e s mid args below meth c H locs G ls hE hw hl)
theorem E_istore_n {M : MI} {pc n : Nat} {lv : List (Nat × Value)} {st : List Value} {m : Mem} {Q : Option Value → Mem → Prop} {j : Fin 4} {i : Nat} {x : Int32} {lv' : List (Nat × Value)} (k : Nat) (hd : M.2.2.2.2.2.2[k]? = some (pc, .istore_n j, 1)) (hn : pc + 1 = n) (hi : (j : Nat) = i) (hz : i < M.2.2.1) (ks : List Nat) (hp : lv_pick ((i, .int x) :: lv.filter (fun q => !(q.1 == i) && !(q.1 + 1 == i && q.2.category == 2))) ks = lv') (h : E M n lv' st m Q) : E M pc lv (.int x :: st) m Q := by
  intro g p l e s mid args below meth c H locs G ls hE hw hl
  subst hn
  refine lv_istore_n hE.1 hE.2.1 (gdec g hd) hi hl hz rfl (fun ls' hl' => h g p l e s mid args below meth c H locs G ls' hE hw ?_)
  rw [lc_filter G.2.1 lv _ (fun q => by simp [lc, cv_cat])] at hl'
  exact lc_has (lv := (i, .int x) :: lv.filter (fun q => !(q.1 == i) && !(q.1 + 1 == i && q.2.category == 2))) ks hl' hp
theorem E_istore {M : MI} {pc n : Nat} {lv : List (Nat × Value)} {st : List Value} {m : Mem} {Q : Option Value → Mem → Prop} {i : Nat} {x : Int32} {lv' : List (Nat × Value)} (k : Nat) (hd : M.2.2.2.2.2.2[k]? = some (pc, .istore i, 2)) (hn : pc + 2 = n) (hz : i < M.2.2.1) (ks : List Nat) (hp : lv_pick ((i, .int x) :: lv.filter (fun q => !(q.1 == i) && !(q.1 + 1 == i && q.2.category == 2))) ks = lv') (h : E M n lv' st m Q) : E M pc lv (.int x :: st) m Q := by
  intro g p l e s mid args below meth c H locs G ls hE hw hl
  subst hn
  refine lv_istore hE.1 hE.2.1 (gdec g hd) hl hz rfl (fun ls' hl' => h g p l e s mid args below meth c H locs G ls' hE hw ?_)
  rw [lc_filter G.2.1 lv _ (fun q => by simp [lc, cv_cat])] at hl'
  exact lc_has (lv := (i, .int x) :: lv.filter (fun q => !(q.1 == i) && !(q.1 + 1 == i && q.2.category == 2))) ks hl' hp
theorem E_lstore_n {M : MI} {pc n : Nat} {lv : List (Nat × Value)} {st : List Value} {m : Mem} {Q : Option Value → Mem → Prop} {j : Fin 4} {i : Nat} {x : Int64} {lv' : List (Nat × Value)} (k : Nat) (hd : M.2.2.2.2.2.2[k]? = some (pc, .lstore_n j, 1)) (hn : pc + 1 = n) (hi : (j : Nat) = i) (hz : i + 1 < M.2.2.1) (ks : List Nat) (hp : lv_pick ((i, .long x) :: lv.filter (fun q => !(q.1 == i) && (!(q.1 == i + 1) && !(q.1 + 1 == i && q.2.category == 2)))) ks = lv') (h : E M n lv' st m Q) : E M pc lv (.long x :: st) m Q := by
  intro g p l e s mid args below meth c H locs G ls hE hw hl
  subst hn
  refine lv_lstore_n hE.1 hE.2.1 (gdec g hd) hi hl hz rfl (fun ls' hl' => h g p l e s mid args below meth c H locs G ls' hE hw ?_)
  rw [lc_filter G.2.1 lv _ (fun q => by simp [lc, cv_cat])] at hl'
  exact lc_has (lv := (i, .long x) :: lv.filter (fun q => !(q.1 == i) && (!(q.1 == i + 1) && !(q.1 + 1 == i && q.2.category == 2)))) ks hl' hp
theorem E_lstore {M : MI} {pc n : Nat} {lv : List (Nat × Value)} {st : List Value} {m : Mem} {Q : Option Value → Mem → Prop} {i : Nat} {x : Int64} {lv' : List (Nat × Value)} (k : Nat) (hd : M.2.2.2.2.2.2[k]? = some (pc, .lstore i, 2)) (hn : pc + 2 = n) (hz : i + 1 < M.2.2.1) (ks : List Nat) (hp : lv_pick ((i, .long x) :: lv.filter (fun q => !(q.1 == i) && (!(q.1 == i + 1) && !(q.1 + 1 == i && q.2.category == 2)))) ks = lv') (h : E M n lv' st m Q) : E M pc lv (.long x :: st) m Q := by
  intro g p l e s mid args below meth c H locs G ls hE hw hl
  subst hn
  refine lv_lstore hE.1 hE.2.1 (gdec g hd) hl hz rfl (fun ls' hl' => h g p l e s mid args below meth c H locs G ls' hE hw ?_)
  rw [lc_filter G.2.1 lv _ (fun q => by simp [lc, cv_cat])] at hl'
  exact lc_has (lv := (i, .long x) :: lv.filter (fun q => !(q.1 == i) && (!(q.1 == i + 1) && !(q.1 + 1 == i && q.2.category == 2)))) ks hl' hp
theorem E_astore_n {M : MI} {pc n : Nat} {lv : List (Nat × Value)} {st : List Value} {m : Mem} {Q : Option Value → Mem → Prop} {j : Fin 4} {i : Nat} {x : Nat} {lv' : List (Nat × Value)} (k : Nat) (hd : M.2.2.2.2.2.2[k]? = some (pc, .astore_n j, 1)) (hn : pc + 1 = n) (hi : (j : Nat) = i) (hz : i < M.2.2.1) (ks : List Nat) (hp : lv_pick ((i, .ref x) :: lv.filter (fun q => !(q.1 == i) && !(q.1 + 1 == i && q.2.category == 2))) ks = lv') (h : E M n lv' st m Q) : E M pc lv (.ref x :: st) m Q := by
  intro g p l e s mid args below meth c H locs G ls hE hw hl
  subst hn
  refine lv_astore_n hE.1 hE.2.1 (gdec g hd) hi hl hz rfl (fun ls' hl' => h g p l e s mid args below meth c H locs G ls' hE hw ?_)
  rw [lc_filter G.2.1 lv _ (fun q => by simp [lc, cv_cat])] at hl'
  exact lc_has (lv := (i, .ref x) :: lv.filter (fun q => !(q.1 == i) && !(q.1 + 1 == i && q.2.category == 2))) ks hl' hp
theorem E_astore {M : MI} {pc n : Nat} {lv : List (Nat × Value)} {st : List Value} {m : Mem} {Q : Option Value → Mem → Prop} {i : Nat} {x : Nat} {lv' : List (Nat × Value)} (k : Nat) (hd : M.2.2.2.2.2.2[k]? = some (pc, .astore i, 2)) (hn : pc + 2 = n) (hz : i < M.2.2.1) (ks : List Nat) (hp : lv_pick ((i, .ref x) :: lv.filter (fun q => !(q.1 == i) && !(q.1 + 1 == i && q.2.category == 2))) ks = lv') (h : E M n lv' st m Q) : E M pc lv (.ref x :: st) m Q := by
  intro g p l e s mid args below meth c H locs G ls hE hw hl
  subst hn
  refine lv_astore hE.1 hE.2.1 (gdec g hd) hl hz rfl (fun ls' hl' => h g p l e s mid args below meth c H locs G ls' hE hw ?_)
  rw [lc_filter G.2.1 lv _ (fun q => by simp [lc, cv_cat])] at hl'
  exact lc_has (lv := (i, .ref x) :: lv.filter (fun q => !(q.1 == i) && !(q.1 + 1 == i && q.2.category == 2))) ks hl' hp
theorem E_iinc {M : MI} {pc n : Nat} {lv : List (Nat × Value)} {st : List Value} {m : Mem} {Q : Option Value → Mem → Prop} {i : Nat} {z : Int} {x v : Int32} {lv' : List (Nat × Value)} (k : Nat) (hd : M.2.2.2.2.2.2[k]? = some (pc, .iinc i z, 3)) (hn : pc + 3 = n) (q : Nat) (hq : lv[q]? = some (i, .int x)) (hv : x + Int32.ofInt z = v) (hz : i < M.2.2.1) (ks : List Nat) (hp : lv_pick ((i, .int v) :: lv.filter (fun q => !(q.1 == i) && !(q.1 + 1 == i && q.2.category == 2))) ks = lv') (h : E M n lv' st m Q) : E M pc lv st m Q := by
  intro g p l e s mid args below meth c H locs G ls hE hw hl
  subst hn
  refine lv_iinc hE.1 hE.2.1 (gdec g hd) hl (lc_at G.2.1 hq) hv hz rfl (fun ls' hl' => h g p l e s mid args below meth c H locs G ls' hE hw ?_)
  rw [lc_filter G.2.1 lv _ (fun q => by simp [lc, cv_cat])] at hl'
  exact lc_has (lv := (i, .int v) :: lv.filter (fun q => !(q.1 == i) && !(q.1 + 1 == i && q.2.category == 2))) ks hl' hp
theorem E_sub {M : MI} {pc : Nat} {lv lv' : List (Nat × Value)} {st : List Value} {m : Mem} {Q : Option Value → Mem → Prop} (ks : List Nat) (hp : lv_pick lv ks = lv') (h : E M pc lv' st m Q) : E M pc lv st m Q := fun g p l e s mid args below meth c H locs G ls hE hw hl => h g p l e s mid args below meth c H locs G ls hE hw (lc_has ks hl hp)
theorem E_dup {M : MI} {pc n : Nat} {lv : List (Nat × Value)} {st : List Value} {m : Mem} {Q : Option Value → Mem → Prop} {v : Value} (k : Nat) (hd : M.2.2.2.2.2.2[k]? = some (pc, .dup, 1)) (hn : pc + 1 = n) (hc : v.category = 1) (h : E M n lv (v :: v :: st) m Q) : E M pc lv (v :: st) m Q := by
  intro g p l e s mid args below meth c H locs G ls hE hw hl
  subst hn
  exact lv_dup hE.1 hE.2.1 (gdec g hd) (by rw [cv_cat]; exact hc) (h g p l e s mid args below meth c H locs G ls hE hw hl)
theorem E_pop {M : MI} {pc n : Nat} {lv : List (Nat × Value)} {st : List Value} {m : Mem} {Q : Option Value → Mem → Prop} {v : Value} (k : Nat) (hd : M.2.2.2.2.2.2[k]? = some (pc, .pop, 1)) (hn : pc + 1 = n) (hc : v.category = 1) (h : E M n lv (st) m Q) : E M pc lv (v :: st) m Q := by
  intro g p l e s mid args below meth c H locs G ls hE hw hl
  subst hn
  exact lv_pop hE.1 hE.2.1 (gdec g hd) (by rw [cv_cat]; exact hc) (h g p l e s mid args below meth c H locs G ls hE hw hl)
theorem E_dup2 {M : MI} {pc n : Nat} {lv : List (Nat × Value)} {st : List Value} {m : Mem} {Q : Option Value → Mem → Prop} {v w : Value} (k : Nat) (hd : M.2.2.2.2.2.2[k]? = some (pc, .dup2, 1)) (hn : pc + 1 = n) (hc : v.category = 1) (hc2 : w.category = 1) (h : E M n lv (v :: w :: v :: w :: st) m Q) : E M pc lv (v :: w :: st) m Q := by
  intro g p l e s mid args below meth c H locs G ls hE hw hl
  subst hn
  exact lv_dup2_11 hE.1 hE.2.1 (gdec g hd) (by rw [cv_cat]; exact hc) (by rw [cv_cat]; exact hc2) (h g p l e s mid args below meth c H locs G ls hE hw hl)
theorem E_iadd {M : MI} {pc n : Nat} {lv : List (Nat × Value)} {st : List Value} {m : Mem} {Q : Option Value → Mem → Prop} {x y : Int32} (k : Nat) (hd : M.2.2.2.2.2.2[k]? = some (pc, .iadd, 1)) (hn : pc + 1 = n) (h : E M n lv (.int (x + y) :: st) m Q) : E M pc lv (.int y :: .int x :: st) m Q := by
  intro g p l e s mid args below meth c H locs G ls hE hw hl
  subst hn
  exact lv_iadd hE.1 hE.2.1 (gdec g hd) (h g p l e s mid args below meth c H locs G ls hE hw hl)
theorem E_isub {M : MI} {pc n : Nat} {lv : List (Nat × Value)} {st : List Value} {m : Mem} {Q : Option Value → Mem → Prop} {x y : Int32} (k : Nat) (hd : M.2.2.2.2.2.2[k]? = some (pc, .isub, 1)) (hn : pc + 1 = n) (h : E M n lv (.int (x - y) :: st) m Q) : E M pc lv (.int y :: .int x :: st) m Q := by
  intro g p l e s mid args below meth c H locs G ls hE hw hl
  subst hn
  exact lv_isub hE.1 hE.2.1 (gdec g hd) (h g p l e s mid args below meth c H locs G ls hE hw hl)
theorem E_imul {M : MI} {pc n : Nat} {lv : List (Nat × Value)} {st : List Value} {m : Mem} {Q : Option Value → Mem → Prop} {x y : Int32} (k : Nat) (hd : M.2.2.2.2.2.2[k]? = some (pc, .imul, 1)) (hn : pc + 1 = n) (h : E M n lv (.int (x * y) :: st) m Q) : E M pc lv (.int y :: .int x :: st) m Q := by
  intro g p l e s mid args below meth c H locs G ls hE hw hl
  subst hn
  exact lv_imul hE.1 hE.2.1 (gdec g hd) (h g p l e s mid args below meth c H locs G ls hE hw hl)
theorem E_iand {M : MI} {pc n : Nat} {lv : List (Nat × Value)} {st : List Value} {m : Mem} {Q : Option Value → Mem → Prop} {x y : Int32} (k : Nat) (hd : M.2.2.2.2.2.2[k]? = some (pc, .iand, 1)) (hn : pc + 1 = n) (h : E M n lv (.int (x &&& y) :: st) m Q) : E M pc lv (.int y :: .int x :: st) m Q := by
  intro g p l e s mid args below meth c H locs G ls hE hw hl
  subst hn
  exact lv_iand hE.1 hE.2.1 (gdec g hd) (h g p l e s mid args below meth c H locs G ls hE hw hl)
theorem E_ior {M : MI} {pc n : Nat} {lv : List (Nat × Value)} {st : List Value} {m : Mem} {Q : Option Value → Mem → Prop} {x y : Int32} (k : Nat) (hd : M.2.2.2.2.2.2[k]? = some (pc, .ior, 1)) (hn : pc + 1 = n) (h : E M n lv (.int (x ||| y) :: st) m Q) : E M pc lv (.int y :: .int x :: st) m Q := by
  intro g p l e s mid args below meth c H locs G ls hE hw hl
  subst hn
  exact lv_ior hE.1 hE.2.1 (gdec g hd) (h g p l e s mid args below meth c H locs G ls hE hw hl)
theorem E_ixor {M : MI} {pc n : Nat} {lv : List (Nat × Value)} {st : List Value} {m : Mem} {Q : Option Value → Mem → Prop} {x y : Int32} (k : Nat) (hd : M.2.2.2.2.2.2[k]? = some (pc, .ixor, 1)) (hn : pc + 1 = n) (h : E M n lv (.int (x ^^^ y) :: st) m Q) : E M pc lv (.int y :: .int x :: st) m Q := by
  intro g p l e s mid args below meth c H locs G ls hE hw hl
  subst hn
  exact lv_ixor hE.1 hE.2.1 (gdec g hd) (h g p l e s mid args below meth c H locs G ls hE hw hl)
theorem E_ishl {M : MI} {pc n : Nat} {lv : List (Nat × Value)} {st : List Value} {m : Mem} {Q : Option Value → Mem → Prop} {x y : Int32} (k : Nat) (hd : M.2.2.2.2.2.2[k]? = some (pc, .ishl, 1)) (hn : pc + 1 = n) (h : E M n lv (.int (x <<< (y &&& 31)) :: st) m Q) : E M pc lv (.int y :: .int x :: st) m Q := by
  intro g p l e s mid args below meth c H locs G ls hE hw hl
  subst hn
  exact lv_ishl hE.1 hE.2.1 (gdec g hd) (h g p l e s mid args below meth c H locs G ls hE hw hl)
theorem E_ishr {M : MI} {pc n : Nat} {lv : List (Nat × Value)} {st : List Value} {m : Mem} {Q : Option Value → Mem → Prop} {x y : Int32} (k : Nat) (hd : M.2.2.2.2.2.2[k]? = some (pc, .ishr, 1)) (hn : pc + 1 = n) (h : E M n lv (.int (x >>> (y &&& 31)) :: st) m Q) : E M pc lv (.int y :: .int x :: st) m Q := by
  intro g p l e s mid args below meth c H locs G ls hE hw hl
  subst hn
  exact lv_ishr hE.1 hE.2.1 (gdec g hd) (h g p l e s mid args below meth c H locs G ls hE hw hl)
theorem E_iushr {M : MI} {pc n : Nat} {lv : List (Nat × Value)} {st : List Value} {m : Mem} {Q : Option Value → Mem → Prop} {x y : Int32} (k : Nat) (hd : M.2.2.2.2.2.2[k]? = some (pc, .iushr, 1)) (hn : pc + 1 = n) (h : E M n lv (.int ((x.toUInt32 >>> (y.toUInt32 &&& Int32.toUInt32 31)).toInt32) :: st) m Q) : E M pc lv (.int y :: .int x :: st) m Q := by
  intro g p l e s mid args below meth c H locs G ls hE hw hl
  subst hn
  exact lv_iushr hE.1 hE.2.1 (gdec g hd) rfl (h g p l e s mid args below meth c H locs G ls hE hw hl)
theorem E_idiv {M : MI} {pc n : Nat} {lv : List (Nat × Value)} {st : List Value} {m : Mem} {Q : Option Value → Mem → Prop} {x y : Int32} (k : Nat) (hd : M.2.2.2.2.2.2[k]? = some (pc, .idiv, 1)) (hn : pc + 1 = n) (hy : ¬ y = 0) (h : E M n lv (.int (x / y) :: st) m Q) : E M pc lv (.int y :: .int x :: st) m Q := by
  intro g p l e s mid args below meth c H locs G ls hE hw hl
  subst hn
  exact lv_idiv hE.1 hE.2.1 (gdec g hd) hy (h g p l e s mid args below meth c H locs G ls hE hw hl)
theorem E_irem {M : MI} {pc n : Nat} {lv : List (Nat × Value)} {st : List Value} {m : Mem} {Q : Option Value → Mem → Prop} {x y : Int32} (k : Nat) (hd : M.2.2.2.2.2.2[k]? = some (pc, .irem, 1)) (hn : pc + 1 = n) (hy : ¬ y = 0) (h : E M n lv (.int (x - x / y * y) :: st) m Q) : E M pc lv (.int y :: .int x :: st) m Q := by
  intro g p l e s mid args below meth c H locs G ls hE hw hl
  subst hn
  exact lv_irem hE.1 hE.2.1 (gdec g hd) hy (h g p l e s mid args below meth c H locs G ls hE hw hl)
theorem E_ineg {M : MI} {pc n : Nat} {lv : List (Nat × Value)} {st : List Value} {m : Mem} {Q : Option Value → Mem → Prop} {x : Int32} (k : Nat) (hd : M.2.2.2.2.2.2[k]? = some (pc, .ineg, 1)) (hn : pc + 1 = n) (h : E M n lv (.int (-x) :: st) m Q) : E M pc lv (.int x :: st) m Q := by
  intro g p l e s mid args below meth c H locs G ls hE hw hl
  subst hn
  exact lv_ineg hE.1 hE.2.1 (gdec g hd) (h g p l e s mid args below meth c H locs G ls hE hw hl)
theorem E_i2l {M : MI} {pc n : Nat} {lv : List (Nat × Value)} {st : List Value} {m : Mem} {Q : Option Value → Mem → Prop} {x : Int32} (k : Nat) (hd : M.2.2.2.2.2.2[k]? = some (pc, .i2l, 1)) (hn : pc + 1 = n) (h : E M n lv (.long x.toInt64 :: st) m Q) : E M pc lv (.int x :: st) m Q := by
  intro g p l e s mid args below meth c H locs G ls hE hw hl
  subst hn
  exact lv_i2l hE.1 hE.2.1 (gdec g hd) rfl (h g p l e s mid args below meth c H locs G ls hE hw hl)
theorem E_l2i {M : MI} {pc n : Nat} {lv : List (Nat × Value)} {st : List Value} {m : Mem} {Q : Option Value → Mem → Prop} {x : Int64} (k : Nat) (hd : M.2.2.2.2.2.2[k]? = some (pc, .l2i, 1)) (hn : pc + 1 = n) (h : E M n lv (.int x.toInt32 :: st) m Q) : E M pc lv (.long x :: st) m Q := by
  intro g p l e s mid args below meth c H locs G ls hE hw hl
  subst hn
  exact lv_l2i hE.1 hE.2.1 (gdec g hd) rfl (h g p l e s mid args below meth c H locs G ls hE hw hl)
theorem E_i2b {M : MI} {pc n : Nat} {lv : List (Nat × Value)} {st : List Value} {m : Mem} {Q : Option Value → Mem → Prop} {x : Int32} (k : Nat) (hd : M.2.2.2.2.2.2[k]? = some (pc, .i2b, 1)) (hn : pc + 1 = n) (h : E M n lv (.int x.toInt8.toInt32 :: st) m Q) : E M pc lv (.int x :: st) m Q := by
  intro g p l e s mid args below meth c H locs G ls hE hw hl
  subst hn
  exact lv_i2b hE.1 hE.2.1 (gdec g hd) rfl (h g p l e s mid args below meth c H locs G ls hE hw hl)
theorem E_ladd {M : MI} {pc n : Nat} {lv : List (Nat × Value)} {st : List Value} {m : Mem} {Q : Option Value → Mem → Prop} {x y : Int64} (k : Nat) (hd : M.2.2.2.2.2.2[k]? = some (pc, .ladd, 1)) (hn : pc + 1 = n) (h : E M n lv (.long (x + y) :: st) m Q) : E M pc lv (.long y :: .long x :: st) m Q := by
  intro g p l e s mid args below meth c H locs G ls hE hw hl
  subst hn
  exact lv_ladd hE.1 hE.2.1 (gdec g hd) (h g p l e s mid args below meth c H locs G ls hE hw hl)
theorem E_land {M : MI} {pc n : Nat} {lv : List (Nat × Value)} {st : List Value} {m : Mem} {Q : Option Value → Mem → Prop} {x y : Int64} (k : Nat) (hd : M.2.2.2.2.2.2[k]? = some (pc, .land, 1)) (hn : pc + 1 = n) (h : E M n lv (.long (x &&& y) :: st) m Q) : E M pc lv (.long y :: .long x :: st) m Q := by
  intro g p l e s mid args below meth c H locs G ls hE hw hl
  subst hn
  exact lv_land hE.1 hE.2.1 (gdec g hd) (h g p l e s mid args below meth c H locs G ls hE hw hl)
theorem E_lor {M : MI} {pc n : Nat} {lv : List (Nat × Value)} {st : List Value} {m : Mem} {Q : Option Value → Mem → Prop} {x y : Int64} (k : Nat) (hd : M.2.2.2.2.2.2[k]? = some (pc, .lor, 1)) (hn : pc + 1 = n) (h : E M n lv (.long (x ||| y) :: st) m Q) : E M pc lv (.long y :: .long x :: st) m Q := by
  intro g p l e s mid args below meth c H locs G ls hE hw hl
  subst hn
  exact lv_lor hE.1 hE.2.1 (gdec g hd) (h g p l e s mid args below meth c H locs G ls hE hw hl)
theorem E_lshl {M : MI} {pc n : Nat} {lv : List (Nat × Value)} {st : List Value} {m : Mem} {Q : Option Value → Mem → Prop} {x : Int64} {y : Int32} (k : Nat) (hd : M.2.2.2.2.2.2[k]? = some (pc, .lshl, 1)) (hn : pc + 1 = n) (h : E M n lv (.long (x <<< (y.toInt64 &&& 63)) :: st) m Q) : E M pc lv (.int y :: .long x :: st) m Q := by
  intro g p l e s mid args below meth c H locs G ls hE hw hl
  subst hn
  exact lv_lshl hE.1 hE.2.1 (gdec g hd) rfl (h g p l e s mid args below meth c H locs G ls hE hw hl)
theorem E_lushr {M : MI} {pc n : Nat} {lv : List (Nat × Value)} {st : List Value} {m : Mem} {Q : Option Value → Mem → Prop} {x : Int64} {y : Int32} (k : Nat) (hd : M.2.2.2.2.2.2[k]? = some (pc, .lushr, 1)) (hn : pc + 1 = n) (h : E M n lv (.long ((x.toUInt64 >>> (y.toInt64.toUInt64 &&& Int64.toUInt64 63)).toInt64) :: st) m Q) : E M pc lv (.int y :: .long x :: st) m Q := by
  intro g p l e s mid args below meth c H locs G ls hE hw hl
  subst hn
  exact lv_lushr hE.1 hE.2.1 (gdec g hd) rfl (h g p l e s mid args below meth c H locs G ls hE hw hl)
theorem E_lcmp {M : MI} {pc n : Nat} {lv : List (Nat × Value)} {st : List Value} {m : Mem} {Q : Option Value → Mem → Prop} {x y : Int64} (k : Nat) (hd : M.2.2.2.2.2.2[k]? = some (pc, .lcmp, 1)) (hn : pc + 1 = n) (h : E M n lv (.int (lg_cmp x y) :: st) m Q) : E M pc lv (.long y :: .long x :: st) m Q := by
  intro g p l e s mid args below meth c H locs G ls hE hw hl
  subst hn
  exact W.lcmp hE.1 hE.2.1 (gdec g hd) (h g p l e s mid args below meth c H locs G ls hE hw hl)
theorem E_icmp_eq {M : MI} {pc n : Nat} {lv : List (Nat × Value)} {st : List Value} {m : Mem} {Q : Option Value → Mem → Prop} {x y : Int32} {off : Int} {t : Nat} (k : Nat) (hd : M.2.2.2.2.2.2[k]? = some (pc, .if_icmp .eq off, 3)) (hn : pc + 3 = n) (ht : (pc : Int) + off = (t : Int)) (kt : x = y → E M t lv st m Q) (kf : ¬ x = y → E M n lv st m Q) : E M pc lv (.int y :: .int x :: st) m Q := by
  intro g p l e s mid args below meth c H locs G ls hE hw hl
  subst hn
  exact lv_icmp_eq hE.1 hE.2.1 (gdec g hd) ht (fun hc => kt hc g p l e s mid args below meth c H locs G ls hE hw hl) (fun hc => kf hc g p l e s mid args below meth c H locs G ls hE hw hl)
theorem E_icmp_ne {M : MI} {pc n : Nat} {lv : List (Nat × Value)} {st : List Value} {m : Mem} {Q : Option Value → Mem → Prop} {x y : Int32} {off : Int} {t : Nat} (k : Nat) (hd : M.2.2.2.2.2.2[k]? = some (pc, .if_icmp .ne off, 3)) (hn : pc + 3 = n) (ht : (pc : Int) + off = (t : Int)) (kt : ¬ x = y → E M t lv st m Q) (kf : x = y → E M n lv st m Q) : E M pc lv (.int y :: .int x :: st) m Q := by
  intro g p l e s mid args below meth c H locs G ls hE hw hl
  subst hn
  exact lv_icmp_ne hE.1 hE.2.1 (gdec g hd) ht (fun hc => kt hc g p l e s mid args below meth c H locs G ls hE hw hl) (fun hc => kf hc g p l e s mid args below meth c H locs G ls hE hw hl)
theorem E_icmp_lt {M : MI} {pc n : Nat} {lv : List (Nat × Value)} {st : List Value} {m : Mem} {Q : Option Value → Mem → Prop} {x y : Int32} {off : Int} {t : Nat} (k : Nat) (hd : M.2.2.2.2.2.2[k]? = some (pc, .if_icmp .lt off, 3)) (hn : pc + 3 = n) (ht : (pc : Int) + off = (t : Int)) (kt : x < y → E M t lv st m Q) (kf : ¬ x < y → E M n lv st m Q) : E M pc lv (.int y :: .int x :: st) m Q := by
  intro g p l e s mid args below meth c H locs G ls hE hw hl
  subst hn
  exact lv_icmp_lt hE.1 hE.2.1 (gdec g hd) ht (fun hc => kt hc g p l e s mid args below meth c H locs G ls hE hw hl) (fun hc => kf hc g p l e s mid args below meth c H locs G ls hE hw hl)
theorem E_icmp_ge {M : MI} {pc n : Nat} {lv : List (Nat × Value)} {st : List Value} {m : Mem} {Q : Option Value → Mem → Prop} {x y : Int32} {off : Int} {t : Nat} (k : Nat) (hd : M.2.2.2.2.2.2[k]? = some (pc, .if_icmp .ge off, 3)) (hn : pc + 3 = n) (ht : (pc : Int) + off = (t : Int)) (kt : y ≤ x → E M t lv st m Q) (kf : ¬ y ≤ x → E M n lv st m Q) : E M pc lv (.int y :: .int x :: st) m Q := by
  intro g p l e s mid args below meth c H locs G ls hE hw hl
  subst hn
  exact lv_icmp_ge hE.1 hE.2.1 (gdec g hd) ht (fun hc => kt hc g p l e s mid args below meth c H locs G ls hE hw hl) (fun hc => kf hc g p l e s mid args below meth c H locs G ls hE hw hl)
theorem E_icmp_gt {M : MI} {pc n : Nat} {lv : List (Nat × Value)} {st : List Value} {m : Mem} {Q : Option Value → Mem → Prop} {x y : Int32} {off : Int} {t : Nat} (k : Nat) (hd : M.2.2.2.2.2.2[k]? = some (pc, .if_icmp .gt off, 3)) (hn : pc + 3 = n) (ht : (pc : Int) + off = (t : Int)) (kt : y < x → E M t lv st m Q) (kf : ¬ y < x → E M n lv st m Q) : E M pc lv (.int y :: .int x :: st) m Q := by
  intro g p l e s mid args below meth c H locs G ls hE hw hl
  subst hn
  exact lv_icmp_gt hE.1 hE.2.1 (gdec g hd) ht (fun hc => kt hc g p l e s mid args below meth c H locs G ls hE hw hl) (fun hc => kf hc g p l e s mid args below meth c H locs G ls hE hw hl)
theorem E_icmp_le {M : MI} {pc n : Nat} {lv : List (Nat × Value)} {st : List Value} {m : Mem} {Q : Option Value → Mem → Prop} {x y : Int32} {off : Int} {t : Nat} (k : Nat) (hd : M.2.2.2.2.2.2[k]? = some (pc, .if_icmp .le off, 3)) (hn : pc + 3 = n) (ht : (pc : Int) + off = (t : Int)) (kt : x ≤ y → E M t lv st m Q) (kf : ¬ x ≤ y → E M n lv st m Q) : E M pc lv (.int y :: .int x :: st) m Q := by
  intro g p l e s mid args below meth c H locs G ls hE hw hl
  subst hn
  exact lv_icmp_le hE.1 hE.2.1 (gdec g hd) ht (fun hc => kt hc g p l e s mid args below meth c H locs G ls hE hw hl) (fun hc => kf hc g p l e s mid args below meth c H locs G ls hE hw hl)
theorem E_if_eq {M : MI} {pc n : Nat} {lv : List (Nat × Value)} {st : List Value} {m : Mem} {Q : Option Value → Mem → Prop} {x : Int32} {off : Int} {t : Nat} (k : Nat) (hd : M.2.2.2.2.2.2[k]? = some (pc, .ifCond .eq off, 3)) (hn : pc + 3 = n) (ht : (pc : Int) + off = (t : Int)) (kt : x = 0 → E M t lv st m Q) (kf : ¬ x = 0 → E M n lv st m Q) : E M pc lv (.int x :: st) m Q := by
  intro g p l e s mid args below meth c H locs G ls hE hw hl
  subst hn
  exact lv_if_eq hE.1 hE.2.1 (gdec g hd) ht (fun hc => kt hc g p l e s mid args below meth c H locs G ls hE hw hl) (fun hc => kf hc g p l e s mid args below meth c H locs G ls hE hw hl)
theorem E_if_ne {M : MI} {pc n : Nat} {lv : List (Nat × Value)} {st : List Value} {m : Mem} {Q : Option Value → Mem → Prop} {x : Int32} {off : Int} {t : Nat} (k : Nat) (hd : M.2.2.2.2.2.2[k]? = some (pc, .ifCond .ne off, 3)) (hn : pc + 3 = n) (ht : (pc : Int) + off = (t : Int)) (kt : ¬ x = 0 → E M t lv st m Q) (kf : x = 0 → E M n lv st m Q) : E M pc lv (.int x :: st) m Q := by
  intro g p l e s mid args below meth c H locs G ls hE hw hl
  subst hn
  exact lv_if_ne hE.1 hE.2.1 (gdec g hd) ht (fun hc => kt hc g p l e s mid args below meth c H locs G ls hE hw hl) (fun hc => kf hc g p l e s mid args below meth c H locs G ls hE hw hl)
theorem E_if_lt {M : MI} {pc n : Nat} {lv : List (Nat × Value)} {st : List Value} {m : Mem} {Q : Option Value → Mem → Prop} {x : Int32} {off : Int} {t : Nat} (k : Nat) (hd : M.2.2.2.2.2.2[k]? = some (pc, .ifCond .lt off, 3)) (hn : pc + 3 = n) (ht : (pc : Int) + off = (t : Int)) (kt : x < 0 → E M t lv st m Q) (kf : ¬ x < 0 → E M n lv st m Q) : E M pc lv (.int x :: st) m Q := by
  intro g p l e s mid args below meth c H locs G ls hE hw hl
  subst hn
  exact lv_if_lt hE.1 hE.2.1 (gdec g hd) ht (fun hc => kt hc g p l e s mid args below meth c H locs G ls hE hw hl) (fun hc => kf hc g p l e s mid args below meth c H locs G ls hE hw hl)
theorem E_if_ge {M : MI} {pc n : Nat} {lv : List (Nat × Value)} {st : List Value} {m : Mem} {Q : Option Value → Mem → Prop} {x : Int32} {off : Int} {t : Nat} (k : Nat) (hd : M.2.2.2.2.2.2[k]? = some (pc, .ifCond .ge off, 3)) (hn : pc + 3 = n) (ht : (pc : Int) + off = (t : Int)) (kt : 0 ≤ x → E M t lv st m Q) (kf : ¬ 0 ≤ x → E M n lv st m Q) : E M pc lv (.int x :: st) m Q := by
  intro g p l e s mid args below meth c H locs G ls hE hw hl
  subst hn
  exact lv_if_ge hE.1 hE.2.1 (gdec g hd) ht (fun hc => kt hc g p l e s mid args below meth c H locs G ls hE hw hl) (fun hc => kf hc g p l e s mid args below meth c H locs G ls hE hw hl)
theorem E_if_gt {M : MI} {pc n : Nat} {lv : List (Nat × Value)} {st : List Value} {m : Mem} {Q : Option Value → Mem → Prop} {x : Int32} {off : Int} {t : Nat} (k : Nat) (hd : M.2.2.2.2.2.2[k]? = some (pc, .ifCond .gt off, 3)) (hn : pc + 3 = n) (ht : (pc : Int) + off = (t : Int)) (kt : 0 < x → E M t lv st m Q) (kf : ¬ 0 < x → E M n lv st m Q) : E M pc lv (.int x :: st) m Q := by
  intro g p l e s mid args below meth c H locs G ls hE hw hl
  subst hn
  exact lv_if_gt hE.1 hE.2.1 (gdec g hd) ht (fun hc => kt hc g p l e s mid args below meth c H locs G ls hE hw hl) (fun hc => kf hc g p l e s mid args below meth c H locs G ls hE hw hl)
theorem E_if_le {M : MI} {pc n : Nat} {lv : List (Nat × Value)} {st : List Value} {m : Mem} {Q : Option Value → Mem → Prop} {x : Int32} {off : Int} {t : Nat} (k : Nat) (hd : M.2.2.2.2.2.2[k]? = some (pc, .ifCond .le off, 3)) (hn : pc + 3 = n) (ht : (pc : Int) + off = (t : Int)) (kt : x ≤ 0 → E M t lv st m Q) (kf : ¬ x ≤ 0 → E M n lv st m Q) : E M pc lv (.int x :: st) m Q := by
  intro g p l e s mid args below meth c H locs G ls hE hw hl
  subst hn
  exact lv_if_le hE.1 hE.2.1 (gdec g hd) ht (fun hc => kt hc g p l e s mid args below meth c H locs G ls hE hw hl) (fun hc => kf hc g p l e s mid args below meth c H locs G ls hE hw hl)
theorem E_goto {M : MI} {pc : Nat} {lv : List (Nat × Value)} {st : List Value} {m : Mem} {Q : Option Value → Mem → Prop} {off : Int} {t : Nat} (k : Nat) (hd : M.2.2.2.2.2.2[k]? = some (pc, .goto off, 3)) (ht : (pc : Int) + off = (t : Int)) (h : E M t lv st m Q) : E M pc lv st m Q := by
  intro g p l e s mid args below meth c H locs G ls hE hw hl
  exact lv_goto hE.1 hE.2.1 (gdec g hd) ht (h g p l e s mid args below meth c H locs G ls hE hw hl)
theorem E_tabIn {M : MI} {pc : Nat} {lv : List (Nat × Value)} {st : List Value} {m : Mem} {Q : Option Value → Mem → Prop} {x : Int32} {d lo hi off : Int} {offs : Array Int} {len t : Nat} (k : Nat) (hd : M.2.2.2.2.2.2[k]? = some (pc, .tableswitch d lo hi offs, len)) (h1 : ¬ x.toInt < lo) (h2 : ¬ hi < x.toInt) (ho : offs[(x.toInt - lo).toNat]? = some off) (ht : (pc : Int) + off = (t : Int)) (h : E M t lv st m Q) : E M pc lv (.int x :: st) m Q := by
  intro g p l e s mid args below meth c H locs G ls hE hw hl
  exact lv_tableIn hE.1 hE.2.1 (gdec g hd) h1 h2 ho ht (h g p l e s mid args below meth c H locs G ls hE hw hl)
theorem E_tabOut {M : MI} {pc : Nat} {lv : List (Nat × Value)} {st : List Value} {m : Mem} {Q : Option Value → Mem → Prop} {x : Int32} {d lo hi : Int} {offs : Array Int} {len t : Nat} (k : Nat) (hd : M.2.2.2.2.2.2[k]? = some (pc, .tableswitch d lo hi offs, len)) (h1 : x.toInt < lo ∨ hi < x.toInt) (ht : (pc : Int) + d = (t : Int)) (h : E M t lv st m Q) : E M pc lv (.int x :: st) m Q := by
  intro g p l e s mid args below meth c H locs G ls hE hw hl
  exact lv_tableOut hE.1 hE.2.1 (gdec g hd) h1 ht (h g p l e s mid args below meth c H locs G ls hE hw hl)
/-! memory -/
def gI (m : Mem) (c k : Nat) : Int32 := m.1 c k
def gJ (m : Mem) (c k : Nat) : Int64 := m.2.1 c k
def gN (m : Mem) (k : Nat) : Nat := m.2.2 k
def sI (m : Mem) (c k : Nat) (x : Int32) : Mem := (fun d j => if d = c ∧ j = k then x else m.1 d j, m.2)
def sJ (m : Mem) (c k : Nat) (x : Int64) : Mem := (m.1, fun d j => if d = c ∧ j = k then x else m.2.1 d j, m.2.2)
def sN (m : Mem) (k : Nat) (x : Nat) : Mem := (m.1, m.2.1, fun j => if j = k then x else m.2.2 j)
def cpI (m : Mem) (a0 sp a1 dp n : Nat) : Mem := (fun d j => if d = a1 ∧ dp ≤ j ∧ j < dp + n then m.1 a0 (sp + (j - dp)) else m.1 d j, m.2)
def cpJ (m : Mem) (a0 sp a1 dp n : Nat) : Mem := (m.1, fun d j => if d = a1 ∧ dp ≤ j ∧ j < dp + n then m.2.1 a0 (sp + (j - dp)) else m.2.1 d j, m.2.2)
abbrev inb (i : Int32) (n : Nat) : Prop := ¬ i < 0 ∧ i.toNatClampNeg < n
abbrev ixn (i : Int32) : Nat := i.toNatClampNeg
theorem inb_vp {i : Int32} {n : Nat} (h : inb i n) : vp_in i n := by
  intro h2
  rcases h2 with h2 | h2
  · exact h.1 h2
  · exact absurd h.2 (by omega)
theorem ent_obj {b : Nat} {cA : Nat → ClassId} {m : Mem} {c ci z : Nat} (h : shp c = (ci, z)) (hc : ci < 100) : ent b cA m c = .inr (ci, flds b m c ci) := by
  unfold ent
  rw [h]
  dsimp only
  rw [if_neg (by omega), if_neg (by omega), if_neg (by omega), if_neg (by omega), if_neg (by omega), if_neg (by omega)]
theorem ent_arI {b : Nat} {cA : Nat → ClassId} {m : Mem} {c n : Nat} (h : shp c = (100, n)) : ent b cA m c = .inl (cA 0, n, .inl (m.1 c)) := by
  unfold ent; rw [h]; rfl
theorem ent_arJ {b : Nat} {cA : Nat → ClassId} {m : Mem} {c n : Nat} (h : shp c = (101, n)) : ent b cA m c = .inl (cA 1, n, .inr (.inl (m.2.1 c))) := by
  unfold ent; rw [h]; rfl
theorem ent_arB {b : Nat} {cA : Nat → ClassId} {m : Mem} {c n : Nat} (h : shp c = (102, n)) : ent b cA m c = .inl (cA 2, n, .inl (m.1 c)) := by
  unfold ent; rw [h]; rfl
theorem ent_arZ {b : Nat} {cA : Nat → ClassId} {m : Mem} {c n : Nat} (h : shp c = (103, n)) : ent b cA m c = .inl (cA 3, n, .inl (m.1 c)) := by
  unfold ent; rw [h]; rfl
theorem ent_arL {b : Nat} {cA : Nat → ClassId} {m : Mem} {c n : Nat} (h : shp c = (104, n)) : ent b cA m c = .inl (cA 4, n, .inr (.inr (.inr (.inr (fun k => some (b + (c + 1 + 3 * k))))))) := by
  unfold ent; rw [h]; rfl
theorem ent_arP {b : Nat} {cA : Nat → ClassId} {m : Mem} {c n : Nat} (h : shp c = (105, n)) : ent b cA m c = .inl (cA 5, n, .inr (.inr (.inr (.inr (fun k => some (b + (c + 1 + 16 * k))))))) := by
  unfold ent; rw [h]; rfl
theorem ent_cong {b : Nat} {cA : Nat → ClassId} {m m' : Mem} {d : Nat} (h1 : m'.1 d = m.1 d) (h2 : m'.2.1 d = m.2.1 d) (h3 : (shp d).1 = 11 → m'.2.2 = m.2.2) (h4 : ∀ ci q, q ∈ fkd ci → q.1 = 2 → ci = 11) : ent b cA m' d = ent b cA m d := by
  have hf : flds b m' d (shp d).1 = flds b m d (shp d).1 := by
    unfold flds
    apply List.ext_getElem?
    intro i
    rw [List.getElem?_mapIdx, List.getElem?_mapIdx]
    cases hq : (fkd (shp d).1)[i]? with
    | none => rfl
    | some q =>
      simp only [Option.map_some]
      congr 1
      unfold fval
      rw [h1, h2]
      split <;> try rfl
      rename_i h
      rw [h3 (h4 _ q (List.mem_of_getElem? hq) h)]
  unfold ent
  rw [h1, h2, hf]
theorem fk_two : ∀ ci q, q ∈ fkd ci → q.1 = 2 → ci = 11 := by
  have key : ∀ ci, ci < fkL.length → ∀ q ∈ fkd ci, q.1 = 2 → ci = 11 := by decide +kernel
  intro ci q hq h
  rcases Nat.lt_or_ge ci fkL.length with h1 | h1
  · exact key ci h1 q hq h
  · exfalso
    unfold fkd at hq
    rw [List.getD_eq_getElem?_getD, List.getElem?_eq_none h1] at hq
    simp at hq
theorem flds_at {b : Nat} {m : Mem} {c ci j : Nat} {q : Nat × Nat} (h : (fkd ci)[j]? = some q) : (flds b m c ci)[j]? = some (fval b m c j q) := by
  simp [flds, h]
theorem flds_len {b : Nat} {m : Mem} {c ci : Nat} : (flds b m c ci).length = (fkd ci).length := by simp [flds]
/-- a field's words -/
def FOk (own : String) (ix ci j : Nat) : Prop := ∃ (C : String) (T : u_T) (N : Nat) (ty : Nat → FieldType), vwCl[ci]? = some (C, T, N) ∧ j < N ∧ (∀ w ∈ u_ws C T N, w ∈ TW) ∧ (∀ k, k < N → parseFieldDescriptor (T k).2.2.1 = some (ty k)) ∧ (∀ a, a < N → ∀ b, b < N → a ≠ b → (T a).2.1 ≠ (T b).2.1) ∧ Cond.fieldLink own ix (T j).1 (T j).2.1 (T j).2.2.1 ∈ TW
def FPut (own : String) (ix ci j : Nat) (t : FieldType) : Prop := ∃ (C : String) (T : u_T) (N : Nat) (ty : Nat → FieldType), vwCl[ci]? = some (C, T, N) ∧ j < N ∧ (∀ w ∈ u_ws C T N, w ∈ TW) ∧ (∀ k, k < N → parseFieldDescriptor (T k).2.2.1 = some (ty k)) ∧ (∀ a, a < N → ∀ b, b < N → a ≠ b → (T a).2.1 ≠ (T b).2.1) ∧ Cond.fieldLink own ix (T j).1 (T j).2.1 (T j).2.2.1 ∈ TW ∧ (T j).2.2.2 = false ∧ ty j = t
theorem vw_lt {ci : Nat} {q : vw_C} (h : vwCl[ci]? = some q) : ci < 100 := by
  have h1 := (List.getElem?_eq_some_iff.mp h).1
  have h2 : vwCl.length ≤ 100 := by decide
  omega
theorem E_get {M : MI} {pc n : Nat} {lv : List (Nat × Value)} {st : List Value} {m : Mem} {Q : Option Value → Mem → Prop} {ix o ci j z : Nat} {q : Nat × Nat} (hd : ∃ k : Nat, M.2.2.2.2.2.2[k]? = some (pc, Instr.getfield ix, 3)) (hn : pc + 3 = n) (hf : FOk M.1.cls ix ci j) (hs : shp o = (ci, z)) (hk : (fkd ci)[j]? = some q)
    (h : ∀ b : Nat, ∃ v, cv b v = fval b m o j q ∧ (Mok m → E M n lv (v :: st) m Q)) : E M pc lv (.ref o :: st) m Q := by
  intro g p l e s mid args below meth c H locs G ls hE hw hl
  obtain ⟨k, hd⟩ := hd
  subst hn
  obtain ⟨C, T, N, ty, f1, f2, f3, f4, f5, f6⟩ := hf
  obtain ⟨v, hv, h⟩ := h G.2.1
  have hlt := shp_lt hs (by have := vw_lt f1; omega)
  refine va_get (own := M.1.cls) (ref := (T j).1) (C := C) (T := T) (N := N) (ci := ci) (index := ix) (Ts := TW) (v := cv G.2.1 v) hE.1 hE.2.1 hE.2.2.2.2.1 f3 hE.2.2.2.1 hE.2.2.2.2.2.2.2.1 hw.1 o (fs := flds G.2.1 m o ci) ?_ f1 j f2 (hE.2.2.2.2.1 _ f6) (fun _ h => h) ?_ (gdec g hd) ?_
  · show _ = some (G.2.1 + o, _)
    rw [Wd_get hlt, ent_obj hs (vw_lt f1)]
  · rw [flds_at hk, hv]
  · exact h hw.2.2 g p l e s mid args below meth c H locs G ls hE hw hl
theorem E_getI {M : MI} {pc n : Nat} {lv : List (Nat × Value)} {st : List Value} {m : Mem} {Q : Option Value → Mem → Prop} {ix o ci j z d : Nat} (k : Nat) (hd : M.2.2.2.2.2.2[k]? = some (pc, Instr.getfield ix, 3)) (hn : pc + 3 = n) (hf : FOk M.1.cls ix ci j) (hs : shp o = (ci, z)) (hk : (fkd ci)[j]? = some (0, d)) (h : E M n lv (.int (gI m o j) :: st) m Q) : E M pc lv (.ref o :: st) m Q :=
  E_get ⟨k, hd⟩ hn hf hs hk (fun b => ⟨.int (gI m o j), rfl, fun _ => h⟩)
theorem E_getJ {M : MI} {pc n : Nat} {lv : List (Nat × Value)} {st : List Value} {m : Mem} {Q : Option Value → Mem → Prop} {ix o ci j z d : Nat} (k : Nat) (hd : M.2.2.2.2.2.2[k]? = some (pc, Instr.getfield ix, 3)) (hn : pc + 3 = n) (hf : FOk M.1.cls ix ci j) (hs : shp o = (ci, z)) (hk : (fkd ci)[j]? = some (1, d)) (h : E M n lv (.long (gJ m o j) :: st) m Q) : E M pc lv (.ref o :: st) m Q :=
  E_get ⟨k, hd⟩ hn hf hs hk (fun b => ⟨.long (gJ m o j), rfl, fun _ => h⟩)
theorem E_getF {M : MI} {pc n : Nat} {lv : List (Nat × Value)} {st : List Value} {m : Mem} {Q : Option Value → Mem → Prop} {ix o ci j z d : Nat} (k : Nat) (hd : M.2.2.2.2.2.2[k]? = some (pc, Instr.getfield ix, 3)) (hn : pc + 3 = n) (hf : FOk M.1.cls ix ci j) (hs : shp o = (ci, z)) (hk : (fkd ci)[j]? = some (5, d)) (h : E M n lv (.ref (o + d) :: st) m Q) : E M pc lv (.ref o :: st) m Q :=
  E_get ⟨k, hd⟩ hn hf hs hk (fun b => ⟨.ref (o + d), rfl, fun _ => h⟩)
theorem E_getA {M : MI} {pc n : Nat} {lv : List (Nat × Value)} {st : List Value} {m : Mem} {Q : Option Value → Mem → Prop} {ix o ci j z d : Nat} (k : Nat) (hd : M.2.2.2.2.2.2[k]? = some (pc, Instr.getfield ix, 3)) (hn : pc + 3 = n) (hf : FOk M.1.cls ix ci j) (hs : shp o = (ci, z)) (hk : (fkd ci)[j]? = some (6, d)) (h : E M n lv (.ref d :: st) m Q) : E M pc lv (.ref o :: st) m Q :=
  E_get ⟨k, hd⟩ hn hf hs hk (fun b => ⟨.ref d, rfl, fun _ => h⟩)
theorem E_getN {M : MI} {pc n : Nat} {lv : List (Nat × Value)} {st : List Value} {m : Mem} {Q : Option Value → Mem → Prop} {ix o ci j z d : Nat} (k : Nat) (hd : M.2.2.2.2.2.2[k]? = some (pc, Instr.getfield ix, 3)) (hn : pc + 3 = n) (hf : FOk M.1.cls ix ci j) (hs : shp o = (ci, z)) (hk : (fkd ci)[j]? = some (2, d)) (hj : j = 13 ∨ j = 14) (h : shp (gN m j) = (5, 0) → E M n lv (.ref (gN m j) :: st) m Q) : E M pc lv (.ref o :: st) m Q :=
  E_get ⟨k, hd⟩ hn hf hs hk (fun b => ⟨.ref (gN m j), rfl, fun hm => h (by rcases hj with rfl | rfl; exact hm.1; exact hm.2)⟩)
theorem E_put {M : MI} {pc n : Nat} {lv : List (Nat × Value)} {st : List Value} {m m' : Mem} {Q : Option Value → Mem → Prop} {ix o ci j z : Nat} {t : FieldType} {v : Value} (hd : ∃ k : Nat, M.2.2.2.2.2.2[k]? = some (pc, Instr.putfield ix, 3)) (hn : pc + 3 = n) (hf : FPut M.1.cls ix ci j t) (hs : shp o = (ci, z)) (hj : j < (fkd ci).length)
    (hnar : ∀ b, narrow t (cv b v) = cv b v) (hfit : ∀ b, fits t (cv b v) = true) (hset : ∀ b, flds b m' o ci = (flds b m o ci).set j (cv b v)) (hoth : ∀ b cA d, d ≠ o → ent b cA m' d = ent b cA m d) (hm : Mok m → Mok m')
    (h : E M n lv st m' Q) : E M pc lv (v :: .ref o :: st) m Q := by
  intro g p l e s mid args below meth c H locs G ls hE hw hl
  obtain ⟨k, hd⟩ := hd
  subst hn
  obtain ⟨C, T, N, ty, f1, f2, f3, f4, f5, f6, f7, f8⟩ := hf
  have hlt := shp_lt hs (by have := vw_lt f1; omega)
  have he : (Wd G.2.1 G.2.2.1 m)[o]? = some (G.2.1 + o, .inr (ci, flds G.2.1 m o ci)) := by rw [Wd_get hlt, ent_obj hs (vw_lt f1)]
  have hset' : (Wd G.2.1 G.2.2.1 m).set o (G.2.1 + o, .inr (ci, (flds G.2.1 m o ci).set j (cv G.2.1 v))) = Wd G.2.1 G.2.2.1 m' := by
    refine Wd_set ?_ (fun d hd => hoth _ _ d hd)
    rw [ent_obj hs (vw_lt f1), hset]
  refine va_put (own := M.1.cls) (ref := (T j).1) (C := C) (T := T) (N := N) (ci := ci) (index := ix) (Ts := TW) hE.1 hE.2.1 hE.2.2.2.2.1 f3 ty f4 f5 hE.2.2.2.1 hE.2.2.2.2.2.2.2.1 hw.1 (Wd_D _ _ _) hw.2.1 o (fs := flds G.2.1 m o ci) he f1 j f2 (hE.2.2.2.2.1 _ f6) (fun _ h => h) f7 (ty := t) (by rw [f4 j f2, f8]) (hnar _) (hfit _) (by rw [flds_len]; exact hj) (gdec g hd) (fun H1 locs1 hP1 _ hS1 => ?_)
  rw [hset'] at hP1
  exact h g p l e s mid args below meth c H1 locs1 G ls hE ⟨hP1, hS1, hm hw.2.2⟩ hl
theorem flds_sI {b : Nat} {m : Mem} {o ci j d : Nat} {x : Int32} (hk : (fkd ci)[j]? = some (0, d)) : flds b (sI m o j x) o ci = (flds b m o ci).set j (.int x) := by
  apply List.ext_getElem?
  intro i
  rw [List.getElem?_set]
  have hj : j < (fkd ci).length := (List.getElem?_eq_some_iff.mp hk).1
  by_cases hi : j = i
  · subst hi
    rw [if_pos rfl, if_pos (by rw [flds_len]; exact hj), flds_at hk]
    simp [fval, sI]
  · rw [if_neg hi]
    unfold flds
    rw [List.getElem?_mapIdx, List.getElem?_mapIdx]
    cases hq : (fkd ci)[i]? with
    | none => rfl
    | some q =>
      simp only [Option.map_some]
      congr 1
      unfold fval
      split <;> simp [sI, Ne.symm hi]
theorem flds_sJ {b : Nat} {m : Mem} {o ci j d : Nat} {x : Int64} (hk : (fkd ci)[j]? = some (1, d)) : flds b (sJ m o j x) o ci = (flds b m o ci).set j (.long x) := by
  apply List.ext_getElem?
  intro i
  rw [List.getElem?_set]
  have hj : j < (fkd ci).length := (List.getElem?_eq_some_iff.mp hk).1
  by_cases hi : j = i
  · subst hi
    rw [if_pos rfl, if_pos (by rw [flds_len]; exact hj), flds_at hk]
    simp [fval, sJ]
  · rw [if_neg hi]
    unfold flds
    rw [List.getElem?_mapIdx, List.getElem?_mapIdx]
    cases hq : (fkd ci)[i]? with
    | none => rfl
    | some q =>
      simp only [Option.map_some]
      congr 1
      unfold fval
      split <;> simp [sJ, Ne.symm hi]
theorem flds_sN {b : Nat} {m : Mem} {o ci j d : Nat} {x : Nat} (hk : (fkd ci)[j]? = some (2, d)) : flds b (sN m j x) o ci = (flds b m o ci).set j (.ref (b + x)) := by
  apply List.ext_getElem?
  intro i
  rw [List.getElem?_set]
  have hj : j < (fkd ci).length := (List.getElem?_eq_some_iff.mp hk).1
  by_cases hi : j = i
  · subst hi
    rw [if_pos rfl, if_pos (by rw [flds_len]; exact hj), flds_at hk]
    simp [fval, sN]
  · rw [if_neg hi]
    unfold flds
    rw [List.getElem?_mapIdx, List.getElem?_mapIdx]
    cases hq : (fkd ci)[i]? with
    | none => rfl
    | some q =>
      simp only [Option.map_some]
      congr 1
      unfold fval
      split <;> simp [sN, Ne.symm hi]
theorem ent_sI {b : Nat} {cA : Nat → ClassId} {m : Mem} {c k d : Nat} {x : Int32} (h : d ≠ c) : ent b cA (sI m c k x) d = ent b cA m d := ent_cong (by funext j; simp [sI, h]) rfl (fun _ => rfl) fk_two
theorem ent_sJ {b : Nat} {cA : Nat → ClassId} {m : Mem} {c k d : Nat} {x : Int64} (h : d ≠ c) : ent b cA (sJ m c k x) d = ent b cA m d := ent_cong rfl (by funext j; simp [sJ, h]) (fun _ => rfl) fk_two
theorem shp_11 : ∀ d, (shp d).1 = 11 → d = 0 := by
  have key : ∀ d, d < shpL.length → (shp d).1 = 11 → d = 0 := by decide +kernel
  intro d h
  rcases Nat.lt_or_ge d shpL.length with h1 | h1
  · exact key d h1 h
  · exfalso
    unfold shp at h
    rw [List.getD_eq_getElem?_getD, List.getElem?_eq_none h1] at h
    simp at h
theorem E_putI {M : MI} {pc n : Nat} {lv : List (Nat × Value)} {st : List Value} {m : Mem} {Q : Option Value → Mem → Prop} {ix o ci j z d : Nat} {x : Int32} (k : Nat) (hd : M.2.2.2.2.2.2[k]? = some (pc, Instr.putfield ix, 3)) (hn : pc + 3 = n) (hf : FPut M.1.cls ix ci j .int) (hs : shp o = (ci, z)) (hk : (fkd ci)[j]? = some (0, d)) (h : E M n lv st (sI m o j x) Q) : E M pc lv (.int x :: .ref o :: st) m Q :=
  E_put ⟨k, hd⟩ hn hf hs (List.getElem?_eq_some_iff.mp hk).1 (fun _ => rfl) (fun _ => rfl) (fun b => flds_sI hk) (fun b cA d hd => ent_sI hd) (fun h => h) h
theorem E_putZ {M : MI} {pc n : Nat} {lv : List (Nat × Value)} {st : List Value} {m : Mem} {Q : Option Value → Mem → Prop} {ix o ci j z d : Nat} {x : Int32} (k : Nat) (hd : M.2.2.2.2.2.2[k]? = some (pc, Instr.putfield ix, 3)) (hn : pc + 3 = n) (hf : FPut M.1.cls ix ci j .boolean) (hs : shp o = (ci, z)) (hk : (fkd ci)[j]? = some (0, d)) (hx : x = 0 ∨ x = 1) (h : E M n lv st (sI m o j x) Q) : E M pc lv (.int x :: .ref o :: st) m Q :=
  E_put ⟨k, hd⟩ hn hf hs (List.getElem?_eq_some_iff.mp hk).1 (fun _ => by rcases hx with rfl | rfl <;> rfl) (fun _ => by rcases hx with rfl | rfl <;> rfl) (fun b => flds_sI hk) (fun b cA d hd => ent_sI hd) (fun h => h) h
theorem E_putJ {M : MI} {pc n : Nat} {lv : List (Nat × Value)} {st : List Value} {m : Mem} {Q : Option Value → Mem → Prop} {ix o ci j z d : Nat} {x : Int64} (k : Nat) (hd : M.2.2.2.2.2.2[k]? = some (pc, Instr.putfield ix, 3)) (hn : pc + 3 = n) (hf : FPut M.1.cls ix ci j .long) (hs : shp o = (ci, z)) (hk : (fkd ci)[j]? = some (1, d)) (h : E M n lv st (sJ m o j x) Q) : E M pc lv (.long x :: .ref o :: st) m Q :=
  E_put ⟨k, hd⟩ hn hf hs (List.getElem?_eq_some_iff.mp hk).1 (fun _ => rfl) (fun _ => rfl) (fun b => flds_sJ hk) (fun b cA d hd => ent_sJ hd) (fun h => h) h
theorem E_putN {M : MI} {pc n : Nat} {lv : List (Nat × Value)} {st : List Value} {m : Mem} {Q : Option Value → Mem → Prop} {ix o j z d x : Nat} {t : String} (k : Nat) (hd : M.2.2.2.2.2.2[k]? = some (pc, Instr.putfield ix, 3)) (hn : pc + 3 = n) (hf : FPut M.1.cls ix 11 j (.object t)) (hs : shp o = (11, z)) (hk : (fkd 11)[j]? = some (2, d)) (hx : shp x = (5, 0)) (h : E M n lv st (sN m j x) Q) : E M pc lv (.ref x :: .ref o :: st) m Q :=
  E_put ⟨k, hd⟩ hn hf hs (List.getElem?_eq_some_iff.mp hk).1 (fun _ => rfl) (fun _ => rfl) (fun b => flds_sN hk) (fun b cA e he => ent_cong rfl rfl (fun h11 => by
    have h0 := shp_11 e h11
    have h1 := shp_11 o (by rw [hs])
    exact absurd (h0.trans h1.symm) he) fk_two) (fun hm => by
    refine ⟨?_, ?_⟩
    · show shp (if 13 = j then x else m.2.2 13) = _
      split
      · exact hx
      · exact hm.1
    · show shp (if 14 = j then x else m.2.2 14) = _
      split
      · exact hx
      · exact hm.2) h
/-! arrays -/
section
variable {M : MI} {pc n : Nat} {lv : List (Nat × Value)} {st : List Value} {m : Mem} {Q : Option Value → Mem → Prop} {a L : Nat} {i x : Int32}
theorem E_iald (k : Nat) (hd : M.2.2.2.2.2.2[k]? = some (pc, .iaload, 1)) (hn : pc + 1 = n) (hs : shp a = (100, L)) (hi : inb i L) (h : E M n lv (.int (gI m a (ixn i)) :: st) m Q) : E M pc lv (.int i :: .ref a :: st) m Q := by
  intro g p l e s mid args below meth c H locs G ls hE hw hl
  subst hn
  exact va_iald (f := m.1 a) hE.1 hE.2.1 hE.2.2.2.2.2.2.2.1 hw.1 a 0 (by rw [Wd_get (shp_lt hs (by omega)), ent_arI hs]) rfl (inb_vp hi) (gdec g hd) (h g p l e s mid args below meth c H locs G ls hE hw hl)
theorem E_lald (k : Nat) (hd : M.2.2.2.2.2.2[k]? = some (pc, .laload, 1)) (hn : pc + 1 = n) (hs : shp a = (101, L)) (hi : inb i L) (h : E M n lv (.long (gJ m a (ixn i)) :: st) m Q) : E M pc lv (.int i :: .ref a :: st) m Q := by
  intro g p l e s mid args below meth c H locs G ls hE hw hl
  subst hn
  exact va_lald (f := m.2.1 a) hE.1 hE.2.1 hE.2.2.2.2.2.2.2.1 hw.1 a 1 (by rw [Wd_get (shp_lt hs (by omega)), ent_arJ hs]) rfl (inb_vp hi) (gdec g hd) (h g p l e s mid args below meth c H locs G ls hE hw hl)
theorem E_bald (k : Nat) (hd : M.2.2.2.2.2.2[k]? = some (pc, .baload, 1)) (hn : pc + 1 = n) (hs : shp a = (102, L)) (hi : inb i L) (h : E M n lv (.int (gI m a (ixn i)) :: st) m Q) : E M pc lv (.int i :: .ref a :: st) m Q := by
  intro g p l e s mid args below meth c H locs G ls hE hw hl
  subst hn
  exact va_bald (f := m.1 a) hE.1 hE.2.1 hE.2.2.2.2.2.2.2.1 hw.1 a 2 (by rw [Wd_get (shp_lt hs (by omega)), ent_arB hs]) rfl (inb_vp hi) (gdec g hd) (h g p l e s mid args below meth c H locs G ls hE hw hl)
theorem E_zald (k : Nat) (hd : M.2.2.2.2.2.2[k]? = some (pc, .baload, 1)) (hn : pc + 1 = n) (hs : shp a = (103, L)) (hi : inb i L) (h : E M n lv (.int (gI m a (ixn i)) :: st) m Q) : E M pc lv (.int i :: .ref a :: st) m Q := by
  intro g p l e s mid args below meth c H locs G ls hE hw hl
  subst hn
  exact va_zald (f := m.1 a) hE.1 hE.2.1 hE.2.2.2.2.2.2.2.1 hw.1 a 3 (by rw [Wd_get (shp_lt hs (by omega)), ent_arZ hs]) rfl (inb_vp hi) (gdec g hd) (h g p l e s mid args below meth c H locs G ls hE hw hl)
theorem E_aldL (k : Nat) (hd : M.2.2.2.2.2.2[k]? = some (pc, .aaload, 1)) (hn : pc + 1 = n) (hs : shp a = (104, L)) (hi : inb i L) (h : E M n lv (.ref (a + 1 + 3 * ixn i) :: st) m Q) : E M pc lv (.int i :: .ref a :: st) m Q := by
  intro g p l e s mid args below meth c H locs G ls hE hw hl
  subst hn
  exact va_aldq (f := fun k => some (G.2.1 + (a + 1 + 3 * k))) hE.1 hE.2.1 hE.2.2.2.2.2.2.2.1 hw.1 a 4 (by rw [Wd_get (shp_lt hs (by omega)), ent_arL hs]) rfl (inb_vp hi) (gdec g hd) (h g p l e s mid args below meth c H locs G ls hE hw hl)
theorem E_aldP (k : Nat) (hd : M.2.2.2.2.2.2[k]? = some (pc, .aaload, 1)) (hn : pc + 1 = n) (hs : shp a = (105, L)) (hi : inb i L) (h : E M n lv (.ref (a + 1 + 16 * ixn i) :: st) m Q) : E M pc lv (.int i :: .ref a :: st) m Q := by
  intro g p l e s mid args below meth c H locs G ls hE hw hl
  subst hn
  exact va_aldq (f := fun k => some (G.2.1 + (a + 1 + 16 * k))) hE.1 hE.2.1 hE.2.2.2.2.2.2.2.1 hw.1 a 5 (by rw [Wd_get (shp_lt hs (by omega)), ent_arP hs]) rfl (inb_vp hi) (gdec g hd) (h g p l e s mid args below meth c H locs G ls hE hw hl)
theorem E_alenI {v : Int32} (k : Nat) (hd : M.2.2.2.2.2.2[k]? = some (pc, .arraylength, 1)) (hn : pc + 1 = n) (hs : shp a = (100, L)) (hv : Int32.ofNat L = v) (h : E M n lv (.int v :: st) m Q) : E M pc lv (.ref a :: st) m Q := by
  intro g p l e s mid args below meth c H locs G ls hE hw hl
  subst hn
  exact va_alen hE.1 hE.2.1 hE.2.2.2.2.2.2.2.1 hw.1 a 0 (by rw [Wd_get (shp_lt hs (by omega)), ent_arI hs]) rfl hv (gdec g hd) (h g p l e s mid args below meth c H locs G ls hE hw hl)
theorem E_iast (k : Nat) (hd : M.2.2.2.2.2.2[k]? = some (pc, .iastore, 1)) (hn : pc + 1 = n) (hs : shp a = (100, L)) (hi : inb i L) (h : E M n lv st (sI m a (ixn i) x) Q) : E M pc lv (.int x :: .int i :: .ref a :: st) m Q := by
  intro g p l e s mid args below meth c H locs G ls hE hw hl
  subst hn
  refine va_iast hE.1 hE.2.1 hE.2.2.2.2.2.2.2.1 hw.1 (Wd_D _ _ _) hw.2.1 a 0 (by rw [Wd_get (shp_lt hs (by omega)), ent_arI hs]) rfl (inb_vp hi) (gdec g hd) (fun H1 locs1 hP1 _ hS1 => ?_)
  rw [Wd_set (m' := sI m a (ixn i) x) (by rw [ent_arI hs]; congr 4; funext j; simp [upd, sI]) (fun d hd => ent_sI hd)] at hP1
  exact h g p l e s mid args below meth c H1 locs1 G ls hE ⟨hP1, hS1, hw.2.2⟩ hl
theorem E_last {x : Int64} (k : Nat) (hd : M.2.2.2.2.2.2[k]? = some (pc, .lastore, 1)) (hn : pc + 1 = n) (hs : shp a = (101, L)) (hi : inb i L) (h : E M n lv st (sJ m a (ixn i) x) Q) : E M pc lv (.long x :: .int i :: .ref a :: st) m Q := by
  intro g p l e s mid args below meth c H locs G ls hE hw hl
  subst hn
  refine va_last hE.1 hE.2.1 hE.2.2.2.2.2.2.2.1 hw.1 (Wd_D _ _ _) hw.2.1 a 1 (by rw [Wd_get (shp_lt hs (by omega)), ent_arJ hs]) rfl (inb_vp hi) (gdec g hd) (fun H1 locs1 hP1 _ hS1 => ?_)
  rw [Wd_set (m' := sJ m a (ixn i) x) (by rw [ent_arJ hs]; congr 5; funext j; simp [vp_updL, sJ]) (fun d hd => ent_sJ hd)] at hP1
  exact h g p l e s mid args below meth c H1 locs1 G ls hE ⟨hP1, hS1, hw.2.2⟩ hl
theorem E_bast (k : Nat) (hd : M.2.2.2.2.2.2[k]? = some (pc, .bastore, 1)) (hn : pc + 1 = n) (hs : shp a = (102, L)) (hi : inb i L) (h : E M n lv st (sI m a (ixn i) (x.toInt8.toInt32)) Q) : E M pc lv (.int x :: .int i :: .ref a :: st) m Q := by
  intro g p l e s mid args below meth c H locs G ls hE hw hl
  subst hn
  refine va_bast hE.1 hE.2.1 hE.2.2.2.2.2.2.2.1 hw.1 (Wd_D _ _ _) hw.2.1 a 2 (by rw [Wd_get (shp_lt hs (by omega)), ent_arB hs]) rfl (inb_vp hi) (gdec g hd) (fun H1 locs1 hP1 _ hS1 => ?_)
  rw [Wd_set (m' := sI m a (ixn i) (x.toInt8.toInt32)) (by rw [ent_arB hs]; congr 4; funext j; simp [upd, sI, vp_nar, narrow]) (fun d hd => ent_sI hd)] at hP1
  exact h g p l e s mid args below meth c H1 locs1 G ls hE ⟨hP1, hS1, hw.2.2⟩ hl
theorem E_zast (k : Nat) (hd : M.2.2.2.2.2.2[k]? = some (pc, .bastore, 1)) (hn : pc + 1 = n) (hs : shp a = (103, L)) (hi : inb i L) (h : E M n lv st (sI m a (ixn i) (x &&& 1)) Q) : E M pc lv (.int x :: .int i :: .ref a :: st) m Q := by
  intro g p l e s mid args below meth c H locs G ls hE hw hl
  subst hn
  refine va_zast hE.1 hE.2.1 hE.2.2.2.2.2.2.2.1 hw.1 (Wd_D _ _ _) hw.2.1 a 3 (by rw [Wd_get (shp_lt hs (by omega)), ent_arZ hs]) rfl (inb_vp hi) (gdec g hd) (fun H1 locs1 hP1 _ hS1 => ?_)
  rw [Wd_set (m' := sI m a (ixn i) (x &&& 1)) (by rw [ent_arZ hs]; congr 4; funext j; simp [upd, sI, vp_nar, narrow]) (fun d hd => ent_sI hd)] at hP1
  exact h g p l e s mid args below meth c H1 locs1 G ls hE ⟨hP1, hS1, hw.2.2⟩ hl
/-- System.arraycopy of ints, of longs -/
abbrev cpok (sp dp z : Int32) (n0 n1 : Nat) : Prop := ¬ sp < 0 ∧ ¬ dp < 0 ∧ ¬ z < 0 ∧ ixn sp + ixn z ≤ n0 ∧ ixn dp + ixn z ≤ n1
theorem E_copyI {ix a0 n0 : Nat} {sp dp z : Int32} (k : Nat) (hd : M.2.2.2.2.2.2[k]? = some (pc, .invokestatic ix, 3)) (hn : pc + 3 = n) (h1 : Cond.methodLink M.1.cls ix arraycopyName ∈ TW) (h2 : Cond.native arraycopyName ∈ TW) (h3 : Cond.static arraycopyName ∈ TW) (h4 : Cond.initialized "java/lang/System" ∈ TW) (hr : 1 ≤ M.2.2.2.2.1 ∧ (st.map fun v => v.category).sum + 18 ≤ M.2.2.2.2.2.1) (hs0 : shp a0 = (100, n0)) (hs : shp a = (100, L)) (hi : cpok sp dp z n0 L) (h : E M n lv st (cpI m a0 (ixn sp) a (ixn dp) (ixn z)) Q) : E M pc lv (.int z :: .int dp :: .ref a :: .int sp :: .ref a0 :: st) m Q := by
  intro g p l e s mid args below meth c H locs G ls hE hw hl
  subst hn
  have hsum : ((st.map (cv G.2.1)).map fun v => v.category).sum = (st.map fun v => v.category).sum := by rw [List.map_map]; congr 1; apply List.map_congr_left; intro v _; exact cv_cat _ v
  refine va_copyi hE.1 hE.2.1 (by rw [hE.2.2.1]; exact hl.1.symm) hE.2.2.2.1 (hE.2.2.2.2.1 _ h1) (hE.2.2.2.2.1 _ h2) (hE.2.2.2.2.1 _ h3) (hE.2.2.2.2.1 _ h4) hE.2.2.2.2.2.2.2.1 hw.1 (Wd_D _ _ _) hw.2.1 a0 a 0 0 (ty := .int) (by rw [Wd_get (shp_lt hs0 (by omega)), ent_arI hs0]) (by rw [Wd_get (shp_lt hs (by omega)), ent_arI hs]) rfl rfl rfl hi.1 hi.2.1 hi.2.2.1 hi.2.2.2.1 hi.2.2.2.2 (fun _ _ => rfl) hr.1 (by rw [hsum]; exact hr.2) (gdec g hd) (fun H1 locs1 hP1 _ hS1 => ?_)
  rw [Wd_set (m := m) (m' := cpI m a0 (ixn sp) a (ixn dp) (ixn z)) (by rw [ent_arI hs]; congr 4; funext j; simp [va_cpy, cpI]) (fun d hd => ent_cong (by funext j; simp [cpI, hd]) rfl (fun _ => rfl) fk_two)] at hP1
  exact h g p l e s mid args below meth c H1 locs1 G ls hE ⟨hP1, hS1, hw.2.2⟩ hl
theorem E_copyJ {ix a0 n0 : Nat} {sp dp z : Int32} (k : Nat) (hd : M.2.2.2.2.2.2[k]? = some (pc, .invokestatic ix, 3)) (hn : pc + 3 = n) (h1 : Cond.methodLink M.1.cls ix arraycopyName ∈ TW) (h2 : Cond.native arraycopyName ∈ TW) (h3 : Cond.static arraycopyName ∈ TW) (h4 : Cond.initialized "java/lang/System" ∈ TW) (hr : 1 ≤ M.2.2.2.2.1 ∧ (st.map fun v => v.category).sum + 18 ≤ M.2.2.2.2.2.1) (hs0 : shp a0 = (101, n0)) (hs : shp a = (101, L)) (hi : cpok sp dp z n0 L) (h : E M n lv st (cpJ m a0 (ixn sp) a (ixn dp) (ixn z)) Q) : E M pc lv (.int z :: .int dp :: .ref a :: .int sp :: .ref a0 :: st) m Q := by
  intro g p l e s mid args below meth c H locs G ls hE hw hl
  subst hn
  have hsum : ((st.map (cv G.2.1)).map fun v => v.category).sum = (st.map fun v => v.category).sum := by rw [List.map_map]; congr 1; apply List.map_congr_left; intro v _; exact cv_cat _ v
  refine va_copyl hE.1 hE.2.1 (by rw [hE.2.2.1]; exact hl.1.symm) hE.2.2.2.1 (hE.2.2.2.2.1 _ h1) (hE.2.2.2.2.1 _ h2) (hE.2.2.2.2.1 _ h3) (hE.2.2.2.2.1 _ h4) hE.2.2.2.2.2.2.2.1 hw.1 (Wd_D _ _ _) hw.2.1 a0 a 1 1 (ty := .long) (by rw [Wd_get (shp_lt hs0 (by omega)), ent_arJ hs0]) (by rw [Wd_get (shp_lt hs (by omega)), ent_arJ hs]) rfl rfl rfl hi.1 hi.2.1 hi.2.2.1 hi.2.2.2.1 hi.2.2.2.2 (fun _ _ => rfl) hr.1 (by rw [hsum]; exact hr.2) (gdec g hd) (fun H1 locs1 hP1 _ hS1 => ?_)
  rw [Wd_set (m := m) (m' := cpJ m a0 (ixn sp) a (ixn dp) (ixn z)) (by rw [ent_arJ hs]; congr 5; funext j; simp [va_cpy, cpJ]) (fun d hd => ent_cong rfl (by funext j; simp [cpJ, hd]) (fun _ => rfl) fk_two)] at hP1
  exact h g p l e s mid args below meth c H1 locs1 G ls hE ⟨hP1, hS1, hw.2.2⟩ hl
end
/-! ends -/
section
variable {M : MI} {pc : Nat} {lv : List (Nat × Value)} {m : Mem} {Q : Option Value → Mem → Prop}
theorem E_ireturn {v : Int32} (k : Nat) (hd : M.2.2.2.2.2.2[k]? = some (pc, .ireturn, 1)) (hr : M.2.2.2.1 = some .int) (hq : Q (some (.int v)) m) : E M pc lv [.int v] m Q := by
  intro g p l e s mid args below meth c H locs G ls hE hw hl
  exact W.iret hE.1 hE.2.1 (by rw [hE.2.2.2.2.2.1]; exact hr) (fun t ht _ => ⟨⟨some (.int v), m, rfl, hq, by rw [ht]; exact hw.1, hw.2.2⟩, hw.2.1.F ht⟩) hw.2.1.2.2 (gdec g hd) (hlocks := hE.2.2.2.2.2.2.1)
theorem E_zreturn {v : Int32} (k : Nat) (hd : M.2.2.2.2.2.2[k]? = some (pc, .ireturn, 1)) (hr : M.2.2.2.1 = some .boolean) (hv : v = 0 ∨ v = 1) (hq : Q (some (.int v)) m) : E M pc lv [.int v] m Q := by
  intro g p l e s mid args below meth c H locs G ls hE hw hl
  exact W.zret (ty := .boolean) hE.1 hE.2.1 (by rw [hE.2.2.2.2.2.1]; exact hr) (by rcases hv with rfl | rfl <;> rfl) (fun t ht _ => ⟨⟨some (.int v), m, rfl, hq, by rw [ht]; exact hw.1, hw.2.2⟩, hw.2.1.F ht⟩) hw.2.1.2.2 (gdec g hd) (hlocks := hE.2.2.2.2.2.2.1)
theorem E_lreturn {v : Int64} (k : Nat) (hd : M.2.2.2.2.2.2[k]? = some (pc, .lreturn, 1)) (hr : M.2.2.2.1 = some .long) (hq : Q (some (.long v)) m) : E M pc lv [.long v] m Q := by
  intro g p l e s mid args below meth c H locs G ls hE hw hl
  exact W.lret hE.1 hE.2.1 (by rw [hE.2.2.2.2.2.1]; exact hr) (fun t ht _ => ⟨⟨some (.long v), m, rfl, hq, by rw [ht]; exact hw.1, hw.2.2⟩, hw.2.1.F ht⟩) hw.2.1.2.2 (gdec g hd) (hlocks := hE.2.2.2.2.2.2.1)
theorem E_return (k : Nat) (hd : M.2.2.2.2.2.2[k]? = some (pc, .return_, 1)) (hr : M.2.2.2.1 = none) (hq : Q none m) : E M pc lv [] m Q := by
  intro g p l e s mid args below meth c H locs G ls hE hw hl
  exact W.vret hE.1 hE.2.1 (by rw [hE.2.2.2.2.2.1]; exact hr) (fun t ht _ => ⟨⟨none, m, rfl, hq, by rw [ht]; exact hw.1, hw.2.2⟩, hw.2.1.F ht⟩) hw.2.1.2.2 (gdec g hd) (hlocks := hE.2.2.2.2.2.2.1)
end
/-! calls -/
theorem E_run {M : MI} {pc n : Nat} {lv : List (Nat × Value)} {st : List Value} {m : Mem} {Q Q' : Option Value → Mem → Prop} {p : Program} {l : Launch} {e : Env} {s : State} {mid : MethodId} {args : Array Value} {below : List Frame} {meth : Method} {c : Code} {H : Heap} {locs : List Loc} {G : Gx} {ls : Array Slot} {sk : List Value} {av : Array Value} (g : GoodM M) (hn : pc + 3 = n)
    (hE : EnvM M p s mid args meth c G) (hw : WldM s H locs G m) (hl : lv_has ls M.2.2.1 (lv.map (lc G.2.1)))
    (hr : va_Run p l e (rmM M) s mid args below meth c H locs 0 0 0 0 (F0 mid pc ls sk) (st.map (cv G.2.1)) (QcM G Q' av) (Ab G.2.1))
    (kk : ∀ r m', Q' r m' → E M n lv (r.toList ++ st) m' Q) : W p l e (rmM M) s mid args below meth c H locs 0 0 (MQ below (QcM G Q) args s 0 0 (Ab G.2.1)) (F0 mid pc ls sk) := by
  subst hn
  intro T hT X
  obtain ⟨v, st₀, t, T', L, h0, X', hL, e1, e2, ⟨⟨r, m', hv, hq, hP, hM⟩, hz, hk⟩, stp⟩ := hr T hT X
  have hv : v = r.map (cv G.2.1) := by injection hv
  subst hv
  rw [h0] at hz hk
  have hS : va_S (Ab G.2.1) s.heap T'.heap (locs ++ L) := by
    refine ⟨Nat.le_trans hw.2.1.1 (by rw [e1]; exact hz), fun q h1 h2 => ?_, fun q hq => ?_⟩
    · rw [e1, hk q (Nat.lt_of_lt_of_le h1 hw.2.1.1) h2]
      exact hw.2.1.2.1 q h1 h2
    · rcases List.mem_append.mp hq with h | h
      · exact hw.2.1.2.2 q h
      · exact hL q h
  have hW := kk r m' hq g p l e s mid args below meth c T'.heap (locs ++ L) G ls hE ⟨by rw [e1]; exact hP, hS, hM⟩ hl
  obtain ⟨t2, a1, b1⟩ := hW T' rfl X'
  refine ⟨t2, stp t2 ?_, b1⟩
  have e3 : (r.toList ++ st).map (cv G.2.1) = (r.map (cv G.2.1)).toList ++ st.map (cv G.2.1) := by cases r <;> simp
  rw [e3] at a1
  exact a1
theorem WU_of {M : MI} {p : Program} {s U : State} {mid : MethodId} {args : Array Value} {meth : Method} {c : Code} {G : Gx} {H : Heap} {locs : List Loc} {m : Mem} (hE : EnvM M p s mid args meth c G) (hw : WldM s H locs G m) (hU : U.heap = H) (hW : s.WarmedH U.vm) : WU G m U := by
  obtain ⟨-, -, -, -, -, -, -, hK, hT, hN⟩ := hE
  refine ⟨by rw [hU]; exact hw.1, va_K.moved hW.alike hK, ?_, hN.warm hW, hw.2.2⟩
  rw [hU]
  exact Txt.warm hW (hT.kept hw.2.1.2.1)
theorem tw_pay {M' : MI} (hg : GoodM M') : GoodIn TW (twM M') := by
  intro w hw
  rcases List.mem_cons.mp hw with rfl | h
  · exact ⟨hg.2.1, good_of_word (TW_good _ hg.2.1)⟩
  · exact ⟨h, good_of_word (TW_good _ h)⟩
/-- words of a call: virtual (also private), static, of a nest mate -/
def COV (own : String) (ix : Nat) (M' : MI) (ci na : Nat) : Prop := GoodM M' ∧ Cond.methodLink own ix M'.1 ∈ TW ∧ Cond.instanceMethod M'.1 ∈ TW ∧ Cond.selects M'.1.cls M'.1 M'.1 ∈ TW ∧ (∃ q, vwCl[ci]? = some q ∧ q.1 = M'.1.cls) ∧ (M'.1.cls ≠ "java/lang/invoke/MethodHandle" ∧ M'.1.cls ≠ "java/lang/invoke/VarHandle" ∧ (parseMethodDescriptor M'.1.desc).map (fun d => d.parameters.length) = some na)
def COS (own : String) (ix : Nat) (M' : MI) (na : Nat) : Prop := GoodM M' ∧ Cond.methodLink own ix M'.1 ∈ TW ∧ Cond.static M'.1 ∈ TW ∧ (M'.1.cls ≠ "java/lang/invoke/MethodHandle" ∧ M'.1.cls ≠ "java/lang/invoke/VarHandle" ∧ (parseMethodDescriptor M'.1.desc).map (fun d => d.parameters.length) = some na)
def CNS (own : String) (ix : Nat) (M' : MI) (na : Nat) : Prop := GoodM M' ∧ (∃ host, (own, ix, M'.1, host) ∈ nwL) ∧ Cond.static M'.1 ∈ TW ∧ (M'.1.cls ≠ "java/lang/invoke/MethodHandle" ∧ M'.1.cls ≠ "java/lang/invoke/VarHandle" ∧ (parseMethodDescriptor M'.1.desc).map (fun d => d.parameters.length) = some na)
abbrev Fits (M M' : MI) : Prop := M'.2.2.2.2.1 + 1 ≤ M.2.2.2.2.1 ∧ 8 + (M'.2.2.1 + 11) + M'.2.2.2.2.2.1 ≤ M.2.2.2.2.2.1
theorem cat_sum (b : Nat) (st : List Value) : ((st.map (cv b)).map fun v => v.category).sum = (st.map fun v => v.category).sum := by rw [List.map_map]; congr 1; apply List.map_congr_left; intro v _; exact cv_cat _ v
section
variable {M M' : MI} {pc n : Nat} {lv : List (Nat × Value)} {st sk : List Value} {m : Mem} {Q Q' : Option Value → Mem → Prop} {ix ci na o z : Nat}
theorem E_callV (k : Nat) (hd : M.2.2.2.2.2.2[k]? = some (pc, .invokevirtual ix, 3)) (hn : pc + 3 = n) (co : COV M.1.cls ix M' ci na) (hf : Fits M M') (hs : shp o = (ci, z)) (as : List Value) (ha : as.length = na) (hsk : sk = as.reverse ++ .ref o :: st) (hc : (st.map fun v => v.category).sum ≤ 8) (ht : Mt M' (.ref o :: as) m Q') (kk : ∀ r m', Q' r m' → E M n lv (r.toList ++ st) m' Q) : E M pc lv sk m Q := by
  intro g p l e s mid args below meth c H locs G ls hE hw hl
  obtain ⟨hg, c1, c2, c3, ⟨q, c4, c5⟩, c6⟩ := co
  have hlt := shp_lt hs (by have := vw_lt c4; omega)
  refine E_run g hn hE hw hl (va_runV (As := as.map (cv G.2.1)) (b := G.2.1 + o) (C := M'.1.cls) (index := ix) (y := M'.1) (bytes := M'.2.1) (maxL := M'.2.2.1) (ret := M'.2.2.2.1) (n := na) (Ts := TW) (own := M.1.cls) (nL := M.2.2.1) ⟨hE.1, hE.2.1, hE.2.2.1, hE.2.2.2.1, hE.2.2.2.2.1⟩ (ht l G) ⟨callB_of na hE.2.2.2.2.1 (tw_pay hg) rfl rfl rfl (hE.2.2.2.2.1 _ hg.2.2.1) (hE.2.2.2.2.1 _ c1) c6 hf, hE.2.2.2.2.1 _ c2, hE.2.2.2.2.1 _ c3⟩ ⟨PcM_blind _ _ _, ?_, fun U hU hW => ⟨rfl, WU_of hE hw hU hW⟩⟩ rfl (by simpa using ha) hl.1 ?_ (lv_room (by rw [cat_sum]; exact hc)) (gdec g hd) ⟨Nat.le_refl _, Nat.le_refl _⟩) kk
  · rw [← c5]
    exact va_recv hE.2.2.2.2.2.2.2.1 hw.1 c4 (q0 := o) (fs := flds G.2.1 m o ci) (by rw [Wd_get hlt, ent_obj hs (vw_lt c4)])
  · show sk.map (cv G.2.1) = _
    rw [hsk]
    simp [cv, List.map_append, List.map_reverse]
theorem E_callS (k : Nat) (hd : M.2.2.2.2.2.2[k]? = some (pc, .invokestatic ix, 3)) (hn : pc + 3 = n) (co : COS M.1.cls ix M' na) (hf : Fits M M') (as : List Value) (ha : as.length = na) (hsk : sk = as.reverse ++ st) (hc : (st.map fun v => v.category).sum ≤ 8) (ht : Mt M' as m Q') (kk : ∀ r m', Q' r m' → E M n lv (r.toList ++ st) m' Q) : E M pc lv sk m Q := by
  intro g p l e s mid args below meth c H locs G ls hE hw hl
  obtain ⟨hg, c1, c2, c6⟩ := co
  refine E_run g hn hE hw hl (va_runS (As := as.map (cv G.2.1)) (index := ix) (y := M'.1) (bytes := M'.2.1) (maxL := M'.2.2.1) (ret := M'.2.2.2.1) (n := na) (Ts := TW) (own := M.1.cls) (nL := M.2.2.1) ⟨hE.1, hE.2.1, hE.2.2.1, hE.2.2.2.1, hE.2.2.2.2.1⟩ (ht l G) ⟨callB_of na hE.2.2.2.2.1 (tw_pay hg) rfl rfl rfl (hE.2.2.2.2.1 _ hg.2.2.1) (hE.2.2.2.2.1 _ c1) c6 hf, hE.2.2.2.2.1 _ c2⟩ ⟨PcM_blind _ _ _, fun U hU hW => ⟨rfl, WU_of hE hw hU hW⟩⟩ rfl (by simpa using ha) hl.1 ?_ (lv_room (by rw [cat_sum]; exact hc)) (gdec g hd) ⟨Nat.le_refl _, Nat.le_refl _⟩) kk
  show sk.map (cv G.2.1) = _
  rw [hsk]
  simp [List.map_append, List.map_reverse]
theorem E_callSN (k : Nat) (hd : M.2.2.2.2.2.2[k]? = some (pc, .invokestatic ix, 3)) (hn : pc + 3 = n) (co : CNS M.1.cls ix M' na) (hf : Fits M M') (as : List Value) (ha : as.length = na) (hsk : sk = as.reverse ++ st) (hc : (st.map fun v => v.category).sum ≤ 8) (ht : Mt M' as m Q') (kk : ∀ r m', Q' r m' → E M n lv (r.toList ++ st) m' Q) : E M pc lv sk m Q := by
  intro g p l e s mid args below meth c H locs G ls hE hw hl
  obtain ⟨hg, ⟨host, c1⟩, c2, c6⟩ := co
  refine E_run g hn hE hw hl (va_runSN (As := as.map (cv G.2.1)) (index := ix) (y := M'.1) (host := host) (bytes := M'.2.1) (maxL := M'.2.2.1) (ret := M'.2.2.2.1) (n := na) (Ts := TW) (own := M.1.cls) (nL := M.2.2.1) ⟨hE.1, hE.2.1, hE.2.2.1, hE.2.2.2.1, hE.2.2.2.2.1⟩ (ht l G) ⟨va_cnB na hE.2.2.2.2.1 (tw_pay hg) rfl rfl rfl (hE.2.2.2.2.2.2.2.2.2 _ c1) (hE.2.2.2.2.1 _ hg.2.2.1) c6 hf, hE.2.2.2.2.1 _ c2, trivial⟩ ⟨PcM_blind _ _ _, fun U hU hW => ⟨rfl, WU_of hE hw hU hW⟩⟩ rfl (by simpa using ha) hl.1 ?_ (lv_room (by rw [cat_sum]; exact hc)) (gdec g hd) ⟨Nat.le_refl _, Nat.le_refl _⟩) kk
  show sk.map (cv G.2.1) = _
  rw [hsk]
  simp [List.map_append, List.map_reverse]
end


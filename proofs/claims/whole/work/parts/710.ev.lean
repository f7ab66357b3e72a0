/-! EV: the machine at a place, its surroundings held fixed; cells may grow -/
abbrev Cx : Type := Program × Launch × Env × Room × State × MethodId × Array Value × List Frame × Method × Code × Gx × (State → Prop)
abbrev xG (x : Cx) : Gx := x.2.2.2.2.2.2.2.2.2.2.1
abbrev xS (x : Cx) : State := x.2.2.2.2.1
abbrev xR (x : Cx) : Room := x.2.2.2.1
def EV (M : MI) (x : Cx) (cs ss pc : Nat) (lv : List (Nat × Value)) (st : List Value) (m : Mem) : Prop :=
  EnvM M x.1 (xS x) x.2.2.2.2.2.1 x.2.2.2.2.2.2.1 x.2.2.2.2.2.2.2.2.1 x.2.2.2.2.2.2.2.2.2.1 (xG x) → ∀ (H : Heap) (locs : List Loc) (ls : Array Slot), WldM (xS x) H locs (xG x) m → lv_has ls M.2.2.1 lv →
    W x.1 x.2.1 x.2.2.1 (xR x) (xS x) x.2.2.2.2.2.1 x.2.2.2.2.2.2.1 x.2.2.2.2.2.2.2.1 x.2.2.2.2.2.2.2.2.1 x.2.2.2.2.2.2.2.2.2.1 H locs cs ss x.2.2.2.2.2.2.2.2.2.2.2 (F0 x.2.2.2.2.2.1 pc ls st)
section
variable {M M' : MI} {x : Cx} {cs ss pc n : Nat} {lv lv' : List (Nat × Value)} {st sk : List Value} {m : Mem}
theorem V_sub (ks : List Nat) (hp : lv_pick lv ks = lv') (h : EV M x cs ss pc lv' st m) : EV M x cs ss pc lv st m := fun hE H locs ls hw hl => h hE H locs ls hw (lv_sub hl ks hp)

theorem V_aload_n {j : Fin 4} {i : Nat} {y : Nat} (hdg : decode M.2.1 pc = .ok (.aload_n j, 1)) (hn : pc + 1 = n) (hi : (j : Nat) = i) (q : Nat) (hq : lv[q]? = some (i, .ref y)) (h : EV M x cs ss n lv (.ref y :: st) m) : EV M x cs ss pc lv (st) m := by
  intro hE H locs ls hw hl
  subst hn
  exact lv_aload_n hE.1 hE.2.1 hdg hi (lv_at hl q hq) (h hE H locs ls hw hl)
theorem V_aload {i : Nat} {y : Nat} (hdg : decode M.2.1 pc = .ok (.aload i, 2)) (hn : pc + 2 = n) (q : Nat) (hq : lv[q]? = some (i, .ref y)) (h : EV M x cs ss n lv (.ref y :: st) m) : EV M x cs ss pc lv (st) m := by
  intro hE H locs ls hw hl
  subst hn
  exact lv_aload hE.1 hE.2.1 hdg (lv_at hl q hq) (h hE H locs ls hw hl)
theorem V_iload_n {j : Fin 4} {i : Nat} {y : Int32} (hdg : decode M.2.1 pc = .ok (.iload_n j, 1)) (hn : pc + 1 = n) (hi : (j : Nat) = i) (q : Nat) (hq : lv[q]? = some (i, .int y)) (h : EV M x cs ss n lv (.int y :: st) m) : EV M x cs ss pc lv (st) m := by
  intro hE H locs ls hw hl
  subst hn
  exact lv_iload_n hE.1 hE.2.1 hdg hi (lv_at hl q hq) (h hE H locs ls hw hl)
theorem V_iload {i : Nat} {y : Int32} (hdg : decode M.2.1 pc = .ok (.iload i, 2)) (hn : pc + 2 = n) (q : Nat) (hq : lv[q]? = some (i, .int y)) (h : EV M x cs ss n lv (.int y :: st) m) : EV M x cs ss pc lv (st) m := by
  intro hE H locs ls hw hl
  subst hn
  exact lv_iload hE.1 hE.2.1 hdg (lv_at hl q hq) (h hE H locs ls hw hl)
theorem V_iconst {z : Int} {v : Int32} (hdg : decode M.2.1 pc = .ok (.iconst z, 1)) (hn : pc + 1 = n) (hv : Int32.ofInt z = v) (h : EV M x cs ss n lv (.int v :: st) m) : EV M x cs ss pc lv (st) m := by
  intro hE H locs ls hw hl
  subst hn
  exact lv_iconst hE.1 hE.2.1 hdg hv (h hE H locs ls hw hl)
theorem V_bipush {z : Int} {v : Int32} (hdg : decode M.2.1 pc = .ok (.bipush z, 2)) (hn : pc + 2 = n) (hv : (Int8.ofInt z).toInt32 = v) (h : EV M x cs ss n lv (.int v :: st) m) : EV M x cs ss pc lv (st) m := by
  intro hE H locs ls hw hl
  subst hn
  exact lv_bipush hE.1 hE.2.1 hdg hv (h hE H locs ls hw hl)
theorem V_iadd {y z : Int32} (hdg : decode M.2.1 pc = .ok (.iadd, 1)) (hn : pc + 1 = n) (h : EV M x cs ss n lv (.int (y + z) :: st) m) : EV M x cs ss pc lv (.int z :: .int y :: st) m := by
  intro hE H locs ls hw hl
  subst hn
  exact lv_iadd hE.1 hE.2.1 hdg (h hE H locs ls hw hl)
theorem V_isub {y z : Int32} (hdg : decode M.2.1 pc = .ok (.isub, 1)) (hn : pc + 1 = n) (h : EV M x cs ss n lv (.int (y - z) :: st) m) : EV M x cs ss pc lv (.int z :: .int y :: st) m := by
  intro hE H locs ls hw hl
  subst hn
  exact lv_isub hE.1 hE.2.1 hdg (h hE H locs ls hw hl)
theorem V_iand {y z : Int32} (hdg : decode M.2.1 pc = .ok (.iand, 1)) (hn : pc + 1 = n) (h : EV M x cs ss n lv (.int (y &&& z) :: st) m) : EV M x cs ss pc lv (.int z :: .int y :: st) m := by
  intro hE H locs ls hw hl
  subst hn
  exact lv_iand hE.1 hE.2.1 hdg (h hE H locs ls hw hl)
theorem V_i2l {y : Int32} (hdg : decode M.2.1 pc = .ok (.i2l, 1)) (hn : pc + 1 = n) (h : EV M x cs ss n lv (.long y.toInt64 :: st) m) : EV M x cs ss pc lv (.int y :: st) m := by
  intro hE H locs ls hw hl
  subst hn
  exact lv_i2l hE.1 hE.2.1 hdg rfl (h hE H locs ls hw hl)
theorem V_lcmp {y z : Int64} (hdg : decode M.2.1 pc = .ok (.lcmp, 1)) (hn : pc + 1 = n) (h : EV M x cs ss n lv (.int (lg_cmp y z) :: st) m) : EV M x cs ss pc lv (.long z :: .long y :: st) m := by
  intro hE H locs ls hw hl
  subst hn
  exact W.lcmp hE.1 hE.2.1 hdg (h hE H locs ls hw hl)
theorem V_goto {off : Int} {t : Nat} (hdg : decode M.2.1 pc = .ok (.goto off, 3)) (ht : (pc : Int) + off = (t : Int)) (h : EV M x cs ss t lv st m) : EV M x cs ss pc lv st m := by
  intro hE H locs ls hw hl
  exact lv_goto hE.1 hE.2.1 hdg ht (h hE H locs ls hw hl)
theorem V_if_eq {y : Int32} {off : Int} {t : Nat} (hdg : decode M.2.1 pc = .ok (.ifCond .eq off, 3)) (hn : pc + 3 = n) (ht : (pc : Int) + off = (t : Int)) (kt : y = 0 → EV M x cs ss t lv st m) (kf : ¬ y = 0 → EV M x cs ss n lv st m) : EV M x cs ss pc lv (.int y :: st) m := by
  intro hE H locs ls hw hl
  subst hn
  exact lv_if_eq hE.1 hE.2.1 hdg ht (fun hc => kt hc hE H locs ls hw hl) (fun hc => kf hc hE H locs ls hw hl)
theorem V_if_ne {y : Int32} {off : Int} {t : Nat} (hdg : decode M.2.1 pc = .ok (.ifCond .ne off, 3)) (hn : pc + 3 = n) (ht : (pc : Int) + off = (t : Int)) (kt : ¬ y = 0 → EV M x cs ss t lv st m) (kf : y = 0 → EV M x cs ss n lv st m) : EV M x cs ss pc lv (.int y :: st) m := by
  intro hE H locs ls hw hl
  subst hn
  exact lv_if_ne hE.1 hE.2.1 hdg ht (fun hc => kt hc hE H locs ls hw hl) (fun hc => kf hc hE H locs ls hw hl)
theorem V_icmp_eq {y z : Int32} {off : Int} {t : Nat} (hdg : decode M.2.1 pc = .ok (.if_icmp .eq off, 3)) (hn : pc + 3 = n) (ht : (pc : Int) + off = (t : Int)) (kt : y = z → EV M x cs ss t lv st m) (kf : ¬ y = z → EV M x cs ss n lv st m) : EV M x cs ss pc lv (.int z :: .int y :: st) m := by
  intro hE H locs ls hw hl
  subst hn
  exact lv_icmp_eq hE.1 hE.2.1 hdg ht (fun hc => kt hc hE H locs ls hw hl) (fun hc => kf hc hE H locs ls hw hl)
theorem V_icmp_gt {y z : Int32} {off : Int} {t : Nat} (hdg : decode M.2.1 pc = .ok (.if_icmp .gt off, 3)) (hn : pc + 3 = n) (ht : (pc : Int) + off = (t : Int)) (kt : z < y → EV M x cs ss t lv st m) (kf : ¬ z < y → EV M x cs ss n lv st m) : EV M x cs ss pc lv (.int z :: .int y :: st) m := by
  intro hE H locs ls hw hl
  subst hn
  exact lv_icmp_gt hE.1 hE.2.1 hdg ht (fun hc => kt hc hE H locs ls hw hl) (fun hc => kf hc hE H locs ls hw hl)
theorem V_istore {i : Nat} {y : Int32} (hdg : decode M.2.1 pc = .ok (.istore i, 2)) (hn : pc + 2 = n) (hz : i < M.2.2.1) (ks : List Nat) (hp : lv_pick ((i, .int y) :: lv.filter (fun q => !(q.1 == i) && !(q.1 + 1 == i && q.2.category == 2))) ks = lv') (h : EV M x cs ss n lv' st m) : EV M x cs ss pc lv (.int y :: st) m := by
  intro hE H locs ls hw hl
  subst hn
  exact lv_istore hE.1 hE.2.1 hdg hl hz rfl (fun ls' hl' => h hE H locs ls' hw (lv_sub hl' ks hp))
theorem V_astore {i : Nat} {y : Nat} (hdg : decode M.2.1 pc = .ok (.astore i, 2)) (hn : pc + 2 = n) (hz : i < M.2.2.1) (ks : List Nat) (hp : lv_pick ((i, .ref y) :: lv.filter (fun q => !(q.1 == i) && !(q.1 + 1 == i && q.2.category == 2))) ks = lv') (h : EV M x cs ss n lv' st m) : EV M x cs ss pc lv (.ref y :: st) m := by
  intro hE H locs ls hw hl
  subst hn
  exact lv_astore hE.1 hE.2.1 hdg hl hz rfl (fun ls' hl' => h hE H locs ls' hw (lv_sub hl' ks hp))
theorem V_iinc {i : Nat} {z : Int} {y v : Int32} (hdg : decode M.2.1 pc = .ok (.iinc i z, 3)) (hn : pc + 3 = n) (q : Nat) (hq : lv[q]? = some (i, .int y)) (hv : y + Int32.ofInt z = v) (hz : i < M.2.2.1) (ks : List Nat) (hp : lv_pick ((i, .int v) :: lv.filter (fun q => !(q.1 == i) && !(q.1 + 1 == i && q.2.category == 2))) ks = lv') (h : EV M x cs ss n lv' st m) : EV M x cs ss pc lv st m := by
  intro hE H locs ls hw hl
  subst hn
  exact lv_iinc hE.1 hE.2.1 hdg hl hq hv hz rfl (fun ls' hl' => h hE H locs ls' hw (lv_sub hl' ks hp))
theorem V_tableIn {y : Int32} {d lo hi off : Int} {offs : Array Int} {len t : Nat} (hdg : decode M.2.1 pc = .ok (.tableswitch d lo hi offs, len)) (h1 : ¬ y.toInt < lo) (h2 : ¬ hi < y.toInt) (ho : offs[(y.toInt - lo).toNat]? = some off) (ht : (pc : Int) + off = (t : Int)) (h : EV M x cs ss t lv st m) : EV M x cs ss pc lv (.int y :: st) m := by
  intro hE H locs ls hw hl
  exact lv_tableIn hE.1 hE.2.1 hdg h1 h2 ho ht (h hE H locs ls hw hl)
theorem V_tableOut {y : Int32} {d lo hi : Int} {offs : Array Int} {len t : Nat} (hdg : decode M.2.1 pc = .ok (.tableswitch d lo hi offs, len)) (h1 : y.toInt < lo ∨ hi < y.toInt) (ht : (pc : Int) + d = (t : Int)) (h : EV M x cs ss t lv st m) : EV M x cs ss pc lv (.int y :: st) m := by
  intro hE H locs ls hw hl
  exact lv_tableOut hE.1 hE.2.1 hdg h1 ht (h hE H locs ls hw hl)
/-- the script -/
def Scr (x : Cx) (b L : Nat) (xs : Nat → Int32) : Prop := va_X b L xs (xS x) (xS x).heap ∧ b < (xS x).heap.size ∧ ¬ Ab (xG x).2.1 b
theorem V_sld {b L : Nat} {xs : Nat → Int32} (hX : Scr x b L xs) {i : Int32} (hin : vp_in i L) (hdg : decode M.2.1 pc = .ok (.iaload, 1)) (hn : pc + 1 = n) (h : EV M x cs ss n lv (.int (xs i.toNatClampNeg) :: st) m) : EV M x cs ss pc lv (.int i :: .ref b :: st) m := by
  intro hE H locs ls hw hl
  subst hn
  exact va_sld hE.1 hE.2.1 hX.1 hX.2.1 hX.2.2 hw.2.1 hin hdg (h hE H locs ls hw hl)
theorem V_slen {b L : Nat} {xs : Nat → Int32} (hX : Scr x b L xs) (hdg : decode M.2.1 pc = .ok (.arraylength, 1)) (hn : pc + 1 = n) (h : EV M x cs ss n lv (.int (Int32.ofNat L) :: st) m) : EV M x cs ss pc lv (.ref b :: st) m := by
  intro hE H locs ls hw hl
  subst hn
  exact va_slen hE.1 hE.2.1 hX.1 hX.2.1 hX.2.2 hw.2.1 hdg (h hE H locs ls hw hl)
theorem V_run {Q' : Option Value → Mem → Prop} {p : Program} {l : Launch} {e : Env} {R : Room} {s : State} {mid : MethodId} {args : Array Value} {below : List Frame} {meth : Method} {c : Code} {H : Heap} {locs : List Loc} {G : Gx} {ls : Array Slot} {QQ : State → Prop} {av : Array Value}
    (hw : WldM s H locs G m) (hr : va_Run p l e R s mid args below meth c H locs cs ss 0 0 (F0 mid pc ls sk) st (QcM G Q' av) (Ab G.2.1))
    (kk : ∀ r m', Q' r m' → ∀ H1 locs1, WldM s H1 locs1 G m' → W p l e R s mid args below meth c H1 locs1 cs ss QQ (F0 mid (pc + 3) ls ((r.map (cv G.2.1)).toList ++ st))) : W p l e R s mid args below meth c H locs cs ss QQ (F0 mid pc ls sk) := by
  intro T hT X
  obtain ⟨v, st₀, t, T', L, h0, X', hL, e1, e2, ⟨⟨r, m', hv, hq, hP, hM⟩, hz, hk⟩, stp⟩ := hr T hT X
  have hv : v = r.map (cv G.2.1) := by injection hv
  subst hv
  rw [h0] at hz hk
  have hS : va_S (Ab G.2.1) s.heap T'.heap (locs ++ L) := by
    refine ⟨Nat.le_trans hw.2.1.1 (by rw [e1]; exact hz), fun q h1 h2 => ?_, fun q hq => ?_⟩
    · rw [e1, hk q (Nat.lt_of_lt_of_le h1 hw.2.1.1) h2]
      exact hw.2.1.2.1 q h1 h2
    · rcases List.mem_append.mp hq with h | h
      · exact hw.2.1.2.2 q h
      · exact hL q h
  obtain ⟨t2, a1, b1⟩ := kk r m' hq T'.heap (locs ++ L) ⟨by rw [e1]; exact hP, hS, hM⟩ T' rfl X'
  exact ⟨t2, stp t2 a1, b1⟩
abbrev FitR (R : Room) (M' : MI) : Prop := M'.2.2.2.2.1 + 1 ≤ R.frames ∧ 8 + (M'.2.2.1 + 11) + M'.2.2.2.2.2.1 ≤ R.locals
theorem V_callV {ix ci na o z : Nat} {Q' : Option Value → Mem → Prop} (hdg : decode M.2.1 pc = .ok (.invokevirtual ix, 3)) (hn : pc + 3 = n) (co : COV M.1.cls ix M' ci na) (hf : FitR (xR x) M') (hz : cs ≤ (xR x).cells ∧ ss ≤ (xR x).slots) (hs : shp o = (ci, z)) (as : List Value) (ha : as.length = na) (hsk : sk = (as.map (cv (xG x).2.1)).reverse ++ .ref ((xG x).2.1 + o) :: st) (hc : (st.map fun v => v.category).sum ≤ 8) (ht : Mt M' (.ref o :: as) m Q') (kk : ∀ r m', Q' r m' → EV M x cs ss n lv ((r.map (cv (xG x).2.1)).toList ++ st) m') : EV M x cs ss pc lv sk m := by
  obtain ⟨p, l, e, R, s, mid, args, below, meth, c, G, QQ⟩ := x
  intro hE H locs ls hw hl
  subst hn
  obtain ⟨hg, c1, c2, c3, ⟨q, c4, c5⟩, c6⟩ := co
  have hlt := shp_lt hs (by have := vw_lt c4; omega)
  refine V_run hw (va_runV (As := as.map (cv G.2.1)) (b := G.2.1 + o) (C := M'.1.cls) (index := ix) (y := M'.1) (bytes := M'.2.1) (maxL := M'.2.2.1) (ret := M'.2.2.2.1) (n := na) (Ts := TW) (own := M.1.cls) (nL := M.2.2.1) ⟨hE.1, hE.2.1, hE.2.2.1, hE.2.2.2.1, hE.2.2.2.2.1⟩ (ht l G) ⟨callB_of na hE.2.2.2.2.1 (tw_pay hg) rfl rfl rfl (hE.2.2.2.2.1 _ hg.2.2.1) (hE.2.2.2.2.1 _ c1) c6 hf, hE.2.2.2.2.1 _ c2, hE.2.2.2.2.1 _ c3⟩ ⟨PcM_blind _ _ _, ?_, fun U hU hW => ⟨rfl, WU_of hE hw hU hW⟩⟩ rfl (by simpa using ha) hl.1 hsk (lv_room hc) hdg hz) (fun r m' q H1 locs1 hw1 => kk r m' q hE H1 locs1 ls hw1 hl)
  rw [← c5]
  exact va_recv hE.2.2.2.2.2.2.2.1 hw.1 c4 (q0 := o) (fs := flds G.2.1 m o ci) (by rw [Wd_get hlt, ent_obj hs (vw_lt c4)])
theorem V_callI {ix ci na o z : Nat} {v : Int32} {m' : Mem} (hdg : decode M.2.1 pc = .ok (.invokevirtual ix, 3)) (hn : pc + 3 = n) (co : COV M.1.cls ix M' ci na) (hf : FitR (xR x) M') (hz : cs ≤ (xR x).cells ∧ ss ≤ (xR x).slots) (hs : shp o = (ci, z)) (as : List Value) (ha : as.length = na) (hsk : sk = (as.map (cv (xG x).2.1)).reverse ++ .ref ((xG x).2.1 + o) :: st) (hc : (st.map fun v => v.category).sum ≤ 8) (ht : Mt M' (.ref o :: as) m (qI v m')) (kk : EV M x cs ss n lv (.int v :: st) m') : EV M x cs ss pc lv sk m := V_callV hdg hn co hf hz hs as ha hsk hc ht (fun r m'' q => by obtain ⟨rfl, rfl⟩ := q; exact kk)
end

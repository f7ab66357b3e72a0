/-! corner, hay, round of OddHayLaw: 0 and the answer, or 1 where it was thrown -/
set_option maxRecDepth 50000 in
theorem twl_corner : Cond.codeWith ({ cls := "OddHayLaw", name := "corner", desc := "(LOddHay;III[J)I" } : MethodName) method_3_code 6 (some .int) [(0, 12, 15, 13)] ∈ TW := twc 1393 (by rfl) (by decide +kernel)
set_option maxRecDepth 50000 in
theorem twl_hay : Cond.codeWith ({ cls := "OddHayLaw", name := "hay", desc := "(LOddHay;II[J)I" } : MethodName) method_4_code 5 (some .int) [(0, 10, 13, 13)] ∈ TW := twc 1469 (by rfl) (by decide +kernel)
set_option maxRecDepth 50000 in
theorem twl_round : Cond.codeWith ({ cls := "OddHayLaw", name := "round", desc := "(LOddHay;III[J)I" } : MethodName) method_5_code 6 (some .int) [(0, 12, 15, 13)] ∈ TW := twc 1477 (by rfl) (by decide +kernel)
def M_LW_corner : MI := (({ cls := "OddHayLaw", name := "corner", desc := "(LOddHay;III[J)I" } : MethodName), method_3_code, 6, some .int, 7, 154, [(0, .aload 4, 2), (2, .iconst 0, 1), (3, .aload_n 0, 1), (4, .iload_n 1, 1), (5, .iload_n 2, 1), (6, .iload_n 3, 1), (7, .invokevirtual 7, 3), (10, .i2l, 1), (11, .lastore, 1), (12, .goto 7, 3), (15, .astore 5, 2), (17, .iconst 1, 1), (18, .ireturn, 1), (19, .iconst 0, 1), (20, .ireturn, 1)])
def M_LW_hay : MI := (({ cls := "OddHayLaw", name := "hay", desc := "(LOddHay;II[J)I" } : MethodName), method_4_code, 5, some .int, 7, 154, [(0, .aload_n 3, 1), (1, .iconst 0, 1), (2, .aload_n 0, 1), (3, .iload_n 1, 1), (4, .iload_n 2, 1), (5, .invokevirtual 15, 3), (8, .i2l, 1), (9, .lastore, 1), (10, .goto 7, 3), (13, .astore 4, 2), (15, .iconst 1, 1), (16, .ireturn, 1), (17, .iconst 0, 1), (18, .ireturn, 1)])
def M_LW_round : MI := (({ cls := "OddHayLaw", name := "round", desc := "(LOddHay;III[J)I" } : MethodName), method_5_code, 6, some .int, 7, 154, [(0, .aload 4, 2), (2, .iconst 0, 1), (3, .aload_n 0, 1), (4, .iload_n 1, 1), (5, .iload_n 2, 1), (6, .iload_n 3, 1), (7, .invokevirtual 19, 3), (10, .i2l, 1), (11, .lastore, 1), (12, .goto 7, 3), (15, .astore 5, 2), (17, .iconst 1, 1), (18, .ireturn, 1), (19, .iconst 0, 1), (20, .ireturn, 1)])
abbrev HH : Type := List (Nat × Nat × Nat × Nat)
def GoodL (M : MI) (hh : HH) : Prop := plainName M.1.cls = true ∧ Cond.codeWith M.1 M.2.1 M.2.2.1 M.2.2.2.1 hh ∈ TW ∧ Cond.initialized M.1.cls ∈ TW ∧ (∀ q ∈ M.2.2.2.2.2.2, decode M.2.1 q.1 = .ok q.2)
theorem ldec {M : MI} {hh : HH} (g : GoodL M hh) {k pc n : Nat} {i : Instr} (h : M.2.2.2.2.2.2[k]? = some (pc, i, n)) : decode M.2.1 pc = .ok (i, n) := g.2.2.2 (pc, i, n) (List.mem_of_getElem? h)
theorem G_LW_corner : GoodL M_LW_corner [(0, 12, 15, 13)] := ⟨by decide, twl_corner, tw_110, by decide +kernel⟩
theorem G_LW_hay : GoodL M_LW_hay [(0, 10, 13, 13)] := ⟨by decide, twl_hay, tw_110, by decide +kernel⟩
theorem G_LW_round : GoodL M_LW_round [(0, 12, 15, 13)] := ⟨by decide, twl_round, tw_110, by decide +kernel⟩
abbrev twL (M : MI) (hh : HH) : List Cond := Cond.codeWith M.1 M.2.1 M.2.2.1 M.2.2.2.1 hh :: TW
def MtL (M : MI) (hh : HH) (as : List Value) (m : Mem) (Q : Option Value → Mem → Prop) : Prop := ∀ (l : Launch) (G : Gx), l.stackTraces = false → Met l M.1 (twL M hh) (rmT M) (PcT G as m) (QcM G Q) 1 6 (Ab G.2.1)
def LX (M : MI) (hh : HH) (Q : Option Value → Mem → Prop) (x : Cx) : Prop := x.2.2.2.2.2.2.2.2.2.1.exceptionTable.toList.map (fun h => (h.startPc, h.endPc, h.handlerPc, h.catchType)) = hh ∧ ThA (xG x).2.1 (xS x) (xS x).heap ∧ x.2.1.stackTraces = false ∧ xR x = rmT M ∧ x.2.2.2.2.2.2.2.2.2.2.2 = MQ x.2.2.2.2.2.2.2.1 (QcM (xG x) Q) x.2.2.2.2.2.2.1 (xS x) 1 6 (Ab (xG x).2.1)
theorem MtL.of {M : MI} {hh : HH} {as : List Value} {m : Mem} {Q : Option Value → Mem → Prop} (g : GoodL M hh) (hl : (lg_sl as).length ≤ M.2.2.1) (h : ∀ x : Cx, LX M hh Q x → EV M x 0 0 0 (lv_args 0 (as.map (cv (xG x).2.1))) [] m) : MtL M hh as m Q := by
  intro l G hl0
  refine va_MetW (cc := M.2.1) (maxL := M.2.2.1) (ret := M.2.2.2.1) (hh := hh) g.1 rfl ?_
  intro p e s mid args below meth c s₁ B hml hP
  obtain ⟨⟨rfl, hP, hK, hT, hN, hM⟩, hth⟩ := hP
  have hts := atoms_spec (ws := twL M hh) B.pre
  have he := lv_entry (as.map (cv G.2.1)) (n := M.2.2.1) (by rw [lg_len]; exact hl)
  have htw : ∀ w ∈ TW, w.before (as.map (cv G.2.1)).toArray s = true := fun w hw => hts w (List.mem_cons_of_mem _ hw)
  have htab : c.exceptionTable.toList.map (fun h => (h.startPc, h.endPc, h.handlerPc, h.catchType)) = hh := by
    obtain ⟨m9, meth9, c9, hn9, h1, h2, -, -, h6, -⟩ := Cond.codeWith_spec (hts _ List.mem_cons_self)
    cases Option.some.inj (hn9.symm.trans B.named)
    cases Option.some.inj (h1.symm.trans B.method)
    cases Option.some.inj (h2.symm.trans (Stand.of_body B).code)
    exact h6
  rw [lg_entry_eq]
  exact h (p, l, e, rmT M, s, mid, (as.map (cv G.2.1)).toArray, below, meth, c, G, _) ⟨htab, hth, hl0, rfl, rfl⟩ ⟨B.exec, B.bytes, hml, findClass_of_methodNamed B.named, htw, B.returns, B.notSynchronized, hK, hT, hN⟩ s.heap [] _ ⟨hP, va_S.rf, hM⟩ he
theorem V_iret {M : MI} {hh : HH} {Q : Option Value → Mem → Prop} {x : Cx} {cs ss pc : Nat} {lv : List (Nat × Value)} {m : Mem} {v : Int32} (hx : LX M hh Q x) (hdg : decode M.2.1 pc = .ok (.ireturn, 1)) (hr : M.2.2.2.1 = some .int) (h1 : cs ≤ 1) (h2 : ss ≤ 6) (hq : Q (some (.int v)) m) : EV M x cs ss pc lv [.int v] m := by
  obtain ⟨p, l, e, R, s, mid, args, below, meth, c, G, QQ⟩ := x
  obtain ⟨-, -, -, -, hQ⟩ := hx
  have hQ : QQ = MQ below (QcM G Q) args s 1 6 (Ab G.2.1) := hQ
  subst hQ
  intro hE H locs ls hw hl
  refine W.widen h1 h2 ?_
  exact W.iret hE.1 hE.2.1 (by rw [hE.2.2.2.2.2.1]; exact hr) (fun t ht _ => ⟨⟨some (.int v), m, rfl, hq, by rw [ht]; exact hw.1, hw.2.2⟩, hw.2.1.F ht⟩) hw.2.1.2.2 hdg (hlocks := hE.2.2.2.2.2.2.1)
section
variable {M M' : MI} {x : Cx} {cs ss pc n : Nat} {lv lv' : List (Nat × Value)} {st sk : List Value} {m : Mem}
theorem V_last {a L : Nat} {i : Int32} {v : Int64} (hdg : decode M.2.1 pc = .ok (.lastore, 1)) (hn : pc + 1 = n) (hs : shp a = (101, L)) (hi : inb i L) (h : EV M x cs ss n lv st (sJ m a (ixn i) v)) : EV M x cs ss pc lv (.long v :: .int i :: .ref ((xG x).2.1 + a) :: st) m := by
  obtain ⟨p, l, e, R, s, mid, args, below, meth, c, G, QQ⟩ := x
  intro hE H locs ls hw hl
  subst hn
  refine va_last hE.1 hE.2.1 hE.2.2.2.2.2.2.2.1 hw.1 (Wd_D _ _ _) hw.2.1 a 1 (by rw [Wd_get (shp_lt hs (by omega)), ent_arJ hs]) rfl (inb_vp hi) hdg (fun H1 locs1 hP1 _ hS1 => ?_)
  rw [Wd_set (m' := sJ m a (ixn i) v) (by rw [ent_arJ hs]; congr 5; funext j; simp [vp_updL, sJ]) (fun d hd => ent_sJ hd)] at hP1
  exact h hE H1 locs1 ls ⟨hP1, hS1, hw.2.2⟩ hl
theorem V_lald {a L : Nat} {i : Int32} (hdg : decode M.2.1 pc = .ok (.laload, 1)) (hn : pc + 1 = n) (hs : shp a = (101, L)) (hi : inb i L) (h : EV M x cs ss n lv (.long (gJ m a (ixn i)) :: st) m) : EV M x cs ss pc lv (.int i :: .ref ((xG x).2.1 + a) :: st) m := by
  obtain ⟨p, l, e, R, s, mid, args, below, meth, c, G, QQ⟩ := x
  intro hE H locs ls hw hl
  subst hn
  exact va_lald (f := m.2.1 a) hE.1 hE.2.1 hE.2.2.2.2.2.2.2.1 hw.1 a 1 (by rw [Wd_get (shp_lt hs (by omega)), ent_arJ hs]) rfl (inb_vp hi) hdg (h hE H locs ls hw hl)
end
theorem co_l_7 : COV "OddHayLaw" 7 M_OH_corner 11 3 := ⟨G_OH_corner, tw_1395, tw_1396, tw_1397, ⟨_, rfl, rfl⟩, by decide +kernel⟩
theorem co_l_15 : COV "OddHayLaw" 15 M_OH_hay 11 2 := ⟨G_OH_hay, tw_1470, tw_1471, tw_1472, ⟨_, rfl, rfl⟩, by decide +kernel⟩
theorem co_l_19 : COV "OddHayLaw" 19 M_OH_round 11 3 := ⟨G_OH_round, tw_1478, tw_1479, tw_1480, ⟨_, rfl, rfl⟩, by decide +kernel⟩
theorem tab1 {c : Code} {a b h t : Nat} (e : c.exceptionTable.toList.map (fun h => (h.startPc, h.endPc, h.handlerPc, h.catchType)) = [(a, b, h, t)]) : c.exceptionTable.toList = [⟨a, b, h, t⟩] := by
  cases hc : c.exceptionTable.toList with
  | nil => rw [hc] at e; cases e
  | cons y r =>
    rw [hc] at e
    cases r with
    | nil =>
      obtain ⟨y1, y2, y3, y4⟩ := y
      simp only [List.map_cons, List.map_nil, List.cons.injEq, Prod.mk.injEq, and_true] at e
      obtain ⟨rfl, rfl, rfl, rfl⟩ := e
      rfl
    | cons z r => simp at e
theorem inb01 : inb 0 1 := by decide
theorem L_corner (m : Mem) (x1 x2 x3 v : Int32) (h : OX_corner m x1 x2 x3 = some (some v)) : MtL M_LW_corner [(0, 12, 15, 13)] [.ref 0, .int x1, .int x2, .int x3, .ref 162] m (qI 0 (sJ m 162 0 v.toInt64)) := by
  refine MtL.of G_LW_corner (Nat.le_of_ble_eq_true rfl) ?_
  intro x hx
  have g := G_LW_corner
  have hz : 0 ≤ (xR x).cells ∧ 0 ≤ (xR x).slots := ⟨Nat.zero_le _, Nat.zero_le _⟩
  exact V_aload (n := 2) (ldec g (k := 0) rfl) rfl 4 rfl <| V_iconst (v := 0) (n := 3) (ldec g (k := 1) rfl) rfl (by decide) <| V_aload_n (n := 4) (ldec g (k := 2) rfl) rfl rfl 0 rfl <| V_iload_n (n := 5) (ldec g (k := 3) rfl) rfl rfl 1 rfl <| V_iload_n (n := 6) (ldec g (k := 4) rfl) rfl rfl 2 rfl <| V_iload_n (n := 7) (ldec g (k := 5) rfl) rfl rfl 3 rfl <| V_callI (n := 10) (st := [.int 0, .ref ((xG x).2.1 + 162)]) (ldec g (k := 6) rfl) rfl co_l_7 (by rw [hx.2.2.2.1]; decide) hz sh_0 [.int x1, .int x2, .int x3] rfl rfl (Nat.le_of_ble_eq_true rfl) (R_OH_corner m x1 x2 x3 v h) <| V_i2l (n := 11) (ldec g (k := 7) rfl) rfl <| V_last (n := 12) (a := 162) (ldec g (k := 8) rfl) rfl sh_162 inb01 <| V_goto (t := 19) (ldec g (k := 9) rfl) rfl <| V_iconst (v := 0) (n := 20) (ldec g (k := 13) rfl) rfl (by decide) <| V_iret hx (ldec g (k := 14) rfl) rfl (Nat.zero_le _) (Nat.zero_le _) ⟨rfl, rfl⟩
theorem L_hay (m : Mem) (x1 x2 v : Int32) (h : OX_hay m x1 x2 = some (some v)) : MtL M_LW_hay [(0, 10, 13, 13)] [.ref 0, .int x1, .int x2, .ref 162] m (qI 0 (sJ m 162 0 v.toInt64)) := by
  refine MtL.of G_LW_hay (Nat.le_of_ble_eq_true rfl) ?_
  intro x hx
  have g := G_LW_hay
  have hz : 0 ≤ (xR x).cells ∧ 0 ≤ (xR x).slots := ⟨Nat.zero_le _, Nat.zero_le _⟩
  exact V_aload_n (n := 1) (ldec g (k := 0) rfl) rfl rfl 3 rfl <| V_iconst (v := 0) (n := 2) (ldec g (k := 1) rfl) rfl (by decide) <| V_aload_n (n := 3) (ldec g (k := 2) rfl) rfl rfl 0 rfl <| V_iload_n (n := 4) (ldec g (k := 3) rfl) rfl rfl 1 rfl <| V_iload_n (n := 5) (ldec g (k := 4) rfl) rfl rfl 2 rfl <| V_callI (n := 8) (st := [.int 0, .ref ((xG x).2.1 + 162)]) (ldec g (k := 5) rfl) rfl co_l_15 (by rw [hx.2.2.2.1]; decide) hz sh_0 [.int x1, .int x2] rfl rfl (Nat.le_of_ble_eq_true rfl) (R_OH_hay m x1 x2 v h) <| V_i2l (n := 9) (ldec g (k := 6) rfl) rfl <| V_last (n := 10) (a := 162) (ldec g (k := 7) rfl) rfl sh_162 inb01 <| V_goto (t := 17) (ldec g (k := 8) rfl) rfl <| V_iconst (v := 0) (n := 18) (ldec g (k := 12) rfl) rfl (by decide) <| V_iret hx (ldec g (k := 13) rfl) rfl (Nat.zero_le _) (Nat.zero_le _) ⟨rfl, rfl⟩
theorem L_round (m : Mem) (x1 x2 x3 v : Int32) (h : OX_round m x1 x2 x3 = some (some v)) : MtL M_LW_round [(0, 12, 15, 13)] [.ref 0, .int x1, .int x2, .int x3, .ref 162] m (qI 0 (sJ m 162 0 v.toInt64)) := by
  refine MtL.of G_LW_round (Nat.le_of_ble_eq_true rfl) ?_
  intro x hx
  have g := G_LW_round
  have hz : 0 ≤ (xR x).cells ∧ 0 ≤ (xR x).slots := ⟨Nat.zero_le _, Nat.zero_le _⟩
  exact V_aload (n := 2) (ldec g (k := 0) rfl) rfl 4 rfl <| V_iconst (v := 0) (n := 3) (ldec g (k := 1) rfl) rfl (by decide) <| V_aload_n (n := 4) (ldec g (k := 2) rfl) rfl rfl 0 rfl <| V_iload_n (n := 5) (ldec g (k := 3) rfl) rfl rfl 1 rfl <| V_iload_n (n := 6) (ldec g (k := 4) rfl) rfl rfl 2 rfl <| V_iload_n (n := 7) (ldec g (k := 5) rfl) rfl rfl 3 rfl <| V_callI (n := 10) (st := [.int 0, .ref ((xG x).2.1 + 162)]) (ldec g (k := 6) rfl) rfl co_l_19 (by rw [hx.2.2.2.1]; decide) hz sh_0 [.int x1, .int x2, .int x3] rfl rfl (Nat.le_of_ble_eq_true rfl) (R_OH_round m x1 x2 x3 v h) <| V_i2l (n := 11) (ldec g (k := 7) rfl) rfl <| V_last (n := 12) (a := 162) (ldec g (k := 8) rfl) rfl sh_162 inb01 <| V_goto (t := 19) (ldec g (k := 9) rfl) rfl <| V_iconst (v := 0) (n := 20) (ldec g (k := 13) rfl) rfl (by decide) <| V_iret hx (ldec g (k := 14) rfl) rfl (Nat.zero_le _) (Nat.zero_le _) ⟨rfl, rfl⟩
theorem T_corner (m : Mem) (x1 x2 x3 : Int32) (h : OX_corner m x1 x2 x3 = some none) : MtL M_LW_corner [(0, 12, 15, 13)] [.ref 0, .int x1, .int x2, .int x3, .ref 162] m (qI 1 m) := by
  refine MtL.of G_LW_corner (Nat.le_of_ble_eq_true rfl) ?_
  intro x hx
  have g := G_LW_corner
  refine V_aload (n := 2) (ldec g (k := 0) rfl) rfl 4 rfl <| V_iconst (v := 0) (n := 3) (ldec g (k := 1) rfl) rfl (by decide) <| V_aload_n (n := 4) (ldec g (k := 2) rfl) rfl rfl 0 rfl <| V_iload_n (n := 5) (ldec g (k := 3) rfl) rfl rfl 1 rfl <| V_iload_n (n := 6) (ldec g (k := 4) rfl) rfl rfl 2 rfl <| V_iload_n (n := 7) (ldec g (k := 5) rfl) rfl rfl 3 rfl <| V_callT (st := [.int 0, .ref ((xG x).2.1 + 162)]) (ldec g (k := 6) rfl) co_l_7 (by rw [hx.2.2.2.1]; decide) (by rw [hx.2.2.2.1]; decide) sh_0 [.int x1, .int x2, .int x3] rfl rfl (Nat.le_of_ble_eq_true rfl) (X_OH_corner m x1 x2 x3 h) hx.2.1 hx.2.2.1 (tab1 hx.1) (by decide) (by decide) tw_1394 (fun a => ?_)
  exact V_astore (lv' := []) (n := 17) (ldec g (k := 10) rfl) rfl (Nat.le_of_ble_eq_true rfl) [] rfl <| V_iconst (v := 1) (n := 18) (ldec g (k := 11) rfl) rfl (by decide) <| V_iret hx (ldec g (k := 12) rfl) rfl (Nat.le_refl _) (Nat.le_refl _) ⟨rfl, rfl⟩
theorem T_hay (m : Mem) (x1 x2 : Int32) (h : OX_hay m x1 x2 = some none) : MtL M_LW_hay [(0, 10, 13, 13)] [.ref 0, .int x1, .int x2, .ref 162] m (qI 1 m) := by
  refine MtL.of G_LW_hay (Nat.le_of_ble_eq_true rfl) ?_
  intro x hx
  have g := G_LW_hay
  refine V_aload_n (n := 1) (ldec g (k := 0) rfl) rfl rfl 3 rfl <| V_iconst (v := 0) (n := 2) (ldec g (k := 1) rfl) rfl (by decide) <| V_aload_n (n := 3) (ldec g (k := 2) rfl) rfl rfl 0 rfl <| V_iload_n (n := 4) (ldec g (k := 3) rfl) rfl rfl 1 rfl <| V_iload_n (n := 5) (ldec g (k := 4) rfl) rfl rfl 2 rfl <| V_callT (st := [.int 0, .ref ((xG x).2.1 + 162)]) (ldec g (k := 5) rfl) co_l_15 (by rw [hx.2.2.2.1]; decide) (by rw [hx.2.2.2.1]; decide) sh_0 [.int x1, .int x2] rfl rfl (Nat.le_of_ble_eq_true rfl) (X_OH_hay m x1 x2 h) hx.2.1 hx.2.2.1 (tab1 hx.1) (by decide) (by decide) tw_1394 (fun a => ?_)
  exact V_astore (lv' := []) (n := 15) (ldec g (k := 9) rfl) rfl (Nat.le_of_ble_eq_true rfl) [] rfl <| V_iconst (v := 1) (n := 16) (ldec g (k := 10) rfl) rfl (by decide) <| V_iret hx (ldec g (k := 11) rfl) rfl (Nat.le_refl _) (Nat.le_refl _) ⟨rfl, rfl⟩
theorem T_round (m : Mem) (x1 x2 x3 : Int32) (h : OX_round m x1 x2 x3 = some none) : MtL M_LW_round [(0, 12, 15, 13)] [.ref 0, .int x1, .int x2, .int x3, .ref 162] m (qI 1 m) := by
  refine MtL.of G_LW_round (Nat.le_of_ble_eq_true rfl) ?_
  intro x hx
  have g := G_LW_round
  refine V_aload (n := 2) (ldec g (k := 0) rfl) rfl 4 rfl <| V_iconst (v := 0) (n := 3) (ldec g (k := 1) rfl) rfl (by decide) <| V_aload_n (n := 4) (ldec g (k := 2) rfl) rfl rfl 0 rfl <| V_iload_n (n := 5) (ldec g (k := 3) rfl) rfl rfl 1 rfl <| V_iload_n (n := 6) (ldec g (k := 4) rfl) rfl rfl 2 rfl <| V_iload_n (n := 7) (ldec g (k := 5) rfl) rfl rfl 3 rfl <| V_callT (st := [.int 0, .ref ((xG x).2.1 + 162)]) (ldec g (k := 6) rfl) co_l_19 (by rw [hx.2.2.2.1]; decide) (by rw [hx.2.2.2.1]; decide) sh_0 [.int x1, .int x2, .int x3] rfl rfl (Nat.le_of_ble_eq_true rfl) (X_OH_round m x1 x2 x3 h) hx.2.1 hx.2.2.1 (tab1 hx.1) (by decide) (by decide) tw_1394 (fun a => ?_)
  exact V_astore (lv' := []) (n := 17) (ldec g (k := 10) rfl) rfl (Nat.le_of_ble_eq_true rfl) [] rfl <| V_iconst (v := 1) (n := 18) (ldec g (k := 11) rfl) rfl (by decide) <| V_iret hx (ldec g (k := 12) rfl) rfl (Nat.le_refl _) (Nat.le_refl _) ⟨rfl, rfl⟩

/-! the law's cases whose calls may throw -/
theorem V_callL {M M' : MI} {hh : HH} {x : Cx} {cs ss pc n ix na : Nat} {lv : List (Nat × Value)} {st sk : List Value} {m m' : Mem} {v : Int32} (hdg : decode M.2.1 pc = .ok (.invokestatic ix, 3)) (hn : pc + 3 = n) (g : GoodL M' hh) (c1 : Cond.methodLink M.1.cls ix M'.1 ∈ TW) (c2 : Cond.static M'.1 ∈ TW) (c6 : M'.1.cls ≠ "java/lang/invoke/MethodHandle" ∧ M'.1.cls ≠ "java/lang/invoke/VarHandle" ∧ (parseMethodDescriptor M'.1.desc).map (fun d => d.parameters.length) = some na) (hf : FitR (xR x) M') (hz : cs + 1 ≤ (xR x).cells ∧ ss + 6 ≤ (xR x).slots) (as : List Value) (ha : as.length = na) (hsk : sk = (as.map (cv (xG x).2.1)).reverse ++ st) (hc : (st.map fun v => v.category).sum ≤ 8) (ht : MtL M' hh as m (qI v m'))
    (hth : ThA (xG x).2.1 (xS x) (xS x).heap) (hl0 : x.2.1.stackTraces = false) (kk : EV M x (cs + 1) (ss + 6) n lv (.int v :: st) m') : EV M x cs ss pc lv sk m := by
  obtain ⟨p, l, e, R, s, mid, args, below, meth, c, G, QQ⟩ := x
  intro hE H locs ls hw hl T hT X
  subst hn
  have hTW := hE.2.2.2.2.1
  have hgd : ∀ w ∈ TW, ∀ (A : Array Value) (U : State), s.WarmedH U.vm → w.before A U = true := fun w hw A U hW => word_at hW (good_of_word (TW_good w hw)) (hTW w hw)
  have hK : Back l R p e below s args M'.1 3 8 (PreOf R 1 6 (PcT G as m)) (PostOf (QcM G (qI v m')) 1 6 (Ab G.2.1)) := va_backW (hh := hh) (bytes := M'.2.1) (maxL := M'.2.2.1) (ret := M'.2.2.2.1) (ht l G hl0) (PcT_blind G as m) rfl rfl hf.1 hf.2 (fun w hw A U hW => by
    rcases List.mem_cons.mp hw with rfl | h
    · exact hgd _ g.2.1 A U hW
    · exact hgd _ h A U hW) List.mem_cons_self (fun A U hW => hgd _ g.2.2.1 A U hW)
  obtain ⟨mk, methM, cM, hnamed, hmethM, -, -, -, -, -, -, hsigM⟩ := Cond.codeWith_spec (hTW _ g.2.1)
  have hstatic : methM.isStatic = true := Cond.static_spec hnamed hmethM (hTW _ c2)
  obtain ⟨kP, hkP, -⟩ := className_of_methodNamed hnamed
  have hinitP : kP.init = .initialized := Cond.initialized_spec (findClass_of_methodNamed hnamed) hkP (hTW _ g.2.2.1)
  have hlen : (as.map (cv G.2.1)).length = methM.sig.parameters.length := by
    have h2 := c6.2.2
    rw [hsigM] at h2
    rw [List.length_map, ha]
    exact (Option.some.inj h2).symm
  obtain ⟨vm₁, X₁, hstep₁⟩ := X.invokestatic hE.1 hE.2.2.2.1 (hTW _ c1) hnamed hmethM hstatic hkP hinitP ⟨c6.1, c6.2.1⟩ (g := F0 mid pc ls sk) rfl (argsL := as.map (cv G.2.1)) (rest := st) hlen hsk (by rw [hE.2.1]; exact hdg)
  have hsz : (F0 mid pc ls st).locals.size = c.maxLocals := by rw [hE.2.2.1]; exact hl.1
  obtain ⟨r0, ⟨U', l2, c2', s2⟩, X', ⟨g', mk', t, L, e1, e2, hq, h1, hL, h2, h3⟩, hsteps⟩ := hK mid meth c ⟨T.setVm vm₁, locs, cs, ss⟩ (F0 mid pc ls st) (.invokestatic ix) mk (as.map (cv G.2.1)).toArray X₁ rfl hsz (show decode c.code pc = .ok (.invokestatic ix, 3) by rw [hE.2.1]; exact hdg) (lv_room hc) (X₁.named hnamed)
    ⟨hz.1, hz.2, ⟨⟨rfl, WU_of hE hw hT X₁.warmed⟩, ThA.moved X₁.warmed.alike (by show ThA G.2.1 s T.heap; rw [hT]; exact hth.kept hw.2.1.2.1)⟩⟩
  dsimp only [Pt.U, Pt.locs, Pt.cells, Pt.slots] at X' e1 e2 h1 h2 h3 hsteps
  subst h1; subst h2; subst h3
  obtain ⟨⟨r, m1, hv, hq, hP, hM⟩, hz1, hk1⟩ := hq
  obtain ⟨rfl, rfl⟩ := hq
  have hv : r0 = some (.int v) := by injection hv
  subst hv
  have hz1 : T.heap.size ≤ t.heap.size := hz1
  have hk1 : ∀ q : Nat, q < T.heap.size → ¬ Ab G.2.1 q → t.heap[q]? = T.heap[q]? := hk1
  rw [hT] at hz1 hk1
  have hS : va_S (Ab G.2.1) s.heap U'.heap (locs ++ L) := by
    refine ⟨Nat.le_trans hw.2.1.1 (by rw [e1]; exact hz1), fun q h1 h2 => ?_, fun q hq => ?_⟩
    · rw [e1, hk1 q (Nat.lt_of_lt_of_le h1 hw.2.1.1) h2]
      exact hw.2.1.2.1 q h1 h2
    · rcases List.mem_append.mp hq with h | h
      · exact hw.2.1.2.2 q h
      · exact hL q h
  obtain ⟨t2, a1, b1⟩ := kk hE U'.heap (locs ++ L) ls ⟨by rw [e1]; exact hP, hS, hM⟩ hl U' rfl X'
  exact ⟨t2, hstep₁ _ fun acts => by rw [doInvoke_state]; exact hsteps.trans a1, b1⟩
theorem V_argsG {x : Cx} {cs ss k b L : Nat} {xs : Nat → Int32} {m : Mem} {lv : List (Nat × Value)} (hX : Scr x b L xs) (hL : L ≤ 3072) (hk : k + 6 ≤ L) (l0 : lv[0]? = some (0, .ref b)) (l4 : lv[4]? = some (4, .int (nI k))) : ∀ (n q j : Nat) (st : List Value), j + n ≤ 6 → decAs q j n → EV M_law x cs ss (q + 6 * n) lv ((argl xs k j n).reverse ++ st) m → EV M_law x cs ss q lv st m
  | 0, q, j, st, hj, d, h => by simpa [argl] using h
  | n + 1, q, j, st, hj, d, h => by
    obtain ⟨⟨d0, d1, d3, d4, d5⟩, d6⟩ := d
    have hv : Int32.ofInt (j : Int) = nI j := Int32.ofInt_eq_ofNat
    refine V_aload_n (M := M_law) d0 rfl rfl 0 l0 <| V_iload (M := M_law) d1 rfl 4 l4 <| V_iconst (M := M_law) d3 rfl hv <| V_iadd (M := M_law) d4 rfl <| V_sld (M := M_law) hX (vin (show k + j < L by omega) hL) d5 rfl ?_
    refine V_argsG hX hL hk l0 l4 n (q + 6) (j + 1) _ (by omega) d6 ?_
    rw [show q + 6 + 6 * n = q + 6 * (n + 1) by omega]
    simpa [argl, List.append_assoc] using h
def decT (p n ixL ixR : Nat) (off : Int) (r : Nat) : Prop := decode code p = .ok (.aload_n 1, 1) ∧ decAs (p + 1) 1 n ∧ decode code (p + 1 + 6 * n) = .ok (.aload_n 3, 1) ∧ decode code (p + 1 + 6 * n + 1) = .ok (.invokestatic ixL, 3) ∧ decode code (p + 1 + 6 * n + 4) = .ok (.istore 5, 2) ∧ decode code (p + 1 + 6 * n + 6) = .ok (.aload_n 2, 1) ∧ decAs (p + 1 + 6 * n + 7) 1 n ∧ p + 1 + 6 * n + 7 + 6 * n = r ∧
  decode code r = .ok (.invokevirtual ixR, 3) ∧ decode code (r + 3) = .ok (.istore 6, 2) ∧ decode code (r + 5) = .ok (.aload_n 2, 1) ∧ decode code (r + 6) = .ok (.invokevirtual 51, 3) ∧ decode code (r + 9) = .ok (.iload 5, 2) ∧ decode code (r + 11) = .ok (.if_icmp .eq 5, 3) ∧ decode code (r + 16) = .ok (.iload 5, 2) ∧ decode code (r + 18) = .ok (.ifCond .ne 15, 3) ∧
  decode code (r + 21) = .ok (.aload_n 3, 1) ∧ decode code (r + 22) = .ok (.iconst 0, 1) ∧ decode code (r + 23) = .ok (.laload, 1) ∧ decode code (r + 24) = .ok (.iload 6, 2) ∧ decode code (r + 26) = .ok (.i2l, 1) ∧ decode code (r + 27) = .ok (.lcmp, 1) ∧ decode code (r + 28) = .ok (.ifCond .eq 5, 3) ∧ decode code (r + 33) = .ok (.goto off, 3) ∧ ((r + 33 : Nat) : Int) + off = ((1722 : Nat) : Int)
theorem co_l_51 : COV "OddHayLaw" 51 M_RM_thrown 12 0 := ⟨G_RM_thrown, tw_1485, tw_1486, tw_1487, ⟨_, rfl, rfl⟩, by decide +kernel⟩
theorem lg0 (y : Int64) : lg_cmp y y = 0 := by simp [lg_cmp]
theorem V_thrc {x : Cx} {cs ss k b L p n ixL ixR r : Nat} {off : Int} {xs : Nat → Int32} {m : Mem} {ML MB : MI} {hh : HH} (hX : Scr x b L xs) (hL : L ≤ 3072) (hk : k + 6 ≤ L) (hn : n ≤ 5) (hR : xR x = room_1) (hth : ThA (xG x).2.1 (xS x) (xS x).heap) (hl0 : x.2.1.stackTraces = false) (hc1 : cs + 1 ≤ 601024) (hs1 : ss + 6 ≤ 7293034) (d : decT p n ixL ixR off r) (gL : GoodL ML hh) (l1 : Cond.methodLink "OddHayLaw" ixL ML.1 ∈ TW) (l2 : Cond.static ML.1 ∈ TW) (l6 : ML.1.cls ≠ "java/lang/invoke/MethodHandle" ∧ ML.1.cls ≠ "java/lang/invoke/VarHandle" ∧ (parseMethodDescriptor ML.1.desc).map (fun d => d.parameters.length) = some (n + 2)) (fL : FitR room_1 ML) (cB : COV "OddHayLaw" ixR MB 12 n) (fB : FitR room_1 MB)
    (P : ∃ w v m1 m2, MtL ML hh (.ref 0 :: (argl xs k 1 n ++ [.ref 162])) m (qI w m1) ∧ Mt MB (.ref 133 :: argl xs k 1 n) m1 (qI v m2) ∧ gI m2 133 0 = w ∧ (w = 0 → gJ m2 162 0 = v.toInt64) ∧ Inv m2)
    (h : ∀ cs' ss' m2, cs' ≤ cs + 1 → ss' ≤ ss + 6 → Inv m2 → EV M_law x cs' ss' 1722 (lvL x b k) [] m2) : EV M_law x cs ss p (lvL x b k) [] m := by
  obtain ⟨w, v, m1, m2, hA, hB, hw, hv, hI⟩ := P
  obtain ⟨d0, d1, d2, d3, d4, d5, d6, rfl, d8, d9, d10, d11, d12, d13, d14, d15, d16, d17, d18, d19, d20, d21, d22, d23, d24⟩ := d
  have hz : cs + 1 ≤ (xR x).cells ∧ ss + 6 ≤ (xR x).slots := by rw [hR]; exact ⟨hc1, hs1⟩
  have hfin : ∀ lv, lv_pick lv [0, 1, 2, 3, 4] = lvL x b k → EV M_law x (cs + 1) (ss + 6) (p + 1 + 6 * n + 7 + 6 * n + 33) lv [] m2 := fun lv hlv =>
    V_goto (M := M_law) (t := 1722) d23 d24 (V_sub [0, 1, 2, 3, 4] hlv (h _ _ m2 (Nat.le_refl _) (Nat.le_refl _) hI))
  refine V_aload_n (M := M_law) d0 rfl rfl 1 rfl <| V_args hX hL hk n (p + 1) 1 _ (by omega) d1 ?_
  refine V_aload_n (M := M_law) d2 rfl rfl 3 rfl ?_
  refine V_callL (M := M_law) (st := []) (v := w) (m' := m1) d3 rfl gL l1 l2 l6 (by rw [hR]; exact fL) hz (.ref 0 :: (argl xs k 1 n ++ [.ref 162])) (by simp [argl_len]) (by
    rw [List.map_cons, List.map_append, argl_cv]
    simp [cv]) (Nat.zero_le _) hA hth hl0 ?_
  refine V_istore (M := M_law) (lv' := lvL x b k ++ [(5, .int w)]) d4 rfl (by decide) [1, 2, 3, 4, 5, 0] rfl ?_
  refine V_aload_n (M := M_law) d5 rfl rfl 2 rfl <| V_argsG hX hL hk rfl rfl n _ 1 _ (by omega) d6 ?_
  refine V_callI (M := M_law) (st := []) (v := v) (m' := m2) d8 rfl cB (by rw [hR]; exact fB) hz sh_133 (argl xs k 1 n) (argl_len xs k n 1) (by rw [argl_cv]) (Nat.zero_le _) hB ?_
  refine V_istore (M := M_law) (lv' := lvL x b k ++ [(5, .int w), (6, .int v)]) d9 rfl (by decide) [1, 2, 3, 4, 5, 6, 0] rfl ?_
  refine V_aload_n (M := M_law) d10 rfl rfl 2 rfl ?_
  refine V_callI (M := M_law) (st := []) (v := w) (m' := m2) d11 rfl co_l_51 (by rw [hR]; decide) hz sh_133 [] rfl rfl (Nat.zero_le _) (K_RM_thrown m2 w hw) ?_
  refine V_iload (M := M_law) d12 rfl 5 rfl <| V_icmp_eq (M := M_law) (t := p + 1 + 6 * n + 7 + 6 * n + 16) d13 rfl (by omega) (fun _ => ?_) (fun z => absurd rfl z)
  refine V_iload (M := M_law) d14 rfl 5 rfl <| V_if_ne (M := M_law) (t := p + 1 + 6 * n + 7 + 6 * n + 33) d15 rfl (by omega) (fun _ => hfin _ rfl) (fun z => ?_)
  refine V_aload_n (M := M_law) d16 rfl rfl 3 rfl <| V_iconst (M := M_law) d17 rfl (v := 0) (by decide) <| V_lald (M := M_law) (a := 162) d18 rfl sh_162 inb01 <| V_iload (M := M_law) d19 rfl 6 rfl <| V_i2l (M := M_law) d20 rfl <| V_lcmp (M := M_law) d21 rfl ?_
  rw [show gJ m2 162 (ixn 0) = v.toInt64 from hv z, lg0]
  exact V_if_eq (M := M_law) (t := p + 1 + 6 * n + 7 + 6 * n + 33) d22 rfl (by omega) (fun _ => hfin _ rfl) (fun z => absurd rfl z)
theorem inv_out {m : Mem} (h : Inv m) (v : Int64) : Inv (sJ m 162 0 v) := by
  obtain ⟨hN, hT, hP, hW, hU, hI, hQ, hR⟩ := h
  have hJ : ∀ c k, c ≠ 162 → gJ (sJ m 162 0 v) c k = gJ m c k := fun c k hc => by rw [gJ_sJ, if_neg (fun z => hc z.1)]
  have hpp : ∀ p, (p = 68 ∨ p = 84 ∨ p = 101 ∨ p = 117) → ∀ d k, p ≤ d → d < p + 16 → gI (sJ m 162 0 v) d k = gI m d k ∧ gJ (sJ m 162 0 v) d k = gJ m d k := fun p hp d k h1 h2 => ⟨rfl, hJ d k (by omega)⟩
  have hnow : gN m 13 = 68 ∨ gN m 13 = 84 ∨ gN m 13 = 101 ∨ gN m 13 = 117 := by rcases hN with h | h <;> omega
  refine ⟨hN, hT, ?_, hW, hU, ?_, hQ, ?_⟩
  · exact PRel.cong (m := m) (m' := sJ m 162 0 v) (fun k => rfl) (fun k => hJ _ _ (by decide)) (hpp _ hnow) hW.1.le hP
  · intro k hk
    obtain ⟨b1, b2, b3⟩ := hI k hk
    refine ⟨b1, b2, fun h1 => ?_⟩
    obtain ⟨c1, c2⟩ := b3 h1
    exact ⟨PRel.cong (m := m) (m' := sJ m 162 0 v) (fun k => rfl) (fun k => hJ 160 k (by decide)) (hpp (68 + 16 * k) (by omega)) c2.1.le c1, c2⟩
  · intro k hk
    rw [hJ 138 k (by decide)]; exact hR k hk
theorem tr_L (m : Mem) (c : Nat) (v : Int64) (x0 : Nat) (x1 x2 : Int32) (kx : Int32 → Option Int32) : ∀ (n : Nat) (x3 x4 : Int32), LN_timesRound_L5 (sJ m c 0 v) x0 x1 x2 kx n x3 x4 = LN_timesRound_L5 m x0 x1 x2 kx n x3 x4
  | 0, _, _ => rfl
  | n + 1, x3, x4 => by
    rw [LN_timesRound_L5, LN_timesRound_L5]
    have e : LN_passesBy (sJ m c 0 v) x0 x4 x1 x2 = LN_passesBy m x0 x4 x1 x2 := rfl
    rw [e, show gI (sJ m c 0 v) x0 1 = gI m x0 1 from rfl]
    cases LN_passesBy m x0 x4 x1 x2 with
    | none => rfl
    | some v1 =>
      rw [bI_s, bI_s]
      simp only [letV]
      rw [tr_L m c v x0 x1 x2 kx n]
theorem ox_round_J (m : Mem) (v : Int64) (x1 x2 x3 : Int32) : OX_round (sJ m 162 0 v) x1 x2 x3 = OX_round m x1 x2 x3 := by
  unfold OX_round LN_timesRound
  rw [tr_L]
  rfl
theorem PT_corner {m : Mem} (h : Inv m) (x1 x2 x3 : Int32) : ∃ w v m1 m2, MtL M_LW_corner [(0, 12, 15, 13)] [.ref 0, .int x1, .int x2, .int x3, .ref 162] m (qI w m1) ∧ Mt M_RM_corner [.ref 133, .int x1, .int x2, .int x3] m1 (qI v m2) ∧ gI m2 133 0 = w ∧ (w = 0 → gJ m2 162 0 = v.toInt64) ∧ Inv m2 := by
  rcases op_corner h x1 x2 x3 with ⟨m2, e1, e2, e3, e4⟩ | ⟨v, m2, e1, -⟩
  · exact ⟨1, 0, m, m2, T_corner m x1 x2 x3 e1, K_RM_corner m x1 x2 x3 (0, m2) e2, e3, fun z => absurd z (by decide), e4⟩
  · have h' := inv_out h v.toInt64
    rcases op_corner h' x1 x2 x3 with ⟨m3, f1, -⟩ | ⟨v', m3, f1, f2, f3, f4⟩
    · exact absurd (e1.symm.trans (show OX_corner m x1 x2 x3 = some none from f1)) (by simp)
    · have : v = v' := by
        have := e1.symm.trans (show OX_corner m x1 x2 x3 = some (some v') from f1)
        injection this with this; injection this
      subst this
      have fr := RM_corner_fr (L := W_RM_corner) (R := []) (fun _ _ h => h) _ _ _ _ _ f2
      refine ⟨0, v, _, m3, L_corner m x1 x2 x3 v e1, K_RM_corner _ x1 x2 x3 (v, m3) f2, f3, fun _ => ?_, f4⟩
      rw [(fr.1 162 0 rfl (fun q hq => by cases hq)).2]
      rfl
theorem PT_hay {m : Mem} (h : Inv m) (x1 x2 : Int32) : ∃ w v m1 m2, MtL M_LW_hay [(0, 10, 13, 13)] [.ref 0, .int x1, .int x2, .ref 162] m (qI w m1) ∧ Mt M_RM_hay [.ref 133, .int x1, .int x2] m1 (qI v m2) ∧ gI m2 133 0 = w ∧ (w = 0 → gJ m2 162 0 = v.toInt64) ∧ Inv m2 := by
  rcases op_hay h x1 x2 with ⟨m2, e1, e2, e3, e4⟩ | ⟨v, m2, e1, -⟩
  · exact ⟨1, 0, m, m2, T_hay m x1 x2 e1, K_RM_hay m x1 x2 (0, m2) e2, e3, fun z => absurd z (by decide), e4⟩
  · have h' := inv_out h v.toInt64
    rcases op_hay h' x1 x2 with ⟨m3, f1, -⟩ | ⟨v', m3, f1, f2, f3, f4⟩
    · exact absurd (e1.symm.trans (show OX_hay m x1 x2 = some none from f1)) (by simp)
    · have : v = v' := by
        have := e1.symm.trans (show OX_hay m x1 x2 = some (some v') from f1)
        injection this with this; injection this
      subst this
      have fr := RM_hay_fr (L := W_RM_hay) (R := []) (fun _ _ h => h) _ _ _ _ f2
      refine ⟨0, v, _, m3, L_hay m x1 x2 v e1, K_RM_hay _ x1 x2 (v, m3) f2, f3, fun _ => ?_, f4⟩
      rw [(fr.1 162 0 rfl (fun q hq => by cases hq)).2]
      rfl
theorem PT_round {m : Mem} (h : Inv m) (x1 x2 x3 : Int32) : ∃ w v m1 m2, MtL M_LW_round [(0, 12, 15, 13)] [.ref 0, .int x1, .int x2, .int x3, .ref 162] m (qI w m1) ∧ Mt M_RM_round [.ref 133, .int x1, .int x2, .int x3] m1 (qI v m2) ∧ gI m2 133 0 = w ∧ (w = 0 → gJ m2 162 0 = v.toInt64) ∧ Inv m2 := by
  rcases op_round h x1 x2 x3 with ⟨m2, e1, e2, e3, e4⟩ | ⟨v, m2, e1, -⟩
  · exact ⟨1, 0, m, m2, T_round m x1 x2 x3 e1, K_RM_round m x1 x2 x3 (0, m2) e2, e3, fun z => absurd z (by decide), e4⟩
  · have h' := inv_out h v.toInt64
    rcases op_round h' x1 x2 x3 with ⟨m3, f1, -⟩ | ⟨v', m3, f1, f2, f3, f4⟩
    · rw [ox_round_J] at f1
      exact absurd (e1.symm.trans f1) (by simp)
    · have : v = v' := by
        rw [ox_round_J] at f1
        have := e1.symm.trans f1
        injection this with this; injection this
      subst this
      have fr := RM_round_fr (L := W_RM_round) (R := []) (fun _ _ h => h) _ _ _ _ _ f2
      refine ⟨0, v, _, m3, L_round m x1 x2 x3 v e1, K_RM_round _ x1 x2 x3 (v, m3) f2, f3, fun _ => ?_, f4⟩
      rw [(fr.1 162 0 rfl (fun q hq => by cases hq)).2]
      rfl
theorem dT_4 : decT 344 3 45 50 1301 388 := by
  unfold decT
  simp only [decAs, decA]
  repeat' apply And.intro
  all_goals first | exact trivial | decide +kernel
theorem dT_5 : decT 424 2 54 57 1233 456 := by
  unfold decT
  simp only [decAs, decA]
  repeat' apply And.intro
  all_goals first | exact trivial | decide +kernel
theorem dT_8 : decT 578 3 66 68 1067 622 := by
  unfold decT
  simp only [decAs, decA]
  repeat' apply And.intro
  all_goals first | exact trivial | decide +kernel
theorem co_l_50 : COV "OddHayLaw" 50 M_RM_corner 12 3 := ⟨G_RM_corner, tw_1780, tw_1781, tw_1782, ⟨_, rfl, rfl⟩, by decide +kernel⟩
theorem co_l_57 : COV "OddHayLaw" 57 M_RM_hay 12 2 := ⟨G_RM_hay, tw_1807, tw_1808, tw_1809, ⟨_, rfl, rfl⟩, by decide +kernel⟩
theorem co_l_68 : COV "OddHayLaw" 68 M_RM_round 12 3 := ⟨G_RM_round, tw_1856, tw_1857, tw_1858, ⟨_, rfl, rfl⟩, by decide +kernel⟩
theorem Thr_4 {x : Cx} {b L : Nat} {xs : Nat → Int32} (hX : Scr x b L xs) (hL : L ≤ 3072) (hR : xR x = room_1) (hth : ThA (xG x).2.1 (xS x) (xS x).heap) (hl0 : x.2.1.stackTraces = false) : Thr x b L 344 := fun k cs ss m hk hI hc hs h =>
  V_thrc hX hL hk (by omega) hR hth hl0 hc hs dT_4 G_LW_corner tw_1391 tw_1392 (by decide +kernel) (by decide) co_l_50 (by decide) (PT_corner hI (sa xs k 1) (sa xs k 2) (sa xs k 3)) h
theorem Thr_5 {x : Cx} {b L : Nat} {xs : Nat → Int32} (hX : Scr x b L xs) (hL : L ≤ 3072) (hR : xR x = room_1) (hth : ThA (xG x).2.1 (xS x) (xS x).heap) (hl0 : x.2.1.stackTraces = false) : Thr x b L 424 := fun k cs ss m hk hI hc hs h =>
  V_thrc hX hL hk (by omega) hR hth hl0 hc hs dT_5 G_LW_hay tw_1467 tw_1468 (by decide +kernel) (by decide) co_l_57 (by decide) (PT_hay hI (sa xs k 1) (sa xs k 2)) h
theorem Thr_8 {x : Cx} {b L : Nat} {xs : Nat → Int32} (hX : Scr x b L xs) (hL : L ≤ 3072) (hR : xR x = room_1) (hth : ThA (xG x).2.1 (xS x) (xS x).heap) (hl0 : x.2.1.stackTraces = false) : Thr x b L 578 := fun k cs ss m hk hI hc hs h =>
  V_thrc hX hL hk (by omega) hR hth hl0 hc hs dT_8 G_LW_round tw_1475 tw_1476 (by decide +kernel) (by decide) co_l_68 (by decide) (PT_round hI (sa xs k 1) (sa xs k 2) (sa xs k 3)) h

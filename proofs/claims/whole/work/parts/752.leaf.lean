/-! constructors: the walks (printed by wip/tools/genctor.py) -/
abbrev xC (x : Cx) : Nat → ClassId := (xG x).2.2.1
abbrev oI (cA : Nat → ClassId) (n : Nat) : va_E := .inl (cA 0, n, .inl (fun _ => 0))
abbrev oJ (cA : Nat → ClassId) (n : Nat) : va_E := .inl (cA 1, n, .inr (.inl (fun _ => 0)))
abbrev oB (cA : Nat → ClassId) (n : Nat) : va_E := .inl (cA 2, n, .inl (fun _ => 0))
abbrev oZ (cA : Nat → ClassId) (n : Nat) : va_E := .inl (cA 3, n, .inl (fun _ => 0))
theorem get_last {w : List va_E} {e : va_E} {k : Nat} (h : w.length = k) : (w ++ [e])[k]? = some e := by subst h; simp
theorem set_last {w : List va_E} {e e' : va_E} {k : Nat} (h : w.length = k) : (w ++ [e]).set k e' = w ++ [e'] := by subst h; simp
theorem get_mid1 {w r : List va_E} {e : va_E} {k : Nat} (h : w.length = k) : ((w ++ [e]) ++ r)[k]? = some e := by subst h; simp
theorem set_mid1 {w r : List va_E} {e e' : va_E} {k : Nat} (h : w.length = k) : ((w ++ [e]) ++ r).set k e' = (w ++ [e']) ++ r := by subst h; simp
theorem get_mid2 {w r r2 : List va_E} {e : va_E} {k : Nat} (h : w.length = k) : (((w ++ [e]) ++ r) ++ r2)[k]? = some e := by rw [List.append_assoc (w ++ [e])]; exact get_mid1 h
theorem set_mid2 {w r r2 : List va_E} {e e' : va_E} {k : Nat} (h : w.length = k) : (((w ++ [e]) ++ r) ++ r2).set k e' = ((w ++ [e']) ++ r) ++ r2 := by rw [List.append_assoc (w ++ [e]), set_mid1 h, List.append_assoc (w ++ [e'])]
theorem get_mid3 {w r r2 r3 : List va_E} {e : va_E} {k : Nat} (h : w.length = k) : ((((w ++ [e]) ++ r) ++ r2) ++ r3)[k]? = some e := by rw [List.append_assoc ((w ++ [e]) ++ r)]; exact get_mid2 h
theorem set_mid3 {w r r2 r3 : List va_E} {e e' : va_E} {k : Nat} (h : w.length = k) : ((((w ++ [e]) ++ r) ++ r2) ++ r3).set k e' = (((w ++ [e']) ++ r) ++ r2) ++ r3 := by rw [List.append_assoc ((w ++ [e]) ++ r), set_mid2 h, List.append_assoc ((w ++ [e']) ++ r)]
theorem val_mid1 {w r : List va_E} {e v : va_E} {k j q : Nat} (h : w.length = k) (hq : k + 1 + j = q) (hr : r[j]? = some v) : ((w ++ [e]) ++ r)[q]? = some v := by
  subst h; subst hq
  rw [List.getElem?_append_right (by rw [List.length_append]; show w.length + 1 ≤ _; omega), List.length_append, show w.length + 1 + j - (w.length + [e].length) = j by simp, hr]
theorem val_mid2 {w r r2 : List va_E} {e v : va_E} {k k2 j q : Nat} (h : w.length = k) (h2 : r.length = k2) (hq : k + 1 + (k2 + j) = q) (hr : r2[j]? = some v) : (((w ++ [e]) ++ r) ++ r2)[q]? = some v := by
  rw [List.append_assoc (w ++ [e])]
  refine val_mid1 h hq ?_
  subst h2
  rw [List.getElem?_append_right (by omega), show r.length + j - r.length = j by omega, hr]
section
variable {M : MI} {x : Cx} {b cs ss pc n k N : Nat} {lv : List (Nat × Value)} {st : List Value} {ws : List va_E} {n' : Int32}
theorem N_ni (hdg : decode M.2.1 pc = .ok (.newarray .int, 2)) (hn : pc + 2 = n) (hnn : ¬ n' < 0) (hN : n'.toNatClampNeg = N) (hby : N * 4 ≤ 536870912) (hr : cs + 1 ≤ (xR x).cells ∧ ss + N ≤ (xR x).slots) (hk : ws.length = k) (h : CN M x b (cs + 1) (ss + N) n lv (.ref (b + k) :: st) (ws ++ [oI (xC x) N])) : CN M x b cs ss pc lv (.int n' :: st) ws :=
  N_newa (t := 0) (a0 := (N, .inl (fun _ => 0))) hdg hn rfl (fun _ => rfl) tw_201 (fun _ _ => rfl) (fun _ => rfl) hnn hN hby hr hk h
theorem N_nj (hdg : decode M.2.1 pc = .ok (.newarray .long, 2)) (hn : pc + 2 = n) (hnn : ¬ n' < 0) (hN : n'.toNatClampNeg = N) (hby : N * 8 ≤ 536870912) (hr : cs + 1 ≤ (xR x).cells ∧ ss + N ≤ (xR x).slots) (hk : ws.length = k) (h : CN M x b (cs + 1) (ss + N) n lv (.ref (b + k) :: st) (ws ++ [oJ (xC x) N])) : CN M x b cs ss pc lv (.int n' :: st) ws :=
  N_newa (t := 1) (a0 := (N, .inr (.inl (fun _ => 0)))) hdg hn rfl (fun _ => rfl) tw_421 (fun _ _ => rfl) (fun _ => rfl) hnn hN hby hr hk h
theorem N_nb (hdg : decode M.2.1 pc = .ok (.newarray .byte, 2)) (hn : pc + 2 = n) (hnn : ¬ n' < 0) (hN : n'.toNatClampNeg = N) (hby : N * 1 ≤ 536870912) (hr : cs + 1 ≤ (xR x).cells ∧ ss + N ≤ (xR x).slots) (hk : ws.length = k) (h : CN M x b (cs + 1) (ss + N) n lv (.ref (b + k) :: st) (ws ++ [oB (xC x) N])) : CN M x b cs ss pc lv (.int n' :: st) ws :=
  N_newa (t := 2) (a0 := (N, .inl (fun _ => 0))) hdg hn rfl (fun _ => rfl) tw_801 (fun _ _ => rfl) (fun _ => rfl) hnn hN hby hr hk h
theorem N_nz (hdg : decode M.2.1 pc = .ok (.newarray .boolean, 2)) (hn : pc + 2 = n) (hnn : ¬ n' < 0) (hN : n'.toNatClampNeg = N) (hby : N * 1 ≤ 536870912) (hr : cs + 1 ≤ (xR x).cells ∧ ss + N ≤ (xR x).slots) (hk : ws.length = k) (h : CN M x b (cs + 1) (ss + N) n lv (.ref (b + k) :: st) (ws ++ [oZ (xC x) N])) : CN M x b cs ss pc lv (.int n' :: st) ws :=
  N_newa (t := 3) (a0 := (N, .inl (fun _ => 0))) hdg hn rfl (fun _ => rfl) tw_604 (fun _ _ => rfl) (fun _ => rfl) hnn hN hby hr hk h
end
def M_IN_Line : MI := (({ cls := "OddHay$Line", name := "<init>", desc := "()V" } : MethodName), prog_4_method_1_code, 1, none, 1, 12, [(0, .aload_n 0, 1), (1, .invokespecial 3, 3), (4, .aload_n 0, 1), (5, .bipush 12, 2), (7, .newarray .int, 2), (9, .putfield 9, 3), (12, .aload_n 0, 1), (13, .bipush 12, 2), (15, .newarray .int, 2), (17, .putfield 15, 3), (20, .return_, 1)])
theorem G_IN_Line : GoodM M_IN_Line := ⟨by decide, tw_376, tw_120, by decide +kernel⟩
def bl_Line (cA : Nat → ClassId) (b : Nat) : List va_E := .inr (2, [.long 0, .int 0, .ref (b + 1), .ref (b + 2)]) :: (([] ++ [oI cA 12]) ++ [oI cA 12])
theorem I_Line : Mn M_IN_Line (fun b => [.ref b]) (fun _ _ => [.inr (2, dfs 4 tyX2)]) (bl_Line) 2 24 := by
  refine Mn.of G_IN_Line (fun _ => Nat.le_of_ble_eq_true rfl) ?_
  intro b x hx
  have g := G_IN_Line
  refine N_aload_n (n := 1) (gdec g (k := 0) rfl) rfl rfl 0 rfl ?_
  refine N_obj (n := 4) (gdec g (k := 1) rfl) rfl tw_377 (by rw [hx.1]; exact ⟨Nat.le_of_ble_eq_true rfl, Nat.le_of_ble_eq_true rfl⟩) ?_
  refine N_aload_n (n := 5) (gdec g (k := 2) rfl) rfl rfl 0 rfl ?_
  refine N_bipush (n := 7) (v := 12) (gdec g (k := 3) rfl) rfl (by decide) ?_
  refine N_ni (n := 9) (k := 1) (N := 12) (gdec g (k := 4) rfl) rfl (by decide) (by decide) (by decide) (by rw [hx.1]; decide) (by rfl) ?_
  refine N_put (n := 12) (q0 := 0) (j := 2) (fs := dfs 4 tyX2) (ws' := .inr (2, [.long 0, .int 0, .ref (b + 1), .null]) :: ([] ++ [oI (xC x) 12])) (gdec g (k := 5) rfl) rfl ⟨RX2, TX2, 4, tyX2, rfl, by decide, inwX2, tyX2_ok, nmX2, tw_385, Or.inr ⟨rfl, rfl, rfl⟩, rfl⟩ rfl rfl rfl (by rfl) (Nat.le_of_ble_eq_true rfl) (by rfl) ?_
  refine N_aload_n (n := 13) (gdec g (k := 6) rfl) rfl rfl 0 rfl ?_
  refine N_bipush (n := 15) (v := 12) (gdec g (k := 7) rfl) rfl (by decide) ?_
  refine N_ni (n := 17) (k := 2) (N := 12) (gdec g (k := 8) rfl) rfl (by decide) (by decide) (by decide) (by rw [hx.1]; decide) (by rfl) ?_
  refine N_put (n := 20) (q0 := 0) (j := 3) (fs := [.long 0, .int 0, .ref (b + 1), .null]) (ws' := .inr (2, [.long 0, .int 0, .ref (b + 1), .ref (b + 2)]) :: (([] ++ [oI (xC x) 12]) ++ [oI (xC x) 12])) (gdec g (k := 9) rfl) rfl ⟨RX2, TX2, 4, tyX2, rfl, by decide, inwX2, tyX2_ok, nmX2, tw_391, Or.inr ⟨rfl, rfl, rfl⟩, rfl⟩ rfl rfl rfl (by rfl) (Nat.le_of_ble_eq_true rfl) (by rfl) ?_
  exact N_ret hx (gdec g (k := 10) rfl) rfl rfl rfl (by rfl)
theorem len_Line (cA : Nat → ClassId) (b : Nat) : (bl_Line cA b).length = 3 := by rfl
def M_IN_Sights : MI := (({ cls := "OddHay$Sights", name := "<init>", desc := "(I)V" } : MethodName), prog_11_method_1_code, 2, none, 1, 12, [(0, .aload_n 0, 1), (1, .invokespecial 1, 3), (4, .aload_n 0, 1), (5, .iload_n 1, 1), (6, .newarray .long, 2), (8, .putfield 7, 3), (11, .aload_n 0, 1), (12, .iload_n 1, 1), (13, .newarray .int, 2), (15, .putfield 13, 3), (18, .return_, 1)])
theorem G_IN_Sights : GoodM M_IN_Sights := ⟨by decide, tw_410, tw_121, by decide +kernel⟩
def bl_Sights (N : Nat) (cA : Nat → ClassId) (b : Nat) : List va_E := .inr (9, [.ref (b + 1), .ref (b + 2)]) :: (([] ++ [oJ cA N]) ++ [oI cA N])
theorem I_Sights {v : Int32} {N : Nat} (hv0 : ¬ v < 0) (hvN : v.toNatClampNeg = N) (hN : N ≤ 1000) : Mn M_IN_Sights (fun b => [.ref b, .int v]) (fun _ _ => [.inr (9, dfs 2 tyX9)]) (bl_Sights N) 2 (N + N) := by
  refine Mn.of G_IN_Sights (fun _ => Nat.le_of_ble_eq_true rfl) ?_
  intro b x hx
  have g := G_IN_Sights
  refine N_aload_n (n := 1) (gdec g (k := 0) rfl) rfl rfl 0 rfl ?_
  refine N_obj (n := 4) (gdec g (k := 1) rfl) rfl tw_411 (by rw [hx.1]; exact ⟨Nat.le_of_ble_eq_true rfl, Nat.le_of_ble_eq_true rfl⟩) ?_
  refine N_aload_n (n := 5) (gdec g (k := 2) rfl) rfl rfl 0 rfl ?_
  refine N_iload_n (n := 6) (gdec g (k := 3) rfl) rfl rfl 1 rfl ?_
  refine N_nj (n := 8) (k := 1) (N := N) (gdec g (k := 4) rfl) rfl hv0 hvN (Nat.le_trans (Nat.mul_le_mul_right _ hN) (by decide)) (by rw [hx.1]; exact ⟨by show 0 + 1 ≤ 2; decide, by show 0 + N ≤ N + N; omega⟩) (by rfl) ?_
  refine N_put (n := 11) (q0 := 0) (j := 0) (fs := dfs 2 tyX9) (ws' := .inr (9, [.ref (b + 1), .null]) :: ([] ++ [oJ (xC x) N])) (gdec g (k := 5) rfl) rfl ⟨RX9, TX9, 2, tyX9, rfl, by decide, inwX9, tyX9_ok, nmX9, tw_412, Or.inr ⟨rfl, rfl, rfl⟩, rfl⟩ rfl rfl rfl (by rfl) (Nat.le_of_ble_eq_true rfl) (by rfl) ?_
  refine N_aload_n (n := 12) (gdec g (k := 6) rfl) rfl rfl 0 rfl ?_
  refine N_iload_n (n := 13) (gdec g (k := 7) rfl) rfl rfl 1 rfl ?_
  refine N_ni (n := 15) (k := 2) (N := N) (gdec g (k := 8) rfl) rfl hv0 hvN (Nat.le_trans (Nat.mul_le_mul_right _ hN) (by decide)) (by rw [hx.1]; exact ⟨by show 1 + 1 ≤ 2; decide, by show 0 + N + N ≤ N + N; omega⟩) (by rfl) ?_
  refine N_put (n := 18) (q0 := 0) (j := 1) (fs := [.ref (b + 1), .null]) (ws' := .inr (9, [.ref (b + 1), .ref (b + 2)]) :: (([] ++ [oJ (xC x) N]) ++ [oI (xC x) N])) (gdec g (k := 9) rfl) rfl ⟨RX9, TX9, 2, tyX9, rfl, by decide, inwX9, tyX9_ok, nmX9, tw_414, Or.inr ⟨rfl, rfl, rfl⟩, rfl⟩ rfl rfl rfl (by rfl) (Nat.le_of_ble_eq_true rfl) (by rfl) ?_
  exact N_ret hx (gdec g (k := 10) rfl) rfl rfl (by omega) (by rfl)
def M_IN_Reader : MI := (({ cls := "OddHay$Reader", name := "<init>", desc := "()V" } : MethodName), prog_10_method_1_code, 1, none, 1, 12, [(0, .aload_n 0, 1), (1, .invokespecial 3, 3), (4, .aload_n 0, 1), (5, .sipush 940, 3), (8, .newarray .int, 2), (10, .putfield 9, 3), (13, .return_, 1)])
theorem G_IN_Reader : GoodM M_IN_Reader := ⟨by decide, tw_148, tw_112, by decide +kernel⟩
def bl_Reader (cA : Nat → ClassId) (b : Nat) : List va_E := .inr (8, [.ref (b + 1), .int 0, .int 0, .int 0, .int 0, .int 0, .int 0, .int 0, .long 0, .int 0, .int 0]) :: ([] ++ [oI cA 940])
theorem I_Reader : Mn M_IN_Reader (fun b => [.ref b]) (fun _ _ => [.inr (8, dfs 11 tyX8)]) (bl_Reader) 1 940 := by
  refine Mn.of G_IN_Reader (fun _ => Nat.le_of_ble_eq_true rfl) ?_
  intro b x hx
  have g := G_IN_Reader
  refine N_aload_n (n := 1) (gdec g (k := 0) rfl) rfl rfl 0 rfl ?_
  refine N_obj (n := 4) (gdec g (k := 1) rfl) rfl tw_149 (by rw [hx.1]; exact ⟨Nat.le_of_ble_eq_true rfl, Nat.le_of_ble_eq_true rfl⟩) ?_
  refine N_aload_n (n := 5) (gdec g (k := 2) rfl) rfl rfl 0 rfl ?_
  refine N_sipush (n := 8) (v := 940) (gdec g (k := 3) rfl) rfl (by decide) ?_
  refine N_ni (n := 10) (k := 1) (N := 940) (gdec g (k := 4) rfl) rfl (by decide) (by decide) (by decide) (by rw [hx.1]; decide) (by rfl) ?_
  refine N_put (n := 13) (q0 := 0) (j := 0) (fs := dfs 11 tyX8) (ws' := .inr (8, [.ref (b + 1), .int 0, .int 0, .int 0, .int 0, .int 0, .int 0, .int 0, .long 0, .int 0, .int 0]) :: ([] ++ [oI (xC x) 940])) (gdec g (k := 5) rfl) rfl ⟨RX8, TX8, 11, tyX8, rfl, by decide, inwX8, tyX8_ok, nmX8, tw_150, Or.inr ⟨rfl, rfl, rfl⟩, rfl⟩ rfl rfl rfl (by rfl) (Nat.le_of_ble_eq_true rfl) (by rfl) ?_
  exact N_ret hx (gdec g (k := 6) rfl) rfl rfl rfl (by rfl)
theorem len_Reader (cA : Nat → ClassId) (b : Nat) : (bl_Reader cA b).length = 2 := by rfl
def M_IN_Acts : MI := (({ cls := "OddHay$Acts", name := "<init>", desc := "()V" } : MethodName), prog_2_method_1_code, 1, none, 1, 12, [(0, .aload_n 0, 1), (1, .invokespecial 5, 3), (4, .aload_n 0, 1), (5, .sipush 584, 3), (8, .newarray .int, 2), (10, .putfield 11, 3), (13, .return_, 1)])
theorem G_IN_Acts : GoodM M_IN_Acts := ⟨by decide, tw_206, tw_113, by decide +kernel⟩
def bl_Acts (cA : Nat → ClassId) (b : Nat) : List va_E := .inr (0, [.ref (b + 1), .int 0]) :: ([] ++ [oI cA 584])
theorem I_Acts : Mn M_IN_Acts (fun b => [.ref b]) (fun _ _ => [.inr (0, dfs 2 tyX0)]) (bl_Acts) 1 584 := by
  refine Mn.of G_IN_Acts (fun _ => Nat.le_of_ble_eq_true rfl) ?_
  intro b x hx
  have g := G_IN_Acts
  refine N_aload_n (n := 1) (gdec g (k := 0) rfl) rfl rfl 0 rfl ?_
  refine N_obj (n := 4) (gdec g (k := 1) rfl) rfl tw_207 (by rw [hx.1]; exact ⟨Nat.le_of_ble_eq_true rfl, Nat.le_of_ble_eq_true rfl⟩) ?_
  refine N_aload_n (n := 5) (gdec g (k := 2) rfl) rfl rfl 0 rfl ?_
  refine N_sipush (n := 8) (v := 584) (gdec g (k := 3) rfl) rfl (by decide) ?_
  refine N_ni (n := 10) (k := 1) (N := 584) (gdec g (k := 4) rfl) rfl (by decide) (by decide) (by decide) (by rw [hx.1]; decide) (by rfl) ?_
  refine N_put (n := 13) (q0 := 0) (j := 0) (fs := dfs 2 tyX0) (ws' := .inr (0, [.ref (b + 1), .int 0]) :: ([] ++ [oI (xC x) 584])) (gdec g (k := 5) rfl) rfl ⟨RX0, TX0, 2, tyX0, rfl, by decide, inwX0, tyX0_ok, nmX0, tw_208, Or.inr ⟨rfl, rfl, rfl⟩, rfl⟩ rfl rfl rfl (by rfl) (Nat.le_of_ble_eq_true rfl) (by rfl) ?_
  exact N_ret hx (gdec g (k := 6) rfl) rfl rfl rfl (by rfl)
theorem len_Acts (cA : Nat → ClassId) (b : Nat) : (bl_Acts cA b).length = 2 := by rfl
def M_IN_Ground : MI := (({ cls := "OddHay$Ground", name := "<init>", desc := "()V" } : MethodName), prog_3_method_1_code, 1, none, 1, 12, [(0, .aload_n 0, 1), (1, .invokespecial 3, 3), (4, .aload_n 0, 1), (5, .sipush 400, 3), (8, .newarray .int, 2), (10, .putfield 9, 3), (13, .aload_n 0, 1), (14, .sipush 400, 3), (17, .newarray .int, 2), (19, .putfield 15, 3), (22, .aload_n 0, 1), (23, .sipush 400, 3), (26, .newarray .int, 2), (28, .putfield 18, 3), (31, .aload_n 0, 1), (32, .sipush 400, 3), (35, .newarray .int, 2), (37, .putfield 21, 3), (40, .aload_n 0, 1), (41, .sipush 400, 3), (44, .newarray .int, 2), (46, .putfield 24, 3), (49, .return_, 1)])
theorem G_IN_Ground : GoodM M_IN_Ground := ⟨by decide, tw_219, tw_114, by decide +kernel⟩
def bl_Ground (cA : Nat → ClassId) (b : Nat) : List va_E := .inr (1, [.ref (b + 1), .ref (b + 2), .ref (b + 3), .ref (b + 4), .ref (b + 5)]) :: ((((([] ++ [oI cA 400]) ++ [oI cA 400]) ++ [oI cA 400]) ++ [oI cA 400]) ++ [oI cA 400])
theorem I_Ground : Mn M_IN_Ground (fun b => [.ref b]) (fun _ _ => [.inr (1, dfs 5 tyX1)]) (bl_Ground) 5 2000 := by
  refine Mn.of G_IN_Ground (fun _ => Nat.le_of_ble_eq_true rfl) ?_
  intro b x hx
  have g := G_IN_Ground
  refine N_aload_n (n := 1) (gdec g (k := 0) rfl) rfl rfl 0 rfl ?_
  refine N_obj (n := 4) (gdec g (k := 1) rfl) rfl tw_220 (by rw [hx.1]; exact ⟨Nat.le_of_ble_eq_true rfl, Nat.le_of_ble_eq_true rfl⟩) ?_
  refine N_aload_n (n := 5) (gdec g (k := 2) rfl) rfl rfl 0 rfl ?_
  refine N_sipush (n := 8) (v := 400) (gdec g (k := 3) rfl) rfl (by decide) ?_
  refine N_ni (n := 10) (k := 1) (N := 400) (gdec g (k := 4) rfl) rfl (by decide) (by decide) (by decide) (by rw [hx.1]; decide) (by rfl) ?_
  refine N_put (n := 13) (q0 := 0) (j := 0) (fs := dfs 5 tyX1) (ws' := .inr (1, [.ref (b + 1), .null, .null, .null, .null]) :: ([] ++ [oI (xC x) 400])) (gdec g (k := 5) rfl) rfl ⟨RX1, TX1, 5, tyX1, rfl, by decide, inwX1, tyX1_ok, nmX1, tw_221, Or.inr ⟨rfl, rfl, rfl⟩, rfl⟩ rfl rfl rfl (by rfl) (Nat.le_of_ble_eq_true rfl) (by rfl) ?_
  refine N_aload_n (n := 14) (gdec g (k := 6) rfl) rfl rfl 0 rfl ?_
  refine N_sipush (n := 17) (v := 400) (gdec g (k := 7) rfl) rfl (by decide) ?_
  refine N_ni (n := 19) (k := 2) (N := 400) (gdec g (k := 8) rfl) rfl (by decide) (by decide) (by decide) (by rw [hx.1]; decide) (by rfl) ?_
  refine N_put (n := 22) (q0 := 0) (j := 1) (fs := [.ref (b + 1), .null, .null, .null, .null]) (ws' := .inr (1, [.ref (b + 1), .ref (b + 2), .null, .null, .null]) :: (([] ++ [oI (xC x) 400]) ++ [oI (xC x) 400])) (gdec g (k := 9) rfl) rfl ⟨RX1, TX1, 5, tyX1, rfl, by decide, inwX1, tyX1_ok, nmX1, tw_224, Or.inr ⟨rfl, rfl, rfl⟩, rfl⟩ rfl rfl rfl (by rfl) (Nat.le_of_ble_eq_true rfl) (by rfl) ?_
  refine N_aload_n (n := 23) (gdec g (k := 10) rfl) rfl rfl 0 rfl ?_
  refine N_sipush (n := 26) (v := 400) (gdec g (k := 11) rfl) rfl (by decide) ?_
  refine N_ni (n := 28) (k := 3) (N := 400) (gdec g (k := 12) rfl) rfl (by decide) (by decide) (by decide) (by rw [hx.1]; decide) (by rfl) ?_
  refine N_put (n := 31) (q0 := 0) (j := 2) (fs := [.ref (b + 1), .ref (b + 2), .null, .null, .null]) (ws' := .inr (1, [.ref (b + 1), .ref (b + 2), .ref (b + 3), .null, .null]) :: ((([] ++ [oI (xC x) 400]) ++ [oI (xC x) 400]) ++ [oI (xC x) 400])) (gdec g (k := 13) rfl) rfl ⟨RX1, TX1, 5, tyX1, rfl, by decide, inwX1, tyX1_ok, nmX1, tw_225, Or.inr ⟨rfl, rfl, rfl⟩, rfl⟩ rfl rfl rfl (by rfl) (Nat.le_of_ble_eq_true rfl) (by rfl) ?_
  refine N_aload_n (n := 32) (gdec g (k := 14) rfl) rfl rfl 0 rfl ?_
  refine N_sipush (n := 35) (v := 400) (gdec g (k := 15) rfl) rfl (by decide) ?_
  refine N_ni (n := 37) (k := 4) (N := 400) (gdec g (k := 16) rfl) rfl (by decide) (by decide) (by decide) (by rw [hx.1]; decide) (by rfl) ?_
  refine N_put (n := 40) (q0 := 0) (j := 3) (fs := [.ref (b + 1), .ref (b + 2), .ref (b + 3), .null, .null]) (ws' := .inr (1, [.ref (b + 1), .ref (b + 2), .ref (b + 3), .ref (b + 4), .null]) :: (((([] ++ [oI (xC x) 400]) ++ [oI (xC x) 400]) ++ [oI (xC x) 400]) ++ [oI (xC x) 400])) (gdec g (k := 17) rfl) rfl ⟨RX1, TX1, 5, tyX1, rfl, by decide, inwX1, tyX1_ok, nmX1, tw_226, Or.inr ⟨rfl, rfl, rfl⟩, rfl⟩ rfl rfl rfl (by rfl) (Nat.le_of_ble_eq_true rfl) (by rfl) ?_
  refine N_aload_n (n := 41) (gdec g (k := 18) rfl) rfl rfl 0 rfl ?_
  refine N_sipush (n := 44) (v := 400) (gdec g (k := 19) rfl) rfl (by decide) ?_
  refine N_ni (n := 46) (k := 5) (N := 400) (gdec g (k := 20) rfl) rfl (by decide) (by decide) (by decide) (by rw [hx.1]; decide) (by rfl) ?_
  refine N_put (n := 49) (q0 := 0) (j := 4) (fs := [.ref (b + 1), .ref (b + 2), .ref (b + 3), .ref (b + 4), .null]) (ws' := .inr (1, [.ref (b + 1), .ref (b + 2), .ref (b + 3), .ref (b + 4), .ref (b + 5)]) :: ((((([] ++ [oI (xC x) 400]) ++ [oI (xC x) 400]) ++ [oI (xC x) 400]) ++ [oI (xC x) 400]) ++ [oI (xC x) 400])) (gdec g (k := 21) rfl) rfl ⟨RX1, TX1, 5, tyX1, rfl, by decide, inwX1, tyX1_ok, nmX1, tw_227, Or.inr ⟨rfl, rfl, rfl⟩, rfl⟩ rfl rfl rfl (by rfl) (Nat.le_of_ble_eq_true rfl) (by rfl) ?_
  exact N_ret hx (gdec g (k := 22) rfl) rfl rfl rfl (by rfl)
theorem len_Ground (cA : Nat → ClassId) (b : Nat) : (bl_Ground cA b).length = 6 := by rfl
def M_IN_Pieces : MI := (({ cls := "OddHay$Pieces", name := "<init>", desc := "()V" } : MethodName), prog_8_method_1_code, 1, none, 1, 12, [(0, .aload_n 0, 1), (1, .invokespecial 3, 3), (4, .aload_n 0, 1), (5, .sipush 400, 3), (8, .newarray .int, 2), (10, .putfield 9, 3), (13, .aload_n 0, 1), (14, .sipush 400, 3), (17, .newarray .int, 2), (19, .putfield 15, 3), (22, .aload_n 0, 1), (23, .sipush 401, 3), (26, .newarray .int, 2), (28, .putfield 18, 3), (31, .aload_n 0, 1), (32, .sipush 1600, 3), (35, .newarray .int, 2), (37, .putfield 21, 3), (40, .aload_n 0, 1), (41, .sipush 401, 3), (44, .newarray .int, 2), (46, .putfield 24, 3), (49, .aload_n 0, 1), (50, .sipush 400, 3), (53, .newarray .int, 2), (55, .putfield 27, 3), (58, .aload_n 0, 1), (59, .bipush 6, 2), (61, .newarray .int, 2), (63, .putfield 30, 3), (66, .aload_n 0, 1), (67, .sipush 25600, 3), (70, .newarray .int, 2), (72, .putfield 33, 3), (75, .return_, 1)])
theorem G_IN_Pieces : GoodM M_IN_Pieces := ⟨by decide, tw_243, tw_115, by decide +kernel⟩
def bl_Pieces (cA : Nat → ClassId) (b : Nat) : List va_E := .inr (6, [.int 0, .ref (b + 1), .ref (b + 2), .ref (b + 3), .ref (b + 4), .ref (b + 5), .ref (b + 6), .ref (b + 7), .int 0, .int 0, .ref (b + 8)]) :: (((((((([] ++ [oI cA 400]) ++ [oI cA 400]) ++ [oI cA 401]) ++ [oI cA 1600]) ++ [oI cA 401]) ++ [oI cA 400]) ++ [oI cA 6]) ++ [oI cA 25600])
theorem I_Pieces : Mn M_IN_Pieces (fun b => [.ref b]) (fun _ _ => [.inr (6, dfs 11 tyX6)]) (bl_Pieces) 8 29208 := by
  refine Mn.of G_IN_Pieces (fun _ => Nat.le_of_ble_eq_true rfl) ?_
  intro b x hx
  have g := G_IN_Pieces
  refine N_aload_n (n := 1) (gdec g (k := 0) rfl) rfl rfl 0 rfl ?_
  refine N_obj (n := 4) (gdec g (k := 1) rfl) rfl tw_244 (by rw [hx.1]; exact ⟨Nat.le_of_ble_eq_true rfl, Nat.le_of_ble_eq_true rfl⟩) ?_
  refine N_aload_n (n := 5) (gdec g (k := 2) rfl) rfl rfl 0 rfl ?_
  refine N_sipush (n := 8) (v := 400) (gdec g (k := 3) rfl) rfl (by decide) ?_
  refine N_ni (n := 10) (k := 1) (N := 400) (gdec g (k := 4) rfl) rfl (by decide) (by decide) (by decide) (by rw [hx.1]; decide) (by rfl) ?_
  refine N_put (n := 13) (q0 := 0) (j := 1) (fs := dfs 11 tyX6) (ws' := .inr (6, [.int 0, .ref (b + 1), .null, .null, .null, .null, .null, .null, .int 0, .int 0, .null]) :: ([] ++ [oI (xC x) 400])) (gdec g (k := 5) rfl) rfl ⟨RX6, TX6, 11, tyX6, rfl, by decide, inwX6, tyX6_ok, nmX6, tw_247, Or.inr ⟨rfl, rfl, rfl⟩, rfl⟩ rfl rfl rfl (by rfl) (Nat.le_of_ble_eq_true rfl) (by rfl) ?_
  refine N_aload_n (n := 14) (gdec g (k := 6) rfl) rfl rfl 0 rfl ?_
  refine N_sipush (n := 17) (v := 400) (gdec g (k := 7) rfl) rfl (by decide) ?_
  refine N_ni (n := 19) (k := 2) (N := 400) (gdec g (k := 8) rfl) rfl (by decide) (by decide) (by decide) (by rw [hx.1]; decide) (by rfl) ?_
  refine N_put (n := 22) (q0 := 0) (j := 2) (fs := [.int 0, .ref (b + 1), .null, .null, .null, .null, .null, .null, .int 0, .int 0, .null]) (ws' := .inr (6, [.int 0, .ref (b + 1), .ref (b + 2), .null, .null, .null, .null, .null, .int 0, .int 0, .null]) :: (([] ++ [oI (xC x) 400]) ++ [oI (xC x) 400])) (gdec g (k := 9) rfl) rfl ⟨RX6, TX6, 11, tyX6, rfl, by decide, inwX6, tyX6_ok, nmX6, tw_249, Or.inr ⟨rfl, rfl, rfl⟩, rfl⟩ rfl rfl rfl (by rfl) (Nat.le_of_ble_eq_true rfl) (by rfl) ?_
  refine N_aload_n (n := 23) (gdec g (k := 10) rfl) rfl rfl 0 rfl ?_
  refine N_sipush (n := 26) (v := 401) (gdec g (k := 11) rfl) rfl (by decide) ?_
  refine N_ni (n := 28) (k := 3) (N := 401) (gdec g (k := 12) rfl) rfl (by decide) (by decide) (by decide) (by rw [hx.1]; decide) (by rfl) ?_
  refine N_put (n := 31) (q0 := 0) (j := 3) (fs := [.int 0, .ref (b + 1), .ref (b + 2), .null, .null, .null, .null, .null, .int 0, .int 0, .null]) (ws' := .inr (6, [.int 0, .ref (b + 1), .ref (b + 2), .ref (b + 3), .null, .null, .null, .null, .int 0, .int 0, .null]) :: ((([] ++ [oI (xC x) 400]) ++ [oI (xC x) 400]) ++ [oI (xC x) 401])) (gdec g (k := 13) rfl) rfl ⟨RX6, TX6, 11, tyX6, rfl, by decide, inwX6, tyX6_ok, nmX6, tw_250, Or.inr ⟨rfl, rfl, rfl⟩, rfl⟩ rfl rfl rfl (by rfl) (Nat.le_of_ble_eq_true rfl) (by rfl) ?_
  refine N_aload_n (n := 32) (gdec g (k := 14) rfl) rfl rfl 0 rfl ?_
  refine N_sipush (n := 35) (v := 1600) (gdec g (k := 15) rfl) rfl (by decide) ?_
  refine N_ni (n := 37) (k := 4) (N := 1600) (gdec g (k := 16) rfl) rfl (by decide) (by decide) (by decide) (by rw [hx.1]; decide) (by rfl) ?_
  refine N_put (n := 40) (q0 := 0) (j := 4) (fs := [.int 0, .ref (b + 1), .ref (b + 2), .ref (b + 3), .null, .null, .null, .null, .int 0, .int 0, .null]) (ws' := .inr (6, [.int 0, .ref (b + 1), .ref (b + 2), .ref (b + 3), .ref (b + 4), .null, .null, .null, .int 0, .int 0, .null]) :: (((([] ++ [oI (xC x) 400]) ++ [oI (xC x) 400]) ++ [oI (xC x) 401]) ++ [oI (xC x) 1600])) (gdec g (k := 17) rfl) rfl ⟨RX6, TX6, 11, tyX6, rfl, by decide, inwX6, tyX6_ok, nmX6, tw_251, Or.inr ⟨rfl, rfl, rfl⟩, rfl⟩ rfl rfl rfl (by rfl) (Nat.le_of_ble_eq_true rfl) (by rfl) ?_
  refine N_aload_n (n := 41) (gdec g (k := 18) rfl) rfl rfl 0 rfl ?_
  refine N_sipush (n := 44) (v := 401) (gdec g (k := 19) rfl) rfl (by decide) ?_
  refine N_ni (n := 46) (k := 5) (N := 401) (gdec g (k := 20) rfl) rfl (by decide) (by decide) (by decide) (by rw [hx.1]; decide) (by rfl) ?_
  refine N_put (n := 49) (q0 := 0) (j := 5) (fs := [.int 0, .ref (b + 1), .ref (b + 2), .ref (b + 3), .ref (b + 4), .null, .null, .null, .int 0, .int 0, .null]) (ws' := .inr (6, [.int 0, .ref (b + 1), .ref (b + 2), .ref (b + 3), .ref (b + 4), .ref (b + 5), .null, .null, .int 0, .int 0, .null]) :: ((((([] ++ [oI (xC x) 400]) ++ [oI (xC x) 400]) ++ [oI (xC x) 401]) ++ [oI (xC x) 1600]) ++ [oI (xC x) 401])) (gdec g (k := 21) rfl) rfl ⟨RX6, TX6, 11, tyX6, rfl, by decide, inwX6, tyX6_ok, nmX6, tw_252, Or.inr ⟨rfl, rfl, rfl⟩, rfl⟩ rfl rfl rfl (by rfl) (Nat.le_of_ble_eq_true rfl) (by rfl) ?_
  refine N_aload_n (n := 50) (gdec g (k := 22) rfl) rfl rfl 0 rfl ?_
  refine N_sipush (n := 53) (v := 400) (gdec g (k := 23) rfl) rfl (by decide) ?_
  refine N_ni (n := 55) (k := 6) (N := 400) (gdec g (k := 24) rfl) rfl (by decide) (by decide) (by decide) (by rw [hx.1]; decide) (by rfl) ?_
  refine N_put (n := 58) (q0 := 0) (j := 6) (fs := [.int 0, .ref (b + 1), .ref (b + 2), .ref (b + 3), .ref (b + 4), .ref (b + 5), .null, .null, .int 0, .int 0, .null]) (ws' := .inr (6, [.int 0, .ref (b + 1), .ref (b + 2), .ref (b + 3), .ref (b + 4), .ref (b + 5), .ref (b + 6), .null, .int 0, .int 0, .null]) :: (((((([] ++ [oI (xC x) 400]) ++ [oI (xC x) 400]) ++ [oI (xC x) 401]) ++ [oI (xC x) 1600]) ++ [oI (xC x) 401]) ++ [oI (xC x) 400])) (gdec g (k := 25) rfl) rfl ⟨RX6, TX6, 11, tyX6, rfl, by decide, inwX6, tyX6_ok, nmX6, tw_253, Or.inr ⟨rfl, rfl, rfl⟩, rfl⟩ rfl rfl rfl (by rfl) (Nat.le_of_ble_eq_true rfl) (by rfl) ?_
  refine N_aload_n (n := 59) (gdec g (k := 26) rfl) rfl rfl 0 rfl ?_
  refine N_bipush (n := 61) (v := 6) (gdec g (k := 27) rfl) rfl (by decide) ?_
  refine N_ni (n := 63) (k := 7) (N := 6) (gdec g (k := 28) rfl) rfl (by decide) (by decide) (by decide) (by rw [hx.1]; decide) (by rfl) ?_
  refine N_put (n := 66) (q0 := 0) (j := 7) (fs := [.int 0, .ref (b + 1), .ref (b + 2), .ref (b + 3), .ref (b + 4), .ref (b + 5), .ref (b + 6), .null, .int 0, .int 0, .null]) (ws' := .inr (6, [.int 0, .ref (b + 1), .ref (b + 2), .ref (b + 3), .ref (b + 4), .ref (b + 5), .ref (b + 6), .ref (b + 7), .int 0, .int 0, .null]) :: ((((((([] ++ [oI (xC x) 400]) ++ [oI (xC x) 400]) ++ [oI (xC x) 401]) ++ [oI (xC x) 1600]) ++ [oI (xC x) 401]) ++ [oI (xC x) 400]) ++ [oI (xC x) 6])) (gdec g (k := 29) rfl) rfl ⟨RX6, TX6, 11, tyX6, rfl, by decide, inwX6, tyX6_ok, nmX6, tw_254, Or.inr ⟨rfl, rfl, rfl⟩, rfl⟩ rfl rfl rfl (by rfl) (Nat.le_of_ble_eq_true rfl) (by rfl) ?_
  refine N_aload_n (n := 67) (gdec g (k := 30) rfl) rfl rfl 0 rfl ?_
  refine N_sipush (n := 70) (v := 25600) (gdec g (k := 31) rfl) rfl (by decide) ?_
  refine N_ni (n := 72) (k := 8) (N := 25600) (gdec g (k := 32) rfl) rfl (by decide) (by decide) (by decide) (by rw [hx.1]; decide) (by rfl) ?_
  refine N_put (n := 75) (q0 := 0) (j := 10) (fs := [.int 0, .ref (b + 1), .ref (b + 2), .ref (b + 3), .ref (b + 4), .ref (b + 5), .ref (b + 6), .ref (b + 7), .int 0, .int 0, .null]) (ws' := .inr (6, [.int 0, .ref (b + 1), .ref (b + 2), .ref (b + 3), .ref (b + 4), .ref (b + 5), .ref (b + 6), .ref (b + 7), .int 0, .int 0, .ref (b + 8)]) :: (((((((([] ++ [oI (xC x) 400]) ++ [oI (xC x) 400]) ++ [oI (xC x) 401]) ++ [oI (xC x) 1600]) ++ [oI (xC x) 401]) ++ [oI (xC x) 400]) ++ [oI (xC x) 6]) ++ [oI (xC x) 25600])) (gdec g (k := 33) rfl) rfl ⟨RX6, TX6, 11, tyX6, rfl, by decide, inwX6, tyX6_ok, nmX6, tw_257, Or.inr ⟨rfl, rfl, rfl⟩, rfl⟩ rfl rfl rfl (by rfl) (Nat.le_of_ble_eq_true rfl) (by rfl) ?_
  exact N_ret hx (gdec g (k := 34) rfl) rfl rfl rfl (by rfl)
theorem len_Pieces (cA : Nat → ClassId) (b : Nat) : (bl_Pieces cA b).length = 9 := by rfl
def M_IN_Walker : MI := (({ cls := "OddHay$Walker", name := "<init>", desc := "()V" } : MethodName), prog_12_method_1_code, 1, none, 1, 12, [(0, .aload_n 0, 1), (1, .invokespecial 3, 3), (4, .aload_n 0, 1), (5, .iconst 3, 1), (6, .newarray .int, 2), (8, .dup, 1), (9, .iconst 0, 1), (10, .iconst (-1), 1), (11, .iastore, 1), (12, .dup, 1), (13, .iconst 1, 1), (14, .iconst (-1), 1), (15, .iastore, 1), (16, .dup, 1), (17, .iconst 2, 1), (18, .iconst (-1), 1), (19, .iastore, 1), (20, .putfield 9, 3), (23, .aload_n 0, 1), (24, .sipush 400, 3), (27, .newarray .int, 2), (29, .putfield 15, 3), (32, .aload_n 0, 1), (33, .sipush 400, 3), (36, .newarray .int, 2), (38, .putfield 18, 3), (41, .aload_n 0, 1), (42, .sipush 400, 3), (45, .newarray .int, 2), (47, .putfield 21, 3), (50, .return_, 1)])
theorem G_IN_Walker : GoodM M_IN_Walker := ⟨by decide, tw_285, tw_116, by decide +kernel⟩
def bl_Walker (cA : Nat → ClassId) (b : Nat) : List va_E := .inr (10, [.ref (b + 1), .int 0, .int 0, .int 0, .ref (b + 2), .ref (b + 3), .ref (b + 4), .int 0, .int 0]) :: (((([] ++ [.inl (cA 0, 3, .inl (upd (upd (upd (fun _ => 0) 0 (-1)) 1 (-1)) 2 (-1)))]) ++ [oI cA 400]) ++ [oI cA 400]) ++ [oI cA 400])
theorem I_Walker : Mn M_IN_Walker (fun b => [.ref b]) (fun _ _ => [.inr (10, dfs 9 tyX10)]) (bl_Walker) 4 1203 := by
  refine Mn.of G_IN_Walker (fun _ => Nat.le_of_ble_eq_true rfl) ?_
  intro b x hx
  have g := G_IN_Walker
  refine N_aload_n (n := 1) (gdec g (k := 0) rfl) rfl rfl 0 rfl ?_
  refine N_obj (n := 4) (gdec g (k := 1) rfl) rfl tw_286 (by rw [hx.1]; exact ⟨Nat.le_of_ble_eq_true rfl, Nat.le_of_ble_eq_true rfl⟩) ?_
  refine N_aload_n (n := 5) (gdec g (k := 2) rfl) rfl rfl 0 rfl ?_
  refine N_iconst (n := 6) (v := 3) (gdec g (k := 3) rfl) rfl (by decide) ?_
  refine N_ni (n := 8) (k := 1) (N := 3) (gdec g (k := 4) rfl) rfl (by decide) (by decide) (by decide) (by rw [hx.1]; decide) (by rfl) ?_
  refine N_dup (n := 9) (gdec g (k := 5) rfl) rfl ?_
  refine N_iconst (n := 10) (v := 0) (gdec g (k := 6) rfl) rfl (by decide) ?_
  refine N_iconst (n := 11) (v := -1) (gdec g (k := 7) rfl) rfl (by decide) ?_
  refine N_iast (n := 12) (q0 := 1) (gdec g (k := 8) rfl) rfl rfl (get_last (by rfl)) (by decide) (set_last (by rfl)) ?_
  refine N_dup (n := 13) (gdec g (k := 9) rfl) rfl ?_
  refine N_iconst (n := 14) (v := 1) (gdec g (k := 10) rfl) rfl (by decide) ?_
  refine N_iconst (n := 15) (v := -1) (gdec g (k := 11) rfl) rfl (by decide) ?_
  refine N_iast (n := 16) (q0 := 1) (gdec g (k := 12) rfl) rfl rfl (get_last (by rfl)) (by decide) (set_last (by rfl)) ?_
  refine N_dup (n := 17) (gdec g (k := 13) rfl) rfl ?_
  refine N_iconst (n := 18) (v := 2) (gdec g (k := 14) rfl) rfl (by decide) ?_
  refine N_iconst (n := 19) (v := -1) (gdec g (k := 15) rfl) rfl (by decide) ?_
  refine N_iast (n := 20) (q0 := 1) (gdec g (k := 16) rfl) rfl rfl (get_last (by rfl)) (by decide) (set_last (by rfl)) ?_
  refine N_put (n := 23) (q0 := 0) (j := 0) (fs := dfs 9 tyX10) (ws' := .inr (10, [.ref (b + 1), .int 0, .int 0, .int 0, .null, .null, .null, .int 0, .int 0]) :: ([] ++ [.inl ((xC x) 0, 3, .inl (upd (upd (upd (fun _ => 0) 0 (-1)) 1 (-1)) 2 (-1)))])) (gdec g (k := 17) rfl) rfl ⟨RX10, TX10, 9, tyX10, rfl, by decide, inwX10, tyX10_ok, nmX10, tw_287, Or.inr ⟨rfl, rfl, rfl⟩, rfl⟩ rfl rfl rfl (by rfl) (Nat.le_of_ble_eq_true rfl) (by rfl) ?_
  refine N_aload_n (n := 24) (gdec g (k := 18) rfl) rfl rfl 0 rfl ?_
  refine N_sipush (n := 27) (v := 400) (gdec g (k := 19) rfl) rfl (by decide) ?_
  refine N_ni (n := 29) (k := 2) (N := 400) (gdec g (k := 20) rfl) rfl (by decide) (by decide) (by decide) (by rw [hx.1]; decide) (by rfl) ?_
  refine N_put (n := 32) (q0 := 0) (j := 4) (fs := [.ref (b + 1), .int 0, .int 0, .int 0, .null, .null, .null, .int 0, .int 0]) (ws' := .inr (10, [.ref (b + 1), .int 0, .int 0, .int 0, .ref (b + 2), .null, .null, .int 0, .int 0]) :: (([] ++ [.inl ((xC x) 0, 3, .inl (upd (upd (upd (fun _ => 0) 0 (-1)) 1 (-1)) 2 (-1)))]) ++ [oI (xC x) 400])) (gdec g (k := 21) rfl) rfl ⟨RX10, TX10, 9, tyX10, rfl, by decide, inwX10, tyX10_ok, nmX10, tw_292, Or.inr ⟨rfl, rfl, rfl⟩, rfl⟩ rfl rfl rfl (by rfl) (Nat.le_of_ble_eq_true rfl) (by rfl) ?_
  refine N_aload_n (n := 33) (gdec g (k := 22) rfl) rfl rfl 0 rfl ?_
  refine N_sipush (n := 36) (v := 400) (gdec g (k := 23) rfl) rfl (by decide) ?_
  refine N_ni (n := 38) (k := 3) (N := 400) (gdec g (k := 24) rfl) rfl (by decide) (by decide) (by decide) (by rw [hx.1]; decide) (by rfl) ?_
  refine N_put (n := 41) (q0 := 0) (j := 5) (fs := [.ref (b + 1), .int 0, .int 0, .int 0, .ref (b + 2), .null, .null, .int 0, .int 0]) (ws' := .inr (10, [.ref (b + 1), .int 0, .int 0, .int 0, .ref (b + 2), .ref (b + 3), .null, .int 0, .int 0]) :: ((([] ++ [.inl ((xC x) 0, 3, .inl (upd (upd (upd (fun _ => 0) 0 (-1)) 1 (-1)) 2 (-1)))]) ++ [oI (xC x) 400]) ++ [oI (xC x) 400])) (gdec g (k := 25) rfl) rfl ⟨RX10, TX10, 9, tyX10, rfl, by decide, inwX10, tyX10_ok, nmX10, tw_293, Or.inr ⟨rfl, rfl, rfl⟩, rfl⟩ rfl rfl rfl (by rfl) (Nat.le_of_ble_eq_true rfl) (by rfl) ?_
  refine N_aload_n (n := 42) (gdec g (k := 26) rfl) rfl rfl 0 rfl ?_
  refine N_sipush (n := 45) (v := 400) (gdec g (k := 27) rfl) rfl (by decide) ?_
  refine N_ni (n := 47) (k := 4) (N := 400) (gdec g (k := 28) rfl) rfl (by decide) (by decide) (by decide) (by rw [hx.1]; decide) (by rfl) ?_
  refine N_put (n := 50) (q0 := 0) (j := 6) (fs := [.ref (b + 1), .int 0, .int 0, .int 0, .ref (b + 2), .ref (b + 3), .null, .int 0, .int 0]) (ws' := .inr (10, [.ref (b + 1), .int 0, .int 0, .int 0, .ref (b + 2), .ref (b + 3), .ref (b + 4), .int 0, .int 0]) :: (((([] ++ [.inl ((xC x) 0, 3, .inl (upd (upd (upd (fun _ => 0) 0 (-1)) 1 (-1)) 2 (-1)))]) ++ [oI (xC x) 400]) ++ [oI (xC x) 400]) ++ [oI (xC x) 400])) (gdec g (k := 29) rfl) rfl ⟨RX10, TX10, 9, tyX10, rfl, by decide, inwX10, tyX10_ok, nmX10, tw_294, Or.inr ⟨rfl, rfl, rfl⟩, rfl⟩ rfl rfl rfl (by rfl) (Nat.le_of_ble_eq_true rfl) (by rfl) ?_
  exact N_ret hx (gdec g (k := 30) rfl) rfl rfl rfl (by rfl)
theorem len_Walker (cA : Nat → ClassId) (b : Nat) : (bl_Walker cA b).length = 5 := by rfl
def M_IN_Pacer : MI := (({ cls := "OddHay$Pacer", name := "<init>", desc := "()V" } : MethodName), prog_6_method_1_code, 1, none, 1, 12, [(0, .aload_n 0, 1), (1, .invokespecial 3, 3), (4, .aload_n 0, 1), (5, .iconst 4, 1), (6, .newarray .int, 2), (8, .dup, 1), (9, .iconst 0, 1), (10, .sipush (-1001), 3), (13, .iastore, 1), (14, .dup, 1), (15, .iconst 1, 1), (16, .sipush (-1001), 3), (19, .iastore, 1), (20, .dup, 1), (21, .iconst 2, 1), (22, .sipush (-1001), 3), (25, .iastore, 1), (26, .dup, 1), (27, .iconst 3, 1), (28, .sipush (-1001), 3), (31, .iastore, 1), (32, .putfield 9, 3), (35, .aload_n 0, 1), (36, .bipush 30, 2), (38, .newarray .int, 2), (40, .putfield 15, 3), (43, .aload_n 0, 1), (44, .bipush 30, 2), (46, .newarray .int, 2), (48, .putfield 18, 3), (51, .aload_n 0, 1), (52, .bipush 99, 2), (54, .newarray .int, 2), (56, .putfield 21, 3), (59, .return_, 1)])
theorem G_IN_Pacer : GoodM M_IN_Pacer := ⟨by decide, tw_320, tw_117, by decide +kernel⟩
def bl_Pacer (cA : Nat → ClassId) (b : Nat) : List va_E := .inr (4, [.ref (b + 1), .int 0, .ref (b + 2), .ref (b + 3), .ref (b + 4)]) :: (((([] ++ [.inl (cA 0, 4, .inl (upd (upd (upd (upd (fun _ => 0) 0 (-1001)) 1 (-1001)) 2 (-1001)) 3 (-1001)))]) ++ [oI cA 30]) ++ [oI cA 30]) ++ [oI cA 99])
theorem I_Pacer : Mn M_IN_Pacer (fun b => [.ref b]) (fun _ _ => [.inr (4, dfs 5 tyX4)]) (bl_Pacer) 4 163 := by
  refine Mn.of G_IN_Pacer (fun _ => Nat.le_of_ble_eq_true rfl) ?_
  intro b x hx
  have g := G_IN_Pacer
  refine N_aload_n (n := 1) (gdec g (k := 0) rfl) rfl rfl 0 rfl ?_
  refine N_obj (n := 4) (gdec g (k := 1) rfl) rfl tw_321 (by rw [hx.1]; exact ⟨Nat.le_of_ble_eq_true rfl, Nat.le_of_ble_eq_true rfl⟩) ?_
  refine N_aload_n (n := 5) (gdec g (k := 2) rfl) rfl rfl 0 rfl ?_
  refine N_iconst (n := 6) (v := 4) (gdec g (k := 3) rfl) rfl (by decide) ?_
  refine N_ni (n := 8) (k := 1) (N := 4) (gdec g (k := 4) rfl) rfl (by decide) (by decide) (by decide) (by rw [hx.1]; decide) (by rfl) ?_
  refine N_dup (n := 9) (gdec g (k := 5) rfl) rfl ?_
  refine N_iconst (n := 10) (v := 0) (gdec g (k := 6) rfl) rfl (by decide) ?_
  refine N_sipush (n := 13) (v := -1001) (gdec g (k := 7) rfl) rfl (by decide) ?_
  refine N_iast (n := 14) (q0 := 1) (gdec g (k := 8) rfl) rfl rfl (get_last (by rfl)) (by decide) (set_last (by rfl)) ?_
  refine N_dup (n := 15) (gdec g (k := 9) rfl) rfl ?_
  refine N_iconst (n := 16) (v := 1) (gdec g (k := 10) rfl) rfl (by decide) ?_
  refine N_sipush (n := 19) (v := -1001) (gdec g (k := 11) rfl) rfl (by decide) ?_
  refine N_iast (n := 20) (q0 := 1) (gdec g (k := 12) rfl) rfl rfl (get_last (by rfl)) (by decide) (set_last (by rfl)) ?_
  refine N_dup (n := 21) (gdec g (k := 13) rfl) rfl ?_
  refine N_iconst (n := 22) (v := 2) (gdec g (k := 14) rfl) rfl (by decide) ?_
  refine N_sipush (n := 25) (v := -1001) (gdec g (k := 15) rfl) rfl (by decide) ?_
  refine N_iast (n := 26) (q0 := 1) (gdec g (k := 16) rfl) rfl rfl (get_last (by rfl)) (by decide) (set_last (by rfl)) ?_
  refine N_dup (n := 27) (gdec g (k := 17) rfl) rfl ?_
  refine N_iconst (n := 28) (v := 3) (gdec g (k := 18) rfl) rfl (by decide) ?_
  refine N_sipush (n := 31) (v := -1001) (gdec g (k := 19) rfl) rfl (by decide) ?_
  refine N_iast (n := 32) (q0 := 1) (gdec g (k := 20) rfl) rfl rfl (get_last (by rfl)) (by decide) (set_last (by rfl)) ?_
  refine N_put (n := 35) (q0 := 0) (j := 0) (fs := dfs 5 tyX4) (ws' := .inr (4, [.ref (b + 1), .int 0, .null, .null, .null]) :: ([] ++ [.inl ((xC x) 0, 4, .inl (upd (upd (upd (upd (fun _ => 0) 0 (-1001)) 1 (-1001)) 2 (-1001)) 3 (-1001)))])) (gdec g (k := 21) rfl) rfl ⟨RX4, TX4, 5, tyX4, rfl, by decide, inwX4, tyX4_ok, nmX4, tw_322, Or.inr ⟨rfl, rfl, rfl⟩, rfl⟩ rfl rfl rfl (by rfl) (Nat.le_of_ble_eq_true rfl) (by rfl) ?_
  refine N_aload_n (n := 36) (gdec g (k := 22) rfl) rfl rfl 0 rfl ?_
  refine N_bipush (n := 38) (v := 30) (gdec g (k := 23) rfl) rfl (by decide) ?_
  refine N_ni (n := 40) (k := 2) (N := 30) (gdec g (k := 24) rfl) rfl (by decide) (by decide) (by decide) (by rw [hx.1]; decide) (by rfl) ?_
  refine N_put (n := 43) (q0 := 0) (j := 2) (fs := [.ref (b + 1), .int 0, .null, .null, .null]) (ws' := .inr (4, [.ref (b + 1), .int 0, .ref (b + 2), .null, .null]) :: (([] ++ [.inl ((xC x) 0, 4, .inl (upd (upd (upd (upd (fun _ => 0) 0 (-1001)) 1 (-1001)) 2 (-1001)) 3 (-1001)))]) ++ [oI (xC x) 30])) (gdec g (k := 25) rfl) rfl ⟨RX4, TX4, 5, tyX4, rfl, by decide, inwX4, tyX4_ok, nmX4, tw_325, Or.inr ⟨rfl, rfl, rfl⟩, rfl⟩ rfl rfl rfl (by rfl) (Nat.le_of_ble_eq_true rfl) (by rfl) ?_
  refine N_aload_n (n := 44) (gdec g (k := 26) rfl) rfl rfl 0 rfl ?_
  refine N_bipush (n := 46) (v := 30) (gdec g (k := 27) rfl) rfl (by decide) ?_
  refine N_ni (n := 48) (k := 3) (N := 30) (gdec g (k := 28) rfl) rfl (by decide) (by decide) (by decide) (by rw [hx.1]; decide) (by rfl) ?_
  refine N_put (n := 51) (q0 := 0) (j := 3) (fs := [.ref (b + 1), .int 0, .ref (b + 2), .null, .null]) (ws' := .inr (4, [.ref (b + 1), .int 0, .ref (b + 2), .ref (b + 3), .null]) :: ((([] ++ [.inl ((xC x) 0, 4, .inl (upd (upd (upd (upd (fun _ => 0) 0 (-1001)) 1 (-1001)) 2 (-1001)) 3 (-1001)))]) ++ [oI (xC x) 30]) ++ [oI (xC x) 30])) (gdec g (k := 29) rfl) rfl ⟨RX4, TX4, 5, tyX4, rfl, by decide, inwX4, tyX4_ok, nmX4, tw_326, Or.inr ⟨rfl, rfl, rfl⟩, rfl⟩ rfl rfl rfl (by rfl) (Nat.le_of_ble_eq_true rfl) (by rfl) ?_
  refine N_aload_n (n := 52) (gdec g (k := 30) rfl) rfl rfl 0 rfl ?_
  refine N_bipush (n := 54) (v := 99) (gdec g (k := 31) rfl) rfl (by decide) ?_
  refine N_ni (n := 56) (k := 4) (N := 99) (gdec g (k := 32) rfl) rfl (by decide) (by decide) (by decide) (by rw [hx.1]; decide) (by rfl) ?_
  refine N_put (n := 59) (q0 := 0) (j := 4) (fs := [.ref (b + 1), .int 0, .ref (b + 2), .ref (b + 3), .null]) (ws' := .inr (4, [.ref (b + 1), .int 0, .ref (b + 2), .ref (b + 3), .ref (b + 4)]) :: (((([] ++ [.inl ((xC x) 0, 4, .inl (upd (upd (upd (upd (fun _ => 0) 0 (-1001)) 1 (-1001)) 2 (-1001)) 3 (-1001)))]) ++ [oI (xC x) 30]) ++ [oI (xC x) 30]) ++ [oI (xC x) 99])) (gdec g (k := 33) rfl) rfl ⟨RX4, TX4, 5, tyX4, rfl, by decide, inwX4, tyX4_ok, nmX4, tw_327, Or.inr ⟨rfl, rfl, rfl⟩, rfl⟩ rfl rfl rfl (by rfl) (Nat.le_of_ble_eq_true rfl) (by rfl) ?_
  exact N_ret hx (gdec g (k := 34) rfl) rfl rfl rfl (by rfl)
theorem len_Pacer (cA : Nat → ClassId) (b : Nat) : (bl_Pacer cA b).length = 5 := by rfl
def M_IN_Points : MI := (({ cls := "OddHay$Points", name := "<init>", desc := "()V" } : MethodName), prog_9_method_1_code, 1, none, 1, 12, [(0, .aload_n 0, 1), (1, .invokespecial 3, 3), (4, .aload_n 0, 1), (5, .bipush 8, 2), (7, .newarray .int, 2), (9, .putfield 11, 3), (12, .aload_n 0, 1), (13, .bipush 8, 2), (15, .newarray .int, 2), (17, .putfield 15, 3), (20, .aload_n 0, 1), (21, .bipush 8, 2), (23, .newarray .int, 2), (25, .putfield 18, 3), (28, .return_, 1)])
theorem G_IN_Points : GoodM M_IN_Points := ⟨by decide, tw_343, tw_118, by decide +kernel⟩
def bl_Points (cA : Nat → ClassId) (b : Nat) : List va_E := .inr (7, [.int 0, .int 0, .int 0, .ref (b + 1), .ref (b + 2), .ref (b + 3)]) :: ((([] ++ [oI cA 8]) ++ [oI cA 8]) ++ [oI cA 8])
theorem I_Points : Mn M_IN_Points (fun b => [.ref b]) (fun _ _ => [.inr (7, dfs 6 tyX7)]) (bl_Points) 3 24 := by
  refine Mn.of G_IN_Points (fun _ => Nat.le_of_ble_eq_true rfl) ?_
  intro b x hx
  have g := G_IN_Points
  refine N_aload_n (n := 1) (gdec g (k := 0) rfl) rfl rfl 0 rfl ?_
  refine N_obj (n := 4) (gdec g (k := 1) rfl) rfl tw_344 (by rw [hx.1]; exact ⟨Nat.le_of_ble_eq_true rfl, Nat.le_of_ble_eq_true rfl⟩) ?_
  refine N_aload_n (n := 5) (gdec g (k := 2) rfl) rfl rfl 0 rfl ?_
  refine N_bipush (n := 7) (v := 8) (gdec g (k := 3) rfl) rfl (by decide) ?_
  refine N_ni (n := 9) (k := 1) (N := 8) (gdec g (k := 4) rfl) rfl (by decide) (by decide) (by decide) (by rw [hx.1]; decide) (by rfl) ?_
  refine N_put (n := 12) (q0 := 0) (j := 3) (fs := dfs 6 tyX7) (ws' := .inr (7, [.int 0, .int 0, .int 0, .ref (b + 1), .null, .null]) :: ([] ++ [oI (xC x) 8])) (gdec g (k := 5) rfl) rfl ⟨RX7, TX7, 6, tyX7, rfl, by decide, inwX7, tyX7_ok, nmX7, tw_350, Or.inr ⟨rfl, rfl, rfl⟩, rfl⟩ rfl rfl rfl (by rfl) (Nat.le_of_ble_eq_true rfl) (by rfl) ?_
  refine N_aload_n (n := 13) (gdec g (k := 6) rfl) rfl rfl 0 rfl ?_
  refine N_bipush (n := 15) (v := 8) (gdec g (k := 7) rfl) rfl (by decide) ?_
  refine N_ni (n := 17) (k := 2) (N := 8) (gdec g (k := 8) rfl) rfl (by decide) (by decide) (by decide) (by rw [hx.1]; decide) (by rfl) ?_
  refine N_put (n := 20) (q0 := 0) (j := 4) (fs := [.int 0, .int 0, .int 0, .ref (b + 1), .null, .null]) (ws' := .inr (7, [.int 0, .int 0, .int 0, .ref (b + 1), .ref (b + 2), .null]) :: (([] ++ [oI (xC x) 8]) ++ [oI (xC x) 8])) (gdec g (k := 9) rfl) rfl ⟨RX7, TX7, 6, tyX7, rfl, by decide, inwX7, tyX7_ok, nmX7, tw_351, Or.inr ⟨rfl, rfl, rfl⟩, rfl⟩ rfl rfl rfl (by rfl) (Nat.le_of_ble_eq_true rfl) (by rfl) ?_
  refine N_aload_n (n := 21) (gdec g (k := 10) rfl) rfl rfl 0 rfl ?_
  refine N_bipush (n := 23) (v := 8) (gdec g (k := 11) rfl) rfl (by decide) ?_
  refine N_ni (n := 25) (k := 3) (N := 8) (gdec g (k := 12) rfl) rfl (by decide) (by decide) (by decide) (by rw [hx.1]; decide) (by rfl) ?_
  refine N_put (n := 28) (q0 := 0) (j := 5) (fs := [.int 0, .int 0, .int 0, .ref (b + 1), .ref (b + 2), .null]) (ws' := .inr (7, [.int 0, .int 0, .int 0, .ref (b + 1), .ref (b + 2), .ref (b + 3)]) :: ((([] ++ [oI (xC x) 8]) ++ [oI (xC x) 8]) ++ [oI (xC x) 8])) (gdec g (k := 13) rfl) rfl ⟨RX7, TX7, 6, tyX7, rfl, by decide, inwX7, tyX7_ok, nmX7, tw_352, Or.inr ⟨rfl, rfl, rfl⟩, rfl⟩ rfl rfl rfl (by rfl) (Nat.le_of_ble_eq_true rfl) (by rfl) ?_
  exact N_ret hx (gdec g (k := 14) rfl) rfl rfl rfl (by rfl)
theorem len_Points (cA : Nat → ClassId) (b : Nat) : (bl_Points cA b).length = 4 := by rfl

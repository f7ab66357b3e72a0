/-! what the tables and the premises give at the start -/
theorem lwp {w : Cond} (i : Nat) (h : decide (lw_tbl[i]? = some w) = true) : w ∈ lw_tbl := List.mem_of_getElem? (of_decide_eq_true h)
theorem arr_prim {A : Array Value} {s : State} {ty : FieldType} (hra : ∀ U cA, va_RA U cA ty = (U.vm.findClass ("[" ++ ty.toString) = some cA)) (hw : (Cond.arrayClass ty).before A s = true) : ∃ cA, ArrOfT s cA ty ∧ va_RA s cA ty := by
  obtain ⟨c, k, comp, h1, h2, h3⟩ := Cond.arrayClass_spec hw
  exact ⟨c, fun N z => ⟨(fun k h => by cases h), k, h2, comp, h3⟩, by rw [hra]; exact h1⟩
theorem arr_obj {A : Array Value} {s : State} {C : String} (hw : (Cond.arrayOver (.object C)).before A s = true) : ∃ cA, ArrOfT s cA (.object C) ∧ va_RA s cA (.object C) := by
  obtain ⟨comp, c, k, h1, h2, h3, h4, h5⟩ := Cond.arrayOver_spec hw
  exact ⟨c, fun N z => ⟨(fun k h => by cases h), k, h3, comp, h4⟩, ⟨k, comp, h3, h4, h1, h5⟩⟩
theorem st_K {A : Array Value} {s : State} (hts : ∀ w ∈ lw_tbl, w.before A s = true) : ∃ (D : va_G) (cA : Nat → ClassId), va_K D vwCl (tysOf cA) s := by
  have hTW : ∀ w ∈ TW, w.before A s = true := fun w hw => hts w (List.mem_filter.mp hw).1
  obtain ⟨c0, i0, h0⟩ := u_known (C := RX0) (T := TX0) (N := 2) (n := 2) hTW inwX0 (hTW _ tw_203)
  obtain ⟨c1, i1, h1⟩ := u_known (C := RX1) (T := TX1) (N := 5) (n := 5) hTW inwX1 (hTW _ tw_216)
  obtain ⟨c2, i2, h2⟩ := u_known (C := RX2) (T := TX2) (N := 4) (n := 4) hTW inwX2 (hTW _ tw_373)
  obtain ⟨c3, i3, h3⟩ := u_known (C := RX3) (T := TX3) (N := 18) (n := 18) hTW inwX3 (hTW _ tw_367)
  obtain ⟨c4, i4, h4⟩ := u_known (C := RX4) (T := TX4) (N := 5) (n := 5) hTW inwX4 (hTW _ tw_317)
  obtain ⟨c5, i5, h5⟩ := u_known (C := RX5) (T := TX5) (N := 15) (n := 15) hTW inwX5 (hTW _ tw_484)
  obtain ⟨c6, i6, h6⟩ := u_known (C := RX6) (T := TX6) (N := 11) (n := 11) hTW inwX6 (hTW _ tw_240)
  obtain ⟨c7, i7, h7⟩ := u_known (C := RX7) (T := TX7) (N := 6) (n := 6) hTW inwX7 (hTW _ tw_340)
  obtain ⟨c8, i8, h8⟩ := u_known (C := RX8) (T := TX8) (N := 11) (n := 11) hTW inwX8 (hTW _ tw_145)
  obtain ⟨c9, i9, h9⟩ := u_known (C := RX9) (T := TX9) (N := 2) (n := 2) hTW inwX9 (hTW _ tw_407)
  obtain ⟨c10, i10, h10⟩ := u_known (C := RX10) (T := TX10) (N := 9) (n := 9) hTW inwX10 (hTW _ tw_282)
  obtain ⟨c11, i11, h11⟩ := u_known (C := RX11) (T := TX11) (N := 17) (n := 17) hTW inwX11 (hTW _ tw_137)
  obtain ⟨c12, i12, h12⟩ := u_known (C := RX12) (T := TX12) (N := 58) (n := 58) hTW inwX12 (hTW _ tw_1496)
  obtain ⟨a0, q0⟩ := arr_prim (ty := .int) (fun _ _ => rfl) (hTW _ tw_201)
  obtain ⟨a1, q1⟩ := arr_prim (ty := .long) (fun _ _ => rfl) (hTW _ tw_421)
  obtain ⟨a2, q2⟩ := arr_prim (ty := .byte) (fun _ _ => rfl) (hTW _ tw_801)
  obtain ⟨a3, q3⟩ := arr_prim (ty := .boolean) (fun _ _ => rfl) (hTW _ tw_604)
  obtain ⟨a4, q4⟩ := arr_obj (C := "OddHay$Line") (hts _ (lwp 490 (by decide +kernel)))
  obtain ⟨a5, q5⟩ := arr_obj (C := "OddHay$Parish") (hts _ (lwp 483 (by decide +kernel)))
  refine ⟨(fun k => [c0, c1, c2, c3, c4, c5, c6, c7, c8, c9, c10, c11, c12].getD k c0, fun k => [i0, i1, i2, i3, i4, i5, i6, i7, i8, i9, i10, i11, i12].getD k i0), fun k => [a0, a1, a2, a3, a4, a5].getD k a0, ?_, ?_⟩
  · intro k q hq
    match k, hq with
    | 0, hq => cases hq; exact h0
    | 1, hq => cases hq; exact h1
    | 2, hq => cases hq; exact h2
    | 3, hq => cases hq; exact h3
    | 4, hq => cases hq; exact h4
    | 5, hq => cases hq; exact h5
    | 6, hq => cases hq; exact h6
    | 7, hq => cases hq; exact h7
    | 8, hq => cases hq; exact h8
    | 9, hq => cases hq; exact h9
    | 10, hq => cases hq; exact h10
    | 11, hq => cases hq; exact h11
    | 12, hq => cases hq; exact h12
    | k + 13, hq => exact absurd (List.getElem?_eq_some_iff.mp hq).1 (by show ¬ k + 13 < 13; omega)
  · intro k q hq
    match k, hq with
    | 0, hq => cases hq; exact q0
    | 1, hq => cases hq; exact q1
    | 2, hq => cases hq; exact q2
    | 3, hq => cases hq; exact q3
    | 4, hq => cases hq; exact q4
    | 5, hq => cases hq; exact q5
    | k + 6, hq => exact absurd (List.getElem?_eq_some_iff.mp hq).1 (by show ¬ k + 6 < 6; omega)
def flT : List Cond := flatC (Jvm.Cond.and given_1 narrow_1)
theorem flp {A : Array Value} {s : State} (hgv : (Jvm.Cond.and given_1 narrow_1).before A s = true) {w : Cond} (i : Nat) (h : flT[i]? = some w) : w.before A s = true := flat_of_before _ hgv w (List.mem_of_getElem? h)
def tmT (i : Nat) : Term := match i with
  | 0 => .string "OddHay$Reader" 74
  | 1 => .string "OddHay" 133
  | 2 => .string "OddHay" 162
  | 3 => .string "OddHay" 195
  | _ => .string "OddHay" 201
def ofT : List Nat := [58, 136, 155, 172, 200]
theorem fl_ex : ∀ i, i < 5 → flT[ofT.getD i 0 - 4]? = some (Cond.exactly (tmT i) "java/lang/String") := by decide +kernel
theorem fl_co : ∀ i, i < 5 → flT[ofT.getD i 0 - 3]? = some (Cond.eq (.field (tmT i) "java/lang/String" "coder" "B") (.int 0)) := by decide +kernel
theorem fl_ar : ∀ i, i < 5 → flT[ofT.getD i 0 - 2]? = some (Cond.arrayOf (.field (tmT i) "java/lang/String" "value" "[B") .byte) := by decide +kernel
theorem fl_le : ∀ i, i < 5 → flT[ofT.getD i 0 - 1]? = some (Cond.eq (.length (.field (tmT i) "java/lang/String" "value" "[B")) (.int (Int32.ofNat (txLen.getD i 0)))) := by decide +kernel
theorem fl_el : ∀ i, i < 5 → ∀ j, j < txLen.getD i 0 → flT[ofT.getD i 0 + j]? = some (Cond.eq (.elem (.field (tmT i) "java/lang/String" "value" "[B") (.int (Int32.ofNat j))) (.int ((txByt.getD i []).getD j 0))) := by decide +kernel
theorem fl_ne : ∀ i, i < 5 → ∀ j, j < 5 → i ≠ j → Cond.not (Cond.eq (tmT i) (tmT j)) ∈ flT ∨ Cond.not (Cond.eq (tmT j) (tmT i)) ∈ flT := by decide +kernel
theorem st_T {A : Array Value} {s : State} (hts : ∀ w ∈ lw_tbl, w.before A s = true) (hgv : (Jvm.Cond.and given_1 narrow_1).before A s = true) : ∃ aK aV : Nat → Nat, Txt aK aV s.heap.size s s.heap := by
  have hA : ∀ a : Nat, a < s.heap.size → ¬ Ab s.heap.size a := fun a h h2 => by
    have h2 : s.heap.size ≤ a := h2
    omega
  obtain ⟨aK, aV, h1, h2⟩ := vk_Sof (args := A) (s := s) (N := 5) (tm := tmT) (len := txLen) (byt := txByt) (A := Ab s.heap.size) (by decide) (fun i hi => flp hgv _ (fl_ex i hi)) (fun i hi => flp hgv _ (fl_co i hi)) (fun i hi => flp hgv _ (fl_ar i hi)) (fun i hi => flp hgv _ (fl_le i hi)) (fun i hi j hj => flp hgv _ (fl_el i hi j hj)) (fun i j hi hj hne => (fl_ne i hi j hj hne).imp (fun h => flat_of_before _ hgv _ h) (fun h => flat_of_before _ hgv _ h)) hA
  have z : ∀ {C n d : String}, (Cond.laysStatic C n d).before A s = true → (Cond.initialized C).before A s = true → (Cond.isRef (.static C n d)).before A s = true → ∃ v, (v = .null ∨ ∃ a, v = .ref a) ∧ va_Z C n d v (Ab s.heap.size) s s.heap := by
    intro C n d q1 q2 q3
    rcases va_Zqof q1 q2 q3 hA with h | ⟨t, h⟩
    · exact ⟨_, Or.inl rfl, h⟩
    · exact ⟨_, Or.inr ⟨t, rfl⟩, h⟩
  refine ⟨aK, aV, h1, ?_, va_Zof (hts _ (lwp 661 (by decide +kernel))) (hts _ (lwp 125 (by decide +kernel))) (va_eqi (flp hgv 4 (by decide +kernel))) hA, ?_⟩
  · intro q hq
    have hq : q = ("OddHay$Reader", 74, "n e s w odd round left parish his on line hay church law edge heirs point ", 0) ∨ q = ("OddHay", 133, "no such corner", 1) ∨ q = ("OddHay", 162, "no such hay", 2) ∨ q = ("OddHay", 195, "no such line or point", 3) ∨ q = ("OddHay", 201, "the point is on the line", 4) := by simpa [txRef] using hq
    rcases hq with rfl | rfl | rfl | rfl | rfl
    · exact vk_R.of (hts _ (lwp 651 (by decide +kernel))) (h2 0 (by decide))
    · exact vk_R.of (hts _ (lwp 1438 (by decide +kernel))) (h2 1 (by decide))
    · exact vk_R.of (hts _ (lwp 1474 (by decide +kernel))) (h2 2 (by decide))
    · exact vk_R.of (hts _ (lwp 1482 (by decide +kernel))) (h2 3 (by decide))
    · exact vk_R.of (hts _ (lwp 1484 (by decide +kernel))) (h2 4 (by decide))
  · intro q hq
    have hq : q = ("jdk/internal/util/Preconditions", "SIOOBE_FORMATTER", "Ljava/util/function/BiFunction;") ∨ q = ("java/lang/Throwable", "UNASSIGNED_STACK", "[Ljava/lang/StackTraceElement;") ∨ q = ("java/lang/Throwable", "SUPPRESSED_SENTINEL", "Ljava/util/List;") := by simpa [txSt] using hq
    rcases hq with rfl | rfl | rfl
    · exact z (hts _ (lwp 677 (by decide +kernel))) (hts _ (lwp 127 (by decide +kernel))) (flp hgv 5 (by decide +kernel))
    · exact z (hts _ (lwp 1426 (by decide +kernel))) (hts _ (lwp 129 (by decide +kernel))) (flp hgv 9 (by decide +kernel))
    · exact z (hts _ (lwp 1428 (by decide +kernel))) (hts _ (lwp 129 (by decide +kernel))) (flp hgv 10 (by decide +kernel))
theorem st_Th {A : Array Value} {s : State} (hts : ∀ w ∈ lw_tbl, w.before A s = true) : ThA s.heap.size s s.heap := by
  refine ThA.of (A := A) (fun q hq => ?_)
  have hq : q = ("UNASSIGNED_STACK", Bundle.steD) ∨ q = ("SUPPRESSED_SENTINEL", Bundle.listD) := by simpa [thSt] using hq
  rcases hq with rfl | rfl
  · exact hts _ (lwp 1426 (by decide +kernel))
  · exact hts _ (lwp 1428 (by decide +kernel))

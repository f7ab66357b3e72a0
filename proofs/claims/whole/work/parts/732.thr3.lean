/-! throw new NoSuchElementException(a text of the class), from any place of corner, hay, round -/
theorem isRef_of {A : Array Value} {U : State} {b : Nat} {C n d : String} {v : Value} (hv : v = .null ∨ ∃ a, v = .ref a) (h : va_Z C n d v (Ab b) U U.heap) : (Cond.isRef (.static C n d)).before A U = true := by
  obtain ⟨cf, kf, fi, f, a, cell, h1, h2, h3, h4, h5, h6, h7, h8⟩ := h
  rcases hv with rfl | ⟨q, rfl⟩ <;> simp [Cond.before, Cond.holds, Cond.value, Term.eval, State.fieldNamed?, h1, h2, h4, h5, h6, h7]
theorem V_throw {M : MI} {x : Cx} {cs ss pc ix i : Nat} {tx : String} {lv : List (Nat × Value)} {m : Mem} (hcls : M.1.cls = "OddHay") (hq : ("OddHay", ix, tx, i) ∈ txRef)
    (d0 : decode M.2.1 pc = .ok (.new 131, 3)) (d1 : decode M.2.1 (pc + 3) = .ok (.dup, 1)) (d2 : decode M.2.1 (pc + 4) = .ok (.ldc ix, 2)) (d3 : decode M.2.1 (pc + 6) = .ok (.invokespecial 135, 3)) (d4 : decode M.2.1 (pc + 9) = .ok (.athrow, 1))
    (hx : ∀ z ∈ x.2.2.2.2.2.2.2.2.2.1.exceptionTable.toList, covers z (pc + 9) = false) (hth : ∀ w ∈ Bundle.throwableAtoms, w.before x.2.2.2.2.2.2.1 (xS x) = true) (htr : x.2.2.1.platform.stackTraces = false) (hR : 5 < (xR x).frames ∧ 82 ≤ (xR x).locals) (hz : cs + 1 ≤ (xR x).cells ∧ ss + 6 ≤ (xR x).slots)
    (kk : ∀ (U : State) (a : Addr) (locs : List Loc) (H : Heap) (ce : Cell), WldM (xS x) H locs (xG x) m → U.status = .running → Ended U x.2.2.2.2.2.2.2.1 (.threw a) → (xS x).WarmedH U.vm → (xS x).sameButNew ({ U with vm := (xS x).vm } : State) locs (cs + 1) (ss + 6) → U.heap[a]? = some ce → (xS x).vm.findClass nse = some ce.cls → ce.vm = .none → a = H.size → (∀ q, q ≠ a → U.heap[q]? = H[q]?) → x.2.2.2.2.2.2.2.2.2.2.2 U) : EV M x cs ss pc lv [] m := by
  obtain ⟨p, l, e, R, s, mid, args, below, meth, c, G, QQ⟩ := x
  intro hE H locs ls hw hl T hT X
  have hown : s.vm.findClass "OddHay" = some mid.cls := by rw [← hcls]; exact hE.2.2.2.1
  have hT' := hE.2.2.2.2.2.2.2.2.1
  obtain ⟨u1, hu1, zu1⟩ := hT'.2.2.2 ("java/lang/Throwable", "UNASSIGNED_STACK", "[Ljava/lang/StackTraceElement;") (by decide)
  obtain ⟨u2, hu2, zu2⟩ := hT'.2.2.2 ("java/lang/Throwable", "SUPPRESSED_SENTINEL", "Ljava/util/List;") (by decide)
  have hZ := hT'.2.1 _ hq
  have hs0 : s.heap.size ≤ T.heap.size := by rw [hT]; exact hw.2.1.1
  obtain ⟨vm₁, cX, kX, hfX, hkX, -, -, X₁, st1⟩ := X.newCold hE.1 (own := "OddHay") (C := nse) (index := 131) (n := 6) hown (hE.2.2.2.2.1 _ (nse_a _ (by simp [nseOwn]))) (hE.2.2.2.2.1 _ (nse_a _ (by simp [nseOwn]))) (hE.2.2.2.2.1 _ (nse_a _ (by simp [nseOwn])))
    (g := F0 mid pc ls []) rfl (by rw [hE.2.1]; exact d0) hz.1 hz.2
  generalize hT1 : (T.setVm vm₁).pushCell { cls := cX, slots := kX.instanceTypes.map defaultValue, vm := .none } = T1 at X₁ st1
  have hcA : T1.heap[T.heap.size]? = some (freshCell cX kX) := by rw [← hT1]; exact State.heap_pushCell_size _ _
  have hcB : ∀ q, q ≠ T.heap.size → T1.heap[q]? = T.heap[q]? := fun q hq => by
    rw [← hT1]
    show (T.heap.push _)[q]? = _
    rw [Array.getElem?_push, if_neg hq]
  have key : W p l e R s mid args below meth c T1.heap locs (cs + 1) (ss + 6) QQ (F0 mid (pc + 3) ls [.ref T.heap.size]) := by
    refine lv_dup hE.1 hE.2.1 d1 rfl ?_
    refine va_ldcS hE.1 hE.2.1 hown hZ d2 ?_
    intro T2 hT2 X2
    obtain ⟨U, hsteps, hrun, hend, hW, hsame, ⟨ce, hce, hcc, hcv⟩, hoth⟩ := nse_throw X2 hE.1 htr hown hE.2.2.2.2.1 hth (isRef_of hu1 zu1) (isRef_of hu2 zu2) zu1 hw.2.1.2.2 hfX hkX (a := T.heap.size) (by rw [hT2]; exact hcA) hs0 (msg := .ref (G.2.2.2.1 i)) rfl
      (g := F0 mid (pc + 6) ls [.ref (G.2.2.2.1 i), .ref T.heap.size, .ref T.heap.size]) rfl (by rw [hE.2.2.1]; exact hl.1) rfl rfl (rest := []) rfl (by rw [hE.2.1]; exact d3) (by rw [hE.2.1]; exact d4) hx hR.1 (by show 2 * 0 + (1 + 0) + 81 ≤ _; have := hR.2; omega) hE.2.2.2.2.2.2.1
    refine ⟨U, hsteps, kk U T.heap.size locs H ce hw hrun hend hW hsame hce (by rw [hcc]; exact hfX) hcv (by rw [hT]) (fun q hq => ?_)⟩
    rw [hoth q hq, hT2, hcB q hq, hT]
  obtain ⟨t, a1, b1⟩ := key T1 rfl X₁
  exact ⟨t, st1 t a1, b1⟩

/-! the exception that corner, hay and round throw: the words that its making rests on -/
abbrev nse : String := "java/util/NoSuchElementException"
abbrev rte : String := "java/lang/RuntimeException"
abbrev exc : String := "java/lang/Exception"
def nseOwn : List Cond := [.methodLink "OddHay" 135 (Bundle.initS nse), .instantiable nse 6, .selects nse Bundle.tFill0 Bundle.tFill0, .selects nse Bundle.tFill Bundle.tFill,
   .lays nse Bundle.tN "cause" "Ljava/lang/Throwable;", .lays nse Bundle.tN "stackTrace" Bundle.steD, .lays nse Bundle.tN "suppressedExceptions" Bundle.listD, .lays nse Bundle.tN "detailMessage" "Ljava/lang/String;",
   .fieldLink Bundle.tN 198 Bundle.tN "backtrace" "Ljava/lang/Object;", .lays Bundle.tN Bundle.tN "backtrace" "Ljava/lang/Object;", .lays nse Bundle.tN "backtrace" "Ljava/lang/Object;", .classLink "OddHay" 131 nse, .initialized nse]
theorem nse_a : ∀ a ∈ nseOwn, a ∈ TW := by decide +kernel
theorem nse_b : ∀ a ∈ Bundle.throwableSAtoms, a ∈ TW := by decide +kernel
theorem nse_c1 : Cond.instanceMethod (Bundle.initS nse) ∈ TW := by decide +kernel
theorem nse_c3 : Cond.methodLink nse 13 (Bundle.initS rte) ∈ TW := by decide +kernel
theorem nse_c4 : Cond.instanceMethod (Bundle.initS rte) ∈ TW := by decide +kernel
theorem nse_c6 : Cond.methodLink rte 7 (Bundle.initS exc) ∈ TW := by decide +kernel
theorem nse_c7 : Cond.instanceMethod (Bundle.initS exc) ∈ TW := by decide +kernel
theorem nse_c9 : Cond.methodLink exc 7 (Bundle.initS Bundle.tN) ∈ TW := by decide +kernel
theorem nse_c10 : Cond.instanceMethod (Bundle.initS Bundle.tN) ∈ TW := by decide +kernel
theorem decl_of {A : Array Value} {U : State} {x : MethodName} {b : ByteArray} {n : Nat} {ret : Option FieldType} (h1 : (Cond.instanceMethod x).before A U = true) (h2 : (Cond.code x b n ret).before A U = true) : (Cond.declares x).before A U = true := by
  obtain ⟨r0, r, hn, hm, hst, hsig⟩ := va_Decl.of h1 h2
  simp [Cond.before, Cond.holds, Cond.value, hn, hm, hst, hsig]
theorem nse_c {A : Array Value} {U : State} (hw : ∀ w ∈ TW, w.before A U = true) : ∀ a ∈ Bundle.passSAtoms nse rte 13 prog_30_method_4_code, a.before A U = true := by
  intro a ha
  simp only [Bundle.passSAtoms, List.mem_cons, List.not_mem_nil, or_false] at ha
  rcases ha with rfl | rfl | rfl | rfl | rfl
  · exact hw _ nse_c1
  · exact hw _ tw_1441
  · exact hw _ nse_c3
  · exact hw _ nse_c4
  · exact decl_of (hw _ nse_c4) (hw _ tw_1444)
theorem nse_d {A : Array Value} {U : State} (hw : ∀ w ∈ TW, w.before A U = true) : ∀ a ∈ Bundle.chainSAtoms rte [exc], a.before A U = true := by
  intro a ha
  simp only [Bundle.chainSAtoms, Bundle.passSAtoms, List.mem_append, List.mem_cons, List.not_mem_nil, or_false] at ha
  rcases ha with (rfl | rfl | rfl | rfl | rfl) | (rfl | rfl | rfl | rfl | rfl)
  · exact hw _ nse_c4
  · exact hw _ tw_1444
  · exact hw _ nse_c6
  · exact hw _ nse_c7
  · exact decl_of (hw _ nse_c7) (hw _ tw_1447)
  · exact hw _ nse_c7
  · exact hw _ tw_1447
  · exact hw _ nse_c9
  · exact hw _ nse_c10
  · exact decl_of (hw _ nse_c10) (hw _ tw_1450)

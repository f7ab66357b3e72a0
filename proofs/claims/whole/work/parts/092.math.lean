/-! Math.floorDiv, Math.floorMod -/
def fm_spec (nm : MethodName) (cd : ByteArray) (a b r : Int32) : Spec := { pre := .and (.code nm cd 3 (some .int)) (.and (.count 2) (.and (.isInt (.arg 0)) (.and (.isInt (.arg 1)) (.and (.eq (.arg 0) (.int a)) (.eq (.arg 1) (.int b)))))), post := .and .returned (.eq .result (.int r)), changes := some [] }
theorem fm_args {a b : Int32} {args : Array Value} {s : State} (h : (Cond.count 2).before args s = true ∧ (Cond.isInt (.arg 0)).before args s = true ∧ (Cond.isInt (.arg 1)).before args s = true ∧ (Cond.eq (.arg 0) (.int a)).before args s = true ∧ (Cond.eq (.arg 1) (.int b)).before args s = true) : args = #[.int a, .int b] := by
  obtain ⟨x, y, rfl⟩ := Cond.two_ints h.1 h.2.1 h.2.2.1
  have h1 := h.2.2.2.1
  have h2 := h.2.2.2.2
  simp [Cond.before, Cond.holds, Cond.value, Term.eval] at h1 h2
  rw [h1, h2]
theorem fd_0 : decode prog_20_method_47_code 0 = .ok (.iload_n 0, 1) := by decide +kernel
theorem fd_1 : decode prog_20_method_47_code 1 = .ok (.iload_n 1, 1) := by decide +kernel
theorem fd_2 : decode prog_20_method_47_code 2 = .ok (.idiv, 1) := by decide +kernel
theorem fd_3 : decode prog_20_method_47_code 3 = .ok (.istore_n 2, 1) := by decide +kernel
theorem fd_4 : decode prog_20_method_47_code 4 = .ok (.iload_n 0, 1) := by decide +kernel
theorem fd_5 : decode prog_20_method_47_code 5 = .ok (.iload_n 1, 1) := by decide +kernel
theorem fd_6 : decode prog_20_method_47_code 6 = .ok (.ixor, 1) := by decide +kernel
theorem fd_7 : decode prog_20_method_47_code 7 = .ok (.ifCond .ge 14, 3) := by decide +kernel
theorem fd_10 : decode prog_20_method_47_code 10 = .ok (.iload_n 2, 1) := by decide +kernel
theorem fd_11 : decode prog_20_method_47_code 11 = .ok (.iload_n 1, 1) := by decide +kernel
theorem fd_12 : decode prog_20_method_47_code 12 = .ok (.imul, 1) := by decide +kernel
theorem fd_13 : decode prog_20_method_47_code 13 = .ok (.iload_n 0, 1) := by decide +kernel
theorem fd_14 : decode prog_20_method_47_code 14 = .ok (.if_icmp .eq 7, 3) := by decide +kernel
theorem fd_17 : decode prog_20_method_47_code 17 = .ok (.iload_n 2, 1) := by decide +kernel
theorem fd_18 : decode prog_20_method_47_code 18 = .ok (.iconst 1, 1) := by decide +kernel
theorem fd_19 : decode prog_20_method_47_code 19 = .ok (.isub, 1) := by decide +kernel
theorem fd_20 : decode prog_20_method_47_code 20 = .ok (.ireturn, 1) := by decide +kernel
theorem fd_21 : decode prog_20_method_47_code 21 = .ok (.iload_n 2, 1) := by decide +kernel
theorem fd_22 : decode prog_20_method_47_code 22 = .ok (.ireturn, 1) := by decide +kernel
theorem fd_nr0 : (NativeRow.find? natives nm_fdiv.cls nm_fdiv.name nm_fdiv.desc).isNone = true := by decide +kernel
theorem fd_nr (p : Program) : NativeRow.find? p.tables.natives nm_fdiv.cls nm_fdiv.name nm_fdiv.desc = none := by
  cases p <;> exact Option.isNone_iff_eq_none.mp fd_nr0
theorem fd_meets (l : Launch) {a b : Int32} (hy : ¬ b = 0) : Meets l nm_fdiv (fm_spec nm_fdiv prog_20_method_47_code a b (JM_floorDiv a b)) := by
  refine Meets.of_body_ov (code := prog_20_method_47_code) (maxLocals := 3) (ret := some .int) fd_nr ?_ ?_
  · intro args s h
    simp only [fm_spec, Cond.before_and, Bool.and_eq_true] at h
    exact h.1
  · intro p e s m args below meth c s₁ B
    have hpre := B.pre
    simp only [fm_spec, Cond.before_and, Bool.and_eq_true] at hpre
    obtain rfl := fm_args hpre.2
    have hloc : argsToLocals #[.int a, .int b] 3 = #[.val (.int a), .val (.int b), .unset] := rfl
    have fin : ∀ r : Int32, (∀ fs, Steps p.tables e below (s₁.setTop (entryFrame m #[.int a, .int b] 3)) (s₁.setFrames fs) ∨ handOver s₁ (some (.int r)) below ≠ some fs) →
        r = JM_floorDiv a b →
        ∃ s₂ o, Steps p.tables e below (s₁.setTop (entryFrame m #[.int a, .int b] 3)) s₂ ∧ s₂.status = .running ∧ Ended s₂ below o ∧
          (fm_spec nm_fdiv prog_20_method_47_code a b (JM_floorDiv a b)).ensures #[.int a, .int b] s o s₂ := by
      intro r hwalk hr
      obtain ⟨fs, hfs⟩ := handOver_isSome (s := s₁) (some (.int r)) B.hears₁
      refine ⟨s₁.setFrames fs, .returned (some (.int r)), (hwalk fs).resolve_right (fun h => h hfs), B.here.running, B.ended hfs (by intro h; cases h), ?_, State.sameBut_nil.mpr ?_⟩
      · rw [hr]; simp [fm_spec, Cond.after, Cond.holds, Cond.value, Term.eval]
      · rw [State.frames_setFrames _ B.cur₁, B.back]
    by_cases h1 : ¬ 0 ≤ (a ^^^ b)
    · by_cases h2 : a / b * b = a
      · refine fin (a / b) (fun fs => ?_) (by unfold JM_floorDiv; rw [if_neg (fun z => z.2 h2)])
        by_cases hfs : handOver s₁ (some (.int (a / b))) below = some fs
        · left
          unfold entryFrame; rw [hloc]
          refine Steps.instrAtOv (c := _) (by simpa using B.here) ?_
          simp [jvm, wpRun, exec, B.here.top, B.exec, B.bytes, fd_0]
          refine Steps.instrAtOv (c := _) (by simpa using B.here) ?_
          simp [jvm, wpRun, exec, B.here.top, B.exec, B.bytes, fd_1]
          refine Steps.instrAtOv (c := _) (by simpa using B.here) ?_
          simp [jvm, wpRun, exec, B.here.top, B.exec, B.bytes, fd_2, hy]
          refine Steps.instrAtOv (c := _) (by simpa using B.here) ?_
          simp [jvm, wpRun, exec, B.here.top, B.exec, B.bytes, fd_3]
          refine ⟨_, rfl, ?_⟩
          refine Steps.instrAtOv (c := _) (by simpa using B.here) ?_
          simp [jvm, wpRun, exec, B.here.top, B.exec, B.bytes, fd_4]
          refine Steps.instrAtOv (c := _) (by simpa using B.here) ?_
          simp [jvm, wpRun, exec, B.here.top, B.exec, B.bytes, fd_5]
          refine Steps.instrAtOv (c := _) (by simpa using B.here) ?_
          simp [jvm, wpRun, exec, B.here.top, B.exec, B.bytes, fd_6]
          refine Steps.instrAtOv (c := _) (by simpa using B.here) ?_
          simp [jvm, wpRun, exec, B.here.top, B.exec, B.bytes, fd_7, ifCond.holds, h1]
          refine Steps.instrAtOv (c := _) (by simpa using B.here) ?_
          simp [jvm, wpRun, exec, B.here.top, B.exec, B.bytes, fd_10]
          refine Steps.instrAtOv (c := _) (by simpa using B.here) ?_
          simp [jvm, wpRun, exec, B.here.top, B.exec, B.bytes, fd_11]
          refine Steps.instrAtOv (c := _) (by simpa using B.here) ?_
          simp [jvm, wpRun, exec, B.here.top, B.exec, B.bytes, fd_12]
          refine Steps.instrAtOv (c := _) (by simpa using B.here) ?_
          simp [jvm, wpRun, exec, B.here.top, B.exec, B.bytes, fd_13]
          refine Steps.instrAtOv (c := _) (by simpa using B.here) ?_
          simp [jvm, wpRun, exec, B.here.top, B.exec, B.bytes, fd_14, if_icmp.holds, h2]
          refine Steps.instrAtOv (c := _) (by simpa using B.here) ?_
          simp [jvm, wpRun, exec, B.here.top, B.exec, B.bytes, fd_21]
          refine Steps.instrAtOv (c := _) (by simpa using B.here) ?_
          simp [jvm, wpRun, exec, B.here.top, B.exec, B.bytes, fd_22, B.method₁, B.returns, narrow]
          intro acts
          rw [ret_to B.frames₁ B.method₁ B.notSynchronized rfl rfl hfs]
          exact Steps.refl _
        · exact Or.inr hfs
      · refine fin (a / b - 1) (fun fs => ?_) (by unfold JM_floorDiv; rw [if_pos ⟨Int32.not_le.mp h1, h2⟩, Int32.sub_eq_add_neg])
        by_cases hfs : handOver s₁ (some (.int (a / b - 1))) below = some fs
        · left
          unfold entryFrame; rw [hloc]
          refine Steps.instrAtOv (c := _) (by simpa using B.here) ?_
          simp [jvm, wpRun, exec, B.here.top, B.exec, B.bytes, fd_0]
          refine Steps.instrAtOv (c := _) (by simpa using B.here) ?_
          simp [jvm, wpRun, exec, B.here.top, B.exec, B.bytes, fd_1]
          refine Steps.instrAtOv (c := _) (by simpa using B.here) ?_
          simp [jvm, wpRun, exec, B.here.top, B.exec, B.bytes, fd_2, hy]
          refine Steps.instrAtOv (c := _) (by simpa using B.here) ?_
          simp [jvm, wpRun, exec, B.here.top, B.exec, B.bytes, fd_3]
          refine ⟨_, rfl, ?_⟩
          refine Steps.instrAtOv (c := _) (by simpa using B.here) ?_
          simp [jvm, wpRun, exec, B.here.top, B.exec, B.bytes, fd_4]
          refine Steps.instrAtOv (c := _) (by simpa using B.here) ?_
          simp [jvm, wpRun, exec, B.here.top, B.exec, B.bytes, fd_5]
          refine Steps.instrAtOv (c := _) (by simpa using B.here) ?_
          simp [jvm, wpRun, exec, B.here.top, B.exec, B.bytes, fd_6]
          refine Steps.instrAtOv (c := _) (by simpa using B.here) ?_
          simp [jvm, wpRun, exec, B.here.top, B.exec, B.bytes, fd_7, ifCond.holds, h1]
          refine Steps.instrAtOv (c := _) (by simpa using B.here) ?_
          simp [jvm, wpRun, exec, B.here.top, B.exec, B.bytes, fd_10]
          refine Steps.instrAtOv (c := _) (by simpa using B.here) ?_
          simp [jvm, wpRun, exec, B.here.top, B.exec, B.bytes, fd_11]
          refine Steps.instrAtOv (c := _) (by simpa using B.here) ?_
          simp [jvm, wpRun, exec, B.here.top, B.exec, B.bytes, fd_12]
          refine Steps.instrAtOv (c := _) (by simpa using B.here) ?_
          simp [jvm, wpRun, exec, B.here.top, B.exec, B.bytes, fd_13]
          refine Steps.instrAtOv (c := _) (by simpa using B.here) ?_
          simp [jvm, wpRun, exec, B.here.top, B.exec, B.bytes, fd_14, if_icmp.holds, h2]
          refine Steps.instrAtOv (c := _) (by simpa using B.here) ?_
          simp [jvm, wpRun, exec, B.here.top, B.exec, B.bytes, fd_17]
          refine Steps.instrAtOv (c := _) (by simpa using B.here) ?_
          simp [jvm, wpRun, exec, B.here.top, B.exec, B.bytes, fd_18]
          refine Steps.instrAtOv (c := _) (by simpa using B.here) ?_
          simp [jvm, wpRun, exec, B.here.top, B.exec, B.bytes, fd_19]
          refine Steps.instrAtOv (c := _) (by simpa using B.here) ?_
          simp [jvm, wpRun, exec, B.here.top, B.exec, B.bytes, fd_20, B.method₁, B.returns, narrow]
          intro acts
          rw [ret_to B.frames₁ B.method₁ B.notSynchronized rfl rfl hfs]
          exact Steps.refl _
        · exact Or.inr hfs
    · refine fin (a / b) (fun fs => ?_) (by unfold JM_floorDiv; rw [if_neg (fun z => h1 (Int32.not_le.mpr z.1))])
      by_cases hfs : handOver s₁ (some (.int (a / b))) below = some fs
      · left
        unfold entryFrame; rw [hloc]
        refine Steps.instrAtOv (c := _) (by simpa using B.here) ?_
        simp [jvm, wpRun, exec, B.here.top, B.exec, B.bytes, fd_0]
        refine Steps.instrAtOv (c := _) (by simpa using B.here) ?_
        simp [jvm, wpRun, exec, B.here.top, B.exec, B.bytes, fd_1]
        refine Steps.instrAtOv (c := _) (by simpa using B.here) ?_
        simp [jvm, wpRun, exec, B.here.top, B.exec, B.bytes, fd_2, hy]
        refine Steps.instrAtOv (c := _) (by simpa using B.here) ?_
        simp [jvm, wpRun, exec, B.here.top, B.exec, B.bytes, fd_3]
        refine ⟨_, rfl, ?_⟩
        refine Steps.instrAtOv (c := _) (by simpa using B.here) ?_
        simp [jvm, wpRun, exec, B.here.top, B.exec, B.bytes, fd_4]
        refine Steps.instrAtOv (c := _) (by simpa using B.here) ?_
        simp [jvm, wpRun, exec, B.here.top, B.exec, B.bytes, fd_5]
        refine Steps.instrAtOv (c := _) (by simpa using B.here) ?_
        simp [jvm, wpRun, exec, B.here.top, B.exec, B.bytes, fd_6]
        refine Steps.instrAtOv (c := _) (by simpa using B.here) ?_
        simp [jvm, wpRun, exec, B.here.top, B.exec, B.bytes, fd_7, ifCond.holds, Classical.not_not.mp h1]
        refine Steps.instrAtOv (c := _) (by simpa using B.here) ?_
        simp [jvm, wpRun, exec, B.here.top, B.exec, B.bytes, fd_21]
        refine Steps.instrAtOv (c := _) (by simpa using B.here) ?_
        simp [jvm, wpRun, exec, B.here.top, B.exec, B.bytes, fd_22, B.method₁, B.returns, narrow]
        intro acts
        rw [ret_to B.frames₁ B.method₁ B.notSynchronized rfl rfl hfs]
        exact Steps.refl _
      · exact Or.inr hfs
theorem fo_0 : decode prog_20_method_50_code 0 = .ok (.iload_n 0, 1) := by decide +kernel
theorem fo_1 : decode prog_20_method_50_code 1 = .ok (.iload_n 1, 1) := by decide +kernel
theorem fo_2 : decode prog_20_method_50_code 2 = .ok (.irem, 1) := by decide +kernel
theorem fo_3 : decode prog_20_method_50_code 3 = .ok (.istore_n 2, 1) := by decide +kernel
theorem fo_4 : decode prog_20_method_50_code 4 = .ok (.iload_n 0, 1) := by decide +kernel
theorem fo_5 : decode prog_20_method_50_code 5 = .ok (.iload_n 1, 1) := by decide +kernel
theorem fo_6 : decode prog_20_method_50_code 6 = .ok (.ixor, 1) := by decide +kernel
theorem fo_7 : decode prog_20_method_50_code 7 = .ok (.ifCond .ge 11, 3) := by decide +kernel
theorem fo_10 : decode prog_20_method_50_code 10 = .ok (.iload_n 2, 1) := by decide +kernel
theorem fo_11 : decode prog_20_method_50_code 11 = .ok (.ifCond .eq 7, 3) := by decide +kernel
theorem fo_14 : decode prog_20_method_50_code 14 = .ok (.iload_n 2, 1) := by decide +kernel
theorem fo_15 : decode prog_20_method_50_code 15 = .ok (.iload_n 1, 1) := by decide +kernel
theorem fo_16 : decode prog_20_method_50_code 16 = .ok (.iadd, 1) := by decide +kernel
theorem fo_17 : decode prog_20_method_50_code 17 = .ok (.ireturn, 1) := by decide +kernel
theorem fo_18 : decode prog_20_method_50_code 18 = .ok (.iload_n 2, 1) := by decide +kernel
theorem fo_19 : decode prog_20_method_50_code 19 = .ok (.ireturn, 1) := by decide +kernel
theorem fo_nr0 : (NativeRow.find? natives nm_fmod.cls nm_fmod.name nm_fmod.desc).isNone = true := by decide +kernel
theorem fo_nr (p : Program) : NativeRow.find? p.tables.natives nm_fmod.cls nm_fmod.name nm_fmod.desc = none := by
  cases p <;> exact Option.isNone_iff_eq_none.mp fo_nr0
theorem fo_meets (l : Launch) {a b : Int32} (hy : ¬ b = 0) : Meets l nm_fmod (fm_spec nm_fmod prog_20_method_50_code a b (JM_floorMod a b)) := by
  refine Meets.of_body_ov (code := prog_20_method_50_code) (maxLocals := 3) (ret := some .int) fo_nr ?_ ?_
  · intro args s h
    simp only [fm_spec, Cond.before_and, Bool.and_eq_true] at h
    exact h.1
  · intro p e s m args below meth c s₁ B
    have hpre := B.pre
    simp only [fm_spec, Cond.before_and, Bool.and_eq_true] at hpre
    obtain rfl := fm_args hpre.2
    have hloc : argsToLocals #[.int a, .int b] 3 = #[.val (.int a), .val (.int b), .unset] := rfl
    have fin : ∀ r : Int32, (∀ fs, Steps p.tables e below (s₁.setTop (entryFrame m #[.int a, .int b] 3)) (s₁.setFrames fs) ∨ handOver s₁ (some (.int r)) below ≠ some fs) →
        r = JM_floorMod a b →
        ∃ s₂ o, Steps p.tables e below (s₁.setTop (entryFrame m #[.int a, .int b] 3)) s₂ ∧ s₂.status = .running ∧ Ended s₂ below o ∧
          (fm_spec nm_fmod prog_20_method_50_code a b (JM_floorMod a b)).ensures #[.int a, .int b] s o s₂ := by
      intro r hwalk hr
      obtain ⟨fs, hfs⟩ := handOver_isSome (s := s₁) (some (.int r)) B.hears₁
      refine ⟨s₁.setFrames fs, .returned (some (.int r)), (hwalk fs).resolve_right (fun h => h hfs), B.here.running, B.ended hfs (by intro h; cases h), ?_, State.sameBut_nil.mpr ?_⟩
      · rw [hr]; simp [fm_spec, Cond.after, Cond.holds, Cond.value, Term.eval]
      · rw [State.frames_setFrames _ B.cur₁, B.back]
    by_cases h1 : ¬ 0 ≤ (a ^^^ b)
    · by_cases h2 : a - a / b * b = 0
      · refine fin (0) (fun fs => ?_) (by unfold JM_floorMod irm; rw [if_neg (fun z => z.2 h2), h2])
        by_cases hfs : handOver s₁ (some (.int (0))) below = some fs
        · left
          unfold entryFrame; rw [hloc]
          refine Steps.instrAtOv (c := _) (by simpa using B.here) ?_
          simp [jvm, wpRun, exec, B.here.top, B.exec, B.bytes, fo_0]
          refine Steps.instrAtOv (c := _) (by simpa using B.here) ?_
          simp [jvm, wpRun, exec, B.here.top, B.exec, B.bytes, fo_1]
          refine Steps.instrAtOv (c := _) (by simpa using B.here) ?_
          simp [jvm, wpRun, exec, B.here.top, B.exec, B.bytes, fo_2, hy]
          refine Steps.instrAtOv (c := _) (by simpa using B.here) ?_
          simp [jvm, wpRun, exec, B.here.top, B.exec, B.bytes, fo_3]
          refine ⟨_, rfl, ?_⟩
          refine Steps.instrAtOv (c := _) (by simpa using B.here) ?_
          simp [jvm, wpRun, exec, B.here.top, B.exec, B.bytes, fo_4]
          refine Steps.instrAtOv (c := _) (by simpa using B.here) ?_
          simp [jvm, wpRun, exec, B.here.top, B.exec, B.bytes, fo_5]
          refine Steps.instrAtOv (c := _) (by simpa using B.here) ?_
          simp [jvm, wpRun, exec, B.here.top, B.exec, B.bytes, fo_6]
          refine Steps.instrAtOv (c := _) (by simpa using B.here) ?_
          simp [jvm, wpRun, exec, B.here.top, B.exec, B.bytes, fo_7, ifCond.holds, h1]
          refine Steps.instrAtOv (c := _) (by simpa using B.here) ?_
          simp [jvm, wpRun, exec, B.here.top, B.exec, B.bytes, fo_10]
          refine Steps.instrAtOv (c := _) (by simpa using B.here) ?_
          simp [jvm, wpRun, exec, B.here.top, B.exec, B.bytes, fo_11, ifCond.holds, h2]
          refine Steps.instrAtOv (c := _) (by simpa using B.here) ?_
          simp [jvm, wpRun, exec, B.here.top, B.exec, B.bytes, fo_18]
          refine Steps.instrAtOv (c := _) (by simpa using B.here) ?_
          simp [jvm, wpRun, exec, B.here.top, B.exec, B.bytes, fo_19, B.method₁, B.returns, narrow]
          intro acts
          rw [ret_to B.frames₁ B.method₁ B.notSynchronized rfl rfl hfs]
          exact Steps.refl _
        · exact Or.inr hfs
      · refine fin (a - a / b * b + b) (fun fs => ?_) (by unfold JM_floorMod irm; rw [if_pos ⟨Int32.not_le.mp h1, h2⟩])
        by_cases hfs : handOver s₁ (some (.int (a - a / b * b + b))) below = some fs
        · left
          unfold entryFrame; rw [hloc]
          refine Steps.instrAtOv (c := _) (by simpa using B.here) ?_
          simp [jvm, wpRun, exec, B.here.top, B.exec, B.bytes, fo_0]
          refine Steps.instrAtOv (c := _) (by simpa using B.here) ?_
          simp [jvm, wpRun, exec, B.here.top, B.exec, B.bytes, fo_1]
          refine Steps.instrAtOv (c := _) (by simpa using B.here) ?_
          simp [jvm, wpRun, exec, B.here.top, B.exec, B.bytes, fo_2, hy]
          refine Steps.instrAtOv (c := _) (by simpa using B.here) ?_
          simp [jvm, wpRun, exec, B.here.top, B.exec, B.bytes, fo_3]
          refine ⟨_, rfl, ?_⟩
          refine Steps.instrAtOv (c := _) (by simpa using B.here) ?_
          simp [jvm, wpRun, exec, B.here.top, B.exec, B.bytes, fo_4]
          refine Steps.instrAtOv (c := _) (by simpa using B.here) ?_
          simp [jvm, wpRun, exec, B.here.top, B.exec, B.bytes, fo_5]
          refine Steps.instrAtOv (c := _) (by simpa using B.here) ?_
          simp [jvm, wpRun, exec, B.here.top, B.exec, B.bytes, fo_6]
          refine Steps.instrAtOv (c := _) (by simpa using B.here) ?_
          simp [jvm, wpRun, exec, B.here.top, B.exec, B.bytes, fo_7, ifCond.holds, h1]
          refine Steps.instrAtOv (c := _) (by simpa using B.here) ?_
          simp [jvm, wpRun, exec, B.here.top, B.exec, B.bytes, fo_10]
          refine Steps.instrAtOv (c := _) (by simpa using B.here) ?_
          simp [jvm, wpRun, exec, B.here.top, B.exec, B.bytes, fo_11, ifCond.holds, h2]
          refine Steps.instrAtOv (c := _) (by simpa using B.here) ?_
          simp [jvm, wpRun, exec, B.here.top, B.exec, B.bytes, fo_14]
          refine Steps.instrAtOv (c := _) (by simpa using B.here) ?_
          simp [jvm, wpRun, exec, B.here.top, B.exec, B.bytes, fo_15]
          refine Steps.instrAtOv (c := _) (by simpa using B.here) ?_
          simp [jvm, wpRun, exec, B.here.top, B.exec, B.bytes, fo_16]
          refine Steps.instrAtOv (c := _) (by simpa using B.here) ?_
          simp [jvm, wpRun, exec, B.here.top, B.exec, B.bytes, fo_17, B.method₁, B.returns, narrow]
          intro acts
          rw [ret_to B.frames₁ B.method₁ B.notSynchronized rfl rfl hfs]
          exact Steps.refl _
        · exact Or.inr hfs
    · refine fin (a - a / b * b) (fun fs => ?_) (by unfold JM_floorMod irm; rw [if_neg (fun z => h1 (Int32.not_le.mpr z.1))])
      by_cases hfs : handOver s₁ (some (.int (a - a / b * b))) below = some fs
      · left
        unfold entryFrame; rw [hloc]
        refine Steps.instrAtOv (c := _) (by simpa using B.here) ?_
        simp [jvm, wpRun, exec, B.here.top, B.exec, B.bytes, fo_0]
        refine Steps.instrAtOv (c := _) (by simpa using B.here) ?_
        simp [jvm, wpRun, exec, B.here.top, B.exec, B.bytes, fo_1]
        refine Steps.instrAtOv (c := _) (by simpa using B.here) ?_
        simp [jvm, wpRun, exec, B.here.top, B.exec, B.bytes, fo_2, hy]
        refine Steps.instrAtOv (c := _) (by simpa using B.here) ?_
        simp [jvm, wpRun, exec, B.here.top, B.exec, B.bytes, fo_3]
        refine ⟨_, rfl, ?_⟩
        refine Steps.instrAtOv (c := _) (by simpa using B.here) ?_
        simp [jvm, wpRun, exec, B.here.top, B.exec, B.bytes, fo_4]
        refine Steps.instrAtOv (c := _) (by simpa using B.here) ?_
        simp [jvm, wpRun, exec, B.here.top, B.exec, B.bytes, fo_5]
        refine Steps.instrAtOv (c := _) (by simpa using B.here) ?_
        simp [jvm, wpRun, exec, B.here.top, B.exec, B.bytes, fo_6]
        refine Steps.instrAtOv (c := _) (by simpa using B.here) ?_
        simp [jvm, wpRun, exec, B.here.top, B.exec, B.bytes, fo_7, ifCond.holds, Classical.not_not.mp h1]
        refine Steps.instrAtOv (c := _) (by simpa using B.here) ?_
        simp [jvm, wpRun, exec, B.here.top, B.exec, B.bytes, fo_18]
        refine Steps.instrAtOv (c := _) (by simpa using B.here) ?_
        simp [jvm, wpRun, exec, B.here.top, B.exec, B.bytes, fo_19, B.method₁, B.returns, narrow]
        intro acts
        rw [ret_to B.frames₁ B.method₁ B.notSynchronized rfl rfl hfs]
        exact Steps.refl _
      · exact Or.inr hfs
section
variable {p : Program} {l : Launch} {e : Env} {R : Room} {s : State} {m : MethodId} {args : Array Value} {below : List Frame} {meth : Method} {c : Code} {cells slots : Nat} {T : State} {locs : List Loc}
theorem fm_V (X : Stand p l e R s m args below meth c T locs cells slots) (hexec : p.tables.exec = Jvm.exec) {own : String} {index : Nat} {nm : MethodName} {cd : ByteArray} {a b r : Int32} (hown : s.vm.findClass own = some m.cls)
    (hlink : (Cond.methodLink own index nm).before args s = true) (hstat : (Cond.static nm).before args s = true) (hinit : (Cond.initialized nm.cls).before args s = true)
    (hcode : (Cond.code nm cd 3 (some .int)).before args s = true) (hcl : nm.cls ≠ "java/lang/invoke/MethodHandle" ∧ nm.cls ≠ "java/lang/invoke/VarHandle") (hde : nm.desc = "(II)I") (hM : Meets l nm (fm_spec nm cd a b r))
    {g : JFrame} (hg : g.method = m) (hsize : g.locals.size = c.maxLocals) {rest : List Value} (hstack : g.stack = .int b :: .int a :: rest) (hdg : decode c.code g.pc = .ok (.invokestatic index, 3))
    (hframes : 1 ≤ R.frames) (hlocals : 2 * g.monitorRoom + (rest.map fun v => v.category).sum + 14 ≤ R.locals) (hcells : cells ≤ R.cells) (hslots : slots ≤ R.slots) :
    ∃ vm', Stand p l e R s m args below meth c (T.setVm vm') locs cells slots ∧
      ∀ target, Steps p.tables e below ((T.setVm vm').setTop { g with pc := g.pc + 3, stack := .int r :: rest }) target → Steps p.tables e below (T.setTop g) target := by
  obtain ⟨v, T', X', ⟨first, t, hpost⟩, hstep⟩ := X.staticByContractV hexec hown hlink hstat hinit hcode hcl
    (Meets.loose_of_no_refs hM fun args' s' h => by
      simp only [fm_spec, Cond.before_and, Bool.and_eq_true] at h
      obtain rfl := fm_args h.2
      intro r hr; simp at hr)
    rfl rfl rfl rfl
    (fun args' first o s₂ h => by
      simp only [fm_spec, Cond.after_and, Bool.and_eq_true] at h
      cases o with
      | returned r => exact ⟨r, rfl⟩
      | threw y => simp [Cond.after, Cond.holds, Cond.value] at h)
    hg hsize (argsL := [.int a, .int b]) (rest := rest)
    (fun sig hs => by
      have h : parseMethodDescriptor "(II)I" = some { parameters := [.int, .int], returnType := some .int } := by decide +kernel
      rw [hde, h] at hs
      rw [← Option.some.inj hs]; rfl)
    hstack hdg
    (fun vm' hW => by
      simp only [fm_spec, Cond.before_and, Bool.and_eq_true]
      refine ⟨?_, rfl, rfl, rfl, ?_, ?_⟩
      · have q := hcode
        rw [← Cond.code_setVm hW.alike] at q
        simp only [Cond.before, Cond.holds, Cond.value, State.methodNamed?, State.vm_setVm] at q ⊢
        exact q
      · simp [Cond.before, Cond.holds, Cond.value, Term.eval]
      · simp [Cond.before, Cond.holds, Cond.value, Term.eval])
    (by show 0 + 1 ≤ R.frames; omega) (by show 2 * g.monitorRoom + (rest.map fun v => v.category).sum + (3 + 11) + 0 ≤ R.locals; omega) (by show cells + 0 ≤ R.cells; omega) (by show slots + 0 ≤ R.slots; omega)
  refine ⟨T', X', fun target h => hstep target ?_⟩
  obtain rfl : v = some (.int r) := by
    rcases v with _ | w
    · simp [fm_spec, Cond.after, Cond.holds, Cond.value, Term.eval] at hpost
    · cases w <;> simp [fm_spec, Cond.after, Cond.holds, Cond.value, Term.eval] at hpost
      rw [hpost]
  exact h
end
section
variable {p : Program} {l : Launch} {e : Env} {R : Room} {s : State} {m : MethodId} {args : Array Value} {below : List Frame} {meth : Method} {c : Code} {H : Heap} {locs : List Loc} {cells slots : Nat} {Q : State → Prop}
variable {pc : Nat} {ls : Array Slot} {rest : List Value}
theorem fm_W {cc : ByteArray} (hexec : p.tables.exec = Jvm.exec) (hb : c.code = cc) (hml : c.maxLocals = ls.size) {own : String} {index : Nat} {nm : MethodName} {cd : ByteArray} {x y r : Int32} (hown : s.vm.findClass own = some m.cls) (hlink : (Cond.methodLink own index nm).before args s = true) (hstat : (Cond.static nm).before args s = true) (hini : (Cond.initialized nm.cls).before args s = true) (hcode : (Cond.code nm cd 3 (some .int)).before args s = true) (hcl : nm.cls ≠ "java/lang/invoke/MethodHandle" ∧ nm.cls ≠ "java/lang/invoke/VarHandle") (hde : nm.desc = "(II)I") (hM : Meets l nm (fm_spec nm cd x y r))
    (hframes : 1 ≤ R.frames) (hlocals : (rest.map fun v => v.category).sum + 14 ≤ R.locals) (hc : cells ≤ R.cells) (hs : slots ≤ R.slots) (hdg : decode cc pc = .ok (.invokestatic index, 3))
    (kk : W p l e R s m args below meth c H locs cells slots Q (F0 m (pc + 3) ls (.int r :: rest))) : W p l e R s m args below meth c H locs cells slots Q (F0 m pc ls (.int y :: .int x :: rest)) := by
  intro T hT X
  obtain ⟨vm', X', st⟩ := fm_V X hexec hown hlink hstat hini hcode hcl hde hM (g := F0 m pc ls (.int y :: .int x :: rest)) rfl (by rw [hml]) (rest := rest) rfl (by rw [hb]; exact hdg) hframes (by show 2 * 0 + _ + 14 ≤ _; omega) hc hs
  obtain ⟨t, a1, b1⟩ := kk (T.setVm vm') hT X'
  exact ⟨t, st t a1, b1⟩
end
section
variable {M : MI} {pc n ix : Nat} {lv : List (Nat × Value)} {st : List Value} {m : Mem} {Q : Option Value → Mem → Prop}
theorem E_jfloorDiv {x y : Int32} (k : Nat) (hd : M.2.2.2.2.2.2[k]? = some (pc, .invokestatic ix, 3)) (hn : pc + 3 = n) (h1 : Cond.methodLink M.1.cls ix nm_fdiv ∈ TW) (h2 : Cond.static nm_fdiv ∈ TW) (h3 : Cond.initialized "java/lang/Math" ∈ TW) (h4 : Cond.code nm_fdiv prog_20_method_47_code 3 (some .int) ∈ TW) (hr : 1 ≤ M.2.2.2.2.1 ∧ (st.map fun v => v.category).sum + 14 ≤ M.2.2.2.2.2.1) (hy : ¬ y = 0) (h : E M n lv (.int (JM_floorDiv x y) :: st) m Q) : E M pc lv (.int y :: .int x :: st) m Q := by
  intro g p l e s mid args below meth c H locs G ls hE hw hl
  subst hn
  exact fm_W hE.1 hE.2.1 (by rw [hE.2.2.1]; exact hl.1.symm) hE.2.2.2.1 (hE.2.2.2.2.1 _ h1) (hE.2.2.2.2.1 _ h2) (hE.2.2.2.2.1 _ h3) (hE.2.2.2.2.1 _ h4) (by decide) rfl (fd_meets l hy) hr.1 (by rw [cat_sum]; exact hr.2) (Nat.le_refl _) (Nat.le_refl _) (gdec g hd) (h g p l e s mid args below meth c H locs G ls hE hw hl)
theorem E_jfloorMod {x y : Int32} (k : Nat) (hd : M.2.2.2.2.2.2[k]? = some (pc, .invokestatic ix, 3)) (hn : pc + 3 = n) (h1 : Cond.methodLink M.1.cls ix nm_fmod ∈ TW) (h2 : Cond.static nm_fmod ∈ TW) (h3 : Cond.initialized "java/lang/Math" ∈ TW) (h4 : Cond.code nm_fmod prog_20_method_50_code 3 (some .int) ∈ TW) (hr : 1 ≤ M.2.2.2.2.1 ∧ (st.map fun v => v.category).sum + 14 ≤ M.2.2.2.2.2.1) (hy : ¬ y = 0) (h : E M n lv (.int (JM_floorMod x y) :: st) m Q) : E M pc lv (.int y :: .int x :: st) m Q := by
  intro g p l e s mid args below meth c H locs G ls hE hw hl
  subst hn
  exact fm_W hE.1 hE.2.1 (by rw [hE.2.2.1]; exact hl.1.symm) hE.2.2.2.1 (hE.2.2.2.2.1 _ h1) (hE.2.2.2.2.1 _ h2) (hE.2.2.2.2.1 _ h3) (hE.2.2.2.2.1 _ h4) (by decide) rfl (fo_meets l hy) hr.1 (by rw [cat_sum]; exact hr.2) (Nat.le_refl _) (Nat.le_refl _) (gdec g hd) (h g p l e s mid args below meth c H locs G ls hE hw hl)
end

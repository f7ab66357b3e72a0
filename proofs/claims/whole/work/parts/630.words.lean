/-! parish: words -/
theorem w4 (W : Int64) : RD_wordOf W = 4 ↔ W = 7300196 := by
  by_cases h : W = 7300196
  · subst h; exact ⟨fun _ => rfl, fun _ => by decide⟩
  · refine ⟨fun z => ?_, fun z => absurd z h⟩
    refine absurd z ?_
    unfold RD_wordOf
    rw [if_neg h]
    repeat' apply ne_ite
    all_goals decide
theorem w5 (W : Int64) : RD_wordOf W = 5 ↔ W = 491496238692 := by
  by_cases h : W = 491496238692
  · subst h; exact ⟨fun _ => rfl, fun _ => by decide⟩
  · refine ⟨fun z => ?_, fun z => absurd z h⟩
    refine absurd z ?_
    unfold RD_wordOf
    rw [if_neg h]
    repeat' apply ne_ite
    all_goals decide
theorem w6 (W : Int64) : RD_wordOf W = 6 ↔ W = 1818584692 := by
  by_cases h : W = 1818584692
  · subst h; exact ⟨fun _ => rfl, fun _ => by decide⟩
  · refine ⟨fun z => ?_, fun z => absurd z h⟩
    refine absurd z ?_
    unfold RD_wordOf
    rw [if_neg h]
    repeat' apply ne_ite
    all_goals decide
theorem w10 (W : Int64) : RD_wordOf W = 10 ↔ W = 1818848869 := by
  by_cases h : W = 1818848869
  · subst h; exact ⟨fun _ => rfl, fun _ => by decide⟩
  · refine ⟨fun z => ?_, fun z => absurd z h⟩
    refine absurd z ?_
    unfold RD_wordOf
    rw [if_neg h]
    repeat' apply ne_ite
    all_goals decide
theorem w11 (W : Int64) : RD_wordOf W = 11 ↔ W = 6840697 := by
  by_cases h : W = 6840697
  · subst h; exact ⟨fun _ => rfl, fun _ => by decide⟩
  · refine ⟨fun z => ?_, fun z => absurd z h⟩
    refine absurd z ?_
    unfold RD_wordOf
    rw [if_neg h]
    repeat' apply ne_ite
    all_goals decide
theorem w12 (W : Int64) : RD_wordOf W = 12 ↔ W = 109300298179432 := by
  by_cases h : W = 109300298179432
  · subst h; exact ⟨fun _ => rfl, fun _ => by decide⟩
  · refine ⟨fun z => ?_, fun z => absurd z h⟩
    refine absurd z ?_
    unfold RD_wordOf
    rw [if_neg h]
    repeat' apply ne_ite
    all_goals decide
theorem w13 (W : Int64) : RD_wordOf W = 13 ↔ W = 7102839 := by
  by_cases h : W = 7102839
  · subst h; exact ⟨fun _ => rfl, fun _ => by decide⟩
  · refine ⟨fun z => ?_, fun z => absurd z h⟩
    refine absurd z ?_
    unfold RD_wordOf
    rw [if_neg h]
    repeat' apply ne_ite
    all_goals decide
theorem w14 (W : Int64) : RD_wordOf W = 14 ↔ W = 1701078885 := by
  by_cases h : W = 1701078885
  · subst h; exact ⟨fun _ => rfl, fun _ => by decide⟩
  · refine ⟨fun z => ?_, fun z => absurd z h⟩
    refine absurd z ?_
    unfold RD_wordOf
    rw [if_neg h]
    repeat' apply ne_ite
    all_goals decide
theorem w15 (W : Int64) : RD_wordOf W = 15 ↔ W = 448378008179 := by
  by_cases h : W = 448378008179
  · subst h; exact ⟨fun _ => rfl, fun _ => by decide⟩
  · refine ⟨fun z => ?_, fun z => absurd z h⟩
    refine absurd z ?_
    unfold RD_wordOf
    rw [if_neg h]
    repeat' apply ne_ite
    all_goals decide

/-! FRAMES -/
abbrev seI := @sI
abbrev seJ := @sJ
def wL (L : List (Nat × Nat)) (c k : Nat) : Bool := L.any (fun q => q.1 == c && (q.2 == 999999 || q.2 == k))
def Sub (A B : List (Nat × Nat)) : Prop := ∀ c k, wL A c k = true → wL B c k = true
def subL (A B : List (Nat × Nat)) : Bool := A.all (fun q => B.contains q)
theorem wL_sub {A B : List (Nat × Nat)} (h : subL A B = true) : Sub A B := by
  intro c k hw
  unfold wL at *
  rw [List.any_eq_true] at *
  obtain ⟨q, h1, h2⟩ := hw
  have := List.all_eq_true.mp h q h1
  exact ⟨q, List.contains_iff_mem.mp this, h2⟩
theorem subm {A B L : List (Nat × Nat)} (hL : Sub B L) (h : subL A B = true) : Sub A L := fun c k hw => hL c k (wL_sub h c k hw)
def Cov (R : List (Nat × Nat)) (lo n : Nat) : Prop := ∃ p ∈ R, p.1 ≤ lo ∧ lo + n ≤ p.1 + p.2
def CovL (L : List (Nat × Nat)) (lo n : Nat) : Prop := ∀ c k, lo ≤ c → c < lo + n → wL L c k = true
theorem Cov.sub {R : List (Nat × Nat)} {lo n lo' n' : Nat} (h : Cov R lo n) (h1 : lo ≤ lo') (h2 : lo' + n' ≤ lo + n) : Cov R lo' n' := by
  obtain ⟨p, hp, a, b⟩ := h
  exact ⟨p, hp, by omega, by omega⟩
theorem Cov.at {R : List (Nat × Nat)} {lo n : Nat} (i : Nat) (h : R[i]? = some (lo, n)) : Cov R lo n := ⟨(lo, n), List.mem_of_getElem? h, Nat.le_refl _, Nat.le_refl _⟩
def covC (W : List (Nat × Nat)) (lo n : Nat) : Bool := (List.range n).all (fun d => W.contains (lo + d, 999999))
theorem CovL.of {W L : List (Nat × Nat)} {lo n : Nat} (hL : Sub W L) (h : covC W lo n = true) : CovL L lo n := by
  intro c k h1 h2
  apply hL
  have h3 := List.all_eq_true.mp h (c - lo) (List.mem_range.mpr (by omega))
  have h4 : (lo + (c - lo), 999999) ∈ W := List.contains_iff_mem.mp h3
  rw [show lo + (c - lo) = c by omega] at h4
  unfold wL
  rw [List.any_eq_true]
  exact ⟨_, h4, by simp⟩
def Frm (L R : List (Nat × Nat)) (m m' : Mem) : Prop := (∀ c k, wL L c k = false → (∀ q ∈ R, c < q.1 ∨ q.1 + q.2 ≤ c) → gI m' c k = gI m c k ∧ gJ m' c k = gJ m c k) ∧ m'.2.2 = m.2.2
section
variable {L R : List (Nat × Nat)} {m m1 m2 : Mem} {c k a0 sp dp n : Nat}
theorem Frm.rf : Frm L R m m := ⟨fun _ _ _ _ => ⟨rfl, rfl⟩, rfl⟩
theorem Frm.tr (h : Frm L R m m1) (h2 : Frm L R m1 m2) : Frm L R m m2 := ⟨fun c k a b => ⟨(h2.1 c k a b).1.trans (h.1 c k a b).1, (h2.1 c k a b).2.trans (h.1 c k a b).2⟩, h2.2.trans h.2⟩
theorem Frm.sI {x : Int32} (h : m1 = seI m c k x) (hw : wL L c k = true) : Frm L R m m1 := by
  subst h
  refine ⟨fun d j h1 _ => ⟨?_, rfl⟩, rfl⟩
  show (if d = c ∧ j = k then x else m.1 d j) = m.1 d j
  rw [if_neg]
  rintro ⟨rfl, rfl⟩
  rw [hw] at h1; cases h1
theorem Frm.sJ {x : Int64} (h : m1 = seJ m c k x) (hw : wL L c k = true) : Frm L R m m1 := by
  subst h
  refine ⟨fun d j h1 _ => ⟨rfl, ?_⟩, rfl⟩
  show (if d = c ∧ j = k then x else m.2.1 d j) = m.2.1 d j
  rw [if_neg]
  rintro ⟨rfl, rfl⟩
  rw [hw] at h1; cases h1
theorem Frm.cI (h : m1 = cpI m a0 sp c dp n) (hw : ∀ k, wL L c k = true) : Frm L R m m1 := by
  subst h
  refine ⟨fun d j h1 _ => ⟨?_, rfl⟩, rfl⟩
  show (if d = c ∧ dp ≤ j ∧ j < dp + n then m.1 a0 (sp + (j - dp)) else m.1 d j) = m.1 d j
  rw [if_neg]
  rintro ⟨rfl, -⟩
  rw [hw] at h1; cases h1
theorem Frm.cJ (h : m1 = cpJ m a0 sp c dp n) (hw : ∀ k, wL L c k = true) : Frm L R m m1 := by
  subst h
  refine ⟨fun d j h1 _ => ⟨rfl, ?_⟩, rfl⟩
  show (if d = c ∧ dp ≤ j ∧ j < dp + n then m.2.1 a0 (sp + (j - dp)) else m.2.1 d j) = m.2.1 d j
  rw [if_neg]
  rintro ⟨rfl, -⟩
  rw [hw] at h1; cases h1
theorem Cov.not {d : Nat} (hc : Cov R c 1) (h : ∀ q ∈ R, d < q.1 ∨ q.1 + q.2 ≤ d) : d ≠ c := by
  obtain ⟨p, hp, a, b⟩ := hc
  have := h p hp
  omega
theorem Frm.sIr {x : Int32} (h : m1 = seI m c k x) (hc : Cov R c 1) : Frm L R m m1 := by
  subst h
  refine ⟨fun d j _ h2 => ⟨?_, rfl⟩, rfl⟩
  show (if d = c ∧ j = k then x else m.1 d j) = m.1 d j
  rw [if_neg (fun q => hc.not h2 q.1)]
theorem Frm.sJr {x : Int64} (h : m1 = seJ m c k x) (hc : Cov R c 1) : Frm L R m m1 := by
  subst h
  refine ⟨fun d j _ h2 => ⟨rfl, ?_⟩, rfl⟩
  show (if d = c ∧ j = k then x else m.2.1 d j) = m.2.1 d j
  rw [if_neg (fun q => hc.not h2 q.1)]
theorem Frm.cIr (h : m1 = cpI m a0 sp c dp n) (hc : Cov R c 1) : Frm L R m m1 := by
  subst h
  refine ⟨fun d j _ h2 => ⟨?_, rfl⟩, rfl⟩
  show (if d = c ∧ dp ≤ j ∧ j < dp + n then m.1 a0 (sp + (j - dp)) else m.1 d j) = m.1 d j
  rw [if_neg (fun q => hc.not h2 q.1)]
theorem Frm.cJr (h : m1 = cpJ m a0 sp c dp n) (hc : Cov R c 1) : Frm L R m m1 := by
  subst h
  refine ⟨fun d j _ h2 => ⟨rfl, ?_⟩, rfl⟩
  show (if d = c ∧ dp ≤ j ∧ j < dp + n then m.2.1 a0 (sp + (j - dp)) else m.2.1 d j) = m.2.1 d j
  rw [if_neg (fun q => hc.not h2 q.1)]
theorem Frm.up {R' : List (Nat × Nat)} (h : Frm L R m m1) (hR : ∀ q ∈ R, Cov R' q.1 q.2 ∨ CovL L q.1 q.2) : Frm L R' m m1 := by
  refine ⟨fun d j h1 h2 => h.1 d j h1 (fun q hq => ?_), h.2⟩
  rcases Nat.lt_or_ge d q.1 with h3 | h3
  · exact Or.inl h3
  · rcases Nat.lt_or_ge d (q.1 + q.2) with h4 | h4
    · exfalso
      rcases hR q hq with ⟨p, hp, a, b⟩ | h5
      · have := h2 p hp; omega
      · rw [h5 d j h3 h4] at h1; cases h1
    · exact Or.inr h4
theorem Frm.mo {L' : List (Nat × Nat)} (h : Frm L R m m1) (hL : Sub L L') : Frm L' R m m1 := by
  refine ⟨fun d j h1 h2 => h.1 d j ?_ h2, h.2⟩
  cases h3 : wL L d j with
  | false => rfl
  | true => rw [hL d j h3] at h1; cases h1
end
theorem fa1 {P : Nat × Nat → Prop} {a : Nat × Nat} (ha : P a) : ∀ q ∈ [a], P q := by simpa using ha
theorem fa2 {P : Nat × Nat → Prop} {a b : Nat × Nat} (ha : P a) (hb : P b) : ∀ q ∈ [a, b], P q := by simpa using ⟨ha, hb⟩
def W_RD_put : List (Nat × Nat) := [(1, 1), (2, 999999)]
theorem RD_put_L3_fr {L R : List (Nat × Nat)} (hL : Sub W_RD_put L) (x1 : Int32) (kx : Mem → Option Mem) (Rr : Mem) (hx : ∀ (y0 : Mem), kx y0 = some Rr → Frm L R y0 Rr) : ∀ (n : Nat) (m : Mem) (x2 : Int32), RD_put_L3 x1 kx n m x2 = some Rr → Frm L R m Rr := by
  intro n
  induction n with
  | zero =>
    intro m x2 h
    exact absurd (show none = some Rr from h) (fun e => Option.some_ne_none Rr e.symm)
  | succ n ih =>
    intro m x2 h
    rw [RD_put_L3] at h
    by_cases hb1 : x2 < 0
    · have h := ifp h hb1
      exact hx m h
    · have h := ifn h hb1
      by_cases hb2 : 940 ≤ (gI m 1 1)
      · have h := ifp h hb2
        exact hx m h
      · have h := ifn h hb2
        obtain ⟨hk3, h⟩ := ift h
        obtain ⟨m2, hm2, h⟩ := letM_ex h
        have a4 : Frm L R m m2 := Frm.sI hm2 (hL _ _ rfl)
        obtain ⟨m3, hm3, h⟩ := letM_ex h
        have a5 : Frm L R m m3 := a4.tr (Frm.sI hm3 (hL _ _ rfl))
        exact a5.tr (ih m3 (x2 + (-8)) h)
theorem RD_put_fr {L R : List (Nat × Nat)} (hL : Sub W_RD_put L) (m : Mem) (x1 : Int32) (Rr : Mem) (h : RD_put m x1 = some Rr) : Frm L R m Rr := by
  unfold RD_put at h
  refine RD_put_L3_fr hL x1 _ Rr ?_ FU m 24 h
  intro m1 h
  injection h with h
  subst h
  exact Frm.rf
def W_OH_feed : List (Nat × Nat) := [(1, 1), (2, 999999)]
theorem OH_feed_fr {L R : List (Nat × Nat)} (hL : Sub W_OH_feed L) (m : Mem) (x1 : Int32) (x2 : Int32) (x3 : Int32) (x4 : Int32) (x5 : Int32) (Rr : Int32 × Mem) (h : OH_feed m x1 x2 x3 x4 x5 = some Rr) : Frm L R m Rr.2 := by
  unfold OH_feed at h
  by_cases hb1 : ((gI m 1 1) + 20) ≤ 940
  · have h := ifp h hb1
    obtain ⟨m1, hq2, h⟩ := bM_ex h
    have a3 : Frm L R m m1 := RD_put_fr (subm hL rfl) m x1 _ hq2
    obtain ⟨m3, hq4, h⟩ := bM_ex h
    have a5 : Frm L R m m3 := a3.tr (RD_put_fr (subm hL rfl) m1 x2 _ hq4)
    obtain ⟨m5, hq6, h⟩ := bM_ex h
    have a7 : Frm L R m m5 := a5.tr (RD_put_fr (subm hL rfl) m3 x3 _ hq6)
    obtain ⟨m7, hq8, h⟩ := bM_ex h
    have a9 : Frm L R m m7 := a7.tr (RD_put_fr (subm hL rfl) m5 x4 _ hq8)
    obtain ⟨m9, hq10, h⟩ := bM_ex h
    have a11 : Frm L R m m9 := a9.tr (RD_put_fr (subm hL rfl) m7 x5 _ hq10)
    injection h with h
    subst h
    exact a11
  · have h := ifn h hb1
    injection h with h
    subst h
    exact Frm.rf
def W_OH_end : List (Nat × Nat) := [(1, 1)]
theorem OH_end_fr {L R : List (Nat × Nat)} (hL : Sub W_OH_end L) (m : Mem) (x1 : Int32) (Rr : Int32 × Mem) (h : OH_end m x1 = some Rr) : Frm L R m Rr.2 := by
  unfold OH_end at h
  by_cases hb1 : x1 < 0
  · have h := ifp h hb1
    injection h with h
    subst h
    exact Frm.rf
  · have h := ifn h hb1
    by_cases hb2 : x1 ≤ (gI m 1 1)
    · have h := ifp h hb2
      obtain ⟨m1, hm1, h⟩ := letM_ex h
      have a3 : Frm L R m m1 := Frm.sI hm1 (hL _ _ rfl)
      injection h with h
      subst h
      exact a3
    · have h := ifn h hb2
      injection h with h
      subst h
      exact Frm.rf
def W_RD_begin : List (Nat × Nat) := [(1, 2), (1, 3), (1, 9), (1, 10)]
theorem RD_begin_fr {L R : List (Nat × Nat)} (hL : Sub W_RD_begin L) (m : Mem) (x1 : Int32) (Rr : Mem) (h : RD_begin m x1 = some Rr) : Frm L R m Rr := by
  unfold RD_begin at h
  obtain ⟨m1, hm1, h⟩ := letM_ex h
  have a1 : Frm L R m m1 := Frm.sI hm1 (hL _ _ rfl)
  obtain ⟨m2, hm2, h⟩ := letM_ex h
  have a2 : Frm L R m m2 := a1.tr (Frm.sI hm2 (hL _ _ rfl))
  obtain ⟨m3, hm3, h⟩ := letM_ex h
  have a3 : Frm L R m m3 := a2.tr (Frm.sI hm3 (hL _ _ rfl))
  obtain ⟨m4, hm4, h⟩ := letM_ex h
  have a4 : Frm L R m m4 := a3.tr (Frm.sI hm4 (hL _ _ rfl))
  injection h with h
  subst h
  exact a4
def W_PH_clear : List (Nat × Nat) := []
theorem PH_clear_L2_fr {L R : List (Nat × Nat)} (hL : Sub W_PH_clear L) (x0 : Nat) (hc_x0 : Cov R x0 16) (kx : Mem → Option Mem) (Rr : Mem) (hx : ∀ (y0 : Mem), kx y0 = some Rr → Frm L R y0 Rr) : ∀ (n : Nat) (m : Mem) (x1 : Int32), PH_clear_L2 x0 kx n m x1 = some Rr → Frm L R m Rr := by
  intro n
  induction n with
  | zero =>
    intro m x1 h
    exact absurd (show none = some Rr from h) (fun e => Option.some_ne_none Rr e.symm)
  | succ n ih =>
    intro m x1 h
    rw [PH_clear_L2] at h
    by_cases hb1 : 4 ≤ x1
    · have h := ifp h hb1
      exact hx m h
    · have h := ifn h hb1
      obtain ⟨hk2, h⟩ := ift h
      obtain ⟨m2, hm2, h⟩ := letM_ex h
      have a3 : Frm L R m m2 := Frm.sIr hm2 (Cov.sub hc_x0 (by omega) (by omega))
      exact a3.tr (ih m2 (x1 + 1) h)
theorem PH_clear_fr {L R : List (Nat × Nat)} (hL : Sub W_PH_clear L) (m : Mem) (x0 : Nat) (hc_x0 : Cov R x0 16) (Rr : Mem) (h : PH_clear m x0 = some Rr) : Frm L R m Rr := by
  unfold PH_clear at h
  refine PH_clear_L2_fr hL x0 (hc_x0) _ Rr ?_ FU m 0 h
  intro m1 h
  obtain ⟨m2, hm2, h⟩ := letM_ex h
  have a2 : Frm L R m1 m2 := Frm.sIr hm2 (Cov.sub hc_x0 (by omega) (by omega))
  obtain ⟨m3, hm3, h⟩ := letM_ex h
  have a3 : Frm L R m1 m3 := a2.tr (Frm.sIr hm3 (Cov.sub hc_x0 (by omega) (by omega)))
  obtain ⟨m4, hm4, h⟩ := letM_ex h
  have a4 : Frm L R m1 m4 := a3.tr (Frm.sIr hm4 (Cov.sub hc_x0 (by omega) (by omega)))
  obtain ⟨m5, hm5, h⟩ := letM_ex h
  have a5 : Frm L R m1 m5 := a4.tr (Frm.sIr hm5 (Cov.sub hc_x0 (by omega) (by omega)))
  obtain ⟨m6, hm6, h⟩ := letM_ex h
  have a6 : Frm L R m1 m6 := a5.tr (Frm.sIr hm6 (Cov.sub hc_x0 (by omega) (by omega)))
  obtain ⟨m7, hm7, h⟩ := letM_ex h
  have a7 : Frm L R m1 m7 := a6.tr (Frm.sIr hm7 (Cov.sub hc_x0 (by omega) (by omega)))
  obtain ⟨m8, hm8, h⟩ := letM_ex h
  have a8 : Frm L R m1 m8 := a7.tr (Frm.sIr hm8 (Cov.sub hc_x0 (by omega) (by omega)))
  obtain ⟨m9, hm9, h⟩ := letM_ex h
  have a9 : Frm L R m1 m9 := a8.tr (Frm.sIr hm9 (Cov.sub hc_x0 (by omega) (by omega)))
  injection h with h
  subst h
  exact a9
def W_RD_readRun : List (Nat × Nat) := [(1, 4), (1, 7), (1, 8), (1, 10)]
theorem RD_readRun_J98_fr {L R : List (Nat × Nat)} (hL : Sub W_RD_readRun L) (kr : Mem → Int32 → Int32 → Option Mem) (kx : Mem → Int32 → Int32 → Option Mem) (m : Mem) (x1 : Int32) (x2 : Int32) (Rr : Mem) (hr : ∀ (y0 : Mem) (y1 : Int32) (y2 : Int32), kr y0 y1 y2 = some Rr → Frm L R y0 Rr) (hx : ∀ (y0 : Mem) (y1 : Int32) (y2 : Int32), kx y0 y1 y2 = some Rr → Frm L R y0 Rr) (h : RD_readRun_J98 kr kx m x1 x2 = some Rr) : Frm L R m Rr := by
  unfold RD_readRun_J98 at h
  obtain ⟨m1, hm1, h⟩ := letM_ex h
  have a1 : Frm L R m m1 := Frm.sI hm1 (hL _ _ rfl)
  exact a1.tr (hr m1 x1 x2 h)
theorem RD_readRun_J67_fr {L R : List (Nat × Nat)} (hL : Sub W_RD_readRun L) (kr : Mem → Int32 → Int32 → Option Mem) (kx : Mem → Int32 → Int32 → Option Mem) (m : Mem) (x1 : Int32) (x2 : Int32) (x3 : Int32) (Rr : Mem) (hr : ∀ (y0 : Mem) (y1 : Int32) (y2 : Int32), kr y0 y1 y2 = some Rr → Frm L R y0 Rr) (hx : ∀ (y0 : Mem) (y1 : Int32) (y2 : Int32), kx y0 y1 y2 = some Rr → Frm L R y0 Rr) (h : RD_readRun_J67 kr kx m x1 x2 x3 = some Rr) : Frm L R m Rr := by
  unfold RD_readRun_J67 at h
  by_cases hb1 : x3 < 48
  · have h := ifp h hb1
    exact hx m x1 x2 h
  · have h := ifn h hb1
    by_cases hb2 : 57 < x3
    · have h := ifp h hb2
      exact hx m x1 x2 h
    · have h := ifn h hb2
      obtain ⟨m1, hm1, h⟩ := letM_ex h
      have a3 : Frm L R m m1 := Frm.sI hm1 (hL _ _ rfl)
      exact a3.tr (RD_readRun_J98_fr hL _ _ m1 x1 (x2 + 1) _ hr hx h)
theorem RD_readRun_L14_fr {L R : List (Nat × Nat)} (hL : Sub W_RD_readRun L) (kx : Mem → Int32 → Int32 → Option Mem) (Rr : Mem) (hx : ∀ (y0 : Mem) (y1 : Int32) (y2 : Int32), kx y0 y1 y2 = some Rr → Frm L R y0 Rr) : ∀ (n : Nat) (m : Mem) (x1 : Int32) (x2 : Int32), RD_readRun_L14 kx n m x1 x2 = some Rr → Frm L R m Rr := by
  intro n
  induction n with
  | zero =>
    intro m x1 x2 h
    exact absurd (show none = some Rr from h) (fun e => Option.some_ne_none Rr e.symm)
  | succ n ih =>
    intro m x1 x2 h
    rw [RD_readRun_L14] at h
    by_cases hb1 : (gI m 1 1) ≤ (gI m 1 10)
    · have h := ifp h hb1
      exact hx m x1 x2 h
    · have h := ifn h hb1
      obtain ⟨hk2, h⟩ := ift h
      obtain ⟨v2, hv2, h⟩ := letV_ex h
      by_cases hb3 : v2 < 97
      · have h := ifp h hb3
        exact RD_readRun_J67_fr hL _ _ m x1 x2 v2 _ ih hx h
      · have h := ifn h hb3
        by_cases hb4 : 122 < v2
        · have h := ifp h hb4
          exact RD_readRun_J67_fr hL _ _ m x1 x2 v2 _ ih hx h
        · have h := ifn h hb4
          obtain ⟨m3, hm3, h⟩ := letM_ex h
          have a5 : Frm L R m m3 := Frm.sJ hm3 (hL _ _ rfl)
          exact a5.tr (RD_readRun_J98_fr hL _ _ m3 (x1 + 1) x2 _ ih hx h)
theorem RD_readRun_J139_fr {L R : List (Nat × Nat)} (hL : Sub W_RD_readRun L) (m : Mem) (x1 : Int32) (x2 : Int32) (Rr : Mem) (h : RD_readRun_J139 m x1 x2 = some Rr) : Frm L R m Rr := by
  unfold RD_readRun_J139 at h
  by_cases hb1 : x1 = 0
  · have h := ifp h hb1
    by_cases hb2 : x2 < 1
    · have h := ifp h hb2
      injection h with h
      subst h
      exact Frm.rf
    · have h := ifn h hb2
      by_cases hb3 : 2 < x2
      · have h := ifp h hb3
        injection h with h
        subst h
        exact Frm.rf
      · have h := ifn h hb3
        obtain ⟨m1, hm1, h⟩ := letM_ex h
        have a4 : Frm L R m m1 := Frm.sI hm1 (hL _ _ rfl)
        injection h with h
        subst h
        exact a4
  · have h := ifn h hb1
    injection h with h
    subst h
    exact Frm.rf
theorem RD_readRun_J111_fr {L R : List (Nat × Nat)} (hL : Sub W_RD_readRun L) (m : Mem) (x1 : Int32) (x2 : Int32) (Rr : Mem) (h : RD_readRun_J111 m x1 x2 = some Rr) : Frm L R m Rr := by
  unfold RD_readRun_J111 at h
  obtain ⟨m1, hm1, h⟩ := letM_ex h
  have a1 : Frm L R m m1 := Frm.sI hm1 (hL _ _ rfl)
  by_cases hb2 : x2 = 0
  · have h := ifp h hb2
    by_cases hb3 : x1 < 1
    · have h := ifp h hb3
      exact a1.tr (RD_readRun_J139_fr hL m1 x1 x2 _ h)
    · have h := ifn h hb3
      by_cases hb4 : 7 < x1
      · have h := ifp h hb4
        exact a1.tr (RD_readRun_J139_fr hL m1 x1 x2 _ h)
      · have h := ifn h hb4
        obtain ⟨m2, hm2, h⟩ := letM_ex h
        have a5 : Frm L R m m2 := a1.tr (Frm.sI hm2 (hL _ _ rfl))
        injection h with h
        subst h
        exact a5
  · have h := ifn h hb2
    exact a1.tr (RD_readRun_J139_fr hL m1 x1 x2 _ h)
theorem RD_readRun_fr {L R : List (Nat × Nat)} (hL : Sub W_RD_readRun L) (m : Mem) (Rr : Mem) (h : RD_readRun m = some Rr) : Frm L R m Rr := by
  unfold RD_readRun at h
  obtain ⟨m1, hm1, h⟩ := letM_ex h
  have a1 : Frm L R m m1 := Frm.sJ hm1 (hL _ _ rfl)
  obtain ⟨m2, hm2, h⟩ := letM_ex h
  have a2 : Frm L R m m2 := a1.tr (Frm.sI hm2 (hL _ _ rfl))
  refine a2.tr (RD_readRun_L14_fr hL _ Rr ?_ FU m2 0 0 h)
  intro m5 y3 y4 h
  exact RD_readRun_J111_fr hL m5 y3 y4 _ h
def W_RD_advance : List (Nat × Nat) := [(1, 4), (1, 5), (1, 6), (1, 7), (1, 8), (1, 10)]
theorem RD_advance_J48_fr {L R : List (Nat × Nat)} (hL : Sub W_RD_advance L) (kr : Mem → Option Mem) (kx : Mem → Option Mem) (m : Mem) (x1 : Int32) (Rr : Mem) (hr : ∀ (y0 : Mem), kr y0 = some Rr → Frm L R y0 Rr) (hx : ∀ (y0 : Mem), kx y0 = some Rr → Frm L R y0 Rr) (h : RD_advance_J48 kr kx m x1 = some Rr) : Frm L R m Rr := by
  unfold RD_advance_J48 at h
  obtain ⟨m1, hm1, h⟩ := letM_ex h
  have a1 : Frm L R m m1 := Frm.sI hm1 (hL _ _ rfl)
  exact a1.tr (hr m1 h)
theorem RD_advance_L12_fr {L R : List (Nat × Nat)} (hL : Sub W_RD_advance L) (x1 : Int32) (kx : Mem → Option Mem) (Rr : Mem) (hx : ∀ (y0 : Mem), kx y0 = some Rr → Frm L R y0 Rr) : ∀ (n : Nat) (m : Mem), RD_advance_L12 x1 kx n m = some Rr → Frm L R m Rr := by
  intro n
  induction n with
  | zero =>
    intro m h
    exact absurd (show none = some Rr from h) (fun e => Option.some_ne_none Rr e.symm)
  | succ n ih =>
    intro m h
    rw [RD_advance_L12] at h
    by_cases hb1 : x1 ≤ (gI m 1 10)
    · have h := ifp h hb1
      exact hx m h
    · have h := ifn h hb1
      obtain ⟨hk2, h⟩ := ift h
      by_cases hb3 : (gI m 2 (ixn (gI m 1 10))) = 32
      · have h := ifp h hb3
        exact RD_advance_J48_fr hL _ _ m x1 _ ih hx h
      · have h := ifn h hb3
        by_cases hb4 : (gI m 2 (ixn (gI m 1 10))) = 10
        · have h := ifp h hb4
          exact RD_advance_J48_fr hL _ _ m x1 _ ih hx h
        · have h := ifn h hb4
          exact hx m h
theorem RD_advance_J61_fr {L R : List (Nat × Nat)} (hL : Sub W_RD_advance L) (m : Mem) (x1 : Int32) (Rr : Mem) (h : RD_advance_J61 m x1 = some Rr) : Frm L R m Rr := by
  unfold RD_advance_J61 at h
  by_cases hb1 : (gI m 1 10) < x1
  · have h := ifp h hb1
    obtain ⟨m1, hm1, h⟩ := letM_ex h
    have a2 : Frm L R m m1 := Frm.sI hm1 (hL _ _ rfl)
    obtain ⟨hk3, h⟩ := ift h
    by_cases hb4 : (gI m1 2 (ixn (gI m1 1 10))) = 59
    · have h := ifp h hb4
      obtain ⟨m6, hm6, h⟩ := letM_ex h
      have a5 : Frm L R m m6 := a2.tr (Frm.sI hm6 (hL _ _ rfl))
      obtain ⟨m7, hm7, h⟩ := letM_ex h
      have a6 : Frm L R m m7 := a5.tr (Frm.sI hm7 (hL _ _ rfl))
      injection h with h
      subst h
      exact a6
    · have h := ifn h hb4
      obtain ⟨m3, hq7, h⟩ := bM_ex h
      have a8 : Frm L R m m3 := a2.tr (RD_readRun_fr (subm hL rfl) m1 _ hq7)
      by_cases hb9 : (gI m3 1 4) = 1
      · have h := ifp h hb9
        obtain ⟨m5, hm5, h⟩ := letM_ex h
        have a10 : Frm L R m m5 := a8.tr (Frm.sI hm5 (hL _ _ rfl))
        injection h with h
        subst h
        exact a10
      · have h := ifn h hb9
        injection h with h
        subst h
        exact a8
  · have h := ifn h hb1
    obtain ⟨m8, hm8, h⟩ := letM_ex h
    have a11 : Frm L R m m8 := Frm.sI hm8 (hL _ _ rfl)
    obtain ⟨m9, hm9, h⟩ := letM_ex h
    have a12 : Frm L R m m9 := a11.tr (Frm.sI hm9 (hL _ _ rfl))
    injection h with h
    subst h
    exact a12
theorem RD_advance_fr {L R : List (Nat × Nat)} (hL : Sub W_RD_advance L) (m : Mem) (Rr : Mem) (h : RD_advance m = some Rr) : Frm L R m Rr := by
  unfold RD_advance at h
  obtain ⟨v1, hv1, h⟩ := letV_ex h
  refine RD_advance_L12_fr hL v1 _ Rr ?_ FU m h
  intro m2 h
  exact RD_advance_J61_fr hL m2 v1 _ h
def W_RD_isAtEnd : List (Nat × Nat) := [(1, 4), (1, 5), (1, 6), (1, 7), (1, 8), (1, 10)]
theorem RD_isAtEnd_fr {L R : List (Nat × Nat)} (hL : Sub W_RD_isAtEnd L) (m : Mem) (Rr : Int32 × Mem) (h : RD_isAtEnd m = some Rr) : Frm L R m Rr.2 := by
  unfold RD_isAtEnd at h
  obtain ⟨m1, hq1, h⟩ := bM_ex h
  have a2 : Frm L R m m1 := RD_advance_fr (subm hL rfl) m _ hq1
  by_cases hb3 : (gI m1 1 4) = 0
  · have h := ifp h hb3
    injection h with h
    subst h
    exact a2
  · have h := ifn h hb3
    injection h with h
    subst h
    exact a2
def W_RD_failAt : List (Nat × Nat) := [(1, 2), (1, 3)]
theorem RD_failAt_fr {L R : List (Nat × Nat)} (hL : Sub W_RD_failAt L) (m : Mem) (x1 : Int32) (x2 : Int32) (Rr : Int32 × Mem) (h : RD_failAt m x1 x2 = some Rr) : Frm L R m Rr.2 := by
  unfold RD_failAt at h
  obtain ⟨m1, hm1, h⟩ := letM_ex h
  have a1 : Frm L R m m1 := Frm.sI hm1 (hL _ _ rfl)
  obtain ⟨m2, hm2, h⟩ := letM_ex h
  have a2 : Frm L R m m2 := a1.tr (Frm.sI hm2 (hL _ _ rfl))
  injection h with h
  subst h
  exact a2
def W_RD_fail : List (Nat × Nat) := [(1, 2), (1, 3)]
theorem RD_fail_fr {L R : List (Nat × Nat)} (hL : Sub W_RD_fail L) (m : Mem) (x1 : Int32) (Rr : Int32 × Mem) (h : RD_fail m x1 = some Rr) : Frm L R m Rr.2 := by
  unfold RD_fail at h
  obtain ⟨v1, m2, hq1, h⟩ := bV_ex h
  have a2 : Frm L R m m2 := RD_failAt_fr (subm hL rfl) m x1 (gI m 1 5) _ hq1
  obtain ⟨hk3, h⟩ := ift h
  injection h with h
  subst h
  exact a2
def W_RD_closes : List (Nat × Nat) := [(1, 2), (1, 3)]
theorem RD_closes_fr {L R : List (Nat × Nat)} (hL : Sub W_RD_closes L) (m : Mem) (Rr : Int32 × Mem) (h : RD_closes m = some Rr) : Frm L R m Rr.2 := by
  unfold RD_closes at h
  by_cases hb1 : (gI m 1 1) ≤ (gI m 1 9)
  · have h := ifp h hb1
    injection h with h
    subst h
    exact Frm.rf
  · have h := ifn h hb1
    obtain ⟨v1, m2, hq2, h⟩ := bV_ex h
    have a3 : Frm L R m m2 := RD_fail_fr (subm hL rfl) m 1 _ hq2
    by_cases hb4 : v1 = 0
    · have h := ifp h hb4
      injection h with h
      subst h
      exact a3
    · have h := ifn h hb4
      injection h with h
      subst h
      exact a3
def W_PH_tellName : List (Nat × Nat) := [(1, 2), (1, 3), (1, 4), (1, 5), (1, 6), (1, 7), (1, 8), (1, 10)]
theorem PH_tellName_J44_fr {L R : List (Nat × Nat)} (hL : Sub W_PH_tellName L) (m : Mem) (Rr : Int32 × Mem) (h : PH_tellName_J44 m = some Rr) : Frm L R m Rr.2 := by
  unfold PH_tellName_J44 at h
  obtain ⟨v1, m2, hq1, h⟩ := bV_ex h
  have a2 : Frm L R m m2 := RD_fail_fr (subm hL rfl) m 3 _ hq1
  by_cases hb3 : v1 = 0
  · have h := ifp h hb3
    injection h with h
    subst h
    exact a2
  · have h := ifn h hb3
    injection h with h
    subst h
    exact a2
theorem PH_tellName_fr {L R : List (Nat × Nat)} (hL : Sub W_PH_tellName L) (m : Mem) (x0 : Nat) (Rr : Int32 × Mem) (h : PH_tellName m x0 = some Rr) : Frm L R m Rr.2 := by
  unfold PH_tellName at h
  obtain ⟨m1, hq1, h⟩ := bM_ex h
  have a2 : Frm L R m m1 := RD_advance_fr (subm hL rfl) m _ hq1
  by_cases hb3 : (RD_isWord m1 17 17) = 0
  · have h := ifp h hb3
    obtain ⟨v7, m8, hq4, h⟩ := bV_ex h
    have a5 : Frm L R m m8 := a2.tr (RD_fail_fr (subm hL rfl) m1 1 _ hq4)
    obtain ⟨hk6, h⟩ := ift h
    injection h with h
    subst h
    exact a5
  · have h := ifn h hb3
    obtain ⟨v3, hq7, h⟩ := bI_ex h
    by_cases hb8 : v3 = 0
    · have h := ifp h hb8
      obtain ⟨v5, hq9, h⟩ := bI_ex h
      by_cases hb10 : v5 = (-1)
      · have h := ifp h hb10
        injection h with h
        subst h
        exact a2
      · have h := ifn h hb10
        exact a2.tr (PH_tellName_J44_fr hL m1 _ h)
    · have h := ifn h hb8
      exact a2.tr (PH_tellName_J44_fr hL m1 _ h)
def W_PH_closeLine : List (Nat × Nat) := [(1, 2), (1, 3)]
theorem PH_closeLine_fr {L R : List (Nat × Nat)} (hL : Sub W_PH_closeLine L) (m : Mem) (x0 : Nat) (x2 : Nat) (hc_x0 : Cov R x0 16) (Rr : Int32 × Mem) (h : PH_closeLine m x0 x2 = some Rr) : Frm L R m Rr.2 := by
  unfold PH_closeLine at h
  by_cases hb1 : (gI m x2 1) = 0
  · have h := ifp h hb1
    obtain ⟨v13, m14, hq2, h⟩ := bV_ex h
    have a3 : Frm L R m m14 := RD_fail_fr (subm hL rfl) m 1 _ hq2
    obtain ⟨hk4, h⟩ := ift h
    injection h with h
    subst h
    exact a3
  · have h := ifn h hb1
    by_cases hb5 : 3 ≤ (gI m x2 1)
    · have h := ifp h hb5
      obtain ⟨hk6, h⟩ := ift h
      obtain ⟨v2, hq7, h⟩ := bI_ex h
      by_cases hb8 : v2 = 0
      · have h := ifp h hb8
        obtain ⟨m4, hm4, h⟩ := letM_ex h
        have a9 : Frm L R m m4 := Frm.sIr hm4 (Cov.sub hc_x0 (by omega) (by omega))
        injection h with h
        subst h
        exact a9
      · have h := ifn h hb8
        obtain ⟨v5, m6, hq10, h⟩ := bV_ex h
        have a11 : Frm L R m m6 := RD_fail_fr (subm hL rfl) m 3 _ hq10
        obtain ⟨hk12, h⟩ := ift h
        injection h with h
        subst h
        exact a11
    · have h := ifn h hb5
      obtain ⟨v9, m10, hq13, h⟩ := bV_ex h
      have a14 : Frm L R m m10 := RD_fail_fr (subm hL rfl) m 4 _ hq13
      obtain ⟨hk15, h⟩ := ift h
      injection h with h
      subst h
      exact a14
def W_PH_beginsCorner : List (Nat × Nat) := [(1, 2), (1, 3)]
theorem PH_beginsCorner_fr {L R : List (Nat × Nat)} (hL : Sub W_PH_beginsCorner L) (m : Mem) (x1 : Nat) (Rr : Int32 × Mem) (h : PH_beginsCorner m x1 = some Rr) : Frm L R m Rr.2 := by
  unfold PH_beginsCorner at h
  by_cases hb1 : (gI m 1 4) = 2
  · have h := ifp h hb1
    by_cases hb2 : (gI m 1 7) ≤ 20
    · have h := ifp h hb2
      by_cases hb3 : (gI m x1 1) < 12
      · have h := ifp h hb3
        injection h with h
        subst h
        exact Frm.rf
      · have h := ifn h hb3
        obtain ⟨v1, m2, hq4, h⟩ := bV_ex h
        have a5 : Frm L R m m2 := RD_fail_fr (subm hL rfl) m 4 _ hq4
        by_cases hb6 : v1 = 0
        · have h := ifp h hb6
          injection h with h
          subst h
          exact a5
        · have h := ifn h hb6
          injection h with h
          subst h
          exact a5
    · have h := ifn h hb2
      obtain ⟨v4, m5, hq7, h⟩ := bV_ex h
      have a8 : Frm L R m m5 := RD_fail_fr (subm hL rfl) m 2 _ hq7
      obtain ⟨hk9, h⟩ := ift h
      injection h with h
      subst h
      exact a8
  · have h := ifn h hb1
    obtain ⟨v8, m9, hq10, h⟩ := bV_ex h
    have a11 : Frm L R m m9 := RD_fail_fr (subm hL rfl) m 1 _ hq10
    obtain ⟨hk12, h⟩ := ift h
    injection h with h
    subst h
    exact a11
def W_RD_readNumber : List (Nat × Nat) := [(1, 2), (1, 3), (1, 4), (1, 5), (1, 6), (1, 7), (1, 8), (1, 10)]
theorem RD_readNumber_J34_fr {L R : List (Nat × Nat)} (hL : Sub W_RD_readNumber L) (m : Mem) (Rr : Int32 × Mem) (h : RD_readNumber_J34 m = some Rr) : Frm L R m Rr.2 := by
  unfold RD_readNumber_J34 at h
  obtain ⟨v1, m2, hq1, h⟩ := bV_ex h
  have a2 : Frm L R m m2 := RD_fail_fr (subm hL rfl) m 2 _ hq1
  by_cases hb3 : v1 = 0
  · have h := ifp h hb3
    injection h with h
    subst h
    exact a2
  · have h := ifn h hb3
    injection h with h
    subst h
    exact a2
theorem RD_readNumber_fr {L R : List (Nat × Nat)} (hL : Sub W_RD_readNumber L) (m : Mem) (x1 : Int32) (x2 : Int32) (Rr : Int32 × Mem) (h : RD_readNumber m x1 x2 = some Rr) : Frm L R m Rr.2 := by
  unfold RD_readNumber at h
  obtain ⟨m1, hq1, h⟩ := bM_ex h
  have a2 : Frm L R m m1 := RD_advance_fr (subm hL rfl) m _ hq1
  by_cases hb3 : (gI m1 1 4) = 2
  · have h := ifp h hb3
    by_cases hb4 : (gI m1 1 7) < x1
    · have h := ifp h hb4
      exact a2.tr (RD_readNumber_J34_fr hL m1 _ h)
    · have h := ifn h hb4
      by_cases hb5 : (gI m1 1 7) ≤ x2
      · have h := ifp h hb5
        injection h with h
        subst h
        exact a2
      · have h := ifn h hb5
        exact a2.tr (RD_readNumber_J34_fr hL m1 _ h)
  · have h := ifn h hb3
    obtain ⟨v3, m4, hq6, h⟩ := bV_ex h
    have a7 : Frm L R m m4 := a2.tr (RD_fail_fr (subm hL rfl) m1 1 _ hq6)
    obtain ⟨hk8, h⟩ := ift h
    injection h with h
    subst h
    exact a7
def W_LN_add : List (Nat × Nat) := []
theorem LN_add_fr {L R : List (Nat × Nat)} (hL : Sub W_LN_add L) (m : Mem) (x0 : Nat) (x1 : Int32) (x2 : Int32) (hc_x0 : Cov R x0 3) (Rr : Int32 × Mem) (h : LN_add m x0 x1 x2 = some Rr) : Frm L R m Rr.2 := by
  unfold LN_add at h
  by_cases hb1 : (gI m x0 1) < 12
  · have h := ifp h hb1
    obtain ⟨hk2, h⟩ := ift h
    obtain ⟨m2, hm2, h⟩ := letM_ex h
    have a3 : Frm L R m m2 := Frm.sIr hm2 (Cov.sub hc_x0 (by omega) (by omega))
    obtain ⟨hk4, h⟩ := ift h
    obtain ⟨m4, hm4, h⟩ := letM_ex h
    have a5 : Frm L R m m4 := a3.tr (Frm.sIr hm4 (Cov.sub hc_x0 (by omega) (by omega)))
    obtain ⟨m5, hm5, h⟩ := letM_ex h
    have a6 : Frm L R m m5 := a5.tr (Frm.sIr hm5 (Cov.sub hc_x0 (by omega) (by omega)))
    injection h with h
    subst h
    exact a6
  · have h := ifn h hb1
    injection h with h
    subst h
    exact Frm.rf
def W_PH_endsCorner : List (Nat × Nat) := [(1, 2), (1, 3)]
theorem PH_endsCorner_J30_fr {L R : List (Nat × Nat)} (hL : Sub W_PH_endsCorner L) (m : Mem) (x1 : Nat) (x2 : Int32) (hc_x1 : Cov R x1 3) (Rr : Int32 × Mem) (h : PH_endsCorner_J30 m x1 x2 = some Rr) : Frm L R m Rr.2 := by
  unfold PH_endsCorner_J30 at h
  obtain ⟨v1, m2, hq1, h⟩ := bV_ex h
  have a2 : Frm L R m m2 := Frm.up (R := [(x1, 3)]) (LN_add_fr (L := L) (R := [(x1, 3)]) (subm hL rfl) m x1 x2 (gI m 1 7) (Cov.at 0 rfl) _ hq1) (fa1 (Or.inl hc_x1))
  obtain ⟨hk3, h⟩ := ift h
  injection h with h
  subst h
  exact a2
theorem PH_endsCorner_fr {L R : List (Nat × Nat)} (hL : Sub W_PH_endsCorner L) (m : Mem) (x1 : Nat) (x2 : Int32) (hc_x1 : Cov R x1 3) (Rr : Int32 × Mem) (h : PH_endsCorner m x1 x2 = some Rr) : Frm L R m Rr.2 := by
  unfold PH_endsCorner at h
  obtain ⟨v1, hv1, h⟩ := letV_ex h
  by_cases hb1 : v1 ≤ 0
  · have h := ifp h hb1
    exact PH_endsCorner_J30_fr hL m x1 x2 (hc_x1) _ h
  · have h := ifn h hb1
    obtain ⟨v2, hq2, h⟩ := bI_ex h
    by_cases hb3 : v2 = 0
    · have h := ifp h hb3
      exact PH_endsCorner_J30_fr hL m x1 x2 (hc_x1) _ h
    · have h := ifn h hb3
      obtain ⟨v4, m5, hq4, h⟩ := bV_ex h
      have a5 : Frm L R m m5 := RD_fail_fr (subm hL rfl) m 3 _ hq4
      obtain ⟨hk6, h⟩ := ift h
      injection h with h
      subst h
      exact a5
def W_PH_tellLine : List (Nat × Nat) := [(1, 2), (1, 3), (1, 4), (1, 5), (1, 6), (1, 7), (1, 8), (1, 10)]
theorem PH_tellLine_L49_fr {L R : List (Nat × Nat)} (hL : Sub W_PH_tellLine L) (x0 : Nat) (x2 : Nat) (hc_x0 : Cov R x0 16) (hc_x2 : Cov R x2 3) (kx : Mem → Option (Int32 × Mem)) (Rr : Int32 × Mem) (hx : ∀ (y0 : Mem), kx y0 = some Rr → Frm L R y0 Rr.2) : ∀ (n : Nat) (m : Mem) (x3 : Int32), PH_tellLine_L49 x0 x2 kx n m x3 = some Rr → Frm L R m Rr.2 := by
  intro n
  induction n with
  | zero =>
    intro m x3 h
    exact absurd (show none = some Rr from h) (fun e => Option.some_ne_none Rr e.symm)
  | succ n ih =>
    intro m x3 h
    rw [PH_tellLine_L49] at h
    by_cases hb1 : 12 < x3
    · have h := ifp h hb1
      exact hx m h
    · have h := ifn h hb1
      obtain ⟨m1, hq2, h⟩ := bM_ex h
      have a3 : Frm L R m m1 := RD_advance_fr (subm hL rfl) m _ hq2
      by_cases hb4 : (gI m1 1 4) = 3
      · have h := ifp h hb4
        obtain ⟨v13, m14, hq5, h⟩ := bV_ex h
        have a6 : Frm L R m m14 := a3.tr (Frm.up (R := [(x0, 16)]) (PH_closeLine_fr (L := L) (R := [(x0, 16)]) (subm hL rfl) m1 x0 x2 (Cov.at 0 rfl) _ hq5) (fa1 (Or.inl hc_x0)))
        obtain ⟨hk7, h⟩ := ift h
        injection h with h
        subst h
        exact a6
      · have h := ifn h hb4
        obtain ⟨v3, hv3, h⟩ := letV_ex h
        obtain ⟨v4, m5, hq8, h⟩ := bV_ex h
        have a9 : Frm L R m m5 := a3.tr (PH_beginsCorner_fr (subm hL rfl) m1 x2 _ hq8)
        by_cases hb10 : v4 = 0
        · have h := ifp h hb10
          injection h with h
          subst h
          exact a9
        · have h := ifn h hb10
          obtain ⟨v7, m8, hq11, h⟩ := bV_ex h
          have a12 : Frm L R m m8 := a9.tr (RD_readNumber_fr (subm hL rfl) m5 0 20 _ hq11)
          by_cases hb13 : v7 = 0
          · have h := ifp h hb13
            injection h with h
            subst h
            exact a12
          · have h := ifn h hb13
            obtain ⟨v10, m11, hq14, h⟩ := bV_ex h
            have a15 : Frm L R m m11 := a12.tr (Frm.up (R := [(x2, 3)]) (PH_endsCorner_fr (L := L) (R := [(x2, 3)]) (subm hL rfl) m8 x2 v3 (Cov.at 0 rfl) _ hq14) (fa1 (Or.inl hc_x2)))
            by_cases hb16 : v10 = 0
            · have h := ifp h hb16
              injection h with h
              subst h
              exact a15
            · have h := ifn h hb16
              exact a15.tr (ih m11 (x3 + 1) h)
theorem PH_tellLine_fr {L R : List (Nat × Nat)} (hL : Sub W_PH_tellLine L) (m : Mem) (x0 : Nat) (hc_x0 : Cov R x0 16) (Rr : Int32 × Mem) (h : PH_tellLine m x0 = some Rr) : Frm L R m Rr.2 := by
  unfold PH_tellLine at h
  by_cases hb1 : (gI m x0 6) < 3
  · have h := ifp h hb1
    obtain ⟨v1, m2, hq2, h⟩ := bV_ex h
    have a3 : Frm L R m m2 := PH_tellName_fr (subm hL rfl) m x0 _ hq2
    by_cases hb4 : v1 = 0
    · have h := ifp h hb4
      injection h with h
      subst h
      exact a3
    · have h := ifn h hb4
      obtain ⟨hk5, h⟩ := ift h
      obtain ⟨m5, hm5, h⟩ := letM_ex h
      have a6 : Frm L R m m5 := a3.tr (Frm.sJr hm5 (Cov.sub hc_x0 (by have q_hk5 : ixn (gI m2 x0 6) < 3 := hk5.2; omega) (by have q_hk5 : ixn (gI m2 x0 6) < 3 := hk5.2; omega)))
      obtain ⟨m6, hm6, h⟩ := letM_ex h
      have a7 : Frm L R m m6 := a6.tr (Frm.sIr hm6 (Cov.sub hc_x0 (by have q_hk5 : ixn (gI m2 x0 6) < 3 := hk5.2; omega) (by have q_hk5 : ixn (gI m2 x0 6) < 3 := hk5.2; omega)))
      refine a7.tr (PH_tellLine_L49_fr hL x0 (x0 + 2 + 3 * ixn (gI m2 x0 6)) (hc_x0) (Cov.sub hc_x0 (by have q_hk5 : ixn (gI m2 x0 6) < 3 := hk5.2; omega) (by have q_hk5 : ixn (gI m2 x0 6) < 3 := hk5.2; omega)) _ Rr ?_ FU m6 0 h)
      intro m7 h
      injection h with h
      subst h
      exact Frm.rf
  · have h := ifn h hb1
    obtain ⟨v8, m9, hq9, h⟩ := bV_ex h
    have a10 : Frm L R m m9 := RD_fail_fr (subm hL rfl) m 4 _ hq9
    obtain ⟨hk11, h⟩ := ift h
    injection h with h
    subst h
    exact a10
def W_RD_readSemicolon : List (Nat × Nat) := [(1, 2), (1, 3), (1, 4), (1, 5), (1, 6), (1, 7), (1, 8), (1, 10)]
theorem RD_readSemicolon_fr {L R : List (Nat × Nat)} (hL : Sub W_RD_readSemicolon L) (m : Mem) (Rr : Int32 × Mem) (h : RD_readSemicolon m = some Rr) : Frm L R m Rr.2 := by
  unfold RD_readSemicolon at h
  obtain ⟨m1, hq1, h⟩ := bM_ex h
  have a2 : Frm L R m m1 := RD_advance_fr (subm hL rfl) m _ hq1
  by_cases hb3 : (gI m1 1 4) = 3
  · have h := ifp h hb3
    injection h with h
    subst h
    exact a2
  · have h := ifn h hb3
    obtain ⟨v3, m4, hq4, h⟩ := bV_ex h
    have a5 : Frm L R m m4 := a2.tr (RD_fail_fr (subm hL rfl) m1 1 _ hq4)
    by_cases hb6 : v3 = 0
    · have h := ifp h hb6
      injection h with h
      subst h
      exact a5
    · have h := ifn h hb6
      injection h with h
      subst h
      exact a5
def W_PH_tellHay : List (Nat × Nat) := [(1, 2), (1, 3), (1, 4), (1, 5), (1, 6), (1, 7), (1, 8), (1, 10)]
theorem PH_tellHay_fr {L R : List (Nat × Nat)} (hL : Sub W_PH_tellHay L) (m : Mem) (x0 : Nat) (hc_x0 : Cov R x0 16) (Rr : Int32 × Mem) (h : PH_tellHay m x0 = some Rr) : Frm L R m Rr.2 := by
  unfold PH_tellHay at h
  obtain ⟨v1, hv1, h⟩ := letV_ex h
  by_cases hb1 : v1 < 10
  · have h := ifp h hb1
    obtain ⟨v2, m3, hq2, h⟩ := bV_ex h
    have a3 : Frm L R m m3 := PH_tellName_fr (subm hL rfl) m x0 _ hq2
    by_cases hb4 : v2 = 0
    · have h := ifp h hb4
      injection h with h
      subst h
      exact a3
    · have h := ifn h hb4
      obtain ⟨hk5, h⟩ := ift h
      obtain ⟨m6, hm6, h⟩ := letM_ex h
      have a6 : Frm L R m m6 := a3.tr (Frm.sJr hm6 (Cov.sub hc_x0 (by omega) (by omega)))
      obtain ⟨v7, m8, hq7, h⟩ := bV_ex h
      have a8 : Frm L R m m8 := a6.tr (RD_readNumber_fr (subm hL rfl) m6 0 19 _ hq7)
      by_cases hb9 : v7 = 0
      · have h := ifp h hb9
        injection h with h
        subst h
        exact a8
      · have h := ifn h hb9
        obtain ⟨m10, hm10, h⟩ := letM_ex h
        have a10 : Frm L R m m10 := a8.tr (Frm.sIr hm10 (Cov.sub hc_x0 (by omega) (by omega)))
        obtain ⟨v11, m12, hq11, h⟩ := bV_ex h
        have a12 : Frm L R m m12 := a10.tr (RD_readNumber_fr (subm hL rfl) m10 0 19 _ hq11)
        by_cases hb13 : v11 = 0
        · have h := ifp h hb13
          injection h with h
          subst h
          exact a12
        · have h := ifn h hb13
          obtain ⟨m14, hm14, h⟩ := letM_ex h
          have a14 : Frm L R m m14 := a12.tr (Frm.sIr hm14 (Cov.sub hc_x0 (by omega) (by omega)))
          obtain ⟨v15, m16, hq15, h⟩ := bV_ex h
          have a16 : Frm L R m m16 := a14.tr (RD_readNumber_fr (subm hL rfl) m14 0 99 _ hq15)
          by_cases hb17 : v15 = 0
          · have h := ifp h hb17
            injection h with h
            subst h
            exact a16
          · have h := ifn h hb17
            obtain ⟨m18, hm18, h⟩ := letM_ex h
            have a18 : Frm L R m m18 := a16.tr (Frm.sIr hm18 (Cov.sub hc_x0 (by omega) (by omega)))
            obtain ⟨m19, hm19, h⟩ := letM_ex h
            have a19 : Frm L R m m19 := a18.tr (Frm.sIr hm19 (Cov.sub hc_x0 (by omega) (by omega)))
            obtain ⟨v20, m21, hq20, h⟩ := bV_ex h
            have a21 : Frm L R m m21 := a19.tr (RD_readSemicolon_fr (subm hL rfl) m19 _ hq20)
            obtain ⟨hk22, h⟩ := ift h
            injection h with h
            subst h
            exact a21
  · have h := ifn h hb1
    obtain ⟨v24, m25, hq23, h⟩ := bV_ex h
    have a24 : Frm L R m m25 := RD_fail_fr (subm hL rfl) m 4 _ hq23
    obtain ⟨hk25, h⟩ := ift h
    injection h with h
    subst h
    exact a24
def W_PH_tellsFirst : List (Nat × Nat) := [(1, 2), (1, 3)]
theorem PH_tellsFirst_fr {L R : List (Nat × Nat)} (hL : Sub W_PH_tellsFirst L) (m : Mem) (x0 : Nat) (x2 : Int32) (hc_x0 : Cov R x0 16) (Rr : Int32 × Mem) (h : PH_tellsFirst m x0 x2 = some Rr) : Frm L R m Rr.2 := by
  unfold PH_tellsFirst at h
  by_cases hb1 : ((gI m x0 13) &&& x2) = 0
  · have h := ifp h hb1
    obtain ⟨m1, hm1, h⟩ := letM_ex h
    have a2 : Frm L R m m1 := Frm.sIr hm1 (Cov.sub hc_x0 (by omega) (by omega))
    injection h with h
    subst h
    exact a2
  · have h := ifn h hb1
    obtain ⟨v2, m3, hq3, h⟩ := bV_ex h
    have a4 : Frm L R m m3 := RD_fail_fr (subm hL rfl) m 3 _ hq3
    obtain ⟨hk5, h⟩ := ift h
    injection h with h
    subst h
    exact a4
def W_PH_tellChurch : List (Nat × Nat) := [(1, 2), (1, 3), (1, 4), (1, 5), (1, 6), (1, 7), (1, 8), (1, 10)]
theorem PH_tellChurch_fr {L R : List (Nat × Nat)} (hL : Sub W_PH_tellChurch L) (m : Mem) (x0 : Nat) (hc_x0 : Cov R x0 16) (Rr : Int32 × Mem) (h : PH_tellChurch m x0 = some Rr) : Frm L R m Rr.2 := by
  unfold PH_tellChurch at h
  obtain ⟨v1, m2, hq1, h⟩ := bV_ex h
  have a2 : Frm L R m m2 := Frm.up (R := [(x0, 16)]) (PH_tellsFirst_fr (L := L) (R := [(x0, 16)]) (subm hL rfl) m x0 1 (Cov.at 0 rfl) _ hq1) (fa1 (Or.inl hc_x0))
  by_cases hb3 : v1 = 0
  · have h := ifp h hb3
    injection h with h
    subst h
    exact a2
  · have h := ifn h hb3
    obtain ⟨v4, m5, hq4, h⟩ := bV_ex h
    have a5 : Frm L R m m5 := a2.tr (RD_readNumber_fr (subm hL rfl) m2 0 19 _ hq4)
    by_cases hb6 : v4 = 0
    · have h := ifp h hb6
      injection h with h
      subst h
      exact a5
    · have h := ifn h hb6
      obtain ⟨m7, hm7, h⟩ := letM_ex h
      have a7 : Frm L R m m7 := a5.tr (Frm.sIr hm7 (Cov.sub hc_x0 (by omega) (by omega)))
      obtain ⟨v8, m9, hq8, h⟩ := bV_ex h
      have a9 : Frm L R m m9 := a7.tr (RD_readNumber_fr (subm hL rfl) m7 0 19 _ hq8)
      by_cases hb10 : v8 = 0
      · have h := ifp h hb10
        injection h with h
        subst h
        exact a9
      · have h := ifn h hb10
        obtain ⟨m11, hm11, h⟩ := letM_ex h
        have a11 : Frm L R m m11 := a9.tr (Frm.sIr hm11 (Cov.sub hc_x0 (by omega) (by omega)))
        obtain ⟨v12, m13, hq12, h⟩ := bV_ex h
        have a13 : Frm L R m m13 := a11.tr (RD_readSemicolon_fr (subm hL rfl) m11 _ hq12)
        obtain ⟨hk14, h⟩ := ift h
        injection h with h
        subst h
        exact a13
def W_RD_readWord : List (Nat × Nat) := [(1, 2), (1, 3), (1, 4), (1, 5), (1, 6), (1, 7), (1, 8), (1, 10)]
theorem RD_readWord_fr {L R : List (Nat × Nat)} (hL : Sub W_RD_readWord L) (m : Mem) (x1 : Int32) (x2 : Int32) (Rr : Int32 × Mem) (h : RD_readWord m x1 x2 = some Rr) : Frm L R m Rr.2 := by
  unfold RD_readWord at h
  obtain ⟨m1, hq1, h⟩ := bM_ex h
  have a2 : Frm L R m m1 := RD_advance_fr (subm hL rfl) m _ hq1
  by_cases hb3 : (RD_isWord m1 x1 x2) = 0
  · have h := ifp h hb3
    obtain ⟨v3, m4, hq4, h⟩ := bV_ex h
    have a5 : Frm L R m m4 := a2.tr (RD_fail_fr (subm hL rfl) m1 1 _ hq4)
    by_cases hb6 : v3 = 0
    · have h := ifp h hb6
      injection h with h
      subst h
      exact a5
    · have h := ifn h hb6
      injection h with h
      subst h
      exact a5
  · have h := ifn h hb3
    injection h with h
    subst h
    exact a2
def W_PH_tellLaw : List (Nat × Nat) := [(1, 2), (1, 3), (1, 4), (1, 5), (1, 6), (1, 7), (1, 8), (1, 10)]
theorem PH_tellLaw_fr {L R : List (Nat × Nat)} (hL : Sub W_PH_tellLaw L) (m : Mem) (x0 : Nat) (hc_x0 : Cov R x0 16) (Rr : Int32 × Mem) (h : PH_tellLaw m x0 = some Rr) : Frm L R m Rr.2 := by
  unfold PH_tellLaw at h
  obtain ⟨v1, m2, hq1, h⟩ := bV_ex h
  have a2 : Frm L R m m2 := Frm.up (R := [(x0, 16)]) (PH_tellsFirst_fr (L := L) (R := [(x0, 16)]) (subm hL rfl) m x0 2 (Cov.at 0 rfl) _ hq1) (fa1 (Or.inl hc_x0))
  by_cases hb3 : v1 = 0
  · have h := ifp h hb3
    injection h with h
    subst h
    exact a2
  · have h := ifn h hb3
    obtain ⟨v4, m5, hq4, h⟩ := bV_ex h
    have a5 : Frm L R m m5 := a2.tr (RD_readWord_fr (subm hL rfl) m2 4 6 _ hq4)
    by_cases hb6 : v4 = 0
    · have h := ifp h hb6
      injection h with h
      subst h
      exact a5
    · have h := ifn h hb6
      obtain ⟨m7, hm7, h⟩ := letM_ex h
      have a7 : Frm L R m m7 := a5.tr (Frm.sIr hm7 (Cov.sub hc_x0 (by omega) (by omega)))
      obtain ⟨v8, m9, hq8, h⟩ := bV_ex h
      have a9 : Frm L R m m9 := a7.tr (RD_readSemicolon_fr (subm hL rfl) m7 _ hq8)
      obtain ⟨hk10, h⟩ := ift h
      injection h with h
      subst h
      exact a9
def W_PH_tellEdge : List (Nat × Nat) := [(1, 2), (1, 3), (1, 4), (1, 5), (1, 6), (1, 7), (1, 8), (1, 10)]
theorem PH_tellEdge_fr {L R : List (Nat × Nat)} (hL : Sub W_PH_tellEdge L) (m : Mem) (x0 : Nat) (hc_x0 : Cov R x0 16) (Rr : Int32 × Mem) (h : PH_tellEdge m x0 = some Rr) : Frm L R m Rr.2 := by
  unfold PH_tellEdge at h
  obtain ⟨v1, m2, hq1, h⟩ := bV_ex h
  have a2 : Frm L R m m2 := Frm.up (R := [(x0, 16)]) (PH_tellsFirst_fr (L := L) (R := [(x0, 16)]) (subm hL rfl) m x0 4 (Cov.at 0 rfl) _ hq1) (fa1 (Or.inl hc_x0))
  by_cases hb3 : v1 = 0
  · have h := ifp h hb3
    injection h with h
    subst h
    exact a2
  · have h := ifn h hb3
    obtain ⟨v4, m5, hq4, h⟩ := bV_ex h
    have a5 : Frm L R m m5 := a2.tr (RD_readWord_fr (subm hL rfl) m2 7 8 _ hq4)
    by_cases hb6 : v4 = 0
    · have h := ifp h hb6
      injection h with h
      subst h
      exact a5
    · have h := ifn h hb6
      obtain ⟨m7, hm7, h⟩ := letM_ex h
      have a7 : Frm L R m m7 := a5.tr (Frm.sIr hm7 (Cov.sub hc_x0 (by omega) (by omega)))
      obtain ⟨v8, m9, hq8, h⟩ := bV_ex h
      have a9 : Frm L R m m9 := a7.tr (RD_readSemicolon_fr (subm hL rfl) m7 _ hq8)
      obtain ⟨hk10, h⟩ := ift h
      injection h with h
      subst h
      exact a9
def W_PH_tellHeirs : List (Nat × Nat) := [(1, 2), (1, 3), (1, 4), (1, 5), (1, 6), (1, 7), (1, 8), (1, 10)]
theorem PH_tellHeirs_L14_fr {L R : List (Nat × Nat)} (hL : Sub W_PH_tellHeirs L) (x0 : Nat) (hc_x0 : Cov R x0 16) (kx : Mem → Option (Int32 × Mem)) (Rr : Int32 × Mem) (hx : ∀ (y0 : Mem), kx y0 = some Rr → Frm L R y0 Rr.2) : ∀ (n : Nat) (m : Mem) (x2 : Int32), PH_tellHeirs_L14 x0 kx n m x2 = some Rr → Frm L R m Rr.2 := by
  intro n
  induction n with
  | zero =>
    intro m x2 h
    exact absurd (show none = some Rr from h) (fun e => Option.some_ne_none Rr e.symm)
  | succ n ih =>
    intro m x2 h
    rw [PH_tellHeirs_L14] at h
    by_cases hb1 : 4 ≤ x2
    · have h := ifp h hb1
      exact hx m h
    · have h := ifn h hb1
      obtain ⟨v1, m2, hq2, h⟩ := bV_ex h
      have a3 : Frm L R m m2 := RD_readNumber_fr (subm hL rfl) m 0 9 _ hq2
      by_cases hb4 : v1 = 0
      · have h := ifp h hb4
        injection h with h
        subst h
        exact a3
      · have h := ifn h hb4
        obtain ⟨hk5, h⟩ := ift h
        obtain ⟨m5, hm5, h⟩ := letM_ex h
        have a6 : Frm L R m m5 := a3.tr (Frm.sIr hm5 (Cov.sub hc_x0 (by omega) (by omega)))
        exact a6.tr (ih m5 (x2 + 1) h)
theorem PH_tellHeirs_fr {L R : List (Nat × Nat)} (hL : Sub W_PH_tellHeirs L) (m : Mem) (x0 : Nat) (hc_x0 : Cov R x0 16) (Rr : Int32 × Mem) (h : PH_tellHeirs m x0 = some Rr) : Frm L R m Rr.2 := by
  unfold PH_tellHeirs at h
  obtain ⟨v1, m2, hq1, h⟩ := bV_ex h
  have a2 : Frm L R m m2 := Frm.up (R := [(x0, 16)]) (PH_tellsFirst_fr (L := L) (R := [(x0, 16)]) (subm hL rfl) m x0 8 (Cov.at 0 rfl) _ hq1) (fa1 (Or.inl hc_x0))
  by_cases hb3 : v1 = 0
  · have h := ifp h hb3
    injection h with h
    subst h
    exact a2
  · have h := ifn h hb3
    refine a2.tr (PH_tellHeirs_L14_fr hL x0 (hc_x0) _ Rr ?_ FU m2 0 h)
    intro m4 h
    obtain ⟨v5, m6, hq5, h⟩ := bV_ex h
    have a6 : Frm L R m4 m6 := RD_readSemicolon_fr (subm hL rfl) m4 _ hq5
    obtain ⟨hk7, h⟩ := ift h
    injection h with h
    subst h
    exact a6
def W_PH_tellRow : List (Nat × Nat) := [(1, 2), (1, 3), (1, 4), (1, 5), (1, 6), (1, 7), (1, 8), (1, 10)]
theorem PH_tellRow_fr {L R : List (Nat × Nat)} (hL : Sub W_PH_tellRow L) (m : Mem) (x0 : Nat) (hc_x0 : Cov R x0 16) (Rr : Int32 × Mem) (h : PH_tellRow m x0 = some Rr) : Frm L R m Rr.2 := by
  unfold PH_tellRow at h
  by_cases hb1 : (RD_isWord m 10 15) = 0
  · have h := ifp h hb1
    obtain ⟨v30, m31, hq2, h⟩ := bV_ex h
    have a3 : Frm L R m m31 := RD_fail_fr (subm hL rfl) m 1 _ hq2
    obtain ⟨hk4, h⟩ := ift h
    injection h with h
    subst h
    exact a3
  · have h := ifn h hb1
    by_cases hb5 : (gI m 1 6) = 10
    · have h := ifp h hb5
      obtain ⟨v5, m6, hq6, h⟩ := bV_ex h
      have a7 : Frm L R m m6 := Frm.up (R := [(x0, 16)]) (PH_tellLine_fr (L := L) (R := [(x0, 16)]) (subm hL rfl) m x0 (Cov.at 0 rfl) _ hq6) (fa1 (Or.inl hc_x0))
      obtain ⟨hk8, h⟩ := ift h
      injection h with h
      subst h
      exact a7
    · have h := ifn h hb5
      by_cases hb9 : (gI m 1 6) = 11
      · have h := ifp h hb9
        obtain ⟨v9, m10, hq10, h⟩ := bV_ex h
        have a11 : Frm L R m m10 := Frm.up (R := [(x0, 16)]) (PH_tellHay_fr (L := L) (R := [(x0, 16)]) (subm hL rfl) m x0 (Cov.at 0 rfl) _ hq10) (fa1 (Or.inl hc_x0))
        obtain ⟨hk12, h⟩ := ift h
        injection h with h
        subst h
        exact a11
      · have h := ifn h hb9
        by_cases hb13 : (gI m 1 6) = 12
        · have h := ifp h hb13
          obtain ⟨v13, m14, hq14, h⟩ := bV_ex h
          have a15 : Frm L R m m14 := Frm.up (R := [(x0, 16)]) (PH_tellChurch_fr (L := L) (R := [(x0, 16)]) (subm hL rfl) m x0 (Cov.at 0 rfl) _ hq14) (fa1 (Or.inl hc_x0))
          obtain ⟨hk16, h⟩ := ift h
          injection h with h
          subst h
          exact a15
        · have h := ifn h hb13
          by_cases hb17 : (gI m 1 6) = 13
          · have h := ifp h hb17
            obtain ⟨v17, m18, hq18, h⟩ := bV_ex h
            have a19 : Frm L R m m18 := Frm.up (R := [(x0, 16)]) (PH_tellLaw_fr (L := L) (R := [(x0, 16)]) (subm hL rfl) m x0 (Cov.at 0 rfl) _ hq18) (fa1 (Or.inl hc_x0))
            obtain ⟨hk20, h⟩ := ift h
            injection h with h
            subst h
            exact a19
          · have h := ifn h hb17
            by_cases hb21 : (gI m 1 6) = 14
            · have h := ifp h hb21
              obtain ⟨v21, m22, hq22, h⟩ := bV_ex h
              have a23 : Frm L R m m22 := Frm.up (R := [(x0, 16)]) (PH_tellEdge_fr (L := L) (R := [(x0, 16)]) (subm hL rfl) m x0 (Cov.at 0 rfl) _ hq22) (fa1 (Or.inl hc_x0))
              obtain ⟨hk24, h⟩ := ift h
              injection h with h
              subst h
              exact a23
            · have h := ifn h hb21
              obtain ⟨v1, m2, hq25, h⟩ := bV_ex h
              have a26 : Frm L R m m2 := Frm.up (R := [(x0, 16)]) (PH_tellHeirs_fr (L := L) (R := [(x0, 16)]) (subm hL rfl) m x0 (Cov.at 0 rfl) _ hq25) (fa1 (Or.inl hc_x0))
              obtain ⟨hk27, h⟩ := ift h
              injection h with h
              subst h
              exact a26
def W_PH_tell : List (Nat × Nat) := [(1, 2), (1, 3), (1, 4), (1, 5), (1, 6), (1, 7), (1, 8), (1, 10)]
theorem PH_tell_L6_fr {L R : List (Nat × Nat)} (hL : Sub W_PH_tell L) (x0 : Nat) (hc_x0 : Cov R x0 16) (kx : Mem → Option (Int32 × Mem)) (Rr : Int32 × Mem) (hx : ∀ (y0 : Mem), kx y0 = some Rr → Frm L R y0 Rr.2) : ∀ (n : Nat) (m : Mem) (x2 : Int32), PH_tell_L6 x0 kx n m x2 = some Rr → Frm L R m Rr.2 := by
  intro n
  induction n with
  | zero =>
    intro m x2 h
    exact absurd (show none = some Rr from h) (fun e => Option.some_ne_none Rr e.symm)
  | succ n ih =>
    intro m x2 h
    rw [PH_tell_L6] at h
    by_cases hb1 : 900 < x2
    · have h := ifp h hb1
      exact hx m h
    · have h := ifn h hb1
      obtain ⟨v1, m2, hq2, h⟩ := bV_ex h
      have a3 : Frm L R m m2 := RD_isAtEnd_fr (subm hL rfl) m _ hq2
      by_cases hb4 : v1 = 0
      · have h := ifp h hb4
        obtain ⟨v4, m5, hq5, h⟩ := bV_ex h
        have a6 : Frm L R m m5 := a3.tr (Frm.up (R := [(x0, 16)]) (PH_tellRow_fr (L := L) (R := [(x0, 16)]) (subm hL rfl) m2 x0 (Cov.at 0 rfl) _ hq5) (fa1 (Or.inl hc_x0)))
        by_cases hb7 : v4 = 0
        · have h := ifp h hb7
          injection h with h
          subst h
          exact a6
        · have h := ifn h hb7
          exact a6.tr (ih m5 (x2 + 1) h)
      · have h := ifn h hb4
        obtain ⟨v7, m8, hq8, h⟩ := bV_ex h
        have a9 : Frm L R m m8 := a3.tr (RD_closes_fr (subm hL rfl) m2 _ hq8)
        by_cases hb10 : v7 = 0
        · have h := ifp h hb10
          injection h with h
          subst h
          exact a9
        · have h := ifn h hb10
          injection h with h
          subst h
          exact a9
theorem PH_tell_fr {L R : List (Nat × Nat)} (hL : Sub W_PH_tell L) (m : Mem) (x0 : Nat) (hc_x0 : Cov R x0 16) (Rr : Int32 × Mem) (h : PH_tell m x0 = some Rr) : Frm L R m Rr.2 := by
  unfold PH_tell at h
  obtain ⟨m1, hq1, h⟩ := bM_ex h
  have a2 : Frm L R m m1 := Frm.up (R := [(x0, 16)]) (PH_clear_fr (L := L) (R := [(x0, 16)]) (subm hL rfl) m x0 (Cov.at 0 rfl) _ hq1) (fa1 (Or.inl hc_x0))
  refine a2.tr (PH_tell_L6_fr hL x0 (hc_x0) _ Rr ?_ FU m1 0 h)
  intro m3 h
  injection h with h
  subst h
  exact Frm.rf
def W_AC_forget : List (Nat × Nat) := [(3, 1)]
theorem AC_forget_fr {L R : List (Nat × Nat)} (hL : Sub W_AC_forget L) (m : Mem) (Rr : Mem) (h : AC_forget m = some Rr) : Frm L R m Rr := by
  unfold AC_forget at h
  obtain ⟨m1, hm1, h⟩ := letM_ex h
  have a1 : Frm L R m m1 := Frm.sI hm1 (hL _ _ rfl)
  injection h with h
  subst h
  exact a1
def W_OH_closeText : List (Nat × Nat) := [(0, 15), (1, 1)]
theorem OH_closeText_fr {L R : List (Nat × Nat)} (hL : Sub W_OH_closeText L) (m : Mem) (x1 : Int32) (Rr : Int32 × Mem) (h : OH_closeText m x1 = some Rr) : Frm L R m Rr.2 := by
  unfold OH_closeText at h
  obtain ⟨m1, hm1, h⟩ := letM_ex h
  have a1 : Frm L R m m1 := Frm.sI hm1 (hL _ _ rfl)
  obtain ⟨m2, hm2, h⟩ := letM_ex h
  have a2 : Frm L R m m2 := a1.tr (Frm.sI hm2 (hL _ _ rfl))
  by_cases hb3 : (gI m2 0 15) = 0
  · have h := ifp h hb3
    injection h with h
    subst h
    exact a2
  · have h := ifn h hb3
    injection h with h
    subst h
    exact a2
def W_JA_fill : List (Nat × Nat) := []
theorem JA_fill_L5_fr {L R : List (Nat × Nat)} (hL : Sub W_JA_fill L) (x0 : Nat) (x1 : Int32) (x3 : Int32) (hc_x0 : Cov R x0 1) (kx : Mem → Option Mem) (Rr : Mem) (hx : ∀ (y0 : Mem), kx y0 = some Rr → Frm L R y0 Rr) : ∀ (n : Nat) (m : Mem) (x2 : Int32), JA_fill_L5 x0 x1 x3 kx n m x2 = some Rr → Frm L R m Rr := by
  intro n
  induction n with
  | zero =>
    intro m x2 h
    exact absurd (show none = some Rr from h) (fun e => Option.some_ne_none Rr e.symm)
  | succ n ih =>
    intro m x2 h
    rw [JA_fill_L5] at h
    by_cases hb1 : x3 ≤ x2
    · have h := ifp h hb1
      exact hx m h
    · have h := ifn h hb1
      obtain ⟨hk2, h⟩ := ift h
      obtain ⟨m2, hm2, h⟩ := letM_ex h
      have a3 : Frm L R m m2 := Frm.sIr hm2 (Cov.sub hc_x0 (by omega) (by omega))
      exact a3.tr (ih m2 (x2 + 1) h)
theorem JA_fill_fr {L R : List (Nat × Nat)} (hL : Sub W_JA_fill L) (m : Mem) (x0 : Nat) (x1 : Int32) (hc_x0 : Cov R x0 1) (Rr : Mem) (h : JA_fill m x0 x1 = some Rr) : Frm L R m Rr := by
  unfold JA_fill at h
  obtain ⟨v1, hv1, h⟩ := letV_ex h
  refine JA_fill_L5_fr hL x0 x1 v1 (hc_x0) _ Rr ?_ FU m 0 h
  intro m2 h
  injection h with h
  subst h
  exact Frm.rf
def W_GR_crossRows : List (Nat × Nat) := []
theorem GR_crossRows_J121_fr {L R : List (Nat × Nat)} (hL : Sub W_GR_crossRows L) (kr : Mem → Int32 → Option Mem) (kx : Mem → Option Mem) (m : Mem) (x0 : Nat) (x1 : Nat) (x2 : Int32) (x3 : Int32) (x4 : Int32) (x5 : Int32) (x6 : Int32) (x7 : Int32) (x8 : Int32) (x9 : Int32) (x10 : Int32) (hc_x0 : Cov R x0 6) (Rr : Mem) (hr : ∀ (y0 : Mem) (y1 : Int32), kr y0 y1 = some Rr → Frm L R y0 Rr) (hx : ∀ (y0 : Mem), kx y0 = some Rr → Frm L R y0 Rr) (h : GR_crossRows_J121 kr kx m x0 x1 x2 x3 x4 x5 x6 x7 x8 x9 x10 = some Rr) : Frm L R m Rr := by
  unfold GR_crossRows_J121 at h
  by_cases hb1 : (x9 + 1) < 0
  · have h := ifp h hb1
    exact hr m (x7 + 1) h
  · have h := ifn h hb1
    by_cases hb2 : 20 ≤ (x9 + 1)
    · have h := ifp h hb2
      exact hr m (x7 + 1) h
    · have h := ifn h hb2
      obtain ⟨hk3, h⟩ := ift h
      by_cases hb4 : (JM_floorMod x8 (2 * x6)) = 0
      · have h := ifp h hb4
        obtain ⟨hk5, h⟩ := ift h
        obtain ⟨m3, hm3, h⟩ := letM_ex h
        have a6 : Frm L R m m3 := Frm.sIr hm3 (Cov.sub hc_x0 (by omega) (by omega))
        exact a6.tr (hr m3 (x7 + 1) h)
      · have h := ifn h hb4
        exact hr m (x7 + 1) h
theorem GR_crossRows_L22_fr {L R : List (Nat × Nat)} (hL : Sub W_GR_crossRows L) (x0 : Nat) (x1 : Nat) (x2 : Int32) (x3 : Int32) (x4 : Int32) (x5 : Int32) (x6 : Int32) (hc_x0 : Cov R x0 6) (kx : Mem → Option Mem) (Rr : Mem) (hx : ∀ (y0 : Mem), kx y0 = some Rr → Frm L R y0 Rr) : ∀ (n : Nat) (m : Mem) (x7 : Int32), GR_crossRows_L22 x0 x1 x2 x3 x4 x5 x6 kx n m x7 = some Rr → Frm L R m Rr := by
  intro n
  induction n with
  | zero =>
    intro m x7 h
    exact absurd (show none = some Rr from h) (fun e => Option.some_ne_none Rr e.symm)
  | succ n ih =>
    intro m x7 h
    rw [GR_crossRows_L22] at h
    by_cases hb1 : x6 ≤ x7
    · have h := ifp h hb1
      exact hx m h
    · have h := ifn h hb1
      obtain ⟨hk2, h⟩ := ift h
      obtain ⟨hk3, h⟩ := ift h
      obtain ⟨v3, hv3, h⟩ := letV_ex h
      obtain ⟨hk4, h⟩ := ift h
      obtain ⟨v5, hv5, h⟩ := letV_ex h
      obtain ⟨v6, hv6, h⟩ := letV_ex h
      by_cases hb5 : v5 < 0
      · have h := ifp h hb5
        exact GR_crossRows_J121_fr hL _ _ m x0 x1 x2 x3 x4 x5 x6 x7 v3 v5 v6 (hc_x0) _ ih hx h
      · have h := ifn h hb5
        by_cases hb6 : 20 ≤ v5
        · have h := ifp h hb6
          exact GR_crossRows_J121_fr hL _ _ m x0 x1 x2 x3 x4 x5 x6 x7 v3 v5 v6 (hc_x0) _ ih hx h
        · have h := ifn h hb6
          obtain ⟨hk7, h⟩ := ift h
          obtain ⟨m8, hm8, h⟩ := letM_ex h
          have a8 : Frm L R m m8 := Frm.sIr hm8 (Cov.sub hc_x0 (by omega) (by omega))
          obtain ⟨m9, hm9, h⟩ := letM_ex h
          have a9 : Frm L R m m9 := a8.tr (Frm.sIr hm9 (Cov.sub hc_x0 (by omega) (by omega)))
          exact a9.tr (GR_crossRows_J121_fr hL _ _ m9 x0 x1 x2 x3 x4 x5 x6 x7 v3 v5 v6 (hc_x0) _ ih hx h)
theorem GR_crossRows_fr {L R : List (Nat × Nat)} (hL : Sub W_GR_crossRows L) (m : Mem) (x0 : Nat) (x1 : Nat) (x2 : Int32) (x3 : Int32) (x4 : Int32) (hc_x0 : Cov R x0 6) (Rr : Mem) (h : GR_crossRows m x0 x1 x2 x3 x4 = some Rr) : Frm L R m Rr := by
  unfold GR_crossRows at h
  obtain ⟨hk1, h⟩ := ift h
  obtain ⟨v2, hv2, h⟩ := letV_ex h
  obtain ⟨hk2, h⟩ := ift h
  obtain ⟨v4, hv4, h⟩ := letV_ex h
  refine GR_crossRows_L22_fr hL x0 x1 x2 x3 x4 v2 v4 (hc_x0) _ Rr ?_ FU m 0 h
  intro m5 h
  injection h with h
  subst h
  exact Frm.rf
def W_GR_crossColumns : List (Nat × Nat) := []
theorem GR_crossColumns_L22_fr {L R : List (Nat × Nat)} (hL : Sub W_GR_crossColumns L) (x0 : Nat) (x1 : Nat) (x2 : Int32) (x3 : Int32) (x4 : Int32) (x5 : Int32) (hc_x0 : Cov R x0 6) (kx : Mem → Option Mem) (Rr : Mem) (hx : ∀ (y0 : Mem), kx y0 = some Rr → Frm L R y0 Rr) : ∀ (n : Nat) (m : Mem) (x6 : Int32), GR_crossColumns_L22 x0 x1 x2 x3 x4 x5 kx n m x6 = some Rr → Frm L R m Rr := by
  intro n
  induction n with
  | zero =>
    intro m x6 h
    exact absurd (show none = some Rr from h) (fun e => Option.some_ne_none Rr e.symm)
  | succ n ih =>
    intro m x6 h
    rw [GR_crossColumns_L22] at h
    by_cases hb1 : x5 ≤ x6
    · have h := ifp h hb1
      exact hx m h
    · have h := ifn h hb1
      obtain ⟨hk2, h⟩ := ift h
      obtain ⟨hk3, h⟩ := ift h
      obtain ⟨v3, hv3, h⟩ := letV_ex h
      obtain ⟨hk4, h⟩ := ift h
      obtain ⟨v5, hv5, h⟩ := letV_ex h
      by_cases hb5 : v5 < 0
      · have h := ifp h hb5
        exact ih m (x6 + 1) h
      · have h := ifn h hb5
        by_cases hb6 : 20 ≤ v5
        · have h := ifp h hb6
          exact ih m (x6 + 1) h
        · have h := ifn h hb6
          obtain ⟨hk7, h⟩ := ift h
          obtain ⟨m7, hm7, h⟩ := letM_ex h
          have a8 : Frm L R m m7 := Frm.sIr hm7 (Cov.sub hc_x0 (by omega) (by omega))
          exact a8.tr (ih m7 (x6 + 1) h)
theorem GR_crossColumns_fr {L R : List (Nat × Nat)} (hL : Sub W_GR_crossColumns L) (m : Mem) (x0 : Nat) (x1 : Nat) (x2 : Int32) (x3 : Int32) (hc_x0 : Cov R x0 6) (Rr : Mem) (h : GR_crossColumns m x0 x1 x2 x3 = some Rr) : Frm L R m Rr := by
  unfold GR_crossColumns at h
  obtain ⟨hk1, h⟩ := ift h
  obtain ⟨v2, hv2, h⟩ := letV_ex h
  obtain ⟨hk2, h⟩ := ift h
  obtain ⟨v4, hv4, h⟩ := letV_ex h
  refine GR_crossColumns_L22_fr hL x0 x1 x2 x3 v2 v4 (hc_x0) _ Rr ?_ FU m 0 h
  intro m5 h
  injection h with h
  subst h
  exact Frm.rf
def W_GR_ownRow : List (Nat × Nat) := []
theorem GR_ownRow_L11_fr {L R : List (Nat × Nat)} (hL : Sub W_GR_ownRow L) (x0 : Nat) (x1 : Int32) (x2 : Int32) (x3 : Int32) (hc_x0 : Cov R x0 6) (kx : Mem → Option Mem) (Rr : Mem) (hx : ∀ (y0 : Mem), kx y0 = some Rr → Frm L R y0 Rr) : ∀ (n : Nat) (m : Mem) (x4 : Int32) (x5 : Int32), GR_ownRow_L11 x0 x1 x2 x3 kx n m x4 x5 = some Rr → Frm L R m Rr := by
  intro n
  induction n with
  | zero =>
    intro m x4 x5 h
    exact absurd (show none = some Rr from h) (fun e => Option.some_ne_none Rr e.symm)
  | succ n ih =>
    intro m x4 x5 h
    rw [GR_ownRow_L11] at h
    by_cases hb1 : x5 < x1
    · have h := ifp h hb1
      exact hx m h
    · have h := ifn h hb1
      obtain ⟨hk2, h⟩ := ift h
      obtain ⟨v2, hv2, h⟩ := letV_ex h
      by_cases hb3 : (gI m (x0 + 5) (ixn x5)) = 0
      · have h := ifp h hb3
        by_cases hb4 : (OH_isHis x2 v2) = 0
        · have h := ifp h hb4
          obtain ⟨m3, hm3, h⟩ := letM_ex h
          have a5 : Frm L R m m3 := Frm.sIr hm3 (Cov.sub hc_x0 (by omega) (by omega))
          exact a5.tr (ih m3 v2 (x5 + (-1)) h)
        · have h := ifn h hb4
          obtain ⟨m4, hm4, h⟩ := letM_ex h
          have a6 : Frm L R m m4 := Frm.sIr hm4 (Cov.sub hc_x0 (by omega) (by omega))
          exact a6.tr (ih m4 v2 (x5 + (-1)) h)
      · have h := ifn h hb3
        obtain ⟨m5, hm5, h⟩ := letM_ex h
        have a7 : Frm L R m m5 := Frm.sIr hm5 (Cov.sub hc_x0 (by omega) (by omega))
        exact a7.tr (ih m5 v2 (x5 + (-1)) h)
theorem GR_ownRow_fr {L R : List (Nat × Nat)} (hL : Sub W_GR_ownRow L) (m : Mem) (x0 : Nat) (x1 : Int32) (x2 : Int32) (x3 : Int32) (hc_x0 : Cov R x0 6) (Rr : Mem) (h : GR_ownRow m x0 x1 x2 x3 = some Rr) : Frm L R m Rr := by
  unfold GR_ownRow at h
  obtain ⟨v1, hv1, h⟩ := letV_ex h
  refine GR_ownRow_L11_fr hL x0 x1 x2 x3 (hc_x0) _ Rr ?_ FU m 0 v1 h
  intro m2 h
  injection h with h
  subst h
  exact Frm.rf
def W_GR_survey : List (Nat × Nat) := []
theorem GR_survey_J92_fr {L R : List (Nat × Nat)} (hL : Sub W_GR_survey L) (kr : Mem → Int32 → Option Mem) (kx : Mem → Option Mem) (m : Mem) (x0 : Nat) (x1 : Nat) (x2 : Int32) (x3 : Int32) (x4 : Int32) (x5 : Int32) (hc_x0 : Cov R x0 6) (Rr : Mem) (hr : ∀ (y0 : Mem) (y1 : Int32), kr y0 y1 = some Rr → Frm L R y0 Rr) (hx : ∀ (y0 : Mem), kx y0 = some Rr → Frm L R y0 Rr) (h : GR_survey_J92 kr kx m x0 x1 x2 x3 x4 x5 = some Rr) : Frm L R m Rr := by
  unfold GR_survey_J92 at h
  obtain ⟨hk1, h⟩ := ift h
  obtain ⟨hk2, h⟩ := ift h
  by_cases hb3 : (gI m (x1 + 1) (ixn x5)) ≤ (gI m (x1 + 1) (ixn x4))
  · have h := ifp h hb3
    obtain ⟨m3, hq4, h⟩ := bM_ex h
    have a5 : Frm L R m m3 := Frm.up (R := [(x0, 6)]) (GR_crossColumns_fr (L := L) (R := [(x0, 6)]) (subm hL rfl) m x0 x1 x5 x4 (Cov.at 0 rfl) _ hq4) (fa1 (Or.inl hc_x0))
    exact a5.tr (hr m3 (x4 + 1) h)
  · have h := ifn h hb3
    obtain ⟨m5, hq6, h⟩ := bM_ex h
    have a7 : Frm L R m m5 := Frm.up (R := [(x0, 6)]) (GR_crossColumns_fr (L := L) (R := [(x0, 6)]) (subm hL rfl) m x0 x1 x4 x5 (Cov.at 0 rfl) _ hq6) (fa1 (Or.inl hc_x0))
    exact a7.tr (hr m5 (x4 + 1) h)
theorem GR_survey_L35_fr {L R : List (Nat × Nat)} (hL : Sub W_GR_survey L) (x0 : Nat) (x1 : Nat) (x2 : Int32) (x3 : Int32) (hc_x0 : Cov R x0 6) (kx : Mem → Option Mem) (Rr : Mem) (hx : ∀ (y0 : Mem), kx y0 = some Rr → Frm L R y0 Rr) : ∀ (n : Nat) (m : Mem) (x4 : Int32), GR_survey_L35 x0 x1 x2 x3 kx n m x4 = some Rr → Frm L R m Rr := by
  intro n
  induction n with
  | zero =>
    intro m x4 h
    exact absurd (show none = some Rr from h) (fun e => Option.some_ne_none Rr e.symm)
  | succ n ih =>
    intro m x4 h
    rw [GR_survey_L35] at h
    by_cases hb1 : (gI m x1 1) ≤ x4
    · have h := ifp h hb1
      exact hx m h
    · have h := ifn h hb1
      obtain ⟨v1, hv1, h⟩ := letV_ex h
      obtain ⟨hk2, h⟩ := ift h
      obtain ⟨hk3, h⟩ := ift h
      by_cases hb4 : (gI m (x1 + 2) (ixn v1)) ≤ (gI m (x1 + 2) (ixn x4))
      · have h := ifp h hb4
        obtain ⟨m4, hq5, h⟩ := bM_ex h
        have a6 : Frm L R m m4 := Frm.up (R := [(x0, 6)]) (GR_crossRows_fr (L := L) (R := [(x0, 6)]) (subm hL rfl) m x0 x1 v1 x4 (-1) (Cov.at 0 rfl) _ hq5) (fa1 (Or.inl hc_x0))
        exact a6.tr (GR_survey_J92_fr hL _ _ m4 x0 x1 x2 x3 x4 v1 (hc_x0) _ ih hx h)
      · have h := ifn h hb4
        obtain ⟨m6, hq7, h⟩ := bM_ex h
        have a8 : Frm L R m m6 := Frm.up (R := [(x0, 6)]) (GR_crossRows_fr (L := L) (R := [(x0, 6)]) (subm hL rfl) m x0 x1 x4 v1 1 (Cov.at 0 rfl) _ hq7) (fa1 (Or.inl hc_x0))
        exact a8.tr (GR_survey_J92_fr hL _ _ m6 x0 x1 x2 x3 x4 v1 (hc_x0) _ ih hx h)
theorem GR_survey_L139_fr {L R : List (Nat × Nat)} (hL : Sub W_GR_survey L) (x0 : Nat) (x2 : Int32) (x3 : Int32) (hc_x0 : Cov R x0 6) (kx : Mem → Option Mem) (Rr : Mem) (hx : ∀ (y0 : Mem), kx y0 = some Rr → Frm L R y0 Rr) : ∀ (n : Nat) (m : Mem) (x4 : Int32), GR_survey_L139 x0 x2 x3 kx n m x4 = some Rr → Frm L R m Rr := by
  intro n
  induction n with
  | zero =>
    intro m x4 h
    exact absurd (show none = some Rr from h) (fun e => Option.some_ne_none Rr e.symm)
  | succ n ih =>
    intro m x4 h
    rw [GR_survey_L139] at h
    by_cases hb1 : 20 ≤ x4
    · have h := ifp h hb1
      exact hx m h
    · have h := ifn h hb1
      obtain ⟨m1, hq2, h⟩ := bM_ex h
      have a3 : Frm L R m m1 := Frm.up (R := [(x0, 6)]) (GR_ownRow_fr (L := L) (R := [(x0, 6)]) (subm hL rfl) m x0 (x4 * 20) x2 x3 (Cov.at 0 rfl) _ hq2) (fa1 (Or.inl hc_x0))
      exact a3.tr (ih m1 (x4 + 1) h)
theorem GR_survey_fr {L R : List (Nat × Nat)} (hL : Sub W_GR_survey L) (m : Mem) (x0 : Nat) (x1 : Nat) (x2 : Int32) (x3 : Int32) (hc_x0 : Cov R x0 6) (Rr : Mem) (h : GR_survey m x0 x1 x2 x3 = some Rr) : Frm L R m Rr := by
  unfold GR_survey at h
  obtain ⟨m1, hq1, h⟩ := bM_ex h
  have a2 : Frm L R m m1 := Frm.up (R := [((x0 + 2), 1)]) (JA_fill_fr (L := L) (R := [((x0 + 2), 1)]) (subm hL rfl) m (x0 + 2) 0 (Cov.at 0 rfl) _ hq1) (fa1 (Or.inl (Cov.sub hc_x0 (by omega) (by omega))))
  obtain ⟨m3, hq3, h⟩ := bM_ex h
  have a4 : Frm L R m m3 := a2.tr (Frm.up (R := [((x0 + 3), 1)]) (JA_fill_fr (L := L) (R := [((x0 + 3), 1)]) (subm hL rfl) m1 (x0 + 3) 0 (Cov.at 0 rfl) _ hq3) (fa1 (Or.inl (Cov.sub hc_x0 (by omega) (by omega)))))
  obtain ⟨m5, hq5, h⟩ := bM_ex h
  have a6 : Frm L R m m5 := a4.tr (Frm.up (R := [((x0 + 4), 1)]) (JA_fill_fr (L := L) (R := [((x0 + 4), 1)]) (subm hL rfl) m3 (x0 + 4) 0 (Cov.at 0 rfl) _ hq5) (fa1 (Or.inl (Cov.sub hc_x0 (by omega) (by omega)))))
  obtain ⟨m7, hq7, h⟩ := bM_ex h
  have a8 : Frm L R m m7 := a6.tr (Frm.up (R := [((x0 + 5), 1)]) (JA_fill_fr (L := L) (R := [((x0 + 5), 1)]) (subm hL rfl) m5 (x0 + 5) 0 (Cov.at 0 rfl) _ hq7) (fa1 (Or.inl (Cov.sub hc_x0 (by omega) (by omega)))))
  refine a8.tr (GR_survey_L35_fr hL x0 x1 x2 x3 (hc_x0) _ Rr ?_ FU m7 0 h)
  intro m9 h
  refine GR_survey_L139_fr hL x0 x2 x3 (hc_x0) _ Rr ?_ FU m9 0 h
  intro m10 h
  injection h with h
  subst h
  exact Frm.rf
def W_OH_survey : List (Nat × Nat) := [(5, 999999), (6, 999999), (7, 999999), (8, 999999), (9, 999999), (10, 999999)]
theorem OH_survey_fr {L R : List (Nat × Nat)} (hL : Sub W_OH_survey L) (m : Mem) (x1 : Int32) (Rr : Mem) (h : OH_survey m x1 = some Rr) : Frm L R m Rr := by
  unfold OH_survey at h
  obtain ⟨hk1, h⟩ := ift h
  obtain ⟨m5, hq2, h⟩ := bM_ex h
  have a3 : Frm L R m m5 := Frm.up (R := [(5, 6)]) (GR_survey_fr (L := L) (R := [(5, 6)]) (subm hL rfl) m 5 ((gN m 13) + 2 + 3 * ixn x1) (gI m (gN m 13) 10) (gI m (gN m 13) 11) (Cov.at 0 rfl) _ hq2) (fa1 (Or.inr (CovL.of hL rfl)))
  injection h with h
  subst h
  exact a3
def W_OH_square : List (Nat × Nat) := [(5, 999999), (6, 999999), (7, 999999), (8, 999999), (9, 999999), (10, 999999)]
theorem OH_square_fr {L R : List (Nat × Nat)} (hL : Sub W_OH_square L) (m : Mem) (x1 : Int32) (x2 : Int32) (x3 : Int32) (Rr : Int32 × Mem) (h : OH_square m x1 x2 x3 = some Rr) : Frm L R m Rr.2 := by
  unfold OH_square at h
  by_cases hb1 : (PH_hasLine m (gN m 13) x1) = 0
  · have h := ifp h hb1
    injection h with h
    subst h
    exact Frm.rf
  · have h := ifn h hb1
    by_cases hb2 : (OH_isSquare x2 x3) = 0
    · have h := ifp h hb2
      injection h with h
      subst h
      exact Frm.rf
    · have h := ifn h hb2
      obtain ⟨m2, hq3, h⟩ := bM_ex h
      have a4 : Frm L R m m2 := OH_survey_fr (subm hL rfl) m x1 _ hq3
      obtain ⟨hk5, h⟩ := ift h
      injection h with h
      subst h
      exact a4
def W_OH_acres : List (Nat × Nat) := [(5, 999999), (6, 999999), (7, 999999), (8, 999999), (9, 999999), (10, 999999)]
theorem OH_acres_fr {L R : List (Nat × Nat)} (hL : Sub W_OH_acres L) (m : Mem) (x1 : Int32) (Rr : Int32 × Mem) (h : OH_acres m x1 = some Rr) : Frm L R m Rr.2 := by
  unfold OH_acres at h
  by_cases hb1 : (PH_hasLine m (gN m 13) x1) = 0
  · have h := ifp h hb1
    injection h with h
    subst h
    exact Frm.rf
  · have h := ifn h hb1
    obtain ⟨m2, hq2, h⟩ := bM_ex h
    have a3 : Frm L R m m2 := OH_survey_fr (subm hL rfl) m x1 _ hq2
    obtain ⟨v4, hq4, h⟩ := bI_ex h
    injection h with h
    subst h
    exact a3
def W_OH_border : List (Nat × Nat) := [(5, 999999), (6, 999999), (7, 999999), (8, 999999), (9, 999999), (10, 999999)]
theorem OH_border_fr {L R : List (Nat × Nat)} (hL : Sub W_OH_border L) (m : Mem) (x1 : Int32) (Rr : Int32 × Mem) (h : OH_border m x1 = some Rr) : Frm L R m Rr.2 := by
  unfold OH_border at h
  by_cases hb1 : (PH_hasLine m (gN m 13) x1) = 0
  · have h := ifp h hb1
    injection h with h
    subst h
    exact Frm.rf
  · have h := ifn h hb1
    obtain ⟨m2, hq2, h⟩ := bM_ex h
    have a3 : Frm L R m m2 := OH_survey_fr (subm hL rfl) m x1 _ hq2
    obtain ⟨v4, hq4, h⟩ := bI_ex h
    injection h with h
    subst h
    exact a3
def W_OH_hearPoint : List (Nat × Nat) := [(1, 2), (1, 3), (1, 4), (1, 5), (1, 6), (1, 7), (1, 8), (1, 10)]
theorem OH_hearPoint_fr {L R : List (Nat × Nat)} (hL : Sub W_OH_hearPoint L) (m : Mem) (x1 : Int32) (x2 : Int32) (Rr : Int32 × Mem) (h : OH_hearPoint m x1 x2 = some Rr) : Frm L R m Rr.2 := by
  unfold OH_hearPoint at h
  by_cases hb1 : x2 < 30
  · have h := ifp h hb1
    obtain ⟨v1, m2, hq2, h⟩ := bV_ex h
    have a3 : Frm L R m m2 := RD_readNumber_fr (subm hL rfl) m 0 20 _ hq2
    by_cases hb4 : v1 = 0
    · have h := ifp h hb4
      injection h with h
      subst h
      exact a3
    · have h := ifn h hb4
      obtain ⟨v4, hv4, h⟩ := letV_ex h
      obtain ⟨v5, m6, hq5, h⟩ := bV_ex h
      have a6 : Frm L R m m6 := a3.tr (RD_readNumber_fr (subm hL rfl) m2 0 20 _ hq5)
      by_cases hb7 : v5 = 0
      · have h := ifp h hb7
        injection h with h
        subst h
        exact a6
      · have h := ifn h hb7
        obtain ⟨v9, hq8, h⟩ := bI_ex h
        obtain ⟨v11, m12, hq9, h⟩ := bV_ex h
        have a10 : Frm L R m m12 := a6.tr (RD_readWord_fr (subm hL rfl) m6 7 9 _ hq9)
        by_cases hb11 : v11 = 0
        · have h := ifp h hb11
          injection h with h
          subst h
          exact a10
        · have h := ifn h hb11
          by_cases hb12 : (gI m12 1 6) = 9
          · have h := ifp h hb12
            by_cases hb13 : v9 < 2
            · have h := ifp h hb13
              injection h with h
              subst h
              exact a10
            · have h := ifn h hb13
              injection h with h
              subst h
              exact a10
          · have h := ifn h hb12
            by_cases hb14 : (v9 &&& 1) = ((gI m12 1 6) - 7)
            · have h := ifp h hb14
              injection h with h
              subst h
              exact a10
            · have h := ifn h hb14
              injection h with h
              subst h
              exact a10
  · have h := ifn h hb1
    obtain ⟨v14, m15, hq15, h⟩ := bV_ex h
    have a16 : Frm L R m m15 := RD_fail_fr (subm hL rfl) m 4 _ hq15
    obtain ⟨hk17, h⟩ := ift h
    injection h with h
    subst h
    exact a16
def W_OH_hearHay : List (Nat × Nat) := [(1, 2), (1, 3), (1, 4), (1, 5), (1, 6), (1, 7), (1, 8), (1, 10)]
theorem OH_hearHay_fr {L R : List (Nat × Nat)} (hL : Sub W_OH_hearHay L) (m : Mem) (x1 : Int32) (Rr : Int32 × Mem) (h : OH_hearHay m x1 = some Rr) : Frm L R m Rr.2 := by
  unfold OH_hearHay at h
  by_cases hb1 : (RD_isWord m 17 17) = 0
  · have h := ifp h hb1
    obtain ⟨v20, m21, hq2, h⟩ := bV_ex h
    have a3 : Frm L R m m21 := RD_fail_fr (subm hL rfl) m 1 _ hq2
    obtain ⟨hk4, h⟩ := ift h
    injection h with h
    subst h
    exact a3
  · have h := ifn h hb1
    obtain ⟨v2, hq5, h⟩ := bI_ex h
    by_cases hb6 : (PH_hasHay m (gN m 13) v2) = 0
    · have h := ifp h hb6
      obtain ⟨v16, m17, hq7, h⟩ := bV_ex h
      have a8 : Frm L R m m17 := RD_fail_fr (subm hL rfl) m 3 _ hq7
      obtain ⟨hk9, h⟩ := ift h
      injection h with h
      subst h
      exact a8
    · have h := ifn h hb6
      by_cases hb10 : x1 < 30
      · have h := ifp h hb10
        obtain ⟨v5, m6, hq11, h⟩ := bV_ex h
        have a12 : Frm L R m m6 := RD_readWord_fr (subm hL rfl) m 7 8 _ hq11
        by_cases hb13 : v5 = 0
        · have h := ifp h hb13
          injection h with h
          subst h
          exact a12
        · have h := ifn h hb13
          obtain ⟨v9, hq14, h⟩ := bI_ex h
          obtain ⟨hk15, h⟩ := ift h
          by_cases hb16 : (gI m6 6 (ixn v9)) = ((gI m6 1 6) - 7)
          · have h := ifp h hb16
            injection h with h
            subst h
            exact a12
          · have h := ifn h hb16
            injection h with h
            subst h
            exact a12
      · have h := ifn h hb10
        obtain ⟨v12, m13, hq17, h⟩ := bV_ex h
        have a18 : Frm L R m m13 := RD_fail_fr (subm hL rfl) m 4 _ hq17
        obtain ⟨hk19, h⟩ := ift h
        injection h with h
        subst h
        exact a18
def W_OH_hearClaims : List (Nat × Nat) := [(0, 16), (1, 2), (1, 3), (1, 4), (1, 5), (1, 6), (1, 7), (1, 8), (1, 10)]
theorem OH_hearClaims_J72_fr {L R : List (Nat × Nat)} (hL : Sub W_OH_hearClaims L) (kr : Mem → Int32 → Int32 → Int32 → Option (Int32 × Mem)) (kx : Mem → Option (Int32 × Mem)) (m : Mem) (x1 : Int32) (x2 : Int32) (x3 : Int32) (x4 : Int32) (s0 : Int32) (Rr : Int32 × Mem) (hr : ∀ (y0 : Mem) (y1 : Int32) (y2 : Int32) (y3 : Int32), kr y0 y1 y2 y3 = some Rr → Frm L R y0 Rr.2) (hx : ∀ (y0 : Mem), kx y0 = some Rr → Frm L R y0 Rr.2) (h : OH_hearClaims_J72 kr kx m x1 x2 x3 x4 s0 = some Rr) : Frm L R m Rr.2 := by
  unfold OH_hearClaims_J72 at h
  by_cases hb1 : (gI m 1 2) = 0
  · have h := ifp h hb1
    obtain ⟨v1, m2, hq2, h⟩ := bV_ex h
    have a3 : Frm L R m m2 := RD_readSemicolon_fr (subm hL rfl) m _ hq2
    by_cases hb4 : v1 = 0
    · have h := ifp h hb4
      injection h with h
      subst h
      exact a3
    · have h := ifn h hb4
      by_cases hb5 : s0 = 0
      · have h := ifp h hb5
        by_cases hb6 : x3 = (-1)
        · have h := ifp h hb6
          exact a3.tr (hr m2 (x2 + 1) x4 (x4 + 1) h)
        · have h := ifn h hb6
          exact a3.tr (hr m2 (x2 + 1) x3 (x4 + 1) h)
      · have h := ifn h hb5
        exact a3.tr (hr m2 x2 x3 (x4 + 1) h)
  · have h := ifn h hb1
    injection h with h
    subst h
    exact Frm.rf
theorem OH_hearClaims_L7_fr {L R : List (Nat × Nat)} (hL : Sub W_OH_hearClaims L) (x1 : Int32) (kx : Mem → Option (Int32 × Mem)) (Rr : Int32 × Mem) (hx : ∀ (y0 : Mem), kx y0 = some Rr → Frm L R y0 Rr.2) : ∀ (n : Nat) (m : Mem) (x2 : Int32) (x3 : Int32) (x4 : Int32), OH_hearClaims_L7 x1 kx n m x2 x3 x4 = some Rr → Frm L R m Rr.2 := by
  intro n
  induction n with
  | zero =>
    intro m x2 x3 x4 h
    exact absurd (show none = some Rr from h) (fun e => Option.some_ne_none Rr e.symm)
  | succ n ih =>
    intro m x2 x3 x4 h
    rw [OH_hearClaims_L7] at h
    by_cases hb1 : 300 < x4
    · have h := ifp h hb1
      exact hx m h
    · have h := ifn h hb1
      obtain ⟨v1, m2, hq2, h⟩ := bV_ex h
      have a3 : Frm L R m m2 := RD_isAtEnd_fr (subm hL rfl) m _ hq2
      by_cases hb4 : v1 = 0
      · have h := ifp h hb4
        by_cases hb5 : (RD_isWord m2 16 16) = 0
        · have h := ifp h hb5
          obtain ⟨v4, m5, hq6, h⟩ := bV_ex h
          have a7 : Frm L R m m5 := a3.tr (OH_hearHay_fr (subm hL rfl) m2 x4 _ hq6)
          exact a7.tr (OH_hearClaims_J72_fr hL _ _ m5 x1 x2 x3 x4 v4 _ ih hx h)
        · have h := ifn h hb5
          obtain ⟨v7, m8, hq8, h⟩ := bV_ex h
          have a9 : Frm L R m m8 := a3.tr (OH_hearPoint_fr (subm hL rfl) m2 x1 x4 _ hq8)
          exact a9.tr (OH_hearClaims_J72_fr hL _ _ m8 x1 x2 x3 x4 v7 _ ih hx h)
      · have h := ifn h hb4
        obtain ⟨v10, m11, hq10, h⟩ := bV_ex h
        have a11 : Frm L R m m11 := a3.tr (RD_closes_fr (subm hL rfl) m2 _ hq10)
        by_cases hb12 : v10 = 0
        · have h := ifp h hb12
          injection h with h
          subst h
          exact a11
        · have h := ifn h hb12
          obtain ⟨m13, hm13, h⟩ := letM_ex h
          have a13 : Frm L R m m13 := a11.tr (Frm.sI hm13 (hL _ _ rfl))
          injection h with h
          subst h
          exact a13
theorem OH_hearClaims_fr {L R : List (Nat × Nat)} (hL : Sub W_OH_hearClaims L) (m : Mem) (x1 : Int32) (Rr : Int32 × Mem) (h : OH_hearClaims m x1 = some Rr) : Frm L R m Rr.2 := by
  unfold OH_hearClaims at h
  refine OH_hearClaims_L7_fr hL x1 _ Rr ?_ FU m 0 (-1) 0 h
  intro m1 h
  injection h with h
  subst h
  exact Frm.rf
def W_OH_claims : List (Nat × Nat) := [(0, 15), (0, 16), (1, 1), (1, 2), (1, 3), (1, 4), (1, 5), (1, 6), (1, 7), (1, 8), (1, 9), (1, 10), (5, 999999), (6, 999999), (7, 999999), (8, 999999), (9, 999999), (10, 999999)]
theorem OH_claims_fr {L R : List (Nat × Nat)} (hL : Sub W_OH_claims L) (m : Mem) (x1 : Int32) (Rr : Int32 × Mem) (h : OH_claims m x1 = some Rr) : Frm L R m Rr.2 := by
  unfold OH_claims at h
  by_cases hb1 : (PH_hasLine m (gN m 13) x1) = 0
  · have h := ifp h hb1
    obtain ⟨m12, hm12, h⟩ := letM_ex h
    have a2 : Frm L R m m12 := Frm.sI hm12 (hL _ _ rfl)
    injection h with h
    subst h
    exact a2
  · have h := ifn h hb1
    obtain ⟨m2, hq3, h⟩ := bM_ex h
    have a4 : Frm L R m m2 := OH_survey_fr (subm hL rfl) m x1 _ hq3
    obtain ⟨m4, hq5, h⟩ := bM_ex h
    have a6 : Frm L R m m4 := a4.tr (RD_begin_fr (subm hL rfl) m2 300 _ hq5)
    obtain ⟨v6, m7, hq7, h⟩ := bV_ex h
    have a8 : Frm L R m m7 := a6.tr (OH_hearClaims_fr (subm hL rfl) m4 x1 _ hq7)
    obtain ⟨v9, m10, hq9, h⟩ := bV_ex h
    have a10 : Frm L R m m10 := a8.tr (OH_closeText_fr (subm hL rfl) m7 v6 _ hq9)
    injection h with h
    subst h
    exact a10
def W_OH_loads : List (Nat × Nat) := [(5, 999999), (6, 999999), (7, 999999), (8, 999999), (9, 999999), (10, 999999)]
theorem OH_loads_L32_fr {L R : List (Nat × Nat)} (hL : Sub W_OH_loads L) (x2 : Int32) (kx : Mem → Int32 → Option (Int32 × Mem)) (Rr : Int32 × Mem) (hx : ∀ (y0 : Mem) (y1 : Int32), kx y0 y1 = some Rr → Frm L R y0 Rr.2) : ∀ (n : Nat) (m : Mem) (x3 : Int32) (x4 : Int32), OH_loads_L32 x2 kx n m x3 x4 = some Rr → Frm L R m Rr.2 := by
  intro n
  induction n with
  | zero =>
    intro m x3 x4 h
    exact absurd (show none = some Rr from h) (fun e => Option.some_ne_none Rr e.symm)
  | succ n ih =>
    intro m x3 x4 h
    rw [OH_loads_L32] at h
    by_cases hb1 : (gI m (gN m 13) 7) ≤ x4
    · have h := ifp h hb1
      exact hx m x3 h
    · have h := ifn h hb1
      obtain ⟨v3, hq2, h⟩ := bI_ex h
      obtain ⟨hk3, h⟩ := ift h
      by_cases hb4 : (gI m 6 (ixn v3)) = x2
      · have h := ifp h hb4
        obtain ⟨hk5, h⟩ := ift h
        obtain ⟨v8, hv8, h⟩ := letV_ex h
        exact ih m v8 (x4 + 1) h
      · have h := ifn h hb4
        exact ih m x3 (x4 + 1) h
theorem OH_loads_fr {L R : List (Nat × Nat)} (hL : Sub W_OH_loads L) (m : Mem) (x1 : Int32) (x2 : Int32) (Rr : Int32 × Mem) (h : OH_loads m x1 x2 = some Rr) : Frm L R m Rr.2 := by
  unfold OH_loads at h
  by_cases hb1 : (PH_hasLine m (gN m 13) x1) = 0
  · have h := ifp h hb1
    injection h with h
    subst h
    exact Frm.rf
  · have h := ifn h hb1
    by_cases hb2 : x2 < 0
    · have h := ifp h hb2
      injection h with h
      subst h
      exact Frm.rf
    · have h := ifn h hb2
      by_cases hb3 : x2 ≤ 1
      · have h := ifp h hb3
        obtain ⟨m2, hq4, h⟩ := bM_ex h
        have a5 : Frm L R m m2 := OH_survey_fr (subm hL rfl) m x1 _ hq4
        refine a5.tr (OH_loads_L32_fr hL x2 _ Rr ?_ FU m2 0 0 h)
        intro m5 y4 h
        injection h with h
        subst h
        exact Frm.rf
      · have h := ifn h hb3
        injection h with h
        subst h
        exact Frm.rf
def W_OH_surveyForHeirs : List (Nat × Nat) := [(5, 999999), (6, 999999), (7, 999999), (8, 999999), (9, 999999), (10, 999999), (11, 999999), (12, 999999), (13, 999999), (14, 999999), (15, 999999), (16, 999999), (63, 1)]
theorem OH_surveyForHeirs_J87_fr {L R : List (Nat × Nat)} (hL : Sub W_OH_surveyForHeirs L) (m : Mem) (Rr : Mem) (h : OH_surveyForHeirs_J87 m = some Rr) : Frm L R m Rr := by
  unfold OH_surveyForHeirs_J87 at h
  obtain ⟨m3, hq1, h⟩ := bM_ex h
  have a2 : Frm L R m m3 := Frm.up (R := [(11, 6)]) (GR_survey_fr (L := L) (R := [(11, 6)]) (subm hL rfl) m 11 63 (gI m (gN m 13) 10) (gI m (gN m 13) 11) (Cov.at 0 rfl) _ hq1) (fa1 (Or.inr (CovL.of hL rfl)))
  injection h with h
  subst h
  exact a2
theorem OH_surveyForHeirs_J87b_fr {L R : List (Nat × Nat)} (hL : Sub W_OH_surveyForHeirs L) (m : Mem) (s1 : Nat) (Rr : Mem) (h : OH_surveyForHeirs_J87b m s1 = some Rr) : Frm L R m Rr := by
  unfold OH_surveyForHeirs_J87b at h
  obtain ⟨m3, hq1, h⟩ := bM_ex h
  have a2 : Frm L R m m3 := Frm.up (R := [(11, 6)]) (GR_survey_fr (L := L) (R := [(11, 6)]) (subm hL rfl) m 11 s1 (gI m (gN m 13) 10) (gI m (gN m 13) 11) (Cov.at 0 rfl) _ hq1) (fa1 (Or.inr (CovL.of hL rfl)))
  injection h with h
  subst h
  exact a2
theorem OH_surveyForHeirs_J39_fr {L R : List (Nat × Nat)} (hL : Sub W_OH_surveyForHeirs L) (m : Mem) (Rr : Mem) (h : OH_surveyForHeirs_J39 m = some Rr) : Frm L R m Rr := by
  unfold OH_surveyForHeirs_J39 at h
  obtain ⟨m3, hq1, h⟩ := bM_ex h
  have a2 : Frm L R m m3 := Frm.up (R := [(5, 6)]) (GR_survey_fr (L := L) (R := [(5, 6)]) (subm hL rfl) m 5 63 (gI m (gN m 13) 10) (gI m (gN m 13) 11) (Cov.at 0 rfl) _ hq1) (fa1 (Or.inr (CovL.of hL rfl)))
  by_cases hb3 : (PH_hasLine m3 (gN m3 13) 1) = 0
  · have h := ifp h hb3
    exact a2.tr (OH_surveyForHeirs_J87_fr hL m3 _ h)
  · have h := ifn h hb3
    obtain ⟨hk4, h⟩ := ift h
    exact a2.tr (OH_surveyForHeirs_J87b_fr hL m3 ((gN m3 13) + 2 + 3 * ixn 1) _ h)
theorem OH_surveyForHeirs_J39b_fr {L R : List (Nat × Nat)} (hL : Sub W_OH_surveyForHeirs L) (m : Mem) (s1 : Nat) (Rr : Mem) (h : OH_surveyForHeirs_J39b m s1 = some Rr) : Frm L R m Rr := by
  unfold OH_surveyForHeirs_J39b at h
  obtain ⟨m3, hq1, h⟩ := bM_ex h
  have a2 : Frm L R m m3 := Frm.up (R := [(5, 6)]) (GR_survey_fr (L := L) (R := [(5, 6)]) (subm hL rfl) m 5 s1 (gI m (gN m 13) 10) (gI m (gN m 13) 11) (Cov.at 0 rfl) _ hq1) (fa1 (Or.inr (CovL.of hL rfl)))
  by_cases hb3 : (PH_hasLine m3 (gN m3 13) 1) = 0
  · have h := ifp h hb3
    exact a2.tr (OH_surveyForHeirs_J87_fr hL m3 _ h)
  · have h := ifn h hb3
    obtain ⟨hk4, h⟩ := ift h
    exact a2.tr (OH_surveyForHeirs_J87b_fr hL m3 ((gN m3 13) + 2 + 3 * ixn 1) _ h)
theorem OH_surveyForHeirs_fr {L R : List (Nat × Nat)} (hL : Sub W_OH_surveyForHeirs L) (m : Mem) (Rr : Mem) (h : OH_surveyForHeirs m = some Rr) : Frm L R m Rr := by
  unfold OH_surveyForHeirs at h
  obtain ⟨m1, hm1, h⟩ := letM_ex h
  have a1 : Frm L R m m1 := Frm.sI hm1 (hL _ _ rfl)
  by_cases hb2 : (PH_hasLine m1 (gN m1 13) 0) = 0
  · have h := ifp h hb2
    exact a1.tr (OH_surveyForHeirs_J39_fr hL m1 _ h)
  · have h := ifn h hb2
    obtain ⟨hk3, h⟩ := ift h
    exact a1.tr (OH_surveyForHeirs_J39b_fr hL m1 ((gN m1 13) + 2 + 3 * ixn 0) _ h)
def W_OH_heir : List (Nat × Nat) := [(5, 999999), (6, 999999), (7, 999999), (8, 999999), (9, 999999), (10, 999999), (11, 999999), (12, 999999), (13, 999999), (14, 999999), (15, 999999), (16, 999999), (63, 1)]
theorem OH_heir_fr {L R : List (Nat × Nat)} (hL : Sub W_OH_heir L) (m : Mem) (x1 : Int32) (x2 : Int32) (Rr : Int32 × Mem) (h : OH_heir m x1 x2 = some Rr) : Frm L R m Rr.2 := by
  unfold OH_heir at h
  by_cases hb1 : (OH_isSquare x1 x2) = 0
  · have h := ifp h hb1
    injection h with h
    subst h
    exact Frm.rf
  · have h := ifn h hb1
    obtain ⟨m1, hq2, h⟩ := bM_ex h
    have a3 : Frm L R m m1 := OH_surveyForHeirs_fr (subm hL rfl) m _ hq2
    obtain ⟨v3, hq4, h⟩ := bI_ex h
    injection h with h
    subst h
    exact a3
def W_OH_estate : List (Nat × Nat) := [(5, 999999), (6, 999999), (7, 999999), (8, 999999), (9, 999999), (10, 999999), (11, 999999), (12, 999999), (13, 999999), (14, 999999), (15, 999999), (16, 999999), (63, 1)]
theorem OH_estate_L20_fr {L R : List (Nat × Nat)} (hL : Sub W_OH_estate L) (x1 : Int32) (kx : Mem → Int32 → Option (Int32 × Mem)) (Rr : Int32 × Mem) (hx : ∀ (y0 : Mem) (y1 : Int32), kx y0 y1 = some Rr → Frm L R y0 Rr.2) : ∀ (n : Nat) (m : Mem) (x2 : Int32) (x3 : Int32), OH_estate_L20 x1 kx n m x2 x3 = some Rr → Frm L R m Rr.2 := by
  intro n
  induction n with
  | zero =>
    intro m x2 x3 h
    exact absurd (show none = some Rr from h) (fun e => Option.some_ne_none Rr e.symm)
  | succ n ih =>
    intro m x2 x3 h
    rw [OH_estate_L20] at h
    by_cases hb1 : 400 ≤ x3
    · have h := ifp h hb1
      exact hx m x2 h
    · have h := ifn h hb1
      obtain ⟨v1, hq2, h⟩ := bI_ex h
      by_cases hb3 : v1 = x1
      · have h := ifp h hb3
        exact ih m (x2 + 1) (x3 + 1) h
      · have h := ifn h hb3
        exact ih m x2 (x3 + 1) h
theorem OH_estate_fr {L R : List (Nat × Nat)} (hL : Sub W_OH_estate L) (m : Mem) (x1 : Int32) (Rr : Int32 × Mem) (h : OH_estate m x1 = some Rr) : Frm L R m Rr.2 := by
  unfold OH_estate at h
  by_cases hb1 : x1 < 0
  · have h := ifp h hb1
    injection h with h
    subst h
    exact Frm.rf
  · have h := ifn h hb1
    by_cases hb2 : x1 ≤ 9
    · have h := ifp h hb2
      obtain ⟨m1, hq3, h⟩ := bM_ex h
      have a4 : Frm L R m m1 := OH_surveyForHeirs_fr (subm hL rfl) m _ hq3
      refine a4.tr (OH_estate_L20_fr hL x1 _ Rr ?_ FU m1 0 0 h)
      intro m4 y3 h
      injection h with h
      subst h
      exact Frm.rf
    · have h := ifn h hb2
      injection h with h
      subst h
      exact Frm.rf
def W_PC_flood : List (Nat × Nat) := [(18, 999999), (19, 999999)]
theorem PC_flood_L37_fr {L R : List (Nat × Nat)} (hL : Sub W_PC_flood L) (x1 : Nat) (x2 : Int32) (x5 : Int32) (kx : Mem → Int32 → Option (Int32 × Mem)) (Rr : Int32 × Mem) (hx : ∀ (y0 : Mem) (y1 : Int32), kx y0 y1 = some Rr → Frm L R y0 Rr.2) : ∀ (n : Nat) (m : Mem) (x4 : Int32) (x6 : Int32), PC_flood_L37 x1 x2 x5 kx n m x4 x6 = some Rr → Frm L R m Rr.2 := by
  intro n
  induction n with
  | zero =>
    intro m x4 x6 h
    exact absurd (show none = some Rr from h) (fun e => Option.some_ne_none Rr e.symm)
  | succ n ih =>
    intro m x4 x6 h
    rw [PC_flood_L37] at h
    by_cases hb1 : 3 < x6
    · have h := ifp h hb1
      exact hx m x4 h
    · have h := ifn h hb1
      obtain ⟨hk2, h⟩ := ift h
      obtain ⟨v2, hv2, h⟩ := letV_ex h
      by_cases hb3 : v2 < 0
      · have h := ifp h hb3
        exact ih m x4 (x6 + 1) h
      · have h := ifn h hb3
        obtain ⟨hk4, h⟩ := ift h
        by_cases hb5 : (gI m 18 (ixn v2)) = (-1)
        · have h := ifp h hb5
          obtain ⟨hk6, h⟩ := ift h
          by_cases hb7 : (gI m x1 (ixn v2)) = (gI m x1 (ixn x2))
          · have h := ifp h hb7
            by_cases hb8 : 400 ≤ x4
            · have h := ifp h hb8
              exact ih m x4 (x6 + 1) h
            · have h := ifn h hb8
              obtain ⟨m5, hm5, h⟩ := letM_ex h
              have a9 : Frm L R m m5 := Frm.sI hm5 (hL _ _ rfl)
              obtain ⟨hk10, h⟩ := ift h
              obtain ⟨m7, hm7, h⟩ := letM_ex h
              have a11 : Frm L R m m7 := a9.tr (Frm.sI hm7 (hL _ _ rfl))
              exact a11.tr (ih m7 (x4 + 1) (x6 + 1) h)
          · have h := ifn h hb7
            exact ih m x4 (x6 + 1) h
        · have h := ifn h hb5
          exact ih m x4 (x6 + 1) h
theorem PC_flood_L27_fr {L R : List (Nat × Nat)} (hL : Sub W_PC_flood L) (x1 : Nat) (x2 : Int32) (kx : Mem → Int32 → Option (Int32 × Mem)) (Rr : Int32 × Mem) (hx : ∀ (y0 : Mem) (y1 : Int32), kx y0 y1 = some Rr → Frm L R y0 Rr.2) : ∀ (n : Nat) (m : Mem) (x4 : Int32) (x5 : Int32), PC_flood_L27 x1 x2 kx n m x4 x5 = some Rr → Frm L R m Rr.2 := by
  intro n
  induction n with
  | zero =>
    intro m x4 x5 h
    exact absurd (show none = some Rr from h) (fun e => Option.some_ne_none Rr e.symm)
  | succ n ih =>
    intro m x4 x5 h
    rw [PC_flood_L27] at h
    by_cases hb1 : x4 ≤ x5
    · have h := ifp h hb1
      exact hx m x4 h
    · have h := ifn h hb1
      refine PC_flood_L37_fr hL x1 x2 x5 _ Rr ?_ FU m x4 0 h
      intro m2 y1 h
      exact ih m2 y1 (x5 + 1) h
theorem PC_flood_fr {L R : List (Nat × Nat)} (hL : Sub W_PC_flood L) (m : Mem) (x1 : Nat) (x2 : Int32) (x3 : Int32) (Rr : Int32 × Mem) (h : PC_flood m x1 x2 x3 = some Rr) : Frm L R m Rr.2 := by
  unfold PC_flood at h
  obtain ⟨hk1, h⟩ := ift h
  obtain ⟨m2, hm2, h⟩ := letM_ex h
  have a2 : Frm L R m m2 := Frm.sI hm2 (hL _ _ rfl)
  obtain ⟨hk3, h⟩ := ift h
  obtain ⟨m4, hm4, h⟩ := letM_ex h
  have a4 : Frm L R m m4 := a2.tr (Frm.sI hm4 (hL _ _ rfl))
  refine a4.tr (PC_flood_L27_fr hL x1 x2 _ Rr ?_ FU m4 (x3 + 1) x3 h)
  intro m6 y5 h
  injection h with h
  subst h
  exact Frm.rf
def W_PC_listBeside : List (Nat × Nat) := [(21, 999999), (23, 999999)]
theorem PC_listBeside_J36_fr {L R : List (Nat × Nat)} (hL : Sub W_PC_listBeside L) (kr : Mem → Int32 → Int32 → Option (Int32 × Mem)) (kx : Mem → Int32 → Option (Int32 × Mem)) (m : Mem) (x1 : Int32) (x2 : Int32) (x4 : Int32) (x5 : Int32) (s0 : Int32) (Rr : Int32 × Mem) (hr : ∀ (y0 : Mem) (y1 : Int32) (y2 : Int32), kr y0 y1 y2 = some Rr → Frm L R y0 Rr.2) (hx : ∀ (y0 : Mem) (y1 : Int32), kx y0 y1 = some Rr → Frm L R y0 Rr.2) (h : PC_listBeside_J36 kr kx m x1 x2 x4 x5 s0 = some Rr) : Frm L R m Rr.2 := by
  unfold PC_listBeside_J36 at h
  by_cases hb1 : s0 = x1
  · have h := ifp h hb1
    exact hr m x4 (x5 + 1) h
  · have h := ifn h hb1
    obtain ⟨hk2, h⟩ := ift h
    by_cases hb3 : (gI m 23 (ixn s0)) = x1
    · have h := ifp h hb3
      exact hr m x4 (x5 + 1) h
    · have h := ifn h hb3
      by_cases hb4 : 1600 ≤ x4
      · have h := ifp h hb4
        exact hr m x4 (x5 + 1) h
      · have h := ifn h hb4
        obtain ⟨m2, hm2, h⟩ := letM_ex h
        have a5 : Frm L R m m2 := Frm.sI hm2 (hL _ _ rfl)
        obtain ⟨hk6, h⟩ := ift h
        obtain ⟨m4, hm4, h⟩ := letM_ex h
        have a7 : Frm L R m m4 := a5.tr (Frm.sI hm4 (hL _ _ rfl))
        exact a7.tr (hr m4 (x4 + 1) (x5 + 1) h)
theorem PC_listBeside_L6_fr {L R : List (Nat × Nat)} (hL : Sub W_PC_listBeside L) (x1 : Int32) (x2 : Int32) (kx : Mem → Int32 → Option (Int32 × Mem)) (Rr : Int32 × Mem) (hx : ∀ (y0 : Mem) (y1 : Int32), kx y0 y1 = some Rr → Frm L R y0 Rr.2) : ∀ (n : Nat) (m : Mem) (x4 : Int32) (x5 : Int32), PC_listBeside_L6 x1 x2 kx n m x4 x5 = some Rr → Frm L R m Rr.2 := by
  intro n
  induction n with
  | zero =>
    intro m x4 x5 h
    exact absurd (show none = some Rr from h) (fun e => Option.some_ne_none Rr e.symm)
  | succ n ih =>
    intro m x4 x5 h
    rw [PC_listBeside_L6] at h
    by_cases hb1 : 3 < x5
    · have h := ifp h hb1
      exact hx m x4 h
    · have h := ifn h hb1
      obtain ⟨v1, hv1, h⟩ := letV_ex h
      by_cases hb2 : 0 ≤ v1
      · have h := ifp h hb2
        obtain ⟨hk3, h⟩ := ift h
        exact PC_listBeside_J36_fr hL _ _ m x1 x2 x4 x5 (gI m 18 (ixn v1)) _ ih hx h
      · have h := ifn h hb2
        exact PC_listBeside_J36_fr hL _ _ m x1 x2 x4 x5 x1 _ ih hx h
theorem PC_listBeside_fr {L R : List (Nat × Nat)} (hL : Sub W_PC_listBeside L) (m : Mem) (x1 : Int32) (x2 : Int32) (x3 : Int32) (Rr : Int32 × Mem) (h : PC_listBeside m x1 x2 x3 = some Rr) : Frm L R m Rr.2 := by
  unfold PC_listBeside at h
  refine PC_listBeside_L6_fr hL x1 x2 _ Rr ?_ FU m x3 0 h
  intro m2 y1 h
  injection h with h
  subst h
  exact Frm.rf
def W_PC_findBeside : List (Nat × Nat) := [(21, 999999), (22, 999999), (23, 999999)]
theorem PC_findBeside_L34_fr {L R : List (Nat × Nat)} (hL : Sub W_PC_findBeside L) (x2 : Int32) (kx : Mem → Int32 → Option Mem) (Rr : Mem) (hx : ∀ (y0 : Mem) (y1 : Int32), kx y0 y1 = some Rr → Frm L R y0 Rr) : ∀ (n : Nat) (m : Mem) (x1 : Int32) (x3 : Int32), PC_findBeside_L34 x2 kx n m x1 x3 = some Rr → Frm L R m Rr := by
  intro n
  induction n with
  | zero =>
    intro m x1 x3 h
    exact absurd (show none = some Rr from h) (fun e => Option.some_ne_none Rr e.symm)
  | succ n ih =>
    intro m x1 x3 h
    rw [PC_findBeside_L34] at h
    obtain ⟨hk1, h⟩ := ift h
    by_cases hb2 : (gI m 20 (ixn (x2 + 1))) ≤ x3
    · have h := ifp h hb2
      exact hx m x1 h
    · have h := ifn h hb2
      obtain ⟨hk3, h⟩ := ift h
      obtain ⟨v3, m4, hq4, h⟩ := bV_ex h
      have a5 : Frm L R m m4 := PC_listBeside_fr (subm hL rfl) m x2 (gI m 19 (ixn x3)) x1 _ hq4
      exact a5.tr (ih m4 v3 (x3 + 1) h)
theorem PC_findBeside_L12_fr {L R : List (Nat × Nat)} (hL : Sub W_PC_findBeside L) (kx : Mem → Int32 → Option Mem) (Rr : Mem) (hx : ∀ (y0 : Mem) (y1 : Int32), kx y0 y1 = some Rr → Frm L R y0 Rr) : ∀ (n : Nat) (m : Mem) (x1 : Int32) (x2 : Int32), PC_findBeside_L12 kx n m x1 x2 = some Rr → Frm L R m Rr := by
  intro n
  induction n with
  | zero =>
    intro m x1 x2 h
    exact absurd (show none = some Rr from h) (fun e => Option.some_ne_none Rr e.symm)
  | succ n ih =>
    intro m x1 x2 h
    rw [PC_findBeside_L12] at h
    by_cases hb1 : (gI m 17 0) ≤ x2
    · have h := ifp h hb1
      exact hx m x1 h
    · have h := ifn h hb1
      obtain ⟨hk2, h⟩ := ift h
      obtain ⟨m2, hm2, h⟩ := letM_ex h
      have a3 : Frm L R m m2 := Frm.sI hm2 (hL _ _ rfl)
      obtain ⟨v3, hv3, h⟩ := letV_ex h
      refine a3.tr (PC_findBeside_L34_fr hL x2 _ Rr ?_ FU m2 x1 v3 h)
      intro m5 y4 h
      exact ih m5 y4 (x2 + 1) h
theorem PC_findBeside_fr {L R : List (Nat × Nat)} (hL : Sub W_PC_findBeside L) (m : Mem) (Rr : Mem) (h : PC_findBeside m = some Rr) : Frm L R m Rr := by
  unfold PC_findBeside at h
  obtain ⟨m1, hq1, h⟩ := bM_ex h
  have a2 : Frm L R m m1 := Frm.up (R := [(23, 1)]) (JA_fill_fr (L := L) (R := [(23, 1)]) (subm hL rfl) m 23 (-1) (Cov.at 0 rfl) _ hq1) (fa1 (Or.inr (CovL.of hL rfl)))
  refine a2.tr (PC_findBeside_L12_fr hL _ Rr ?_ FU m1 0 0 h)
  intro m4 y3 h
  obtain ⟨hk4, h⟩ := ift h
  obtain ⟨m6, hm6, h⟩ := letM_ex h
  have a5 : Frm L R m4 m6 := Frm.sI hm6 (hL _ _ rfl)
  injection h with h
  subst h
  exact a5
def W_PC_find : List (Nat × Nat) := [(17, 0), (18, 999999), (19, 999999), (20, 999999), (21, 999999), (22, 999999), (23, 999999)]
theorem PC_find_L17_fr {L R : List (Nat × Nat)} (hL : Sub W_PC_find L) (x1 : Nat) (kx : Mem → Int32 → Option Mem) (Rr : Mem) (hx : ∀ (y0 : Mem) (y1 : Int32), kx y0 y1 = some Rr → Frm L R y0 Rr) : ∀ (n : Nat) (m : Mem) (x2 : Int32) (x3 : Int32), PC_find_L17 x1 kx n m x2 x3 = some Rr → Frm L R m Rr := by
  intro n
  induction n with
  | zero =>
    intro m x2 x3 h
    exact absurd (show none = some Rr from h) (fun e => Option.some_ne_none Rr e.symm)
  | succ n ih =>
    intro m x2 x3 h
    rw [PC_find_L17] at h
    by_cases hb1 : 400 ≤ x3
    · have h := ifp h hb1
      exact hx m x2 h
    · have h := ifn h hb1
      obtain ⟨hk2, h⟩ := ift h
      by_cases hb3 : (gI m 18 (ixn x3)) = (-1)
      · have h := ifp h hb3
        obtain ⟨hk4, h⟩ := ift h
        obtain ⟨m3, hm3, h⟩ := letM_ex h
        have a5 : Frm L R m m3 := Frm.sI hm3 (hL _ _ rfl)
        obtain ⟨v4, m5, hq6, h⟩ := bV_ex h
        have a7 : Frm L R m m5 := a5.tr (PC_flood_fr (subm hL rfl) m3 (x1 + 1) x3 x2 _ hq6)
        obtain ⟨m7, hm7, h⟩ := letM_ex h
        have a8 : Frm L R m m7 := a7.tr (Frm.sI hm7 (hL _ _ rfl))
        exact a8.tr (ih m7 v4 (x3 + 1) h)
      · have h := ifn h hb3
        exact ih m x2 (x3 + 1) h
theorem PC_find_fr {L R : List (Nat × Nat)} (hL : Sub W_PC_find L) (m : Mem) (x1 : Nat) (Rr : Mem) (h : PC_find m x1 = some Rr) : Frm L R m Rr := by
  unfold PC_find at h
  obtain ⟨m1, hq1, h⟩ := bM_ex h
  have a2 : Frm L R m m1 := Frm.up (R := [(18, 1)]) (JA_fill_fr (L := L) (R := [(18, 1)]) (subm hL rfl) m 18 (-1) (Cov.at 0 rfl) _ hq1) (fa1 (Or.inr (CovL.of hL rfl)))
  obtain ⟨m3, hm3, h⟩ := letM_ex h
  have a3 : Frm L R m m3 := a2.tr (Frm.sI hm3 (hL _ _ rfl))
  refine a3.tr (PC_find_L17_fr hL x1 _ Rr ?_ FU m3 0 0 h)
  intro m5 y4 h
  obtain ⟨hk5, h⟩ := ift h
  obtain ⟨m7, hm7, h⟩ := letM_ex h
  have a6 : Frm L R m5 m7 := Frm.sI hm7 (hL _ _ rfl)
  obtain ⟨m8, hq7, h⟩ := bM_ex h
  have a8 : Frm L R m5 m8 := a6.tr (PC_findBeside_fr (subm hL rfl) m7 _ hq7)
  injection h with h
  subst h
  exact a8
def W_OH_surveyPieces : List (Nat × Nat) := [(5, 999999), (6, 999999), (7, 999999), (8, 999999), (9, 999999), (10, 999999), (17, 0), (18, 999999), (19, 999999), (20, 999999), (21, 999999), (22, 999999), (23, 999999)]
theorem OH_surveyPieces_fr {L R : List (Nat × Nat)} (hL : Sub W_OH_surveyPieces L) (m : Mem) (x1 : Int32) (Rr : Mem) (h : OH_surveyPieces m x1 = some Rr) : Frm L R m Rr := by
  unfold OH_surveyPieces at h
  obtain ⟨m1, hq1, h⟩ := bM_ex h
  have a2 : Frm L R m m1 := OH_survey_fr (subm hL rfl) m x1 _ hq1
  obtain ⟨m3, hq3, h⟩ := bM_ex h
  have a4 : Frm L R m m3 := a2.tr (PC_find_fr (subm hL rfl) m1 5 _ hq3)
  injection h with h
  subst h
  exact a4
def W_OH_pieces : List (Nat × Nat) := [(5, 999999), (6, 999999), (7, 999999), (8, 999999), (9, 999999), (10, 999999), (17, 0), (18, 999999), (19, 999999), (20, 999999), (21, 999999), (22, 999999), (23, 999999)]
theorem OH_pieces_fr {L R : List (Nat × Nat)} (hL : Sub W_OH_pieces L) (m : Mem) (x1 : Int32) (Rr : Int32 × Mem) (h : OH_pieces m x1 = some Rr) : Frm L R m Rr.2 := by
  unfold OH_pieces at h
  by_cases hb1 : (PH_hasLine m (gN m 13) x1) = 0
  · have h := ifp h hb1
    injection h with h
    subst h
    exact Frm.rf
  · have h := ifn h hb1
    obtain ⟨m2, hq2, h⟩ := bM_ex h
    have a3 : Frm L R m m2 := OH_surveyPieces_fr (subm hL rfl) m x1 _ hq2
    injection h with h
    subst h
    exact a3
def W_OH_piece : List (Nat × Nat) := [(5, 999999), (6, 999999), (7, 999999), (8, 999999), (9, 999999), (10, 999999), (17, 0), (18, 999999), (19, 999999), (20, 999999), (21, 999999), (22, 999999), (23, 999999)]
theorem OH_piece_fr {L R : List (Nat × Nat)} (hL : Sub W_OH_piece L) (m : Mem) (x1 : Int32) (x2 : Int32) (x3 : Int32) (Rr : Int32 × Mem) (h : OH_piece m x1 x2 x3 = some Rr) : Frm L R m Rr.2 := by
  unfold OH_piece at h
  by_cases hb1 : (PH_hasLine m (gN m 13) x1) = 0
  · have h := ifp h hb1
    injection h with h
    subst h
    exact Frm.rf
  · have h := ifn h hb1
    obtain ⟨m2, hq2, h⟩ := bM_ex h
    have a3 : Frm L R m m2 := OH_surveyPieces_fr (subm hL rfl) m x1 _ hq2
    by_cases hb4 : x2 < 0
    · have h := ifp h hb4
      injection h with h
      subst h
      exact a3
    · have h := ifn h hb4
      by_cases hb5 : x2 < (gI m2 17 0)
      · have h := ifp h hb5
        obtain ⟨v4, hq6, h⟩ := bI_ex h
        by_cases hb7 : x3 = 0
        · have h := ifp h hb7
          obtain ⟨v6, hq8, h⟩ := bI_ex h
          injection h with h
          subst h
          exact a3
        · have h := ifn h hb7
          by_cases hb9 : x3 = 1
          · have h := ifp h hb9
            obtain ⟨hk10, h⟩ := ift h
            injection h with h
            subst h
            exact a3
          · have h := ifn h hb9
            by_cases hb11 : x3 = 2
            · have h := ifp h hb11
              injection h with h
              subst h
              exact a3
            · have h := ifn h hb11
              by_cases hb12 : x3 = 3
              · have h := ifp h hb12
                injection h with h
                subst h
                exact a3
              · have h := ifn h hb12
                by_cases hb13 : x3 = 4
                · have h := ifp h hb13
                  obtain ⟨v9, hq14, h⟩ := bI_ex h
                  injection h with h
                  subst h
                  exact a3
                · have h := ifn h hb13
                  injection h with h
                  subst h
                  exact a3
      · have h := ifn h hb5
        injection h with h
        subst h
        exact a3
def W_OH_pieceAt : List (Nat × Nat) := [(5, 999999), (6, 999999), (7, 999999), (8, 999999), (9, 999999), (10, 999999), (17, 0), (18, 999999), (19, 999999), (20, 999999), (21, 999999), (22, 999999), (23, 999999)]
theorem OH_pieceAt_fr {L R : List (Nat × Nat)} (hL : Sub W_OH_pieceAt L) (m : Mem) (x1 : Int32) (x2 : Int32) (x3 : Int32) (Rr : Int32 × Mem) (h : OH_pieceAt m x1 x2 x3 = some Rr) : Frm L R m Rr.2 := by
  unfold OH_pieceAt at h
  by_cases hb1 : (PH_hasLine m (gN m 13) x1) = 0
  · have h := ifp h hb1
    injection h with h
    subst h
    exact Frm.rf
  · have h := ifn h hb1
    by_cases hb2 : (OH_isSquare x2 x3) = 0
    · have h := ifp h hb2
      injection h with h
      subst h
      exact Frm.rf
    · have h := ifn h hb2
      obtain ⟨m2, hq3, h⟩ := bM_ex h
      have a4 : Frm L R m m2 := OH_surveyPieces_fr (subm hL rfl) m x1 _ hq3
      obtain ⟨hk5, h⟩ := ift h
      injection h with h
      subst h
      exact a4
def W_OH_crosses : List (Nat × Nat) := [(5, 999999), (6, 999999), (7, 999999), (8, 999999), (9, 999999), (10, 999999)]
theorem OH_crosses_fr {L R : List (Nat × Nat)} (hL : Sub W_OH_crosses L) (m : Mem) (x1 : Int32) (x2 : Int32) (x3 : Int32) (x4 : Int32) (Rr : Int32 × Mem) (h : OH_crosses m x1 x2 x3 x4 = some Rr) : Frm L R m Rr.2 := by
  unfold OH_crosses at h
  by_cases hb1 : (PH_hasLine m (gN m 13) x1) = 0
  · have h := ifp h hb1
    injection h with h
    subst h
    exact Frm.rf
  · have h := ifn h hb1
    by_cases hb2 : (OH_isSquare x2 x3) = 0
    · have h := ifp h hb2
      injection h with h
      subst h
      exact Frm.rf
    · have h := ifn h hb2
      obtain ⟨m2, hq3, h⟩ := bM_ex h
      have a4 : Frm L R m m2 := OH_survey_fr (subm hL rfl) m x1 _ hq3
      obtain ⟨v4, hq5, h⟩ := bI_ex h
      injection h with h
      subst h
      exact a4
def W_WK_followRow : List (Nat × Nat) := [(1, 2), (1, 3), (1, 4), (1, 5), (1, 6), (1, 7), (1, 8), (1, 10), (26, 1), (26, 2), (26, 3)]
theorem WK_followRow_L41_fr {L R : List (Nat × Nat)} (hL : Sub W_WK_followRow L) (x2 : Nat) (x3 : Int32) (x4 : Int32) (kx : Mem → Option (Int32 × Mem)) (Rr : Int32 × Mem) (hx : ∀ (y0 : Mem), kx y0 = some Rr → Frm L R y0 Rr.2) : ∀ (n : Nat) (m : Mem) (x5 : Int32), WK_followRow_L41 x2 x3 x4 kx n m x5 = some Rr → Frm L R m Rr.2 := by
  intro n
  induction n with
  | zero =>
    intro m x5 h
    exact absurd (show none = some Rr from h) (fun e => Option.some_ne_none Rr e.symm)
  | succ n ih =>
    intro m x5 h
    rw [WK_followRow_L41] at h
    by_cases hb1 : (gI m 1 7) ≤ x5
    · have h := ifp h hb1
      exact hx m h
    · have h := ifn h hb1
      obtain ⟨v1, hv1, h⟩ := letV_ex h
      by_cases hb2 : 0 ≤ v1
      · have h := ifp h hb2
        obtain ⟨v2, hq3, h⟩ := bI_ex h
        obtain ⟨m4, hm4, h⟩ := letM_ex h
        have a4 : Frm L R m m4 := Frm.sI hm4 (hL _ _ rfl)
        obtain ⟨m5, hm5, h⟩ := letM_ex h
        have a5 : Frm L R m m5 := a4.tr (Frm.sI hm5 (hL _ _ rfl))
        obtain ⟨m6, hm6, h⟩ := letM_ex h
        have a6 : Frm L R m m6 := a5.tr (Frm.sI hm6 (hL _ _ rfl))
        exact a6.tr (ih m6 (x5 + 1) h)
      · have h := ifn h hb2
        obtain ⟨v7, m8, hq7, h⟩ := bV_ex h
        have a8 : Frm L R m m8 := RD_failAt_fr (subm hL rfl) m 5 x3 _ hq7
        obtain ⟨hk9, h⟩ := ift h
        injection h with h
        subst h
        exact a8
theorem WK_followRow_fr {L R : List (Nat × Nat)} (hL : Sub W_WK_followRow L) (m : Mem) (x2 : Nat) (Rr : Int32 × Mem) (h : WK_followRow m x2 = some Rr) : Frm L R m Rr.2 := by
  unfold WK_followRow at h
  by_cases hb1 : (RD_isWord m 0 3) = 0
  · have h := ifp h hb1
    obtain ⟨v11, m12, hq2, h⟩ := bV_ex h
    have a3 : Frm L R m m12 := RD_fail_fr (subm hL rfl) m 1 _ hq2
    obtain ⟨hk4, h⟩ := ift h
    injection h with h
    subst h
    exact a3
  · have h := ifn h hb1
    obtain ⟨v1, hv1, h⟩ := letV_ex h
    obtain ⟨v2, hv2, h⟩ := letV_ex h
    obtain ⟨v3, m4, hq5, h⟩ := bV_ex h
    have a6 : Frm L R m m4 := RD_readNumber_fr (subm hL rfl) m 1 20 _ hq5
    by_cases hb7 : v3 = 0
    · have h := ifp h hb7
      injection h with h
      subst h
      exact a6
    · have h := ifn h hb7
      refine a6.tr (WK_followRow_L41_fr hL x2 v1 v2 _ Rr ?_ FU m4 0 h)
      intro m6 h
      obtain ⟨v7, m8, hq9, h⟩ := bV_ex h
      have a10 : Frm L R m6 m8 := RD_readSemicolon_fr (subm hL rfl) m6 _ hq9
      obtain ⟨hk11, h⟩ := ift h
      injection h with h
      subst h
      exact a10
def W_WK_follow : List (Nat × Nat) := [(1, 2), (1, 3), (1, 4), (1, 5), (1, 6), (1, 7), (1, 8), (1, 10), (26, 1), (26, 2), (26, 3), (27, 999999)]
theorem WK_follow_L18_fr {L R : List (Nat × Nat)} (hL : Sub W_WK_follow L) (x2 : Nat) (kx : Mem → Option (Int32 × Mem)) (Rr : Int32 × Mem) (hx : ∀ (y0 : Mem), kx y0 = some Rr → Frm L R y0 Rr.2) : ∀ (n : Nat) (m : Mem) (x4 : Int32), WK_follow_L18 x2 kx n m x4 = some Rr → Frm L R m Rr.2 := by
  intro n
  induction n with
  | zero =>
    intro m x4 h
    exact absurd (show none = some Rr from h) (fun e => Option.some_ne_none Rr e.symm)
  | succ n ih =>
    intro m x4 h
    rw [WK_follow_L18] at h
    by_cases hb1 : 300 < x4
    · have h := ifp h hb1
      exact hx m h
    · have h := ifn h hb1
      obtain ⟨v1, m2, hq2, h⟩ := bV_ex h
      have a3 : Frm L R m m2 := RD_isAtEnd_fr (subm hL rfl) m _ hq2
      by_cases hb4 : v1 = 0
      · have h := ifp h hb4
        obtain ⟨v4, m5, hq5, h⟩ := bV_ex h
        have a6 : Frm L R m m5 := a3.tr (WK_followRow_fr (subm hL rfl) m2 x2 _ hq5)
        by_cases hb7 : v4 = 0
        · have h := ifp h hb7
          injection h with h
          subst h
          exact a6
        · have h := ifn h hb7
          exact a6.tr (ih m5 (x4 + 1) h)
      · have h := ifn h hb4
        obtain ⟨v7, m8, hq8, h⟩ := bV_ex h
        have a9 : Frm L R m m8 := a3.tr (RD_closes_fr (subm hL rfl) m2 _ hq8)
        by_cases hb10 : v7 = 0
        · have h := ifp h hb10
          injection h with h
          subst h
          exact a9
        · have h := ifn h hb10
          obtain ⟨hk11, h⟩ := ift h
          obtain ⟨m11, hm11, h⟩ := letM_ex h
          have a12 : Frm L R m m11 := a9.tr (Frm.sI hm11 (hL _ _ rfl))
          obtain ⟨hk13, h⟩ := ift h
          obtain ⟨m13, hm13, h⟩ := letM_ex h
          have a14 : Frm L R m m13 := a12.tr (Frm.sI hm13 (hL _ _ rfl))
          obtain ⟨hk15, h⟩ := ift h
          obtain ⟨m15, hm15, h⟩ := letM_ex h
          have a16 : Frm L R m m15 := a14.tr (Frm.sI hm15 (hL _ _ rfl))
          injection h with h
          subst h
          exact a16
theorem WK_follow_fr {L R : List (Nat × Nat)} (hL : Sub W_WK_follow L) (m : Mem) (x2 : Nat) (x3 : Int32) (Rr : Int32 × Mem) (h : WK_follow m x2 x3 = some Rr) : Frm L R m Rr.2 := by
  unfold WK_follow at h
  obtain ⟨m1, hm1, h⟩ := letM_ex h
  have a1 : Frm L R m m1 := Frm.sI hm1 (hL _ _ rfl)
  obtain ⟨m2, hm2, h⟩ := letM_ex h
  have a2 : Frm L R m m2 := a1.tr (Frm.sI hm2 (hL _ _ rfl))
  obtain ⟨m3, hm3, h⟩ := letM_ex h
  have a3 : Frm L R m m3 := a2.tr (Frm.sI hm3 (hL _ _ rfl))
  refine a3.tr (WK_follow_L18_fr hL x2 _ Rr ?_ FU m3 0 h)
  intro m4 h
  injection h with h
  subst h
  exact Frm.rf
def W_OH_walk : List (Nat × Nat) := [(0, 15), (1, 1), (1, 2), (1, 3), (1, 4), (1, 5), (1, 6), (1, 7), (1, 8), (1, 9), (1, 10), (5, 999999), (6, 999999), (7, 999999), (8, 999999), (9, 999999), (10, 999999), (26, 1), (26, 2), (26, 3), (27, 999999)]
theorem OH_walk_fr {L R : List (Nat × Nat)} (hL : Sub W_OH_walk L) (m : Mem) (x1 : Int32) (x2 : Int32) (Rr : Int32 × Mem) (h : OH_walk m x1 x2 = some Rr) : Frm L R m Rr.2 := by
  unfold OH_walk at h
  by_cases hb1 : (PH_hasLine m (gN m 13) x1) = 0
  · have h := ifp h hb1
    obtain ⟨m2, hm2, h⟩ := letM_ex h
    have a2 : Frm L R m m2 := Frm.sI hm2 (hL _ _ rfl)
    injection h with h
    subst h
    exact a2
  · have h := ifn h hb1
    by_cases hb3 : (PH_hasHay m (gN m 13) x2) = 0
    · have h := ifp h hb3
      obtain ⟨m17, hm17, h⟩ := letM_ex h
      have a4 : Frm L R m m17 := Frm.sI hm17 (hL _ _ rfl)
      injection h with h
      subst h
      exact a4
    · have h := ifn h hb3
      obtain ⟨m4, hq5, h⟩ := bM_ex h
      have a6 : Frm L R m m4 := OH_survey_fr (subm hL rfl) m x1 _ hq5
      obtain ⟨m6, hq7, h⟩ := bM_ex h
      have a8 : Frm L R m m6 := a6.tr (RD_begin_fr (subm hL rfl) m4 300 _ hq7)
      obtain ⟨v9, hq9, h⟩ := bI_ex h
      obtain ⟨v11, m12, hq10, h⟩ := bV_ex h
      have a11 : Frm L R m m12 := a8.tr (WK_follow_fr (subm hL rfl) m6 5 v9 _ hq10)
      obtain ⟨v14, m15, hq12, h⟩ := bV_ex h
      have a13 : Frm L R m m15 := a11.tr (OH_closeText_fr (subm hL rfl) m12 v11 _ hq12)
      injection h with h
      subst h
      exact a13
def W_WK_offer : List (Nat × Nat) := [(26, 8), (28, 999999), (29, 999999), (30, 999999)]
theorem WK_offer_J74_fr {L R : List (Nat × Nat)} (hL : Sub W_WK_offer L) (m : Mem) (x1 : Int32) (s1 : Int32) (Rr : Mem) (h : WK_offer_J74 m x1 s1 = some Rr) : Frm L R m Rr := by
  unfold WK_offer_J74 at h
  obtain ⟨hk1, h⟩ := ift h
  obtain ⟨m2, hm2, h⟩ := letM_ex h
  have a2 : Frm L R m m2 := Frm.sI hm2 (hL _ _ rfl)
  obtain ⟨m3, hm3, h⟩ := letM_ex h
  have a3 : Frm L R m m3 := a2.tr (Frm.sI hm3 (hL _ _ rfl))
  injection h with h
  subst h
  exact a3
theorem WK_offer_fr {L R : List (Nat × Nat)} (hL : Sub W_WK_offer L) (m : Mem) (x1 : Int32) (x2 : Int32) (Rr : Mem) (h : WK_offer m x1 x2 = some Rr) : Frm L R m Rr := by
  unfold WK_offer at h
  obtain ⟨hk1, h⟩ := ift h
  by_cases hb2 : x2 < (gI m 28 (ixn x1))
  · have h := ifp h hb2
    obtain ⟨m2, hm2, h⟩ := letM_ex h
    have a3 : Frm L R m m2 := Frm.sI hm2 (hL _ _ rfl)
    by_cases hb4 : (gI m2 30 (ixn x1)) = 0
    · have h := ifp h hb4
      by_cases hb5 : 400 ≤ (gI m2 26 8)
      · have h := ifp h hb5
        injection h with h
        subst h
        exact a3
      · have h := ifn h hb5
        obtain ⟨m3, hm3, h⟩ := letM_ex h
        have a6 : Frm L R m m3 := a3.tr (Frm.sI hm3 (hL _ _ rfl))
        obtain ⟨v4, hv4, h⟩ := letV_ex h
        by_cases hb7 : 400 ≤ v4
        · have h := ifp h hb7
          exact a6.tr (WK_offer_J74_fr hL m3 x1 (v4 - 400) _ h)
        · have h := ifn h hb7
          exact a6.tr (WK_offer_J74_fr hL m3 x1 v4 _ h)
    · have h := ifn h hb4
      injection h with h
      subst h
      exact a3
  · have h := ifn h hb2
    injection h with h
    subst h
    exact Frm.rf
def W_WK_offerNeighbours : List (Nat × Nat) := [(26, 8), (28, 999999), (29, 999999), (30, 999999)]
theorem WK_offerNeighbours_L2_fr {L R : List (Nat × Nat)} (hL : Sub W_WK_offerNeighbours L) (x1 : Nat) (x2 : Int32) (kx : Mem → Option Mem) (Rr : Mem) (hx : ∀ (y0 : Mem), kx y0 = some Rr → Frm L R y0 Rr) : ∀ (n : Nat) (m : Mem) (x3 : Int32), WK_offerNeighbours_L2 x1 x2 kx n m x3 = some Rr → Frm L R m Rr := by
  intro n
  induction n with
  | zero =>
    intro m x3 h
    exact absurd (show none = some Rr from h) (fun e => Option.some_ne_none Rr e.symm)
  | succ n ih =>
    intro m x3 h
    rw [WK_offerNeighbours_L2] at h
    by_cases hb1 : 3 < x3
    · have h := ifp h hb1
      exact hx m h
    · have h := ifn h hb1
      obtain ⟨v1, hv1, h⟩ := letV_ex h
      by_cases hb2 : v1 < 0
      · have h := ifp h hb2
        exact ih m (x3 + 1) h
      · have h := ifn h hb2
        obtain ⟨hk3, h⟩ := ift h
        obtain ⟨v3, hq4, h⟩ := bI_ex h
        obtain ⟨m5, hq5, h⟩ := bM_ex h
        have a6 : Frm L R m m5 := WK_offer_fr (subm hL rfl) m v1 (((gI m 28 (ixn x2)) + (v3 * 400)) + 1) _ hq5
        exact a6.tr (ih m5 (x3 + 1) h)
theorem WK_offerNeighbours_fr {L R : List (Nat × Nat)} (hL : Sub W_WK_offerNeighbours L) (m : Mem) (x1 : Nat) (x2 : Int32) (Rr : Mem) (h : WK_offerNeighbours m x1 x2 = some Rr) : Frm L R m Rr := by
  unfold WK_offerNeighbours at h
  refine WK_offerNeighbours_L2_fr hL x1 x2 _ Rr ?_ FU m 0 h
  intro m1 h
  injection h with h
  subst h
  exact Frm.rf
def W_WK_cheapest : List (Nat × Nat) := [(26, 7), (26, 8), (28, 999999), (29, 999999), (30, 999999)]
theorem WK_cheapest_J84_fr {L R : List (Nat × Nat)} (hL : Sub W_WK_cheapest L) (kr : Mem → Int32 → Option (Int32 × Mem)) (kx : Mem → Option (Int32 × Mem)) (m : Mem) (x1 : Nat) (x3 : Int32) (x4 : Int32) (x5 : Int32) (s1 : Int32) (Rr : Int32 × Mem) (hr : ∀ (y0 : Mem) (y1 : Int32), kr y0 y1 = some Rr → Frm L R y0 Rr.2) (hx : ∀ (y0 : Mem), kx y0 = some Rr → Frm L R y0 Rr.2) (h : WK_cheapest_J84 kr kx m x1 x3 x4 x5 s1 = some Rr) : Frm L R m Rr.2 := by
  unfold WK_cheapest_J84 at h
  obtain ⟨m1, hm1, h⟩ := letM_ex h
  have a1 : Frm L R m m1 := Frm.sI hm1 (hL _ _ rfl)
  obtain ⟨m2, hm2, h⟩ := letM_ex h
  have a2 : Frm L R m m2 := a1.tr (Frm.sI hm2 (hL _ _ rfl))
  obtain ⟨hk3, h⟩ := ift h
  obtain ⟨m4, hm4, h⟩ := letM_ex h
  have a4 : Frm L R m m4 := a2.tr (Frm.sI hm4 (hL _ _ rfl))
  obtain ⟨m5, hq5, h⟩ := bM_ex h
  have a6 : Frm L R m m5 := a4.tr (WK_offerNeighbours_fr (subm hL rfl) m4 x1 x5 _ hq5)
  exact a6.tr (hr m5 (x4 + 1) h)
theorem WK_cheapest_L36_fr {L R : List (Nat × Nat)} (hL : Sub W_WK_cheapest L) (x1 : Nat) (x3 : Int32) (kx : Mem → Option (Int32 × Mem)) (Rr : Int32 × Mem) (hx : ∀ (y0 : Mem), kx y0 = some Rr → Frm L R y0 Rr.2) : ∀ (n : Nat) (m : Mem) (x4 : Int32), WK_cheapest_L36 x1 x3 kx n m x4 = some Rr → Frm L R m Rr.2 := by
  intro n
  induction n with
  | zero =>
    intro m x4 h
    exact absurd (show none = some Rr from h) (fun e => Option.some_ne_none Rr e.symm)
  | succ n ih =>
    intro m x4 h
    rw [WK_cheapest_L36] at h
    by_cases hb1 : 1000000 ≤ x4
    · have h := ifp h hb1
      exact hx m h
    · have h := ifn h hb1
      by_cases hb2 : (gI m 26 8) ≤ 0
      · have h := ifp h hb2
        exact hx m h
      · have h := ifn h hb2
        obtain ⟨hk3, h⟩ := ift h
        obtain ⟨v2, hv2, h⟩ := letV_ex h
        by_cases hb4 : 400 ≤ ((gI m 26 7) + 1)
        · have h := ifp h hb4
          exact WK_cheapest_J84_fr hL _ _ m x1 x3 x4 v2 0 _ ih hx h
        · have h := ifn h hb4
          exact WK_cheapest_J84_fr hL _ _ m x1 x3 x4 v2 ((gI m 26 7) + 1) _ ih hx h
theorem WK_cheapest_fr {L R : List (Nat × Nat)} (hL : Sub W_WK_cheapest L) (m : Mem) (x1 : Nat) (x2 : Int32) (x3 : Int32) (Rr : Int32 × Mem) (h : WK_cheapest m x1 x2 x3 = some Rr) : Frm L R m Rr.2 := by
  unfold WK_cheapest at h
  obtain ⟨m1, hq1, h⟩ := bM_ex h
  have a2 : Frm L R m m1 := Frm.up (R := [(28, 1)]) (JA_fill_fr (L := L) (R := [(28, 1)]) (subm hL rfl) m 28 100000000 (Cov.at 0 rfl) _ hq1) (fa1 (Or.inr (CovL.of hL rfl)))
  obtain ⟨m3, hq3, h⟩ := bM_ex h
  have a4 : Frm L R m m3 := a2.tr (Frm.up (R := [(30, 1)]) (JA_fill_fr (L := L) (R := [(30, 1)]) (subm hL rfl) m1 30 0 (Cov.at 0 rfl) _ hq3) (fa1 (Or.inr (CovL.of hL rfl))))
  obtain ⟨m5, hm5, h⟩ := letM_ex h
  have a5 : Frm L R m m5 := a4.tr (Frm.sI hm5 (hL _ _ rfl))
  obtain ⟨m6, hm6, h⟩ := letM_ex h
  have a6 : Frm L R m m6 := a5.tr (Frm.sI hm6 (hL _ _ rfl))
  obtain ⟨m7, hq7, h⟩ := bM_ex h
  have a8 : Frm L R m m7 := a6.tr (WK_offer_fr (subm hL rfl) m6 x2 0 _ hq7)
  refine a8.tr (WK_cheapest_L36_fr hL x1 x3 _ Rr ?_ FU m7 0 h)
  intro m9 h
  obtain ⟨hk10, h⟩ := ift h
  injection h with h
  subst h
  exact Frm.rf
def W_OH_least : List (Nat × Nat) := [(5, 999999), (6, 999999), (7, 999999), (8, 999999), (9, 999999), (10, 999999), (26, 7), (26, 8), (28, 999999), (29, 999999), (30, 999999)]
theorem OH_least_fr {L R : List (Nat × Nat)} (hL : Sub W_OH_least L) (m : Mem) (x1 : Int32) (x2 : Int32) (x3 : Int32) (Rr : Int32 × Mem) (h : OH_least m x1 x2 x3 = some Rr) : Frm L R m Rr.2 := by
  unfold OH_least at h
  by_cases hb1 : (PH_hasLine m (gN m 13) x1) = 0
  · have h := ifp h hb1
    injection h with h
    subst h
    exact Frm.rf
  · have h := ifn h hb1
    by_cases hb2 : (PH_hasHay m (gN m 13) x2) = 0
    · have h := ifp h hb2
      injection h with h
      subst h
      exact Frm.rf
    · have h := ifn h hb2
      by_cases hb3 : x3 < 0
      · have h := ifp h hb3
        injection h with h
        subst h
        exact Frm.rf
      · have h := ifn h hb3
        by_cases hb4 : x3 ≤ 1
        · have h := ifp h hb4
          obtain ⟨m3, hq5, h⟩ := bM_ex h
          have a6 : Frm L R m m3 := OH_survey_fr (subm hL rfl) m x1 _ hq5
          obtain ⟨v6, hq7, h⟩ := bI_ex h
          obtain ⟨v9, m10, hq8, h⟩ := bV_ex h
          have a9 : Frm L R m m10 := a6.tr (WK_cheapest_fr (subm hL rfl) m3 5 v6 (PH_churchSquare m3 (gN m3 13)) _ hq8)
          by_cases hb10 : x3 = 0
          · have h := ifp h hb10
            injection h with h
            subst h
            exact a9
          · have h := ifn h hb10
            injection h with h
            subst h
            exact a9
        · have h := ifn h hb4
          injection h with h
          subst h
          exact Frm.rf
def W_PC_beginOpenings : List (Nat × Nat) := [(17, 8), (17, 9)]
theorem PC_beginOpenings_fr {L R : List (Nat × Nat)} (hL : Sub W_PC_beginOpenings L) (m : Mem) (x1 : Int32) (Rr : Mem) (h : PC_beginOpenings m x1 = some Rr) : Frm L R m Rr := by
  unfold PC_beginOpenings at h
  obtain ⟨hk1, h⟩ := ift h
  obtain ⟨m2, hm2, h⟩ := letM_ex h
  have a2 : Frm L R m m2 := Frm.sI hm2 (hL _ _ rfl)
  obtain ⟨m3, hm3, h⟩ := letM_ex h
  have a3 : Frm L R m m3 := a2.tr (Frm.sI hm3 (hL _ _ rfl))
  injection h with h
  subst h
  exact a3
def W_PC_addEnd : List (Nat × Nat) := [(17, 8), (24, 999999)]
theorem PC_addEnd_L24_fr {L R : List (Nat × Nat)} (hL : Sub W_PC_addEnd L) (x2 : Int32) (kx : Mem → Int32 → Option Mem) (Rr : Mem) (hx : ∀ (y0 : Mem) (y1 : Int32), kx y0 y1 = some Rr → Frm L R y0 Rr) : ∀ (n : Nat) (m : Mem) (x3 : Int32) (x4 : Int32), PC_addEnd_L24 x2 kx n m x3 x4 = some Rr → Frm L R m Rr := by
  intro n
  induction n with
  | zero =>
    intro m x3 x4 h
    exact absurd (show none = some Rr from h) (fun e => Option.some_ne_none Rr e.symm)
  | succ n ih =>
    intro m x3 x4 h
    rw [PC_addEnd_L24] at h
    by_cases hb1 : (gI m 17 8) ≤ x4
    · have h := ifp h hb1
      exact hx m x3 h
    · have h := ifn h hb1
      by_cases hb2 : x3 = 0
      · have h := ifp h hb2
        obtain ⟨hk3, h⟩ := ift h
        by_cases hb4 : (gI m 24 (ixn x4)) = x2
        · have h := ifp h hb4
          exact ih m 1 (x4 + 1) h
        · have h := ifn h hb4
          exact ih m 0 (x4 + 1) h
      · have h := ifn h hb2
        exact ih m 1 (x4 + 1) h
theorem PC_addEnd_J20_fr {L R : List (Nat × Nat)} (hL : Sub W_PC_addEnd L) (m : Mem) (x2 : Int32) (s0 : Int32) (Rr : Mem) (h : PC_addEnd_J20 m x2 s0 = some Rr) : Frm L R m Rr := by
  unfold PC_addEnd_J20 at h
  refine PC_addEnd_L24_fr hL x2 _ Rr ?_ FU m s0 0 h
  intro m2 y1 h
  by_cases hb2 : y1 = 0
  · have h := ifp h hb2
    by_cases hb3 : 6 ≤ (gI m2 17 8)
    · have h := ifp h hb3
      injection h with h
      subst h
      exact Frm.rf
    · have h := ifn h hb3
      obtain ⟨hk4, h⟩ := ift h
      obtain ⟨m4, hm4, h⟩ := letM_ex h
      have a5 : Frm L R m2 m4 := Frm.sI hm4 (hL _ _ rfl)
      obtain ⟨m5, hm5, h⟩ := letM_ex h
      have a6 : Frm L R m2 m5 := a5.tr (Frm.sI hm5 (hL _ _ rfl))
      injection h with h
      subst h
      exact a6
  · have h := ifn h hb2
    injection h with h
    subst h
    exact Frm.rf
theorem PC_addEnd_fr {L R : List (Nat × Nat)} (hL : Sub W_PC_addEnd L) (m : Mem) (x1 : Int32) (Rr : Mem) (h : PC_addEnd m x1 = some Rr) : Frm L R m Rr := by
  unfold PC_addEnd at h
  obtain ⟨hk1, h⟩ := ift h
  obtain ⟨v2, hv2, h⟩ := letV_ex h
  by_cases hb2 : v2 = (gI m 17 9)
  · have h := ifp h hb2
    exact PC_addEnd_J20_fr hL m v2 1 _ h
  · have h := ifn h hb2
    exact PC_addEnd_J20_fr hL m v2 0 _ h
def W_PC_joinParts : List (Nat × Nat) := [(25, 999999)]
theorem PC_joinParts_L3_fr {L R : List (Nat × Nat)} (hL : Sub W_PC_joinParts L) (x1 : Int32) (x2 : Int32) (x3 : Int32) (kx : Mem → Option Mem) (Rr : Mem) (hx : ∀ (y0 : Mem), kx y0 = some Rr → Frm L R y0 Rr) : ∀ (n : Nat) (m : Mem) (x4 : Int32), PC_joinParts_L3 x1 x2 x3 kx n m x4 = some Rr → Frm L R m Rr := by
  intro n
  induction n with
  | zero =>
    intro m x4 h
    exact absurd (show none = some Rr from h) (fun e => Option.some_ne_none Rr e.symm)
  | succ n ih =>
    intro m x4 h
    rw [PC_joinParts_L3] at h
    by_cases hb1 : (gI m 17 0) ≤ x4
    · have h := ifp h hb1
      exact hx m h
    · have h := ifn h hb1
      obtain ⟨hk2, h⟩ := ift h
      obtain ⟨hk3, h⟩ := ift h
      obtain ⟨hk4, h⟩ := ift h
      obtain ⟨m4, hm4, h⟩ := letM_ex h
      have a5 : Frm L R m m4 := Frm.sI hm4 (hL _ _ rfl)
      exact a5.tr (ih m4 (x4 + 1) h)
theorem PC_joinParts_fr {L R : List (Nat × Nat)} (hL : Sub W_PC_joinParts L) (m : Mem) (x1 : Int32) (x2 : Int32) (x3 : Int32) (Rr : Mem) (h : PC_joinParts m x1 x2 x3 = some Rr) : Frm L R m Rr := by
  unfold PC_joinParts at h
  refine PC_joinParts_L3_fr hL x1 x2 x3 _ Rr ?_ FU m 0 h
  intro m1 h
  injection h with h
  subst h
  exact Frm.rf
def W_PC_joinSets : List (Nat × Nat) := [(25, 999999)]
theorem PC_joinSets_L8_fr {L R : List (Nat × Nat)} (hL : Sub W_PC_joinSets L) (x1 : Int32) (x2 : Int32) (kx : Mem → Option Mem) (Rr : Mem) (hx : ∀ (y0 : Mem), kx y0 = some Rr → Frm L R y0 Rr) : ∀ (n : Nat) (m : Mem) (x3 : Int32), PC_joinSets_L8 x1 x2 kx n m x3 = some Rr → Frm L R m Rr := by
  intro n
  induction n with
  | zero =>
    intro m x3 h
    exact absurd (show none = some Rr from h) (fun e => Option.some_ne_none Rr e.symm)
  | succ n ih =>
    intro m x3 h
    rw [PC_joinSets_L8] at h
    by_cases hb1 : (gI m 17 0) ≤ x3
    · have h := ifp h hb1
      exact hx m h
    · have h := ifn h hb1
      obtain ⟨hk2, h⟩ := ift h
      obtain ⟨m2, hm2, h⟩ := letM_ex h
      have a3 : Frm L R m m2 := Frm.sI hm2 (hL _ _ rfl)
      exact a3.tr (ih m2 (x3 + 1) h)
theorem PC_joinSets_L34_fr {L R : List (Nat × Nat)} (hL : Sub W_PC_joinSets L) (x1 : Int32) (x2 : Int32) (kx : Mem → Option Mem) (Rr : Mem) (hx : ∀ (y0 : Mem), kx y0 = some Rr → Frm L R y0 Rr) : ∀ (n : Nat) (m : Mem) (x3 : Int32), PC_joinSets_L34 x1 x2 kx n m x3 = some Rr → Frm L R m Rr := by
  intro n
  induction n with
  | zero =>
    intro m x3 h
    exact absurd (show none = some Rr from h) (fun e => Option.some_ne_none Rr e.symm)
  | succ n ih =>
    intro m x3 h
    rw [PC_joinSets_L34] at h
    by_cases hb1 : (gI m 17 8) ≤ x3
    · have h := ifp h hb1
      exact hx m h
    · have h := ifn h hb1
      by_cases hb2 : x1 = (jshl 1 x3)
      · have h := ifp h hb2
        obtain ⟨hk3, h⟩ := ift h
        obtain ⟨hk4, h⟩ := ift h
        obtain ⟨m3, hm3, h⟩ := letM_ex h
        have a5 : Frm L R m m3 := Frm.sI hm3 (hL _ _ rfl)
        exact a5.tr (ih m3 (x3 + 1) h)
      · have h := ifn h hb2
        exact ih m (x3 + 1) h
theorem PC_joinSets_L71_fr {L R : List (Nat × Nat)} (hL : Sub W_PC_joinSets L) (x1 : Int32) (x2 : Int32) (kx : Mem → Option Mem) (Rr : Mem) (hx : ∀ (y0 : Mem), kx y0 = some Rr → Frm L R y0 Rr) : ∀ (n : Nat) (m : Mem) (x3 : Int32), PC_joinSets_L71 x1 x2 kx n m x3 = some Rr → Frm L R m Rr := by
  intro n
  induction n with
  | zero =>
    intro m x3 h
    exact absurd (show none = some Rr from h) (fun e => Option.some_ne_none Rr e.symm)
  | succ n ih =>
    intro m x3 h
    rw [PC_joinSets_L71] at h
    by_cases hb1 : x1 ≤ x3
    · have h := ifp h hb1
      exact hx m h
    · have h := ifn h hb1
      by_cases hb2 : (x3 &&& x1) = x3
      · have h := ifp h hb2
        by_cases hb3 : (x1 - x3) ≤ x3
        · have h := ifp h hb3
          exact ih m (x3 + 1) h
        · have h := ifn h hb3
          obtain ⟨m1, hq4, h⟩ := bM_ex h
          have a5 : Frm L R m m1 := PC_joinParts_fr (subm hL rfl) m x2 (x3 * 400) ((x1 - x3) * 400) _ hq4
          exact a5.tr (ih m1 (x3 + 1) h)
      · have h := ifn h hb2
        exact ih m (x3 + 1) h
theorem PC_joinSets_fr {L R : List (Nat × Nat)} (hL : Sub W_PC_joinSets L) (m : Mem) (x1 : Int32) (Rr : Mem) (h : PC_joinSets m x1 = some Rr) : Frm L R m Rr := by
  unfold PC_joinSets at h
  obtain ⟨v1, hv1, h⟩ := letV_ex h
  refine PC_joinSets_L8_fr hL x1 v1 _ Rr ?_ FU m 0 h
  intro m2 h
  refine PC_joinSets_L34_fr hL x1 v1 _ Rr ?_ FU m2 0 h
  intro m3 h
  refine PC_joinSets_L71_fr hL x1 v1 _ Rr ?_ FU m3 1 h
  intro m4 h
  injection h with h
  subst h
  exact Frm.rf
def W_PC_openFrom : List (Nat × Nat) := [(25, 999999)]
theorem PC_openFrom_L8_fr {L R : List (Nat × Nat)} (hL : Sub W_PC_openFrom L) (x1 : Int32) (x2 : Int32) (x3 : Int32) (kx : Mem → Option Mem) (Rr : Mem) (hx : ∀ (y0 : Mem), kx y0 = some Rr → Frm L R y0 Rr) : ∀ (n : Nat) (m : Mem) (x4 : Int32), PC_openFrom_L8 x1 x2 x3 kx n m x4 = some Rr → Frm L R m Rr := by
  intro n
  induction n with
  | zero =>
    intro m x4 h
    exact absurd (show none = some Rr from h) (fun e => Option.some_ne_none Rr e.symm)
  | succ n ih =>
    intro m x4 h
    rw [PC_openFrom_L8] at h
    obtain ⟨hk1, h⟩ := ift h
    by_cases hb2 : (gI m 22 (ixn (x2 + 1))) ≤ x4
    · have h := ifp h hb2
      exact hx m h
    · have h := ifn h hb2
      obtain ⟨hk3, h⟩ := ift h
      obtain ⟨v3, hv3, h⟩ := letV_ex h
      obtain ⟨hk4, h⟩ := ift h
      obtain ⟨m5, hm5, h⟩ := letM_ex h
      have a5 : Frm L R m m5 := Frm.sI hm5 (hL _ _ rfl)
      exact a5.tr (ih m5 (x4 + 1) h)
theorem PC_openFrom_fr {L R : List (Nat × Nat)} (hL : Sub W_PC_openFrom L) (m : Mem) (x1 : Int32) (x2 : Int32) (x3 : Int32) (Rr : Mem) (h : PC_openFrom m x1 x2 x3 = some Rr) : Frm L R m Rr := by
  unfold PC_openFrom at h
  obtain ⟨hk1, h⟩ := ift h
  obtain ⟨v2, hv2, h⟩ := letV_ex h
  refine PC_openFrom_L8_fr hL x1 x2 x3 _ Rr ?_ FU m v2 h
  intro m3 h
  injection h with h
  subst h
  exact Frm.rf
def W_PC_spread : List (Nat × Nat) := [(25, 999999)]
theorem PC_spread_L21_fr {L R : List (Nat × Nat)} (hL : Sub W_PC_spread L) (x1 : Int32) (x3 : Int32) (kx : Mem → Int32 → Option Mem) (Rr : Mem) (hx : ∀ (y0 : Mem) (y1 : Int32), kx y0 y1 = some Rr → Frm L R y0 Rr) : ∀ (n : Nat) (m : Mem) (x2 : Int32) (x4 : Int32), PC_spread_L21 x1 x3 kx n m x2 x4 = some Rr → Frm L R m Rr := by
  intro n
  induction n with
  | zero =>
    intro m x2 x4 h
    exact absurd (show none = some Rr from h) (fun e => Option.some_ne_none Rr e.symm)
  | succ n ih =>
    intro m x2 x4 h
    rw [PC_spread_L21] at h
    by_cases hb1 : (gI m 17 0) ≤ x4
    · have h := ifp h hb1
      exact hx m x2 h
    · have h := ifn h hb1
      obtain ⟨hk2, h⟩ := ift h
      by_cases hb3 : (gI m 25 (ixn (x1 + x4))) = x3
      · have h := ifp h hb3
        obtain ⟨m2, hq4, h⟩ := bM_ex h
        have a5 : Frm L R m m2 := PC_openFrom_fr (subm hL rfl) m x1 x4 (x3 + 1) _ hq4
        exact a5.tr (ih m2 x2 (x4 + 1) h)
      · have h := ifn h hb3
        by_cases hb6 : (gI m 25 (ixn (x1 + x4))) ≤ x3
        · have h := ifp h hb6
          exact ih m x2 (x4 + 1) h
        · have h := ifn h hb6
          exact ih m 1 (x4 + 1) h
theorem PC_spread_L4_fr {L R : List (Nat × Nat)} (hL : Sub W_PC_spread L) (x1 : Int32) (kx : Mem → Option Mem) (Rr : Mem) (hx : ∀ (y0 : Mem), kx y0 = some Rr → Frm L R y0 Rr) : ∀ (n : Nat) (m : Mem) (x2 : Int32) (x3 : Int32), PC_spread_L4 x1 kx n m x2 x3 = some Rr → Frm L R m Rr := by
  intro n
  induction n with
  | zero =>
    intro m x2 x3 h
    exact absurd (show none = some Rr from h) (fun e => Option.some_ne_none Rr e.symm)
  | succ n ih =>
    intro m x2 x3 h
    rw [PC_spread_L4] at h
    by_cases hb1 : x2 = 0
    · have h := ifp h hb1
      exact hx m h
    · have h := ifn h hb1
      by_cases hb2 : (gI m 17 0) ≤ x3
      · have h := ifp h hb2
        exact hx m h
      · have h := ifn h hb2
        refine PC_spread_L21_fr hL x1 x3 _ Rr ?_ FU m 0 0 h
        intro m2 y1 h
        exact ih m2 y1 (x3 + 1) h
theorem PC_spread_fr {L R : List (Nat × Nat)} (hL : Sub W_PC_spread L) (m : Mem) (x1 : Int32) (Rr : Mem) (h : PC_spread m x1 = some Rr) : Frm L R m Rr := by
  unfold PC_spread at h
  refine PC_spread_L4_fr hL x1 _ Rr ?_ FU m 1 0 h
  intro m1 h
  injection h with h
  subst h
  exact Frm.rf
def W_PC_fewestOpenings : List (Nat × Nat) := [(25, 999999)]
theorem PC_fewestOpenings_L20_fr {L R : List (Nat × Nat)} (hL : Sub W_PC_fewestOpenings L) (x1 : Int32) (kx : Mem → Option (Int32 × Mem)) (Rr : Int32 × Mem) (hx : ∀ (y0 : Mem), kx y0 = some Rr → Frm L R y0 Rr.2) : ∀ (n : Nat) (m : Mem) (x2 : Int32), PC_fewestOpenings_L20 x1 kx n m x2 = some Rr → Frm L R m Rr.2 := by
  intro n
  induction n with
  | zero =>
    intro m x2 h
    exact absurd (show none = some Rr from h) (fun e => Option.some_ne_none Rr e.symm)
  | succ n ih =>
    intro m x2 h
    rw [PC_fewestOpenings_L20] at h
    by_cases hb1 : x1 < x2
    · have h := ifp h hb1
      exact hx m h
    · have h := ifn h hb1
      obtain ⟨m1, hq2, h⟩ := bM_ex h
      have a3 : Frm L R m m1 := PC_joinSets_fr (subm hL rfl) m x2 _ hq2
      obtain ⟨m3, hq4, h⟩ := bM_ex h
      have a5 : Frm L R m m3 := a3.tr (PC_spread_fr (subm hL rfl) m1 (x2 * 400) _ hq4)
      exact a5.tr (ih m3 (x2 + 1) h)
theorem PC_fewestOpenings_fr {L R : List (Nat × Nat)} (hL : Sub W_PC_fewestOpenings L) (m : Mem) (Rr : Int32 × Mem) (h : PC_fewestOpenings m = some Rr) : Frm L R m Rr.2 := by
  unfold PC_fewestOpenings at h
  by_cases hb1 : (gI m 17 8) = 0
  · have h := ifp h hb1
    injection h with h
    subst h
    exact Frm.rf
  · have h := ifn h hb1
    obtain ⟨v1, hv1, h⟩ := letV_ex h
    refine PC_fewestOpenings_L20_fr hL v1 _ Rr ?_ FU m 1 h
    intro m2 h
    obtain ⟨hk3, h⟩ := ift h
    injection h with h
    subst h
    exact Frm.rf
def W_OH_stiles : List (Nat × Nat) := [(5, 999999), (6, 999999), (7, 999999), (8, 999999), (9, 999999), (10, 999999), (17, 0), (17, 8), (17, 9), (18, 999999), (19, 999999), (20, 999999), (21, 999999), (22, 999999), (23, 999999), (24, 999999), (25, 999999)]
theorem OH_stiles_L46_fr {L R : List (Nat × Nat)} (hL : Sub W_OH_stiles L) (kx : Mem → Option (Int32 × Mem)) (Rr : Int32 × Mem) (hx : ∀ (y0 : Mem), kx y0 = some Rr → Frm L R y0 Rr.2) : ∀ (n : Nat) (m : Mem) (x2 : Int32), OH_stiles_L46 kx n m x2 = some Rr → Frm L R m Rr.2 := by
  intro n
  induction n with
  | zero =>
    intro m x2 h
    exact absurd (show none = some Rr from h) (fun e => Option.some_ne_none Rr e.symm)
  | succ n ih =>
    intro m x2 h
    rw [OH_stiles_L46] at h
    by_cases hb1 : (gI m (gN m 13) 7) ≤ x2
    · have h := ifp h hb1
      exact hx m h
    · have h := ifn h hb1
      obtain ⟨v3, hq2, h⟩ := bI_ex h
      obtain ⟨m5, hq3, h⟩ := bM_ex h
      have a4 : Frm L R m m5 := PC_addEnd_fr (subm hL rfl) m v3 _ hq3
      exact a4.tr (ih m5 (x2 + 1) h)
theorem OH_stiles_fr {L R : List (Nat × Nat)} (hL : Sub W_OH_stiles L) (m : Mem) (x1 : Int32) (Rr : Int32 × Mem) (h : OH_stiles m x1 = some Rr) : Frm L R m Rr.2 := by
  unfold OH_stiles at h
  by_cases hb1 : (PH_hasLine m (gN m 13) x1) = 0
  · have h := ifp h hb1
    injection h with h
    subst h
    exact Frm.rf
  · have h := ifn h hb1
    by_cases hb2 : (gI m (gN m 13) 7) ≤ 6
    · have h := ifp h hb2
      obtain ⟨m3, hq3, h⟩ := bM_ex h
      have a4 : Frm L R m m3 := OH_surveyPieces_fr (subm hL rfl) m x1 _ hq3
      obtain ⟨m6, hq5, h⟩ := bM_ex h
      have a6 : Frm L R m m6 := a4.tr (PC_beginOpenings_fr (subm hL rfl) m3 (PH_churchSquare m3 (gN m3 13)) _ hq5)
      refine a6.tr (OH_stiles_L46_fr hL _ Rr ?_ FU m6 0 h)
      intro m8 h
      obtain ⟨v9, m10, hq8, h⟩ := bV_ex h
      have a9 : Frm L R m8 m10 := PC_fewestOpenings_fr (subm hL rfl) m8 _ hq8
      injection h with h
      subst h
      exact a9
    · have h := ifn h hb2
      injection h with h
      subst h
      exact Frm.rf
def W_AC_keep : List (Nat × Nat) := [(3, 1), (4, 999999)]
theorem AC_keep_L52_fr {L R : List (Nat × Nat)} (hL : Sub W_AC_keep L) (x1 : Nat) (x2 : Int32) (kx : Mem → Option Mem) (Rr : Mem) (hx : ∀ (y0 : Mem), kx y0 = some Rr → Frm L R y0 Rr) : ∀ (n : Nat) (m : Mem) (x3 : Int32), AC_keep_L52 x1 x2 kx n m x3 = some Rr → Frm L R m Rr := by
  intro n
  induction n with
  | zero =>
    intro m x3 h
    exact absurd (show none = some Rr from h) (fun e => Option.some_ne_none Rr e.symm)
  | succ n ih =>
    intro m x3 h
    rw [AC_keep_L52] at h
    by_cases hb1 : 3 ≤ x3
    · have h := ifp h hb1
      exact hx m h
    · have h := ifn h hb1
      obtain ⟨v1, hv1, h⟩ := letV_ex h
      obtain ⟨hk2, h⟩ := ift h
      obtain ⟨hk3, h⟩ := ift h
      obtain ⟨m4, hm4, h⟩ := letM_ex h
      have a4 : Frm L R m m4 := Frm.cI hm4 (fun _ => hL _ _ rfl)
      obtain ⟨hk5, h⟩ := ift h
      obtain ⟨m6, hm6, h⟩ := letM_ex h
      have a6 : Frm L R m m6 := a4.tr (Frm.cI hm6 (fun _ => hL _ _ rfl))
      exact a6.tr (ih m6 (x3 + 1) h)
theorem AC_keep_J32_fr {L R : List (Nat × Nat)} (hL : Sub W_AC_keep L) (m : Mem) (x1 : Nat) (Rr : Mem) (h : AC_keep_J32 m x1 = some Rr) : Frm L R m Rr := by
  unfold AC_keep_J32 at h
  obtain ⟨v1, hv1, h⟩ := letV_ex h
  obtain ⟨hk1, h⟩ := ift h
  obtain ⟨m3, hm3, h⟩ := letM_ex h
  have a2 : Frm L R m m3 := Frm.sI hm3 (hL _ _ rfl)
  refine a2.tr (AC_keep_L52_fr hL x1 v1 _ Rr ?_ FU m3 0 h)
  intro m4 h
  obtain ⟨m5, hm5, h⟩ := letM_ex h
  have a4 : Frm L R m4 m5 := Frm.sI hm5 (hL _ _ rfl)
  injection h with h
  subst h
  exact a4
theorem AC_keep_fr {L R : List (Nat × Nat)} (hL : Sub W_AC_keep L) (m : Mem) (x1 : Nat) (Rr : Mem) (h : AC_keep m x1 = some Rr) : Frm L R m Rr := by
  unfold AC_keep at h
  by_cases hb1 : (gI m 3 1) < 8
  · have h := ifp h hb1
    exact AC_keep_J32_fr hL m x1 _ h
  · have h := ifn h hb1
    obtain ⟨m1, hm1, h⟩ := letM_ex h
    have a2 : Frm L R m m1 := Frm.cI hm1 (fun _ => hL _ _ rfl)
    obtain ⟨m2, hm2, h⟩ := letM_ex h
    have a3 : Frm L R m m2 := a2.tr (Frm.sI hm2 (hL _ _ rfl))
    exact a3.tr (AC_keep_J32_fr hL m2 x1 _ h)
def W_PH_put : List (Nat × Nat) := []
theorem PH_put_fr {L R : List (Nat × Nat)} (hL : Sub W_PH_put L) (m : Mem) (x0 : Nat) (x1 : Int32) (x2 : Int32) (x3 : Int32) (x4 : Int32) (hc_x0 : Cov R x0 16) (Rr : Mem) (h : PH_put m x0 x1 x2 x3 x4 = some Rr) : Frm L R m Rr := by
  unfold PH_put at h
  obtain ⟨hk1, h⟩ := ift h
  obtain ⟨hk2, h⟩ := ift h
  obtain ⟨m3, hm3, h⟩ := letM_ex h
  have a3 : Frm L R m m3 := Frm.sIr hm3 (Cov.sub hc_x0 (by have q_hk1 : ixn x1 < 3 := hk1.2; omega) (by have q_hk1 : ixn x1 < 3 := hk1.2; omega))
  obtain ⟨m4, hm4, h⟩ := letM_ex h
  have a4 : Frm L R m m4 := a3.tr (Frm.sIr hm4 (Cov.sub hc_x0 (by have q_hk1 : ixn x1 < 3 := hk1.2; omega) (by have q_hk1 : ixn x1 < 3 := hk1.2; omega)))
  obtain ⟨m5, hm5, h⟩ := letM_ex h
  have a5 : Frm L R m m5 := a4.tr (Frm.sIr hm5 (Cov.sub hc_x0 (by have q_hk1 : ixn x1 < 3 := hk1.2; omega) (by have q_hk1 : ixn x1 < 3 := hk1.2; omega)))
  injection h with h
  subst h
  exact a5
def W_LN_copyFrom : List (Nat × Nat) := []
theorem LN_copyFrom_fr {L R : List (Nat × Nat)} (hL : Sub W_LN_copyFrom L) (m : Mem) (x0 : Nat) (x1 : Nat) (hc_x0 : Cov R x0 3) (Rr : Mem) (h : LN_copyFrom m x0 x1 = some Rr) : Frm L R m Rr := by
  unfold LN_copyFrom at h
  obtain ⟨m1, hm1, h⟩ := letM_ex h
  have a1 : Frm L R m m1 := Frm.sJr hm1 (Cov.sub hc_x0 (by omega) (by omega))
  obtain ⟨m2, hm2, h⟩ := letM_ex h
  have a2 : Frm L R m m2 := a1.tr (Frm.sIr hm2 (Cov.sub hc_x0 (by omega) (by omega)))
  obtain ⟨m3, hm3, h⟩ := letM_ex h
  have a3 : Frm L R m m3 := a2.tr (Frm.cIr hm3 (Cov.sub hc_x0 (by omega) (by omega)))
  obtain ⟨m4, hm4, h⟩ := letM_ex h
  have a4 : Frm L R m m4 := a3.tr (Frm.cIr hm4 (Cov.sub hc_x0 (by omega) (by omega)))
  injection h with h
  subst h
  exact a4
def W_OH_moved : List (Nat × Nat) := [(5, 999999), (6, 999999), (7, 999999), (8, 999999), (9, 999999), (10, 999999), (11, 999999), (12, 999999), (13, 999999), (14, 999999), (15, 999999), (16, 999999), (63, 999999), (64, 999999), (65, 999999)]
theorem OH_moved_L98_fr {L R : List (Nat × Nat)} (hL : Sub W_OH_moved L) (x5 : Int32) (kx : Mem → Int32 → Option (Int32 × Mem)) (Rr : Int32 × Mem) (hx : ∀ (y0 : Mem) (y1 : Int32), kx y0 y1 = some Rr → Frm L R y0 Rr.2) : ∀ (n : Nat) (m : Mem) (x6 : Int32) (x7 : Int32), OH_moved_L98 x5 kx n m x6 x7 = some Rr → Frm L R m Rr.2 := by
  intro n
  induction n with
  | zero =>
    intro m x6 x7 h
    exact absurd (show none = some Rr from h) (fun e => Option.some_ne_none Rr e.symm)
  | succ n ih =>
    intro m x6 x7 h
    rw [OH_moved_L98] at h
    by_cases hb1 : 400 ≤ x7
    · have h := ifp h hb1
      exact hx m x6 h
    · have h := ifn h hb1
      obtain ⟨hk2, h⟩ := ift h
      by_cases hb3 : (gI m 6 (ixn x7)) = x5
      · have h := ifp h hb3
        by_cases hb4 : (gI m 12 (ixn x7)) = x5
        · have h := ifp h hb4
          exact ih m x6 (x7 + 1) h
        · have h := ifn h hb4
          exact ih m (x6 + 1) (x7 + 1) h
      · have h := ifn h hb3
        exact ih m x6 (x7 + 1) h
theorem OH_moved_fr {L R : List (Nat × Nat)} (hL : Sub W_OH_moved L) (m : Mem) (x1 : Int32) (x2 : Int32) (x3 : Int32) (x4 : Int32) (x5 : Int32) (Rr : Int32 × Mem) (h : OH_moved m x1 x2 x3 x4 x5 = some Rr) : Frm L R m Rr.2 := by
  unfold OH_moved at h
  by_cases hb1 : x5 < 0
  · have h := ifp h hb1
    injection h with h
    subst h
    exact Frm.rf
  · have h := ifn h hb1
    by_cases hb2 : 1 < x5
    · have h := ifp h hb2
      injection h with h
      subst h
      exact Frm.rf
    · have h := ifn h hb2
      obtain ⟨v1, hq3, h⟩ := bI_ex h
      by_cases hb4 : v1 = 0
      · have h := ifp h hb4
        injection h with h
        subst h
        exact Frm.rf
      · have h := ifn h hb4
        obtain ⟨m3, hq5, h⟩ := bM_ex h
        have a6 : Frm L R m m3 := OH_survey_fr (subm hL rfl) m x1 _ hq5
        obtain ⟨hk7, h⟩ := ift h
        obtain ⟨m7, hq8, h⟩ := bM_ex h
        have a9 : Frm L R m m7 := a6.tr (Frm.up (R := [(63, 3)]) (LN_copyFrom_fr (L := L) (R := [(63, 3)]) (subm hL rfl) m3 63 ((gN m3 13) + 2 + 3 * ixn x1) (Cov.at 0 rfl) _ hq8) (fa1 (Or.inr (CovL.of hL rfl))))
        obtain ⟨hk10, h⟩ := ift h
        obtain ⟨m10, hm10, h⟩ := letM_ex h
        have a11 : Frm L R m m10 := a9.tr (Frm.sI hm10 (hL _ _ rfl))
        obtain ⟨m11, hm11, h⟩ := letM_ex h
        have a12 : Frm L R m m11 := a11.tr (Frm.sI hm11 (hL _ _ rfl))
        obtain ⟨m14, hq13, h⟩ := bM_ex h
        have a14 : Frm L R m m14 := a12.tr (Frm.up (R := [(11, 6)]) (GR_survey_fr (L := L) (R := [(11, 6)]) (subm hL rfl) m11 11 63 (gI m11 (gN m11 13) 10) (gI m11 (gN m11 13) 11) (Cov.at 0 rfl) _ hq13) (fa1 (Or.inr (CovL.of hL rfl))))
        refine a14.tr (OH_moved_L98_fr hL x5 _ Rr ?_ FU m14 0 0 h)
        intro m17 y16 h
        injection h with h
        subst h
        exact Frm.rf
def W_PH_draw : List (Nat × Nat) := []
theorem PH_draw_fr {L R : List (Nat × Nat)} (hL : Sub W_PH_draw L) (m : Mem) (x0 : Nat) (x1 : Int32) (hc_x0 : Cov R x0 16) (Rr : Int32 × Mem) (h : PH_draw m x0 x1 = some Rr) : Frm L R m Rr.2 := by
  unfold PH_draw at h
  obtain ⟨m1, hm1, h⟩ := letM_ex h
  have a1 : Frm L R m m1 := Frm.sIr hm1 (Cov.sub hc_x0 (by omega) (by omega))
  by_cases hb2 : x1 ≤ 0
  · have h := ifp h hb2
    injection h with h
    subst h
    exact a1
  · have h := ifn h hb2
    obtain ⟨hk3, h⟩ := ift h
    injection h with h
    subst h
    exact a1
def W_PH_passNights : List (Nat × Nat) := []
theorem PH_passNights_J126_fr {L R : List (Nat × Nat)} (hL : Sub W_PH_passNights L) (kr : Mem → Int32 → Option (Int32 × Mem)) (kx : Mem → Option (Int32 × Mem)) (m : Mem) (x0 : Nat) (x1 : Int32) (x3 : Int32) (x4 : Int32) (x5 : Int32) (x6 : Int32) (x8 : Int32) (s0 : Int32) (s1 : Int32) (hc_x0 : Cov R x0 16) (Rr : Int32 × Mem) (hr : ∀ (y0 : Mem) (y1 : Int32), kr y0 y1 = some Rr → Frm L R y0 Rr.2) (hx : ∀ (y0 : Mem), kx y0 = some Rr → Frm L R y0 Rr.2) (h : PH_passNights_J126 kr kx m x0 x1 x3 x4 x5 x6 x8 s0 s1 = some Rr) : Frm L R m Rr.2 := by
  unfold PH_passNights_J126 at h
  obtain ⟨v1, hv1, h⟩ := letV_ex h
  by_cases hb1 : (OH_isPoint x8 v1) = 0
  · have h := ifp h hb1
    exact hr m (x4 + 1) h
  · have h := ifn h hb1
    obtain ⟨hk2, h⟩ := ift h
    obtain ⟨v3, hq3, h⟩ := bI_ex h
    by_cases hb4 : v3 = 0
    · have h := ifp h hb4
      exact hr m (x4 + 1) h
    · have h := ifn h hb4
      obtain ⟨m5, hq5, h⟩ := bM_ex h
      have a6 : Frm L R m m5 := Frm.up (R := [(x0, 16)]) (PH_put_fr (L := L) (R := [(x0, 16)]) (subm hL rfl) m x0 x5 x6 x8 v1 (Cov.at 0 rfl) _ hq5) (fa1 (Or.inl hc_x0))
      exact a6.tr (hr m5 (x4 + 1) h)
theorem PH_passNights_J115_fr {L R : List (Nat × Nat)} (hL : Sub W_PH_passNights L) (kr : Mem → Int32 → Option (Int32 × Mem)) (kx : Mem → Option (Int32 × Mem)) (m : Mem) (x0 : Nat) (x1 : Int32) (x3 : Int32) (x4 : Int32) (x5 : Int32) (x6 : Int32) (x7 : Int32) (x8 : Int32) (s0 : Int32) (s1 : Int32) (hc_x0 : Cov R x0 16) (Rr : Int32 × Mem) (hr : ∀ (y0 : Mem) (y1 : Int32), kr y0 y1 = some Rr → Frm L R y0 Rr.2) (hx : ∀ (y0 : Mem), kx y0 = some Rr → Frm L R y0 Rr.2) (h : PH_passNights_J115 kr kx m x0 x1 x3 x4 x5 x6 x7 x8 s0 s1 = some Rr) : Frm L R m Rr.2 := by
  unfold PH_passNights_J115 at h
  by_cases hb1 : x7 = 0
  · have h := ifp h hb1
    exact PH_passNights_J126_fr hL _ _ m x0 x1 x3 x4 x5 x6 x8 (s0 + s1) 1 (hc_x0) _ hr hx h
  · have h := ifn h hb1
    exact PH_passNights_J126_fr hL _ _ m x0 x1 x3 x4 x5 x6 x8 (s0 + s1) 0 (hc_x0) _ hr hx h
theorem PH_passNights_J88_fr {L R : List (Nat × Nat)} (hL : Sub W_PH_passNights L) (kr : Mem → Int32 → Option (Int32 × Mem)) (kx : Mem → Option (Int32 × Mem)) (m : Mem) (x0 : Nat) (x1 : Int32) (x3 : Int32) (x4 : Int32) (x5 : Int32) (x6 : Int32) (x7 : Int32) (s0 : Int32) (s1 : Int32) (hc_x0 : Cov R x0 16) (Rr : Int32 × Mem) (hr : ∀ (y0 : Mem) (y1 : Int32), kr y0 y1 = some Rr → Frm L R y0 Rr.2) (hx : ∀ (y0 : Mem), kx y0 = some Rr → Frm L R y0 Rr.2) (h : PH_passNights_J88 kr kx m x0 x1 x3 x4 x5 x6 x7 s0 s1 = some Rr) : Frm L R m Rr.2 := by
  unfold PH_passNights_J88 at h
  obtain ⟨v1, hv1, h⟩ := letV_ex h
  obtain ⟨hk1, h⟩ := ift h
  obtain ⟨hk2, h⟩ := ift h
  by_cases hb3 : x7 = 2
  · have h := ifp h hb3
    exact PH_passNights_J115_fr hL _ _ m x0 x1 x3 x4 x5 x6 x7 v1 (gI m ((x0 + 2 + 3 * ixn x5) + 2) (ixn x6)) 1 (hc_x0) _ hr hx h
  · have h := ifn h hb3
    exact PH_passNights_J115_fr hL _ _ m x0 x1 x3 x4 x5 x6 x7 v1 (gI m ((x0 + 2 + 3 * ixn x5) + 2) (ixn x6)) 0 (hc_x0) _ hr hx h
theorem PH_passNights_J76_fr {L R : List (Nat × Nat)} (hL : Sub W_PH_passNights L) (kr : Mem → Int32 → Option (Int32 × Mem)) (kx : Mem → Option (Int32 × Mem)) (m : Mem) (x0 : Nat) (x1 : Int32) (x3 : Int32) (x4 : Int32) (x5 : Int32) (x6 : Int32) (x7 : Int32) (s0 : Int32) (s1 : Int32) (hc_x0 : Cov R x0 16) (Rr : Int32 × Mem) (hr : ∀ (y0 : Mem) (y1 : Int32), kr y0 y1 = some Rr → Frm L R y0 Rr.2) (hx : ∀ (y0 : Mem), kx y0 = some Rr → Frm L R y0 Rr.2) (h : PH_passNights_J76 kr kx m x0 x1 x3 x4 x5 x6 x7 s0 s1 = some Rr) : Frm L R m Rr.2 := by
  unfold PH_passNights_J76 at h
  by_cases hb1 : x7 = 3
  · have h := ifp h hb1
    exact PH_passNights_J88_fr hL _ _ m x0 x1 x3 x4 x5 x6 x7 (s0 + s1) 1 (hc_x0) _ hr hx h
  · have h := ifn h hb1
    exact PH_passNights_J88_fr hL _ _ m x0 x1 x3 x4 x5 x6 x7 (s0 + s1) 0 (hc_x0) _ hr hx h
theorem PH_passNights_L13_fr {L R : List (Nat × Nat)} (hL : Sub W_PH_passNights L) (x0 : Nat) (x1 : Int32) (x3 : Int32) (hc_x0 : Cov R x0 16) (kx : Mem → Option (Int32 × Mem)) (Rr : Int32 × Mem) (hx : ∀ (y0 : Mem), kx y0 = some Rr → Frm L R y0 Rr.2) : ∀ (n : Nat) (m : Mem) (x4 : Int32), PH_passNights_L13 x0 x1 x3 kx n m x4 = some Rr → Frm L R m Rr.2 := by
  intro n
  induction n with
  | zero =>
    intro m x4 h
    exact absurd (show none = some Rr from h) (fun e => Option.some_ne_none Rr e.symm)
  | succ n ih =>
    intro m x4 h
    rw [PH_passNights_L13] at h
    by_cases hb1 : x1 ≤ x4
    · have h := ifp h hb1
      exact hx m h
    · have h := ifn h hb1
      obtain ⟨v1, m2, hq2, h⟩ := bV_ex h
      have a3 : Frm L R m m2 := Frm.up (R := [(x0, 16)]) (PH_draw_fr (L := L) (R := [(x0, 16)]) (subm hL rfl) m x0 (gI m x0 6) (Cov.at 0 rfl) _ hq2) (fa1 (Or.inl hc_x0))
      obtain ⟨hk4, h⟩ := ift h
      obtain ⟨v5, m6, hq5, h⟩ := bV_ex h
      have a6 : Frm L R m m6 := a3.tr (Frm.up (R := [(x0, 16)]) (PH_draw_fr (L := L) (R := [(x0, 16)]) (subm hL rfl) m2 x0 (gI m2 (x0 + 2 + 3 * ixn v1) 1) (Cov.at 0 rfl) _ hq5) (fa1 (Or.inl hc_x0)))
      obtain ⟨v8, m9, hq7, h⟩ := bV_ex h
      have a8 : Frm L R m m9 := a6.tr (Frm.up (R := [(x0, 16)]) (PH_draw_fr (L := L) (R := [(x0, 16)]) (subm hL rfl) m6 x0 4 (Cov.at 0 rfl) _ hq7) (fa1 (Or.inl hc_x0)))
      obtain ⟨hk9, h⟩ := ift h
      by_cases hb10 : v8 = 1
      · have h := ifp h hb10
        exact a8.tr (PH_passNights_J76_fr hL _ _ m9 x0 x1 x3 x4 v1 v5 v8 (gI m9 ((x0 + 2 + 3 * ixn v1) + 1) (ixn v5)) 1 (hc_x0) _ ih hx h)
      · have h := ifn h hb10
        exact a8.tr (PH_passNights_J76_fr hL _ _ m9 x0 x1 x3 x4 v1 v5 v8 (gI m9 ((x0 + 2 + 3 * ixn v1) + 1) (ixn v5)) 0 (hc_x0) _ ih hx h)
theorem PH_passNights_fr {L R : List (Nat × Nat)} (hL : Sub W_PH_passNights L) (m : Mem) (x0 : Nat) (x1 : Int32) (x2 : Int32) (hc_x0 : Cov R x0 16) (Rr : Int32 × Mem) (h : PH_passNights m x0 x1 x2 = some Rr) : Frm L R m Rr.2 := by
  unfold PH_passNights at h
  obtain ⟨v1, hv1, h⟩ := letV_ex h
  obtain ⟨m2, hm2, h⟩ := letM_ex h
  have a1 : Frm L R m m2 := Frm.sIr hm2 (Cov.sub hc_x0 (by omega) (by omega))
  refine a1.tr (PH_passNights_L13_fr hL x0 x1 v1 (hc_x0) _ Rr ?_ FU m2 0 h)
  intro m3 h
  injection h with h
  subst h
  exact Frm.rf
def W_AC_takeBack : List (Nat × Nat) := [(3, 1)]
theorem AC_takeBack_L40_fr {L R : List (Nat × Nat)} (hL : Sub W_AC_takeBack L) (x1 : Nat) (x2 : Int32) (hc_x1 : Cov R x1 16) (kx : Mem → Option (Int32 × Mem)) (Rr : Int32 × Mem) (hx : ∀ (y0 : Mem), kx y0 = some Rr → Frm L R y0 Rr.2) : ∀ (n : Nat) (m : Mem) (x3 : Int32), AC_takeBack_L40 x1 x2 kx n m x3 = some Rr → Frm L R m Rr.2 := by
  intro n
  induction n with
  | zero =>
    intro m x3 h
    exact absurd (show none = some Rr from h) (fun e => Option.some_ne_none Rr e.symm)
  | succ n ih =>
    intro m x3 h
    rw [AC_takeBack_L40] at h
    by_cases hb1 : 3 ≤ x3
    · have h := ifp h hb1
      exact hx m h
    · have h := ifn h hb1
      obtain ⟨v1, hv1, h⟩ := letV_ex h
      obtain ⟨hk2, h⟩ := ift h
      obtain ⟨hk3, h⟩ := ift h
      obtain ⟨m4, hm4, h⟩ := letM_ex h
      have a4 : Frm L R m m4 := Frm.cIr hm4 (Cov.sub hc_x1 (by have q_hk2 : ixn x3 < 3 := hk2.2; omega) (by have q_hk2 : ixn x3 < 3 := hk2.2; omega))
      obtain ⟨hk5, h⟩ := ift h
      obtain ⟨m6, hm6, h⟩ := letM_ex h
      have a6 : Frm L R m m6 := a4.tr (Frm.cIr hm6 (Cov.sub hc_x1 (by have q_hk2 : ixn x3 < 3 := hk2.2; omega) (by have q_hk2 : ixn x3 < 3 := hk2.2; omega)))
      exact a6.tr (ih m6 (x3 + 1) h)
theorem AC_takeBack_fr {L R : List (Nat × Nat)} (hL : Sub W_AC_takeBack L) (m : Mem) (x1 : Nat) (hc_x1 : Cov R x1 16) (Rr : Int32 × Mem) (h : AC_takeBack m x1 = some Rr) : Frm L R m Rr.2 := by
  unfold AC_takeBack at h
  by_cases hb1 : 1 ≤ (gI m 3 1)
  · have h := ifp h hb1
    obtain ⟨m1, hm1, h⟩ := letM_ex h
    have a2 : Frm L R m m1 := Frm.sI hm1 (hL _ _ rfl)
    obtain ⟨v2, hv2, h⟩ := letV_ex h
    obtain ⟨hk3, h⟩ := ift h
    obtain ⟨m4, hm4, h⟩ := letM_ex h
    have a4 : Frm L R m m4 := a2.tr (Frm.sIr hm4 (Cov.sub hc_x1 (by omega) (by omega)))
    refine a4.tr (AC_takeBack_L40_fr hL x1 v2 (hc_x1) _ Rr ?_ FU m4 0 h)
    intro m5 h
    injection h with h
    subst h
    exact Frm.rf
  · have h := ifn h hb1
    injection h with h
    subst h
    exact Frm.rf
def W_PT_take : List (Nat × Nat) := [(36, 2), (37, 999999), (38, 999999), (39, 999999)]
theorem PT_take_L35_fr {L R : List (Nat × Nat)} (hL : Sub W_PT_take L) (kx : Mem → Option (Int32 × Mem)) (Rr : Int32 × Mem) (hx : ∀ (y0 : Mem), kx y0 = some Rr → Frm L R y0 Rr.2) : ∀ (n : Nat) (m : Mem) (x2 : Int32), PT_take_L35 kx n m x2 = some Rr → Frm L R m Rr.2 := by
  intro n
  induction n with
  | zero =>
    intro m x2 h
    exact absurd (show none = some Rr from h) (fun e => Option.some_ne_none Rr e.symm)
  | succ n ih =>
    intro m x2 h
    rw [PT_take_L35] at h
    by_cases hb1 : (gI m 1 1) ≤ (x2 + 2)
    · have h := ifp h hb1
      exact hx m h
    · have h := ifn h hb1
      by_cases hb2 : 8 ≤ (gI m 36 2)
      · have h := ifp h hb2
        exact hx m h
      · have h := ifn h hb2
        obtain ⟨hk3, h⟩ := ift h
        obtain ⟨hk4, h⟩ := ift h
        by_cases hb5 : (OH_isPoint (gI m 2 (ixn x2)) (gI m 2 (ixn (x2 + 1)))) = 0
        · have h := ifp h hb5
          injection h with h
          subst h
          exact Frm.rf
        · have h := ifn h hb5
          obtain ⟨hk6, h⟩ := ift h
          by_cases hb7 : (gI m 2 (ixn (x2 + 2))) ≤ 1
          · have h := ifp h hb7
            obtain ⟨hk8, h⟩ := ift h
            obtain ⟨m5, hm5, h⟩ := letM_ex h
            have a9 : Frm L R m m5 := Frm.sI hm5 (hL _ _ rfl)
            obtain ⟨hk10, h⟩ := ift h
            obtain ⟨m7, hm7, h⟩ := letM_ex h
            have a11 : Frm L R m m7 := a9.tr (Frm.sI hm7 (hL _ _ rfl))
            obtain ⟨hk12, h⟩ := ift h
            obtain ⟨m9, hm9, h⟩ := letM_ex h
            have a13 : Frm L R m m9 := a11.tr (Frm.sI hm9 (hL _ _ rfl))
            obtain ⟨m10, hm10, h⟩ := letM_ex h
            have a14 : Frm L R m m10 := a13.tr (Frm.sI hm10 (hL _ _ rfl))
            exact a14.tr (ih m10 (x2 + 3) h)
          · have h := ifn h hb7
            injection h with h
            subst h
            exact Frm.rf
theorem PT_take_fr {L R : List (Nat × Nat)} (hL : Sub W_PT_take L) (m : Mem) (Rr : Int32 × Mem) (h : PT_take m = some Rr) : Frm L R m Rr.2 := by
  unfold PT_take at h
  obtain ⟨m1, hm1, h⟩ := letM_ex h
  have a1 : Frm L R m m1 := Frm.sI hm1 (hL _ _ rfl)
  by_cases hb2 : (gI m1 1 1) < 3
  · have h := ifp h hb2
    injection h with h
    subst h
    exact a1
  · have h := ifn h hb2
    by_cases hb3 : 24 < (gI m1 1 1)
    · have h := ifp h hb3
      injection h with h
      subst h
      exact a1
    · have h := ifn h hb3
      by_cases hb4 : (irm (gI m1 1 1) 3) = 0
      · have h := ifp h hb4
        refine a1.tr (PT_take_L35_fr hL _ Rr ?_ FU m1 0 h)
        intro m2 h
        injection h with h
        subst h
        exact Frm.rf
      · have h := ifn h hb4
        injection h with h
        subst h
        exact a1
def W_NI_seeEdges : List (Nat × Nat) := [(46, 999999), (47, 999999)]
theorem NI_seeEdges_L2_fr {L R : List (Nat × Nat)} (hL : Sub W_NI_seeEdges L) (kx : Mem → Option Mem) (Rr : Mem) (hx : ∀ (y0 : Mem), kx y0 = some Rr → Frm L R y0 Rr) : ∀ (n : Nat) (m : Mem) (x1 : Int32), NI_seeEdges_L2 kx n m x1 = some Rr → Frm L R m Rr := by
  intro n
  induction n with
  | zero =>
    intro m x1 h
    exact absurd (show none = some Rr from h) (fun e => Option.some_ne_none Rr e.symm)
  | succ n ih =>
    intro m x1 h
    rw [NI_seeEdges_L2] at h
    by_cases hb1 : (gI m 42 1) ≤ x1
    · have h := ifp h hb1
      exact hx m h
    · have h := ifn h hb1
      obtain ⟨v1, hv1, h⟩ := letV_ex h
      obtain ⟨hk2, h⟩ := ift h
      obtain ⟨hk3, h⟩ := ift h
      obtain ⟨v4, hq4, h⟩ := bL_ex h
      obtain ⟨m6, hm6, h⟩ := letM_ex h
      have a5 : Frm L R m m6 := Frm.sJ hm6 (hL _ _ rfl)
      obtain ⟨v7, hq6, h⟩ := bI_ex h
      obtain ⟨m9, hm9, h⟩ := letM_ex h
      have a7 : Frm L R m m9 := a5.tr (Frm.sI hm9 (hL _ _ rfl))
      exact a7.tr (ih m9 (x1 + 1) h)
theorem NI_seeEdges_fr {L R : List (Nat × Nat)} (hL : Sub W_NI_seeEdges L) (m : Mem) (Rr : Mem) (h : NI_seeEdges m = some Rr) : Frm L R m Rr := by
  unfold NI_seeEdges at h
  refine NI_seeEdges_L2_fr hL _ Rr ?_ FU m 0 h
  intro m1 h
  injection h with h
  subst h
  exact Frm.rf
def W_NI_leaveOut : List (Nat × Nat) := [(40, 15), (40, 16)]
theorem NI_leaveOut_L14_fr {L R : List (Nat × Nat)} (hL : Sub W_NI_leaveOut L) (x1 : Int32) (x2 : Int32) (kx : Mem → Option Mem) (Rr : Mem) (hx : ∀ (y0 : Mem), kx y0 = some Rr → Frm L R y0 Rr) : ∀ (n : Nat) (m : Mem) (x3 : Int32), NI_leaveOut_L14 x1 x2 kx n m x3 = some Rr → Frm L R m Rr := by
  intro n
  induction n with
  | zero =>
    intro m x3 h
    exact absurd (show none = some Rr from h) (fun e => Option.some_ne_none Rr e.symm)
  | succ n ih =>
    intro m x3 h
    rw [NI_leaveOut_L14] at h
    by_cases hb1 : (gI m 42 1) ≤ x3
    · have h := ifp h hb1
      exact hx m h
    · have h := ifn h hb1
      obtain ⟨v1, hv1, h⟩ := letV_ex h
      by_cases hb2 : x3 = x1
      · have h := ifp h hb2
        exact ih m (x3 + 1) h
      · have h := ifn h hb2
        by_cases hb3 : x3 = x2
        · have h := ifp h hb3
          exact ih m (x3 + 1) h
        · have h := ifn h hb3
          by_cases hb4 : v1 = x1
          · have h := ifp h hb4
            exact ih m (x3 + 1) h
          · have h := ifn h hb4
            by_cases hb5 : v1 = x2
            · have h := ifp h hb5
              exact ih m (x3 + 1) h
            · have h := ifn h hb5
              obtain ⟨hk6, h⟩ := ift h
              obtain ⟨m3, hm3, h⟩ := letM_ex h
              have a7 : Frm L R m m3 := Frm.sJ hm3 (hL _ _ rfl)
              obtain ⟨m4, hm4, h⟩ := letM_ex h
              have a8 : Frm L R m m4 := a7.tr (Frm.sI hm4 (hL _ _ rfl))
              exact a8.tr (ih m4 (x3 + 1) h)
theorem NI_leaveOut_fr {L R : List (Nat × Nat)} (hL : Sub W_NI_leaveOut L) (m : Mem) (x1 : Int32) (x2 : Int32) (Rr : Mem) (h : NI_leaveOut m x1 x2 = some Rr) : Frm L R m Rr := by
  unfold NI_leaveOut at h
  obtain ⟨m1, hm1, h⟩ := letM_ex h
  have a1 : Frm L R m m1 := Frm.sJ hm1 (hL _ _ rfl)
  obtain ⟨m2, hm2, h⟩ := letM_ex h
  have a2 : Frm L R m m2 := a1.tr (Frm.sI hm2 (hL _ _ rfl))
  refine a2.tr (NI_leaveOut_L14_fr hL x1 x2 _ Rr ?_ FU m2 0 h)
  intro m3 h
  injection h with h
  subst h
  exact Frm.rf
def W_NI_conclude : List (Nat × Nat) := [(40, 0), (40, 1)]
theorem NI_conclude_fr {L R : List (Nat × Nat)} (hL : Sub W_NI_conclude L) (m : Mem) (x1 : Int32) (Rr : Int32 × Mem) (h : NI_conclude m x1 = some Rr) : Frm L R m Rr.2 := by
  unfold NI_conclude at h
  obtain ⟨m1, hm1, h⟩ := letM_ex h
  have a1 : Frm L R m m1 := Frm.sI hm1 (hL _ _ rfl)
  obtain ⟨m2, hm2, h⟩ := letM_ex h
  have a2 : Frm L R m m2 := a1.tr (Frm.sI hm2 (hL _ _ rfl))
  injection h with h
  subst h
  exact a2
def W_NI_seePlace : List (Nat × Nat) := [(48, 999999), (49, 999999), (50, 999999), (52, 999999), (53, 999999), (55, 999999), (56, 999999)]
theorem NI_seePlace_fr {L R : List (Nat × Nat)} (hL : Sub W_NI_seePlace L) (m : Mem) (x1 : Int32) (x2 : Int32) (x3 : Int32) (Rr : Mem) (h : NI_seePlace m x1 x2 x3 = some Rr) : Frm L R m Rr := by
  unfold NI_seePlace at h
  obtain ⟨hk1, h⟩ := ift h
  obtain ⟨v2, hv2, h⟩ := letV_ex h
  obtain ⟨v3, hv3, h⟩ := letV_ex h
  obtain ⟨v4, hv4, h⟩ := letV_ex h
  obtain ⟨hk2, h⟩ := ift h
  obtain ⟨m6, hm6, h⟩ := letM_ex h
  have a3 : Frm L R m m6 := Frm.sI hm6 (hL _ _ rfl)
  obtain ⟨m7, hm7, h⟩ := letM_ex h
  have a4 : Frm L R m m7 := a3.tr (Frm.sI hm7 (hL _ _ rfl))
  obtain ⟨hk5, h⟩ := ift h
  obtain ⟨v9, hq6, h⟩ := bL_ex h
  obtain ⟨m11, hm11, h⟩ := letM_ex h
  have a7 : Frm L R m m11 := a4.tr (Frm.sJ hm11 (hL _ _ rfl))
  obtain ⟨v12, hq8, h⟩ := bI_ex h
  obtain ⟨m14, hm14, h⟩ := letM_ex h
  have a9 : Frm L R m m14 := a7.tr (Frm.sI hm14 (hL _ _ rfl))
  obtain ⟨hk10, h⟩ := ift h
  obtain ⟨v16, hq11, h⟩ := bL_ex h
  obtain ⟨m18, hm18, h⟩ := letM_ex h
  have a12 : Frm L R m m18 := a9.tr (Frm.sJ hm18 (hL _ _ rfl))
  obtain ⟨v19, hq13, h⟩ := bI_ex h
  obtain ⟨m21, hm21, h⟩ := letM_ex h
  have a14 : Frm L R m m21 := a12.tr (Frm.sI hm21 (hL _ _ rfl))
  obtain ⟨m22, hm22, h⟩ := letM_ex h
  have a15 : Frm L R m m22 := a14.tr (Frm.sI hm22 (hL _ _ rfl))
  injection h with h
  subst h
  exact a15
def W_NI_seePlaces : List (Nat × Nat) := [(48, 999999), (49, 999999), (50, 999999), (52, 999999), (53, 999999), (55, 999999), (56, 999999)]
theorem NI_seePlaces_J39_fr {L R : List (Nat × Nat)} (hL : Sub W_NI_seePlaces L) (kr : Mem → Int32 → Option Mem) (kx : Mem → Option Mem) (m : Mem) (x1 : Int32) (x2 : Int32) (x3 : Int32) (x4 : Int32) (s0 : Int32) (Rr : Mem) (hr : ∀ (y0 : Mem) (y1 : Int32), kr y0 y1 = some Rr → Frm L R y0 Rr) (hx : ∀ (y0 : Mem), kx y0 = some Rr → Frm L R y0 Rr) (h : NI_seePlaces_J39 kr kx m x1 x2 x3 x4 s0 = some Rr) : Frm L R m Rr := by
  unfold NI_seePlaces_J39 at h
  by_cases hb1 : s0 = 0
  · have h := ifp h hb1
    exact hr m (x4 + 1) h
  · have h := ifn h hb1
    obtain ⟨hk2, h⟩ := ift h
    by_cases hb3 : (OH_isPoint ((gI m 43 (ixn x1)) + x3) ((gI m 44 (ixn x1)) + x4)) = 0
    · have h := ifp h hb3
      exact hr m (x4 + 1) h
    · have h := ifn h hb3
      by_cases hb4 : 48 ≤ (gI m 48 (ixn x1))
      · have h := ifp h hb4
        exact hr m (x4 + 1) h
      · have h := ifn h hb4
        obtain ⟨m2, hq5, h⟩ := bM_ex h
        have a6 : Frm L R m m2 := NI_seePlace_fr (subm hL rfl) m x1 ((gI m 43 (ixn x1)) + x3) ((gI m 44 (ixn x1)) + x4) _ hq5
        exact a6.tr (hr m2 (x4 + 1) h)
theorem NI_seePlaces_L19_fr {L R : List (Nat × Nat)} (hL : Sub W_NI_seePlaces L) (x1 : Int32) (x2 : Int32) (x3 : Int32) (kx : Mem → Option Mem) (Rr : Mem) (hx : ∀ (y0 : Mem), kx y0 = some Rr → Frm L R y0 Rr) : ∀ (n : Nat) (m : Mem) (x4 : Int32), NI_seePlaces_L19 x1 x2 x3 kx n m x4 = some Rr → Frm L R m Rr := by
  intro n
  induction n with
  | zero =>
    intro m x4 h
    exact absurd (show none = some Rr from h) (fun e => Option.some_ne_none Rr e.symm)
  | succ n ih =>
    intro m x4 h
    rw [NI_seePlaces_L19] at h
    by_cases hb1 : x2 < x4
    · have h := ifp h hb1
      exact hx m h
    · have h := ifn h hb1
      by_cases hb2 : x3 = 0
      · have h := ifp h hb2
        by_cases hb3 : x4 = 0
        · have h := ifp h hb3
          exact NI_seePlaces_J39_fr hL _ _ m x1 x2 x3 x4 0 _ ih hx h
        · have h := ifn h hb3
          exact NI_seePlaces_J39_fr hL _ _ m x1 x2 x3 x4 1 _ ih hx h
      · have h := ifn h hb2
        exact NI_seePlaces_J39_fr hL _ _ m x1 x2 x3 x4 1 _ ih hx h
theorem NI_seePlaces_L10_fr {L R : List (Nat × Nat)} (hL : Sub W_NI_seePlaces L) (x1 : Int32) (x2 : Int32) (kx : Mem → Option Mem) (Rr : Mem) (hx : ∀ (y0 : Mem), kx y0 = some Rr → Frm L R y0 Rr) : ∀ (n : Nat) (m : Mem) (x3 : Int32), NI_seePlaces_L10 x1 x2 kx n m x3 = some Rr → Frm L R m Rr := by
  intro n
  induction n with
  | zero =>
    intro m x3 h
    exact absurd (show none = some Rr from h) (fun e => Option.some_ne_none Rr e.symm)
  | succ n ih =>
    intro m x3 h
    rw [NI_seePlaces_L10] at h
    by_cases hb1 : x2 < x3
    · have h := ifp h hb1
      exact hx m h
    · have h := ifn h hb1
      obtain ⟨v1, hv1, h⟩ := letV_ex h
      refine NI_seePlaces_L19_fr hL x1 x2 x3 _ Rr ?_ FU m v1 h
      intro m2 h
      exact ih m2 (x3 + 1) h
theorem NI_seePlaces_fr {L R : List (Nat × Nat)} (hL : Sub W_NI_seePlaces L) (m : Mem) (x1 : Int32) (x2 : Int32) (Rr : Mem) (h : NI_seePlaces m x1 x2 = some Rr) : Frm L R m Rr := by
  unfold NI_seePlaces at h
  obtain ⟨hk1, h⟩ := ift h
  obtain ⟨m2, hm2, h⟩ := letM_ex h
  have a2 : Frm L R m m2 := Frm.sI hm2 (hL _ _ rfl)
  obtain ⟨v3, hv3, h⟩ := letV_ex h
  refine a2.tr (NI_seePlaces_L10_fr hL x1 x2 _ Rr ?_ FU m2 v3 h)
  intro m4 h
  injection h with h
  subst h
  exact Frm.rf
def W_NI_sortKind : List (Nat × Nat) := [(58, 999999), (59, 999999), (60, 999999), (61, 999999), (62, 999999)]
theorem NI_sortKind_L60_fr {L R : List (Nat × Nat)} (hL : Sub W_NI_sortKind L) (x1 : Int32) (x2 : Int32) (x3 : Int64) (x5 : Int32) (x6 : Int32) (kx : Mem → Option Mem) (Rr : Mem) (hx : ∀ (y0 : Mem), kx y0 = some Rr → Frm L R y0 Rr) : ∀ (n : Nat) (m : Mem) (x7 : Int32), NI_sortKind_L60 x1 x2 x3 x5 x6 kx n m x7 = some Rr → Frm L R m Rr := by
  intro n
  induction n with
  | zero =>
    intro m x7 h
    exact absurd (show none = some Rr from h) (fun e => Option.some_ne_none Rr e.symm)
  | succ n ih =>
    intro m x7 h
    rw [NI_sortKind_L60] at h
    by_cases hb1 : x6 ≤ x7
    · have h := ifp h hb1
      exact hx m h
    · have h := ifn h hb1
      obtain ⟨hk2, h⟩ := ift h
      by_cases hb3 : (lg_cmp (gJ m 58 (ixn x7)) x3) = 0
      · have h := ifp h hb3
        by_cases hb4 : (gI m 59 (ixn x7)) = x5
        · have h := ifp h hb4
          obtain ⟨m2, hm2, h⟩ := letM_ex h
          have a5 : Frm L R m m2 := Frm.sI hm2 (hL _ _ rfl)
          injection h with h
          subst h
          exact a5
        · have h := ifn h hb4
          exact ih m (x7 + 1) h
      · have h := ifn h hb3
        exact ih m (x7 + 1) h
theorem NI_sortKind_fr {L R : List (Nat × Nat)} (hL : Sub W_NI_sortKind L) (m : Mem) (x1 : Int32) (x2 : Int32) (Rr : Mem) (h : NI_sortKind m x1 x2 = some Rr) : Frm L R m Rr := by
  unfold NI_sortKind at h
  obtain ⟨hk1, h⟩ := ift h
  obtain ⟨w2, hw2, h⟩ := letL_ex h
  obtain ⟨v3, hv3, h⟩ := letV_ex h
  obtain ⟨hk2, h⟩ := ift h
  obtain ⟨v5, hv5, h⟩ := letV_ex h
  obtain ⟨v6, hv6, h⟩ := letV_ex h
  refine NI_sortKind_L60_fr hL x1 x2 w2 v3 v5 _ Rr ?_ FU m v6 h
  intro m7 h
  obtain ⟨hk4, h⟩ := ift h
  by_cases hb5 : 48 ≤ (gI m7 60 (ixn x1))
  · have h := ifp h hb5
    injection h with h
    subst h
    exact Frm.rf
  · have h := ifn h hb5
    obtain ⟨hk6, h⟩ := ift h
    obtain ⟨m10, hm10, h⟩ := letM_ex h
    have a7 : Frm L R m7 m10 := Frm.sJ hm10 (hL _ _ rfl)
    obtain ⟨m11, hm11, h⟩ := letM_ex h
    have a8 : Frm L R m7 m11 := a7.tr (Frm.sI hm11 (hL _ _ rfl))
    obtain ⟨m12, hm12, h⟩ := letM_ex h
    have a9 : Frm L R m7 m12 := a8.tr (Frm.sI hm12 (hL _ _ rfl))
    obtain ⟨m13, hm13, h⟩ := letM_ex h
    have a10 : Frm L R m7 m13 := a9.tr (Frm.sI hm13 (hL _ _ rfl))
    obtain ⟨m14, hm14, h⟩ := letM_ex h
    have a11 : Frm L R m7 m14 := a10.tr (Frm.sI hm14 (hL _ _ rfl))
    injection h with h
    subst h
    exact a11
def W_NI_sortKinds : List (Nat × Nat) := [(58, 999999), (59, 999999), (60, 999999), (61, 999999), (62, 999999)]
theorem NI_sortKinds_L9_fr {L R : List (Nat × Nat)} (hL : Sub W_NI_sortKinds L) (x1 : Int32) (kx : Mem → Option Mem) (Rr : Mem) (hx : ∀ (y0 : Mem), kx y0 = some Rr → Frm L R y0 Rr) : ∀ (n : Nat) (m : Mem) (x2 : Int32), NI_sortKinds_L9 x1 kx n m x2 = some Rr → Frm L R m Rr := by
  intro n
  induction n with
  | zero =>
    intro m x2 h
    exact absurd (show none = some Rr from h) (fun e => Option.some_ne_none Rr e.symm)
  | succ n ih =>
    intro m x2 h
    rw [NI_sortKinds_L9] at h
    obtain ⟨hk1, h⟩ := ift h
    by_cases hb2 : (gI m 48 (ixn x1)) ≤ x2
    · have h := ifp h hb2
      exact hx m h
    · have h := ifn h hb2
      obtain ⟨v2, hv2, h⟩ := letV_ex h
      obtain ⟨hk3, h⟩ := ift h
      obtain ⟨v4, hq4, h⟩ := bI_ex h
      by_cases hb5 : v4 = 0
      · have h := ifp h hb5
        exact ih m (x2 + 1) h
      · have h := ifn h hb5
        obtain ⟨m6, hq6, h⟩ := bM_ex h
        have a7 : Frm L R m m6 := NI_sortKind_fr (subm hL rfl) m x1 v2 _ hq6
        exact a7.tr (ih m6 (x2 + 1) h)
theorem NI_sortKinds_fr {L R : List (Nat × Nat)} (hL : Sub W_NI_sortKinds L) (m : Mem) (x1 : Int32) (Rr : Mem) (h : NI_sortKinds m x1 = some Rr) : Frm L R m Rr := by
  unfold NI_sortKinds at h
  obtain ⟨hk1, h⟩ := ift h
  obtain ⟨m2, hm2, h⟩ := letM_ex h
  have a2 : Frm L R m m2 := Frm.sI hm2 (hL _ _ rfl)
  refine a2.tr (NI_sortKinds_L9_fr hL x1 _ Rr ?_ FU m2 0 h)
  intro m3 h
  injection h with h
  subst h
  exact Frm.rf
def W_NI_keepFirst : List (Nat × Nat) := [(41, 999999)]
theorem NI_keepFirst_fr {L R : List (Nat × Nat)} (hL : Sub W_NI_keepFirst L) (m : Mem) (x1 : Int32) (x2 : Int32) (x3 : Int32) (Rr : Mem) (h : NI_keepFirst m x1 x2 x3 = some Rr) : Frm L R m Rr := by
  unfold NI_keepFirst at h
  obtain ⟨hk1, h⟩ := ift h
  obtain ⟨m2, hm2, h⟩ := letM_ex h
  have a2 : Frm L R m m2 := Frm.sI hm2 (hL _ _ rfl)
  obtain ⟨hk3, h⟩ := ift h
  obtain ⟨hk4, h⟩ := ift h
  obtain ⟨m5, hm5, h⟩ := letM_ex h
  have a5 : Frm L R m m5 := a2.tr (Frm.sI hm5 (hL _ _ rfl))
  obtain ⟨hk6, h⟩ := ift h
  obtain ⟨m7, hm7, h⟩ := letM_ex h
  have a7 : Frm L R m m7 := a5.tr (Frm.sI hm7 (hL _ _ rfl))
  injection h with h
  subst h
  exact a7
def W_NI_tryOne : List (Nat × Nat) := [(40, 15), (40, 16), (40, 17), (41, 999999)]
theorem NI_tryOne_J85_fr {L R : List (Nat × Nat)} (hL : Sub W_NI_tryOne L) (kr : Mem → Int32 → Option Mem) (kx : Mem → Option Mem) (m : Mem) (x1 : Int32) (x2 : Int32) (x3 : Int32) (Rr : Mem) (hr : ∀ (y0 : Mem) (y1 : Int32), kr y0 y1 = some Rr → Frm L R y0 Rr) (hx : ∀ (y0 : Mem), kx y0 = some Rr → Frm L R y0 Rr) (h : NI_tryOne_J85 kr kx m x1 x2 x3 = some Rr) : Frm L R m Rr := by
  unfold NI_tryOne_J85 at h
  obtain ⟨hk1, h⟩ := ift h
  obtain ⟨m2, hm2, h⟩ := letM_ex h
  have a2 : Frm L R m m2 := Frm.sI hm2 (hL _ _ rfl)
  exact a2.tr (hr m2 (x3 + 1) h)
theorem NI_tryOne_L23_fr {L R : List (Nat × Nat)} (hL : Sub W_NI_tryOne L) (x1 : Int32) (x2 : Int32) (kx : Mem → Option Mem) (Rr : Mem) (hx : ∀ (y0 : Mem), kx y0 = some Rr → Frm L R y0 Rr) : ∀ (n : Nat) (m : Mem) (x3 : Int32), NI_tryOne_L23 x1 x2 kx n m x3 = some Rr → Frm L R m Rr := by
  intro n
  induction n with
  | zero =>
    intro m x3 h
    exact absurd (show none = some Rr from h) (fun e => Option.some_ne_none Rr e.symm)
  | succ n ih =>
    intro m x3 h
    rw [NI_tryOne_L23] at h
    by_cases hb1 : x2 ≤ x3
    · have h := ifp h hb1
      exact hx m h
    · have h := ifn h hb1
      obtain ⟨hk2, h⟩ := ift h
      obtain ⟨v2, hq3, h⟩ := bI_ex h
      by_cases hb4 : v2 = 0
      · have h := ifp h hb4
        exact ih m (x3 + 1) h
      · have h := ifn h hb4
        by_cases hb5 : (gI m 40 17) = 0
        · have h := ifp h hb5
          obtain ⟨m4, hq6, h⟩ := bM_ex h
          have a7 : Frm L R m m4 := NI_keepFirst_fr (subm hL rfl) m 0 x1 (gI m 62 (ixn x3)) _ hq6
          exact a7.tr (NI_tryOne_J85_fr hL _ _ m4 x1 x2 x3 _ ih hx h)
        · have h := ifn h hb5
          exact NI_tryOne_J85_fr hL _ _ m x1 x2 x3 _ ih hx h
theorem NI_tryOne_fr {L R : List (Nat × Nat)} (hL : Sub W_NI_tryOne L) (m : Mem) (x1 : Int32) (Rr : Mem) (h : NI_tryOne m x1 = some Rr) : Frm L R m Rr := by
  unfold NI_tryOne at h
  obtain ⟨m1, hq1, h⟩ := bM_ex h
  have a2 : Frm L R m m1 := NI_leaveOut_fr (subm hL rfl) m x1 x1 _ hq1
  obtain ⟨hk3, h⟩ := ift h
  obtain ⟨v4, hv4, h⟩ := letV_ex h
  obtain ⟨v5, hv5, h⟩ := letV_ex h
  refine a2.tr (NI_tryOne_L23_fr hL x1 v4 _ Rr ?_ FU m1 v5 h)
  intro m6 h
  injection h with h
  subst h
  exact Frm.rf
def W_NI_keepFirstTwo : List (Nat × Nat) := [(41, 999999)]
theorem NI_keepFirstTwo_fr {L R : List (Nat × Nat)} (hL : Sub W_NI_keepFirstTwo L) (m : Mem) (x1 : Int32) (x2 : Int32) (x3 : Int32) (x4 : Int32) (Rr : Mem) (h : NI_keepFirstTwo m x1 x2 x3 x4 = some Rr) : Frm L R m Rr := by
  unfold NI_keepFirstTwo at h
  by_cases hb1 : (gI m 40 17) = 0
  · have h := ifp h hb1
    obtain ⟨m1, hq2, h⟩ := bM_ex h
    have a3 : Frm L R m m1 := NI_keepFirst_fr (subm hL rfl) m 0 x1 x2 _ hq2
    obtain ⟨m3, hq4, h⟩ := bM_ex h
    have a5 : Frm L R m m3 := a3.tr (NI_keepFirst_fr (subm hL rfl) m1 1 x3 x4 _ hq4)
    injection h with h
    subst h
    exact a5
  · have h := ifn h hb1
    injection h with h
    subst h
    exact Frm.rf
def W_NI_tryNeighbours : List (Nat × Nat) := [(40, 17), (41, 999999)]
theorem NI_tryNeighbours_J103_fr {L R : List (Nat × Nat)} (hL : Sub W_NI_tryNeighbours L) (kr : Mem → Int32 → Option Mem) (kx : Mem → Option Mem) (m : Mem) (x1 : Int32) (x2 : Int32) (x3 : Int32) (x4 : Int32) (x5 : Int32) (x6 : Int32) (x7 : Int32) (Rr : Mem) (hr : ∀ (y0 : Mem) (y1 : Int32), kr y0 y1 = some Rr → Frm L R y0 Rr) (hx : ∀ (y0 : Mem), kx y0 = some Rr → Frm L R y0 Rr) (h : NI_tryNeighbours_J103 kr kx m x1 x2 x3 x4 x5 x6 x7 = some Rr) : Frm L R m Rr := by
  unfold NI_tryNeighbours_J103 at h
  obtain ⟨m1, hq1, h⟩ := bM_ex h
  have a2 : Frm L R m m1 := NI_keepFirstTwo_fr (subm hL rfl) m x1 x6 x2 x7 _ hq1
  obtain ⟨m3, hm3, h⟩ := letM_ex h
  have a3 : Frm L R m m3 := a2.tr (Frm.sI hm3 (hL _ _ rfl))
  exact a3.tr (hr m3 (x7 + 1) h)
theorem NI_tryNeighbours_L62_fr {L R : List (Nat × Nat)} (hL : Sub W_NI_tryNeighbours L) (x1 : Int32) (x2 : Int32) (x3 : Int32) (x4 : Int32) (x5 : Int32) (x6 : Int32) (kx : Mem → Option Mem) (Rr : Mem) (hx : ∀ (y0 : Mem), kx y0 = some Rr → Frm L R y0 Rr) : ∀ (n : Nat) (m : Mem) (x7 : Int32), NI_tryNeighbours_L62 x1 x2 x3 x4 x5 x6 kx n m x7 = some Rr → Frm L R m Rr := by
  intro n
  induction n with
  | zero =>
    intro m x7 h
    exact absurd (show none = some Rr from h) (fun e => Option.some_ne_none Rr e.symm)
  | succ n ih =>
    intro m x7 h
    rw [NI_tryNeighbours_L62] at h
    by_cases hb1 : x4 ≤ x7
    · have h := ifp h hb1
      exact hx m h
    · have h := ifn h hb1
      by_cases hb2 : x5 = 0
      · have h := ifp h hb2
        obtain ⟨v1, hq3, h⟩ := bI_ex h
        by_cases hb4 : v1 = 0
        · have h := ifp h hb4
          exact ih m (x7 + 1) h
        · have h := ifn h hb4
          exact NI_tryNeighbours_J103_fr hL _ _ m x1 x2 x3 x4 x5 x6 x7 _ ih hx h
      · have h := ifn h hb2
        obtain ⟨v3, hq5, h⟩ := bI_ex h
        by_cases hb6 : v3 = 0
        · have h := ifp h hb6
          exact ih m (x7 + 1) h
        · have h := ifn h hb6
          exact NI_tryNeighbours_J103_fr hL _ _ m x1 x2 x3 x4 x5 x6 x7 _ ih hx h
theorem NI_tryNeighbours_L50_fr {L R : List (Nat × Nat)} (hL : Sub W_NI_tryNeighbours L) (x1 : Int32) (x2 : Int32) (x3 : Int32) (x4 : Int32) (x5 : Int32) (kx : Mem → Option Mem) (Rr : Mem) (hx : ∀ (y0 : Mem), kx y0 = some Rr → Frm L R y0 Rr) : ∀ (n : Nat) (m : Mem) (x6 : Int32), NI_tryNeighbours_L50 x1 x2 x3 x4 x5 kx n m x6 = some Rr → Frm L R m Rr := by
  intro n
  induction n with
  | zero =>
    intro m x6 h
    exact absurd (show none = some Rr from h) (fun e => Option.some_ne_none Rr e.symm)
  | succ n ih =>
    intro m x6 h
    rw [NI_tryNeighbours_L50] at h
    by_cases hb1 : x3 ≤ x6
    · have h := ifp h hb1
      exact hx m h
    · have h := ifn h hb1
      obtain ⟨v1, hv1, h⟩ := letV_ex h
      refine NI_tryNeighbours_L62_fr hL x1 x2 x3 x4 x5 x6 _ Rr ?_ FU m v1 h
      intro m2 h
      exact ih m2 (x6 + 1) h
theorem NI_tryNeighbours_J42_fr {L R : List (Nat × Nat)} (hL : Sub W_NI_tryNeighbours L) (m : Mem) (x1 : Int32) (x2 : Int32) (x3 : Int32) (x4 : Int32) (s0 : Int32) (Rr : Mem) (h : NI_tryNeighbours_J42 m x1 x2 x3 x4 s0 = some Rr) : Frm L R m Rr := by
  unfold NI_tryNeighbours_J42 at h
  obtain ⟨v1, hv1, h⟩ := letV_ex h
  refine NI_tryNeighbours_L50_fr hL x1 x2 x3 x4 s0 _ Rr ?_ FU m v1 h
  intro m2 h
  injection h with h
  subst h
  exact Frm.rf
theorem NI_tryNeighbours_fr {L R : List (Nat × Nat)} (hL : Sub W_NI_tryNeighbours L) (m : Mem) (x1 : Int32) (x2 : Int32) (Rr : Mem) (h : NI_tryNeighbours m x1 x2 = some Rr) : Frm L R m Rr := by
  unfold NI_tryNeighbours at h
  obtain ⟨hk1, h⟩ := ift h
  obtain ⟨v2, hv2, h⟩ := letV_ex h
  obtain ⟨hk2, h⟩ := ift h
  obtain ⟨v4, hv4, h⟩ := letV_ex h
  by_cases hb3 : (LN_after m 42 x1) = x2
  · have h := ifp h hb3
    exact NI_tryNeighbours_J42_fr hL m x1 x2 v2 v4 1 _ h
  · have h := ifn h hb3
    exact NI_tryNeighbours_J42_fr hL m x1 x2 v2 v4 0 _ h
def W_NI_tryApart : List (Nat × Nat) := [(40, 17), (41, 999999)]
theorem NI_tryApart_L77_fr {L R : List (Nat × Nat)} (hL : Sub W_NI_tryApart L) (x1 : Int32) (x2 : Int32) (x3 : Int32) (x4 : Int32) (x5 : Int32) (x6 : Int64) (x8 : Int32) (kx : Mem → Option Mem) (Rr : Mem) (hx : ∀ (y0 : Mem), kx y0 = some Rr → Frm L R y0 Rr) : ∀ (n : Nat) (m : Mem) (x9 : Int32), NI_tryApart_L77 x1 x2 x3 x4 x5 x6 x8 kx n m x9 = some Rr → Frm L R m Rr := by
  intro n
  induction n with
  | zero =>
    intro m x9 h
    exact absurd (show none = some Rr from h) (fun e => Option.some_ne_none Rr e.symm)
  | succ n ih =>
    intro m x9 h
    rw [NI_tryApart_L77] at h
    by_cases hb1 : x4 ≤ x9
    · have h := ifp h hb1
      exact hx m h
    · have h := ifn h hb1
      obtain ⟨hk2, h⟩ := ift h
      obtain ⟨v2, hq3, h⟩ := bI_ex h
      by_cases hb4 : v2 = 0
      · have h := ifp h hb4
        exact ih m (x9 + 1) h
      · have h := ifn h hb4
        obtain ⟨hk5, h⟩ := ift h
        obtain ⟨m5, hq6, h⟩ := bM_ex h
        have a7 : Frm L R m m5 := NI_keepFirstTwo_fr (subm hL rfl) m x1 (gI m 62 (ixn x5)) x2 (gI m 62 (ixn x9)) _ hq6
        obtain ⟨m7, hm7, h⟩ := letM_ex h
        have a8 : Frm L R m m7 := a7.tr (Frm.sI hm7 (hL _ _ rfl))
        exact a8.tr (ih m7 (x9 + 1) h)
theorem NI_tryApart_L31_fr {L R : List (Nat × Nat)} (hL : Sub W_NI_tryApart L) (x1 : Int32) (x2 : Int32) (x3 : Int32) (x4 : Int32) (kx : Mem → Option Mem) (Rr : Mem) (hx : ∀ (y0 : Mem), kx y0 = some Rr → Frm L R y0 Rr) : ∀ (n : Nat) (m : Mem) (x5 : Int32), NI_tryApart_L31 x1 x2 x3 x4 kx n m x5 = some Rr → Frm L R m Rr := by
  intro n
  induction n with
  | zero =>
    intro m x5 h
    exact absurd (show none = some Rr from h) (fun e => Option.some_ne_none Rr e.symm)
  | succ n ih =>
    intro m x5 h
    rw [NI_tryApart_L31] at h
    by_cases hb1 : x3 ≤ x5
    · have h := ifp h hb1
      exact hx m h
    · have h := ifn h hb1
      obtain ⟨hk2, h⟩ := ift h
      obtain ⟨w2, hw2, h⟩ := letL_ex h
      obtain ⟨v3, hv3, h⟩ := letV_ex h
      obtain ⟨v4, hv4, h⟩ := letV_ex h
      refine NI_tryApart_L77_fr hL x1 x2 x3 x4 x5 w2 v3 _ Rr ?_ FU m v4 h
      intro m5 h
      exact ih m5 (x5 + 1) h
theorem NI_tryApart_fr {L R : List (Nat × Nat)} (hL : Sub W_NI_tryApart L) (m : Mem) (x1 : Int32) (x2 : Int32) (Rr : Mem) (h : NI_tryApart m x1 x2 = some Rr) : Frm L R m Rr := by
  unfold NI_tryApart at h
  obtain ⟨hk1, h⟩ := ift h
  obtain ⟨v2, hv2, h⟩ := letV_ex h
  obtain ⟨hk2, h⟩ := ift h
  obtain ⟨v4, hv4, h⟩ := letV_ex h
  obtain ⟨v5, hv5, h⟩ := letV_ex h
  refine NI_tryApart_L31_fr hL x1 x2 v2 v4 _ Rr ?_ FU m v5 h
  intro m6 h
  injection h with h
  subst h
  exact Frm.rf
def W_NI_tryTwo : List (Nat × Nat) := [(40, 15), (40, 16), (40, 17), (41, 999999)]
theorem NI_tryTwo_J30_fr {L R : List (Nat × Nat)} (hL : Sub W_NI_tryTwo L) (m : Mem) (x1 : Int32) (x2 : Int32) (Rr : Mem) (h : NI_tryTwo_J30 m x1 x2 = some Rr) : Frm L R m Rr := by
  unfold NI_tryTwo_J30 at h
  obtain ⟨m1, hq1, h⟩ := bM_ex h
  have a2 : Frm L R m m1 := NI_tryNeighbours_fr (subm hL rfl) m x1 x2 _ hq1
  injection h with h
  subst h
  exact a2
theorem NI_tryTwo_fr {L R : List (Nat × Nat)} (hL : Sub W_NI_tryTwo L) (m : Mem) (x1 : Int32) (x2 : Int32) (Rr : Mem) (h : NI_tryTwo m x1 x2 = some Rr) : Frm L R m Rr := by
  unfold NI_tryTwo at h
  obtain ⟨m1, hq1, h⟩ := bM_ex h
  have a2 : Frm L R m m1 := NI_leaveOut_fr (subm hL rfl) m x1 x2 _ hq1
  by_cases hb3 : (LN_after m1 42 x1) = x2
  · have h := ifp h hb3
    exact a2.tr (NI_tryTwo_J30_fr hL m1 x1 x2 _ h)
  · have h := ifn h hb3
    by_cases hb4 : (LN_after m1 42 x2) = x1
    · have h := ifp h hb4
      exact a2.tr (NI_tryTwo_J30_fr hL m1 x1 x2 _ h)
    · have h := ifn h hb4
      obtain ⟨m3, hq5, h⟩ := bM_ex h
      have a6 : Frm L R m m3 := a2.tr (NI_tryApart_fr (subm hL rfl) m1 x1 x2 _ hq5)
      injection h with h
      subst h
      exact a6
def W_NI_search : List (Nat × Nat) := [(40, 0), (40, 1), (40, 15), (40, 16), (40, 17), (41, 999999), (42, 999999), (43, 999999), (44, 999999), (46, 999999), (47, 999999), (48, 999999), (49, 999999), (50, 999999), (52, 999999), (53, 999999), (55, 999999), (56, 999999), (58, 999999), (59, 999999), (60, 999999), (61, 999999), (62, 999999)]
theorem NI_search_L54_fr {L R : List (Nat × Nat)} (hL : Sub W_NI_search L) (x2 : Int32) (kx : Mem → Option (Int32 × Mem)) (Rr : Int32 × Mem) (hx : ∀ (y0 : Mem), kx y0 = some Rr → Frm L R y0 Rr.2) : ∀ (n : Nat) (m : Mem) (x3 : Int32), NI_search_L54 x2 kx n m x3 = some Rr → Frm L R m Rr.2 := by
  intro n
  induction n with
  | zero =>
    intro m x3 h
    exact absurd (show none = some Rr from h) (fun e => Option.some_ne_none Rr e.symm)
  | succ n ih =>
    intro m x3 h
    rw [NI_search_L54] at h
    by_cases hb1 : (gI m 42 1) ≤ x3
    · have h := ifp h hb1
      exact hx m h
    · have h := ifn h hb1
      obtain ⟨m1, hq2, h⟩ := bM_ex h
      have a3 : Frm L R m m1 := NI_seePlaces_fr (subm hL rfl) m x3 x2 _ hq2
      obtain ⟨m3, hq4, h⟩ := bM_ex h
      have a5 : Frm L R m m3 := a3.tr (NI_sortKinds_fr (subm hL rfl) m1 x3 _ hq4)
      exact a5.tr (ih m3 (x3 + 1) h)
theorem NI_search_L84_fr {L R : List (Nat × Nat)} (hL : Sub W_NI_search L) (kx : Mem → Option (Int32 × Mem)) (Rr : Int32 × Mem) (hx : ∀ (y0 : Mem), kx y0 = some Rr → Frm L R y0 Rr.2) : ∀ (n : Nat) (m : Mem) (x3 : Int32), NI_search_L84 kx n m x3 = some Rr → Frm L R m Rr.2 := by
  intro n
  induction n with
  | zero =>
    intro m x3 h
    exact absurd (show none = some Rr from h) (fun e => Option.some_ne_none Rr e.symm)
  | succ n ih =>
    intro m x3 h
    rw [NI_search_L84] at h
    by_cases hb1 : (gI m 42 1) ≤ x3
    · have h := ifp h hb1
      exact hx m h
    · have h := ifn h hb1
      obtain ⟨m1, hq2, h⟩ := bM_ex h
      have a3 : Frm L R m m1 := NI_tryOne_fr (subm hL rfl) m x3 _ hq2
      exact a3.tr (ih m1 (x3 + 1) h)
theorem NI_search_L137_fr {L R : List (Nat × Nat)} (hL : Sub W_NI_search L) (x3 : Int32) (kx : Mem → Option (Int32 × Mem)) (Rr : Int32 × Mem) (hx : ∀ (y0 : Mem), kx y0 = some Rr → Frm L R y0 Rr.2) : ∀ (n : Nat) (m : Mem) (x4 : Int32), NI_search_L137 x3 kx n m x4 = some Rr → Frm L R m Rr.2 := by
  intro n
  induction n with
  | zero =>
    intro m x4 h
    exact absurd (show none = some Rr from h) (fun e => Option.some_ne_none Rr e.symm)
  | succ n ih =>
    intro m x4 h
    rw [NI_search_L137] at h
    by_cases hb1 : (gI m 42 1) ≤ x4
    · have h := ifp h hb1
      exact hx m h
    · have h := ifn h hb1
      obtain ⟨m1, hq2, h⟩ := bM_ex h
      have a3 : Frm L R m m1 := NI_tryTwo_fr (subm hL rfl) m x3 x4 _ hq2
      exact a3.tr (ih m1 (x4 + 1) h)
theorem NI_search_L121_fr {L R : List (Nat × Nat)} (hL : Sub W_NI_search L) (kx : Mem → Option (Int32 × Mem)) (Rr : Int32 × Mem) (hx : ∀ (y0 : Mem), kx y0 = some Rr → Frm L R y0 Rr.2) : ∀ (n : Nat) (m : Mem) (x3 : Int32), NI_search_L121 kx n m x3 = some Rr → Frm L R m Rr.2 := by
  intro n
  induction n with
  | zero =>
    intro m x3 h
    exact absurd (show none = some Rr from h) (fun e => Option.some_ne_none Rr e.symm)
  | succ n ih =>
    intro m x3 h
    rw [NI_search_L121] at h
    by_cases hb1 : (gI m 42 1) ≤ x3
    · have h := ifp h hb1
      exact hx m h
    · have h := ifn h hb1
      obtain ⟨v1, hv1, h⟩ := letV_ex h
      refine NI_search_L137_fr hL x3 _ Rr ?_ FU m v1 h
      intro m2 h
      exact ih m2 (x3 + 1) h
theorem NI_search_fr {L R : List (Nat × Nat)} (hL : Sub W_NI_search L) (m : Mem) (x1 : Nat) (x2 : Int32) (Rr : Int32 × Mem) (h : NI_search m x1 x2 = some Rr) : Frm L R m Rr.2 := by
  unfold NI_search at h
  obtain ⟨m1, hq1, h⟩ := bM_ex h
  have a2 : Frm L R m m1 := Frm.up (R := [(42, 3)]) (LN_copyFrom_fr (L := L) (R := [(42, 3)]) (subm hL rfl) m 42 x1 (Cov.at 0 rfl) _ hq1) (fa1 (Or.inr (CovL.of hL rfl)))
  obtain ⟨m3, hq3, h⟩ := bM_ex h
  have a4 : Frm L R m m3 := a2.tr (NI_seeEdges_fr (subm hL rfl) m1 _ hq3)
  obtain ⟨m5, hm5, h⟩ := letM_ex h
  have a5 : Frm L R m m5 := a4.tr (Frm.sI hm5 (hL _ _ rfl))
  obtain ⟨m6, hq6, h⟩ := bM_ex h
  have a7 : Frm L R m m6 := a5.tr (NI_leaveOut_fr (subm hL rfl) m5 (-1) (-1) _ hq6)
  obtain ⟨v8, hq8, h⟩ := bI_ex h
  by_cases hb9 : v8 = 0
  · have h := ifp h hb9
    refine a7.tr (NI_search_L54_fr hL x2 _ Rr ?_ FU m6 0 h)
    intro m10 h
    refine NI_search_L84_fr hL _ Rr ?_ FU m10 0 h
    intro m11 h
    by_cases hb12 : (gI m11 40 17) ≤ 0
    · have h := ifp h hb12
      refine NI_search_L121_fr hL _ Rr ?_ FU m11 0 h
      intro m12 h
      by_cases hb14 : (gI m12 40 17) ≤ 0
      · have h := ifp h hb14
        injection h with h
        subst h
        exact Frm.rf
      · have h := ifn h hb14
        obtain ⟨v13, m14, hq15, h⟩ := bV_ex h
        have a16 : Frm L R m12 m14 := NI_conclude_fr (subm hL rfl) m12 2 _ hq15
        injection h with h
        subst h
        exact a16
    · have h := ifn h hb12
      obtain ⟨v16, m17, hq17, h⟩ := bV_ex h
      have a18 : Frm L R m11 m17 := NI_conclude_fr (subm hL rfl) m11 1 _ hq17
      injection h with h
      subst h
      exact a18
  · have h := ifn h hb9
    obtain ⟨m19, hm19, h⟩ := letM_ex h
    have a19 : Frm L R m m19 := a7.tr (Frm.sI hm19 (hL _ _ rfl))
    obtain ⟨v20, m21, hq20, h⟩ := bV_ex h
    have a21 : Frm L R m m21 := a19.tr (NI_conclude_fr (subm hL rfl) m19 0 _ hq20)
    injection h with h
    subst h
    exact a21
def W_OH_byNight : List (Nat × Nat) := [(1, 1), (36, 0), (36, 1), (36, 2), (37, 999999), (38, 999999), (39, 999999), (40, 0), (40, 1), (40, 15), (40, 16), (40, 17), (41, 999999), (42, 999999), (43, 999999), (44, 999999), (46, 999999), (47, 999999), (48, 999999), (49, 999999), (50, 999999), (52, 999999), (53, 999999), (55, 999999), (56, 999999), (58, 999999), (59, 999999), (60, 999999), (61, 999999), (62, 999999)]
theorem OH_byNight_fr {L R : List (Nat × Nat)} (hL : Sub W_OH_byNight L) (m : Mem) (x1 : Int32) (x2 : Int32) (Rr : Int32 × Mem) (h : OH_byNight m x1 x2 = some Rr) : Frm L R m Rr.2 := by
  unfold OH_byNight at h
  obtain ⟨v1, m2, hq1, h⟩ := bV_ex h
  have a2 : Frm L R m m2 := PT_take_fr (subm hL rfl) m _ hq1
  obtain ⟨m4, hm4, h⟩ := letM_ex h
  have a3 : Frm L R m m4 := a2.tr (Frm.sI hm4 (hL _ _ rfl))
  by_cases hb4 : v1 = 0
  · have h := ifp h hb4
    injection h with h
    subst h
    exact a3
  · have h := ifn h hb4
    by_cases hb5 : (PH_hasLine m4 (gN m4 13) x1) = 0
    · have h := ifp h hb5
      injection h with h
      subst h
      exact a3
    · have h := ifn h hb5
      by_cases hb6 : x2 < 1
      · have h := ifp h hb6
        injection h with h
        subst h
        exact a3
      · have h := ifn h hb6
        by_cases hb7 : x2 ≤ 3
        · have h := ifp h hb7
          obtain ⟨m7, hm7, h⟩ := letM_ex h
          have a8 : Frm L R m m7 := a3.tr (Frm.sI hm7 (hL _ _ rfl))
          obtain ⟨m9, hm9, h⟩ := letM_ex h
          have a9 : Frm L R m m9 := a8.tr (Frm.sI hm9 (hL _ _ rfl))
          obtain ⟨hk10, h⟩ := ift h
          obtain ⟨v12, m13, hq11, h⟩ := bV_ex h
          have a12 : Frm L R m m13 := a9.tr (NI_search_fr (subm hL rfl) m9 ((gN m9 13) + 2 + 3 * ixn x1) x2 _ hq11)
          injection h with h
          subst h
          exact a12
        · have h := ifn h hb7
          injection h with h
          subst h
          exact a3
def W_OH_findRectangle : List (Nat × Nat) := [(66, 999999)]
theorem OH_findRectangle_L44_fr {L R : List (Nat × Nat)} (hL : Sub W_OH_findRectangle L) (x1 : Int32) (x2 : Int32) (x3 : Int32) (x5 : Int32) (kx : Mem → Option (Int32 × Mem)) (Rr : Int32 × Mem) (hx : ∀ (y0 : Mem), kx y0 = some Rr → Frm L R y0 Rr.2) : ∀ (n : Nat) (m : Mem) (x6 : Int32), OH_findRectangle_L44 x1 x2 x3 x5 kx n m x6 = some Rr → Frm L R m Rr.2 := by
  intro n
  induction n with
  | zero =>
    intro m x6 h
    exact absurd (show none = some Rr from h) (fun e => Option.some_ne_none Rr e.symm)
  | succ n ih =>
    intro m x6 h
    rw [OH_findRectangle_L44] at h
    by_cases hb1 : x5 < x6
    · have h := ifp h hb1
      exact hx m h
    · have h := ifn h hb1
      obtain ⟨v1, hq2, h⟩ := bI_ex h
      by_cases hb3 : v1 = 0
      · have h := ifp h hb3
        exact ih m (x6 + 1) h
      · have h := ifn h hb3
        obtain ⟨hk4, h⟩ := ift h
        obtain ⟨m4, hm4, h⟩ := letM_ex h
        have a5 : Frm L R m m4 := Frm.sI hm4 (hL _ _ rfl)
        obtain ⟨hk6, h⟩ := ift h
        obtain ⟨m6, hm6, h⟩ := letM_ex h
        have a7 : Frm L R m m6 := a5.tr (Frm.sI hm6 (hL _ _ rfl))
        obtain ⟨hk8, h⟩ := ift h
        obtain ⟨m8, hm8, h⟩ := letM_ex h
        have a9 : Frm L R m m8 := a7.tr (Frm.sI hm8 (hL _ _ rfl))
        obtain ⟨hk10, h⟩ := ift h
        obtain ⟨m10, hm10, h⟩ := letM_ex h
        have a11 : Frm L R m m10 := a9.tr (Frm.sI hm10 (hL _ _ rfl))
        injection h with h
        subst h
        exact a11
theorem OH_findRectangle_L10_fr {L R : List (Nat × Nat)} (hL : Sub W_OH_findRectangle L) (x1 : Int32) (x2 : Int32) (kx : Mem → Option (Int32 × Mem)) (Rr : Int32 × Mem) (hx : ∀ (y0 : Mem), kx y0 = some Rr → Frm L R y0 Rr.2) : ∀ (n : Nat) (m : Mem) (x3 : Int32), OH_findRectangle_L10 x1 x2 kx n m x3 = some Rr → Frm L R m Rr.2 := by
  intro n
  induction n with
  | zero =>
    intro m x3 h
    exact absurd (show none = some Rr from h) (fun e => Option.some_ne_none Rr e.symm)
  | succ n ih =>
    intro m x3 h
    rw [OH_findRectangle_L10] at h
    by_cases hb1 : 20 ≤ x3
    · have h := ifp h hb1
      exact hx m h
    · have h := ifn h hb1
      obtain ⟨v1, hv1, h⟩ := letV_ex h
      obtain ⟨v2, hv2, h⟩ := letV_ex h
      refine OH_findRectangle_L44_fr hL x1 x2 x3 v2 _ Rr ?_ FU m v1 h
      intro m3 h
      exact ih m3 (x3 + 1) h
theorem OH_findRectangle_L2_fr {L R : List (Nat × Nat)} (hL : Sub W_OH_findRectangle L) (x1 : Int32) (kx : Mem → Option (Int32 × Mem)) (Rr : Int32 × Mem) (hx : ∀ (y0 : Mem), kx y0 = some Rr → Frm L R y0 Rr.2) : ∀ (n : Nat) (m : Mem) (x2 : Int32), OH_findRectangle_L2 x1 kx n m x2 = some Rr → Frm L R m Rr.2 := by
  intro n
  induction n with
  | zero =>
    intro m x2 h
    exact absurd (show none = some Rr from h) (fun e => Option.some_ne_none Rr e.symm)
  | succ n ih =>
    intro m x2 h
    rw [OH_findRectangle_L2] at h
    by_cases hb1 : 20 ≤ x2
    · have h := ifp h hb1
      exact hx m h
    · have h := ifn h hb1
      refine OH_findRectangle_L10_fr hL x1 x2 _ Rr ?_ FU m 0 h
      intro m1 h
      exact ih m1 (x2 + 1) h
theorem OH_findRectangle_fr {L R : List (Nat × Nat)} (hL : Sub W_OH_findRectangle L) (m : Mem) (x1 : Int32) (Rr : Int32 × Mem) (h : OH_findRectangle m x1 = some Rr) : Frm L R m Rr.2 := by
  unfold OH_findRectangle at h
  refine OH_findRectangle_L2_fr hL x1 _ Rr ?_ FU m 0 h
  intro m1 h
  injection h with h
  subst h
  exact Frm.rf
def W_OH_rectangle : List (Nat × Nat) := [(1, 1), (36, 1), (36, 2), (37, 999999), (38, 999999), (39, 999999), (66, 999999)]
theorem OH_rectangle_L43_fr {L R : List (Nat × Nat)} (hL : Sub W_OH_rectangle L) (kx : Mem → Option (Int32 × Mem)) (Rr : Int32 × Mem) (hx : ∀ (y0 : Mem), kx y0 = some Rr → Frm L R y0 Rr.2) : ∀ (n : Nat) (m : Mem) (x2 : Int32), OH_rectangle_L43 kx n m x2 = some Rr → Frm L R m Rr.2 := by
  intro n
  induction n with
  | zero =>
    intro m x2 h
    exact absurd (show none = some Rr from h) (fun e => Option.some_ne_none Rr e.symm)
  | succ n ih =>
    intro m x2 h
    rw [OH_rectangle_L43] at h
    by_cases hb1 : 40 < x2
    · have h := ifp h hb1
      exact hx m h
    · have h := ifn h hb1
      obtain ⟨v1, m2, hq2, h⟩ := bV_ex h
      have a3 : Frm L R m m2 := OH_findRectangle_fr (subm hL rfl) m x2 _ hq2
      by_cases hb4 : v1 = 0
      · have h := ifp h hb4
        exact a3.tr (ih m2 (x2 + 1) h)
      · have h := ifn h hb4
        injection h with h
        subst h
        exact a3
theorem OH_rectangle_fr {L R : List (Nat × Nat)} (hL : Sub W_OH_rectangle L) (m : Mem) (Rr : Int32 × Mem) (h : OH_rectangle m = some Rr) : Frm L R m Rr.2 := by
  unfold OH_rectangle at h
  obtain ⟨v1, m2, hq1, h⟩ := bV_ex h
  have a2 : Frm L R m m2 := PT_take_fr (subm hL rfl) m _ hq1
  obtain ⟨m4, hm4, h⟩ := letM_ex h
  have a3 : Frm L R m m4 := a2.tr (Frm.sI hm4 (hL _ _ rfl))
  by_cases hb4 : v1 = 0
  · have h := ifp h hb4
    injection h with h
    subst h
    exact a3
  · have h := ifn h hb4
    obtain ⟨m6, hm6, h⟩ := letM_ex h
    have a5 : Frm L R m m6 := a3.tr (Frm.sI hm6 (hL _ _ rfl))
    refine a5.tr (OH_rectangle_L43_fr hL _ Rr ?_ FU m6 2 h)
    intro m7 h
    injection h with h
    subst h
    exact Frm.rf
def W_PA_rowsToMend : List (Nat × Nat) := [(35, 999999)]
theorem PA_rowsToMend_J108_fr {L R : List (Nat × Nat)} (hL : Sub W_PA_rowsToMend L) (kr : Mem → Int32 → Option (Int32 × Mem)) (kx : Mem → Option (Int32 × Mem)) (m : Mem) (x1 : Int32) (x2 : Int32) (x3 : Int32) (x4 : Int32) (s1 : Int32) (Rr : Int32 × Mem) (hr : ∀ (y0 : Mem) (y1 : Int32), kr y0 y1 = some Rr → Frm L R y0 Rr.2) (hx : ∀ (y0 : Mem), kx y0 = some Rr → Frm L R y0 Rr.2) (h : PA_rowsToMend_J108 kr kx m x1 x2 x3 x4 s1 = some Rr) : Frm L R m Rr.2 := by
  unfold PA_rowsToMend_J108 at h
  obtain ⟨hk1, h⟩ := ift h
  obtain ⟨m2, hm2, h⟩ := letM_ex h
  have a2 : Frm L R m m2 := Frm.sI hm2 (hL _ _ rfl)
  exact a2.tr (hr m2 (x4 + 1) h)
theorem PA_rowsToMend_J75_fr {L R : List (Nat × Nat)} (hL : Sub W_PA_rowsToMend L) (kr : Mem → Int32 → Option (Int32 × Mem)) (kx : Mem → Option (Int32 × Mem)) (m : Mem) (x1 : Int32) (x2 : Int32) (x3 : Int32) (x4 : Int32) (s0 : Int32) (Rr : Int32 × Mem) (hr : ∀ (y0 : Mem) (y1 : Int32), kr y0 y1 = some Rr → Frm L R y0 Rr.2) (hx : ∀ (y0 : Mem), kx y0 = some Rr → Frm L R y0 Rr.2) (h : PA_rowsToMend_J75 kr kx m x1 x2 x3 x4 s0 = some Rr) : Frm L R m Rr.2 := by
  unfold PA_rowsToMend_J75 at h
  by_cases hb1 : s0 = 0
  · have h := ifp h hb1
    obtain ⟨hk2, h⟩ := ift h
    exact PA_rowsToMend_J108_fr hL _ _ m x1 x2 x3 x4 (99 - (gI m 34 (ixn x4))) _ hr hx h
  · have h := ifn h hb1
    obtain ⟨hk3, h⟩ := ift h
    exact PA_rowsToMend_J108_fr hL _ _ m x1 x2 x3 x4 ((gI m 34 (ixn x4)) - 1) _ hr hx h
theorem PA_rowsToMend_J67_fr {L R : List (Nat × Nat)} (hL : Sub W_PA_rowsToMend L) (kr : Mem → Int32 → Option (Int32 × Mem)) (kx : Mem → Option (Int32 × Mem)) (m : Mem) (x1 : Int32) (x2 : Int32) (x3 : Int32) (x4 : Int32) (s0 : Int32) (s1 : Int32) (Rr : Int32 × Mem) (hr : ∀ (y0 : Mem) (y1 : Int32), kr y0 y1 = some Rr → Frm L R y0 Rr.2) (hx : ∀ (y0 : Mem), kx y0 = some Rr → Frm L R y0 Rr.2) (h : PA_rowsToMend_J67 kr kx m x1 x2 x3 x4 s0 s1 = some Rr) : Frm L R m Rr.2 := by
  unfold PA_rowsToMend_J67 at h
  by_cases hb1 : s0 = s1
  · have h := ifp h hb1
    exact PA_rowsToMend_J75_fr hL _ _ m x1 x2 x3 x4 1 _ hr hx h
  · have h := ifn h hb1
    exact PA_rowsToMend_J75_fr hL _ _ m x1 x2 x3 x4 0 _ hr hx h
theorem PA_rowsToMend_J58_fr {L R : List (Nat × Nat)} (hL : Sub W_PA_rowsToMend L) (kr : Mem → Int32 → Option (Int32 × Mem)) (kx : Mem → Option (Int32 × Mem)) (m : Mem) (x1 : Int32) (x2 : Int32) (x3 : Int32) (x4 : Int32) (s0 : Int32) (Rr : Int32 × Mem) (hr : ∀ (y0 : Mem) (y1 : Int32), kr y0 y1 = some Rr → Frm L R y0 Rr.2) (hx : ∀ (y0 : Mem), kx y0 = some Rr → Frm L R y0 Rr.2) (h : PA_rowsToMend_J58 kr kx m x1 x2 x3 x4 s0 = some Rr) : Frm L R m Rr.2 := by
  unfold PA_rowsToMend_J58 at h
  by_cases hb1 : x3 ≤ 0
  · have h := ifp h hb1
    exact PA_rowsToMend_J67_fr hL _ _ m x1 x2 x3 x4 s0 0 _ hr hx h
  · have h := ifn h hb1
    exact PA_rowsToMend_J67_fr hL _ _ m x1 x2 x3 x4 s0 1 _ hr hx h
theorem PA_rowsToMend_J42_fr {L R : List (Nat × Nat)} (hL : Sub W_PA_rowsToMend L) (kr : Mem → Int32 → Option (Int32 × Mem)) (kx : Mem → Option (Int32 × Mem)) (m : Mem) (x1 : Int32) (x2 : Int32) (x3 : Int32) (x4 : Int32) (Rr : Int32 × Mem) (hr : ∀ (y0 : Mem) (y1 : Int32), kr y0 y1 = some Rr → Frm L R y0 Rr.2) (hx : ∀ (y0 : Mem), kx y0 = some Rr → Frm L R y0 Rr.2) (h : PA_rowsToMend_J42 kr kx m x1 x2 x3 x4 = some Rr) : Frm L R m Rr.2 := by
  unfold PA_rowsToMend_J42 at h
  obtain ⟨hk1, h⟩ := ift h
  by_cases hb2 : (gI m 33 (ixn x4)) = x1
  · have h := ifp h hb2
    exact PA_rowsToMend_J58_fr hL _ _ m x1 x2 x3 x4 1 _ hr hx h
  · have h := ifn h hb2
    exact PA_rowsToMend_J58_fr hL _ _ m x1 x2 x3 x4 0 _ hr hx h
theorem PA_rowsToMend_L11_fr {L R : List (Nat × Nat)} (hL : Sub W_PA_rowsToMend L) (x1 : Int32) (x2 : Int32) (x3 : Int32) (kx : Mem → Option (Int32 × Mem)) (Rr : Int32 × Mem) (hx : ∀ (y0 : Mem), kx y0 = some Rr → Frm L R y0 Rr.2) : ∀ (n : Nat) (m : Mem) (x4 : Int32), PA_rowsToMend_L11 x1 x2 x3 kx n m x4 = some Rr → Frm L R m Rr.2 := by
  intro n
  induction n with
  | zero =>
    intro m x4 h
    exact absurd (show none = some Rr from h) (fun e => Option.some_ne_none Rr e.symm)
  | succ n ih =>
    intro m x4 h
    rw [PA_rowsToMend_L11] at h
    by_cases hb1 : (gI m 31 1) ≤ x4
    · have h := ifp h hb1
      exact hx m h
    · have h := ifn h hb1
      obtain ⟨hk2, h⟩ := ift h
      by_cases hb3 : (gI m 33 (ixn x4)) = x1
      · have h := ifp h hb3
        exact PA_rowsToMend_J42_fr hL _ _ m x1 x2 x3 x4 _ ih hx h
      · have h := ifn h hb3
        by_cases hb4 : (gI m 33 (ixn x4)) = x2
        · have h := ifp h hb4
          exact PA_rowsToMend_J42_fr hL _ _ m x1 x2 x3 x4 _ ih hx h
        · have h := ifn h hb4
          exact ih m (x4 + 1) h
theorem PA_rowsToMend_L140_fr {L R : List (Nat × Nat)} (hL : Sub W_PA_rowsToMend L) (x6 : Int32) (kx : Mem → Int32 → Int32 → Option (Int32 × Mem)) (Rr : Int32 × Mem) (hx : ∀ (y0 : Mem) (y1 : Int32) (y2 : Int32), kx y0 y1 y2 = some Rr → Frm L R y0 Rr.2) : ∀ (n : Nat) (m : Mem) (x4 : Int32) (x5 : Int32) (x7 : Int32), PA_rowsToMend_L140 x6 kx n m x4 x5 x7 = some Rr → Frm L R m Rr.2 := by
  intro n
  induction n with
  | zero =>
    intro m x4 x5 x7 h
    exact absurd (show none = some Rr from h) (fun e => Option.some_ne_none Rr e.symm)
  | succ n ih =>
    intro m x4 x5 x7 h
    rw [PA_rowsToMend_L140] at h
    obtain ⟨hk1, h⟩ := ift h
    by_cases hb2 : (gI m 35 (ixn x6)) ≤ x7
    · have h := ifp h hb2
      exact hx m x4 x5 h
    · have h := ifn h hb2
      by_cases hb3 : x4 ≤ 0
      · have h := ifp h hb3
        exact hx m x4 x5 h
      · have h := ifn h hb3
        obtain ⟨v2, hv2, h⟩ := letV_ex h
        exact ih m v2 (x5 + 1) (x7 + 1) h
theorem PA_rowsToMend_L132_fr {L R : List (Nat × Nat)} (hL : Sub W_PA_rowsToMend L) (kx : Mem → Int32 → Int32 → Option (Int32 × Mem)) (Rr : Int32 × Mem) (hx : ∀ (y0 : Mem) (y1 : Int32) (y2 : Int32), kx y0 y1 y2 = some Rr → Frm L R y0 Rr.2) : ∀ (n : Nat) (m : Mem) (x4 : Int32) (x5 : Int32) (x6 : Int32), PA_rowsToMend_L132 kx n m x4 x5 x6 = some Rr → Frm L R m Rr.2 := by
  intro n
  induction n with
  | zero =>
    intro m x4 x5 x6 h
    exact absurd (show none = some Rr from h) (fun e => Option.some_ne_none Rr e.symm)
  | succ n ih =>
    intro m x4 x5 x6 h
    rw [PA_rowsToMend_L132] at h
    by_cases hb1 : x6 ≤ 0
    · have h := ifp h hb1
      exact hx m x4 x5 h
    · have h := ifn h hb1
      refine PA_rowsToMend_L140_fr hL x6 _ Rr ?_ FU m x4 x5 0 h
      intro m3 y1 y2 h
      exact ih m3 y1 y2 (x6 + (-1)) h
theorem PA_rowsToMend_fr {L R : List (Nat × Nat)} (hL : Sub W_PA_rowsToMend L) (m : Mem) (x1 : Int32) (x2 : Int32) (x3 : Int32) (Rr : Int32 × Mem) (h : PA_rowsToMend m x1 x2 x3 = some Rr) : Frm L R m Rr.2 := by
  unfold PA_rowsToMend at h
  obtain ⟨m1, hq1, h⟩ := bM_ex h
  have a2 : Frm L R m m1 := Frm.up (R := [(35, 1)]) (JA_fill_fr (L := L) (R := [(35, 1)]) (subm hL rfl) m 35 0 (Cov.at 0 rfl) _ hq1) (fa1 (Or.inr (CovL.of hL rfl)))
  refine a2.tr (PA_rowsToMend_L11_fr hL x1 x2 x3 _ Rr ?_ FU m1 0 h)
  intro m3 h
  obtain ⟨v4, hv4, h⟩ := letV_ex h
  refine PA_rowsToMend_L132_fr hL _ Rr ?_ FU m3 v4 0 98 h
  intro m7 y5 y6 h
  by_cases hb5 : y5 ≤ 0
  · have h := ifp h hb5
    injection h with h
    subst h
    exact Frm.rf
  · have h := ifn h hb5
    injection h with h
    subst h
    exact Frm.rf
def W_PA_reckon : List (Nat × Nat) := [(32, 999999), (35, 999999)]
theorem PA_reckon_J89_fr {L R : List (Nat × Nat)} (hL : Sub W_PA_reckon L) (m : Mem) (x1 : Int32) (x2 : Int32) (x5 : Int32) (s1 : Int32) (s2 : Int32) (Rr : Int32 × Mem) (h : PA_reckon_J89 m x1 x2 x5 s1 s2 = some Rr) : Frm L R m Rr.2 := by
  unfold PA_reckon_J89 at h
  obtain ⟨hk1, h⟩ := ift h
  obtain ⟨m2, hm2, h⟩ := letM_ex h
  have a2 : Frm L R m m2 := Frm.sI hm2 (hL _ _ rfl)
  by_cases hb3 : x5 = 0
  · have h := ifp h hb3
    obtain ⟨hk4, h⟩ := ift h
    obtain ⟨m4, hm4, h⟩ := letM_ex h
    have a5 : Frm L R m m4 := a2.tr (Frm.sI hm4 (hL _ _ rfl))
    injection h with h
    subst h
    exact a5
  · have h := ifn h hb3
    obtain ⟨hk6, h⟩ := ift h
    obtain ⟨m6, hm6, h⟩ := letM_ex h
    have a7 : Frm L R m m6 := a2.tr (Frm.sI hm6 (hL _ _ rfl))
    injection h with h
    subst h
    exact a7
theorem PA_reckon_J55_fr {L R : List (Nat × Nat)} (hL : Sub W_PA_reckon L) (m : Mem) (x1 : Int32) (x2 : Int32) (x3 : Int32) (x4 : Int32) (s0 : Int32) (Rr : Int32 × Mem) (h : PA_reckon_J55 m x1 x2 x3 x4 s0 = some Rr) : Frm L R m Rr.2 := by
  unfold PA_reckon_J55 at h
  obtain ⟨hk1, h⟩ := ift h
  obtain ⟨m2, hm2, h⟩ := letM_ex h
  have a2 : Frm L R m m2 := Frm.sI hm2 (hL _ _ rfl)
  obtain ⟨hk3, h⟩ := ift h
  obtain ⟨m4, hm4, h⟩ := letM_ex h
  have a4 : Frm L R m m4 := a2.tr (Frm.sI hm4 (hL _ _ rfl))
  by_cases hb5 : s0 = 0
  · have h := ifp h hb5
    exact a4.tr (PA_reckon_J89_fr hL m4 x1 x2 s0 2 (-1) _ h)
  · have h := ifn h hb5
    exact a4.tr (PA_reckon_J89_fr hL m4 x1 x2 s0 2 (x3 + x4) _ h)
theorem PA_reckon_fr {L R : List (Nat × Nat)} (hL : Sub W_PA_reckon L) (m : Mem) (Rr : Int32 × Mem) (h : PA_reckon m = some Rr) : Frm L R m Rr.2 := by
  unfold PA_reckon at h
  obtain ⟨v1, hq1, h⟩ := bI_ex h
  obtain ⟨v3, hq2, h⟩ := bI_ex h
  obtain ⟨v5, hv5, h⟩ := letV_ex h
  obtain ⟨v6, hq3, h⟩ := bI_ex h
  obtain ⟨v8, hq4, h⟩ := bI_ex h
  obtain ⟨v10, hv10, h⟩ := letV_ex h
  obtain ⟨v11, m12, hq5, h⟩ := bV_ex h
  have a6 : Frm L R m m12 := PA_rowsToMend_fr (subm hL rfl) m 1 3 v5 _ hq5
  obtain ⟨v14, m15, hq7, h⟩ := bV_ex h
  have a8 : Frm L R m m15 := a6.tr (PA_rowsToMend_fr (subm hL rfl) m12 2 0 v10 _ hq7)
  by_cases hb9 : v11 < 0
  · have h := ifp h hb9
    exact a8.tr (PA_reckon_J55_fr hL m15 v5 v10 v11 v14 0 _ h)
  · have h := ifn h hb9
    by_cases hb10 : v14 < 0
    · have h := ifp h hb10
      exact a8.tr (PA_reckon_J55_fr hL m15 v5 v10 v11 v14 0 _ h)
    · have h := ifn h hb10
      exact a8.tr (PA_reckon_J55_fr hL m15 v5 v10 v11 v14 1 _ h)
def W_PA_followRow : List (Nat × Nat) := [(1, 2), (1, 3), (1, 4), (1, 5), (1, 6), (1, 7), (1, 8), (1, 10), (31, 1), (33, 999999), (34, 999999)]
theorem PA_followRow_fr {L R : List (Nat × Nat)} (hL : Sub W_PA_followRow L) (m : Mem) (Rr : Int32 × Mem) (h : PA_followRow m = some Rr) : Frm L R m Rr.2 := by
  unfold PA_followRow at h
  by_cases hb1 : (RD_isWord m 0 3) = 0
  · have h := ifp h hb1
    obtain ⟨v17, m18, hq2, h⟩ := bV_ex h
    have a3 : Frm L R m m18 := RD_fail_fr (subm hL rfl) m 1 _ hq2
    obtain ⟨hk4, h⟩ := ift h
    injection h with h
    subst h
    exact a3
  · have h := ifn h hb1
    by_cases hb5 : (gI m 31 1) < 30
    · have h := ifp h hb5
      obtain ⟨hk6, h⟩ := ift h
      obtain ⟨m2, hm2, h⟩ := letM_ex h
      have a7 : Frm L R m m2 := Frm.sI hm2 (hL _ _ rfl)
      obtain ⟨v3, m4, hq8, h⟩ := bV_ex h
      have a9 : Frm L R m m4 := a7.tr (RD_readNumber_fr (subm hL rfl) m2 1 99 _ hq8)
      by_cases hb10 : v3 = 0
      · have h := ifp h hb10
        injection h with h
        subst h
        exact a9
      · have h := ifn h hb10
        obtain ⟨hk11, h⟩ := ift h
        obtain ⟨m7, hm7, h⟩ := letM_ex h
        have a12 : Frm L R m m7 := a9.tr (Frm.sI hm7 (hL _ _ rfl))
        obtain ⟨m8, hm8, h⟩ := letM_ex h
        have a13 : Frm L R m m8 := a12.tr (Frm.sI hm8 (hL _ _ rfl))
        obtain ⟨v9, m10, hq14, h⟩ := bV_ex h
        have a15 : Frm L R m m10 := a13.tr (RD_readSemicolon_fr (subm hL rfl) m8 _ hq14)
        obtain ⟨hk16, h⟩ := ift h
        injection h with h
        subst h
        exact a15
    · have h := ifn h hb5
      obtain ⟨v13, m14, hq17, h⟩ := bV_ex h
      have a18 : Frm L R m m14 := RD_fail_fr (subm hL rfl) m 4 _ hq17
      obtain ⟨hk19, h⟩ := ift h
      injection h with h
      subst h
      exact a18
def W_PA_follow : List (Nat × Nat) := [(1, 2), (1, 3), (1, 4), (1, 5), (1, 6), (1, 7), (1, 8), (1, 10), (31, 1), (32, 999999), (33, 999999), (34, 999999), (35, 999999)]
theorem PA_follow_J44_fr {L R : List (Nat × Nat)} (hL : Sub W_PA_follow L) (kr : Mem → Int32 → Option (Int32 × Mem)) (kx : Mem → Option (Int32 × Mem)) (m : Mem) (Rr : Int32 × Mem) (hr : ∀ (y0 : Mem) (y1 : Int32), kr y0 y1 = some Rr → Frm L R y0 Rr.2) (hx : ∀ (y0 : Mem), kx y0 = some Rr → Frm L R y0 Rr.2) (h : PA_follow_J44 kr kx m = some Rr) : Frm L R m Rr.2 := by
  unfold PA_follow_J44 at h
  obtain ⟨v1, m2, hq1, h⟩ := bV_ex h
  have a2 : Frm L R m m2 := PA_reckon_fr (subm hL rfl) m _ hq1
  injection h with h
  subst h
  exact a2
theorem PA_follow_L7_fr {L R : List (Nat × Nat)} (hL : Sub W_PA_follow L) (kx : Mem → Option (Int32 × Mem)) (Rr : Int32 × Mem) (hx : ∀ (y0 : Mem), kx y0 = some Rr → Frm L R y0 Rr.2) : ∀ (n : Nat) (m : Mem) (x2 : Int32), PA_follow_L7 kx n m x2 = some Rr → Frm L R m Rr.2 := by
  intro n
  induction n with
  | zero =>
    intro m x2 h
    exact absurd (show none = some Rr from h) (fun e => Option.some_ne_none Rr e.symm)
  | succ n ih =>
    intro m x2 h
    rw [PA_follow_L7] at h
    by_cases hb1 : 300 < x2
    · have h := ifp h hb1
      exact hx m h
    · have h := ifn h hb1
      obtain ⟨v1, m2, hq2, h⟩ := bV_ex h
      have a3 : Frm L R m m2 := RD_isAtEnd_fr (subm hL rfl) m _ hq2
      by_cases hb4 : v1 = 0
      · have h := ifp h hb4
        obtain ⟨v4, m5, hq5, h⟩ := bV_ex h
        have a6 : Frm L R m m5 := a3.tr (PA_followRow_fr (subm hL rfl) m2 _ hq5)
        by_cases hb7 : v4 = 0
        · have h := ifp h hb7
          injection h with h
          subst h
          exact a6
        · have h := ifn h hb7
          exact a6.tr (ih m5 (x2 + 1) h)
      · have h := ifn h hb4
        obtain ⟨v7, m8, hq8, h⟩ := bV_ex h
        have a9 : Frm L R m m8 := a3.tr (RD_closes_fr (subm hL rfl) m2 _ hq8)
        by_cases hb10 : v7 = 0
        · have h := ifp h hb10
          injection h with h
          subst h
          exact a9
        · have h := ifn h hb10
          by_cases hb11 : 2 ≤ (gI m8 31 1)
          · have h := ifp h hb11
            exact a9.tr (PA_follow_J44_fr hL _ _ m8 _ ih hx h)
          · have h := ifn h hb11
            obtain ⟨v10, m11, hq12, h⟩ := bV_ex h
            have a13 : Frm L R m m11 := a9.tr (RD_fail_fr (subm hL rfl) m8 4 _ hq12)
            by_cases hb14 : v10 = 0
            · have h := ifp h hb14
              injection h with h
              subst h
              exact a13
            · have h := ifn h hb14
              exact a13.tr (PA_follow_J44_fr hL _ _ m11 _ ih hx h)
theorem PA_follow_fr {L R : List (Nat × Nat)} (hL : Sub W_PA_follow L) (m : Mem) (Rr : Int32 × Mem) (h : PA_follow m = some Rr) : Frm L R m Rr.2 := by
  unfold PA_follow at h
  obtain ⟨m1, hm1, h⟩ := letM_ex h
  have a1 : Frm L R m m1 := Frm.sI hm1 (hL _ _ rfl)
  refine a1.tr (PA_follow_L7_fr hL _ Rr ?_ FU m1 0 h)
  intro m2 h
  injection h with h
  subst h
  exact Frm.rf
def W_OH_paces : List (Nat × Nat) := [(0, 15), (1, 1), (1, 2), (1, 3), (1, 4), (1, 5), (1, 6), (1, 7), (1, 8), (1, 9), (1, 10), (31, 1), (32, 999999), (33, 999999), (34, 999999), (35, 999999)]
theorem OH_paces_fr {L R : List (Nat × Nat)} (hL : Sub W_OH_paces L) (m : Mem) (Rr : Int32 × Mem) (h : OH_paces m = some Rr) : Frm L R m Rr.2 := by
  unfold OH_paces at h
  obtain ⟨m1, hq1, h⟩ := bM_ex h
  have a2 : Frm L R m m1 := RD_begin_fr (subm hL rfl) m 300 _ hq1
  obtain ⟨v3, m4, hq3, h⟩ := bV_ex h
  have a4 : Frm L R m m4 := a2.tr (PA_follow_fr (subm hL rfl) m1 _ hq3)
  obtain ⟨v6, m7, hq5, h⟩ := bV_ex h
  have a6 : Frm L R m m7 := a4.tr (OH_closeText_fr (subm hL rfl) m4 v3 _ hq5)
  injection h with h
  subst h
  exact a6
def W_PH_copyFrom : List (Nat × Nat) := []
theorem PH_copyFrom_L2_fr {L R : List (Nat × Nat)} (hL : Sub W_PH_copyFrom L) (x0 : Nat) (x1 : Nat) (hc_x0 : Cov R x0 16) (kx : Mem → Option Mem) (Rr : Mem) (hx : ∀ (y0 : Mem), kx y0 = some Rr → Frm L R y0 Rr) : ∀ (n : Nat) (m : Mem) (x2 : Int32), PH_copyFrom_L2 x0 x1 kx n m x2 = some Rr → Frm L R m Rr := by
  intro n
  induction n with
  | zero =>
    intro m x2 h
    exact absurd (show none = some Rr from h) (fun e => Option.some_ne_none Rr e.symm)
  | succ n ih =>
    intro m x2 h
    rw [PH_copyFrom_L2] at h
    by_cases hb1 : 3 ≤ x2
    · have h := ifp h hb1
      exact hx m h
    · have h := ifn h hb1
      obtain ⟨hk2, h⟩ := ift h
      obtain ⟨m2, hq3, h⟩ := bM_ex h
      have a4 : Frm L R m m2 := Frm.up (R := [((x0 + 2 + 3 * ixn x2), 3)]) (LN_copyFrom_fr (L := L) (R := [((x0 + 2 + 3 * ixn x2), 3)]) (subm hL rfl) m (x0 + 2 + 3 * ixn x2) (x1 + 2 + 3 * ixn x2) (Cov.at 0 rfl) _ hq3) (fa1 (Or.inl (Cov.sub hc_x0 (by have q_hk2 : ixn x2 < 3 := hk2.2; omega) (by have q_hk2 : ixn x2 < 3 := hk2.2; omega))))
      exact a4.tr (ih m2 (x2 + 1) h)
theorem PH_copyFrom_fr {L R : List (Nat × Nat)} (hL : Sub W_PH_copyFrom L) (m : Mem) (x0 : Nat) (x1 : Nat) (hc_x0 : Cov R x0 16) (Rr : Mem) (h : PH_copyFrom m x0 x1 = some Rr) : Frm L R m Rr := by
  unfold PH_copyFrom at h
  refine PH_copyFrom_L2_fr hL x0 x1 (hc_x0) _ Rr ?_ FU m 0 h
  intro m1 h
  obtain ⟨m2, hm2, h⟩ := letM_ex h
  have a2 : Frm L R m1 m2 := Frm.cIr hm2 (Cov.sub hc_x0 (by omega) (by omega))
  obtain ⟨m3, hm3, h⟩ := letM_ex h
  have a3 : Frm L R m1 m3 := a2.tr (Frm.cIr hm3 (Cov.sub hc_x0 (by omega) (by omega)))
  obtain ⟨m4, hm4, h⟩ := letM_ex h
  have a4 : Frm L R m1 m4 := a3.tr (Frm.cIr hm4 (Cov.sub hc_x0 (by omega) (by omega)))
  obtain ⟨m5, hm5, h⟩ := letM_ex h
  have a5 : Frm L R m1 m5 := a4.tr (Frm.cJr hm5 (Cov.sub hc_x0 (by omega) (by omega)))
  obtain ⟨m6, hm6, h⟩ := letM_ex h
  have a6 : Frm L R m1 m6 := a5.tr (Frm.cIr hm6 (Cov.sub hc_x0 (by omega) (by omega)))
  obtain ⟨m7, hm7, h⟩ := letM_ex h
  have a7 : Frm L R m1 m7 := a6.tr (Frm.sIr hm7 (Cov.sub hc_x0 (by omega) (by omega)))
  obtain ⟨m8, hm8, h⟩ := letM_ex h
  have a8 : Frm L R m1 m8 := a7.tr (Frm.sIr hm8 (Cov.sub hc_x0 (by omega) (by omega)))
  obtain ⟨m9, hm9, h⟩ := letM_ex h
  have a9 : Frm L R m1 m9 := a8.tr (Frm.sIr hm9 (Cov.sub hc_x0 (by omega) (by omega)))
  obtain ⟨m10, hm10, h⟩ := letM_ex h
  have a10 : Frm L R m1 m10 := a9.tr (Frm.sIr hm10 (Cov.sub hc_x0 (by omega) (by omega)))
  obtain ⟨m11, hm11, h⟩ := letM_ex h
  have a11 : Frm L R m1 m11 := a10.tr (Frm.sIr hm11 (Cov.sub hc_x0 (by omega) (by omega)))
  obtain ⟨m12, hm12, h⟩ := letM_ex h
  have a12 : Frm L R m1 m12 := a11.tr (Frm.sIr hm12 (Cov.sub hc_x0 (by omega) (by omega)))
  obtain ⟨m13, hm13, h⟩ := letM_ex h
  have a13 : Frm L R m1 m13 := a12.tr (Frm.sIr hm13 (Cov.sub hc_x0 (by omega) (by omega)))
  injection h with h
  subst h
  exact a13
def W_RM_throwsIf : List (Nat × Nat) := [(133, 0)]
theorem RM_throwsIf_fr {L R : List (Nat × Nat)} (hL : Sub W_RM_throwsIf L) (m : Mem) (x1 : Int32) (Rr : Int32 × Mem) (h : RM_throwsIf m x1 = some Rr) : Frm L R m Rr.2 := by
  unfold RM_throwsIf at h
  by_cases hb1 : x1 = 0
  · have h := ifp h hb1
    obtain ⟨m1, hm1, h⟩ := letM_ex h
    have a2 : Frm L R m m1 := Frm.sI hm1 (hL _ _ rfl)
    obtain ⟨hk3, h⟩ := ift h
    injection h with h
    subst h
    exact a2
  · have h := ifn h hb1
    obtain ⟨m3, hm3, h⟩ := letM_ex h
    have a4 : Frm L R m m3 := Frm.sI hm3 (hL _ _ rfl)
    obtain ⟨hk5, h⟩ := ift h
    injection h with h
    subst h
    exact a4
def W_RM_four : List (Nat × Nat) := [(133, 2), (134, 999999)]
theorem RM_four_L3_fr {L R : List (Nat × Nat)} (hL : Sub W_RM_four L) (x1 : Int32) (kx : Mem → Option Mem) (Rr : Mem) (hx : ∀ (y0 : Mem), kx y0 = some Rr → Frm L R y0 Rr) : ∀ (n : Nat) (m : Mem) (x2 : Int32), RM_four_L3 x1 kx n m x2 = some Rr → Frm L R m Rr := by
  intro n
  induction n with
  | zero =>
    intro m x2 h
    exact absurd (show none = some Rr from h) (fun e => Option.some_ne_none Rr e.symm)
  | succ n ih =>
    intro m x2 h
    rw [RM_four_L3] at h
    by_cases hb1 : x2 < 0
    · have h := ifp h hb1
      exact hx m h
    · have h := ifn h hb1
      obtain ⟨hk2, h⟩ := ift h
      obtain ⟨m2, hm2, h⟩ := letM_ex h
      have a3 : Frm L R m m2 := Frm.sI hm2 (hL _ _ rfl)
      obtain ⟨m3, hm3, h⟩ := letM_ex h
      have a4 : Frm L R m m3 := a3.tr (Frm.sI hm3 (hL _ _ rfl))
      exact a4.tr (ih m3 (x2 + (-8)) h)
theorem RM_four_fr {L R : List (Nat × Nat)} (hL : Sub W_RM_four L) (m : Mem) (x1 : Int32) (Rr : Mem) (h : RM_four m x1 = some Rr) : Frm L R m Rr := by
  unfold RM_four at h
  refine RM_four_L3_fr hL x1 _ Rr ?_ FU m 24 h
  intro m1 h
  injection h with h
  subst h
  exact Frm.rf
def W_RM_feed : List (Nat × Nat) := [(133, 0), (133, 2), (134, 999999)]
theorem RM_feed_fr {L R : List (Nat × Nat)} (hL : Sub W_RM_feed L) (m : Mem) (x1 : Int32) (x2 : Int32) (x3 : Int32) (x4 : Int32) (x5 : Int32) (Rr : Int32 × Mem) (h : RM_feed m x1 x2 x3 x4 x5 = some Rr) : Frm L R m Rr.2 := by
  unfold RM_feed at h
  obtain ⟨m1, hm1, h⟩ := letM_ex h
  have a1 : Frm L R m m1 := Frm.sI hm1 (hL _ _ rfl)
  by_cases hb2 : ((gI m1 133 2) + 20) ≤ 940
  · have h := ifp h hb2
    obtain ⟨m2, hq3, h⟩ := bM_ex h
    have a4 : Frm L R m m2 := a1.tr (RM_four_fr (subm hL rfl) m1 x1 _ hq3)
    obtain ⟨m4, hq5, h⟩ := bM_ex h
    have a6 : Frm L R m m4 := a4.tr (RM_four_fr (subm hL rfl) m2 x2 _ hq5)
    obtain ⟨m6, hq7, h⟩ := bM_ex h
    have a8 : Frm L R m m6 := a6.tr (RM_four_fr (subm hL rfl) m4 x3 _ hq7)
    obtain ⟨m8, hq9, h⟩ := bM_ex h
    have a10 : Frm L R m m8 := a8.tr (RM_four_fr (subm hL rfl) m6 x4 _ hq9)
    obtain ⟨m10, hq11, h⟩ := bM_ex h
    have a12 : Frm L R m m10 := a10.tr (RM_four_fr (subm hL rfl) m8 x5 _ hq11)
    injection h with h
    subst h
    exact a12
  · have h := ifn h hb2
    injection h with h
    subst h
    exact a1
def W_RM_end : List (Nat × Nat) := [(133, 0), (133, 2)]
theorem RM_end_fr {L R : List (Nat × Nat)} (hL : Sub W_RM_end L) (m : Mem) (x1 : Int32) (Rr : Int32 × Mem) (h : RM_end m x1 = some Rr) : Frm L R m Rr.2 := by
  unfold RM_end at h
  obtain ⟨m1, hm1, h⟩ := letM_ex h
  have a1 : Frm L R m m1 := Frm.sI hm1 (hL _ _ rfl)
  by_cases hb2 : x1 < 0
  · have h := ifp h hb2
    injection h with h
    subst h
    exact a1
  · have h := ifn h hb2
    by_cases hb3 : x1 ≤ (gI m1 133 2)
    · have h := ifp h hb3
      obtain ⟨m2, hm2, h⟩ := letM_ex h
      have a4 : Frm L R m m2 := a1.tr (Frm.sI hm2 (hL _ _ rfl))
      injection h with h
      subst h
      exact a4
    · have h := ifn h hb3
      injection h with h
      subst h
      exact a1
def W_RM_taken : List (Nat × Nat) := [(133, 2), (133, 3), (133, 4), (133, 5)]
theorem RM_taken_fr {L R : List (Nat × Nat)} (hL : Sub W_RM_taken L) (m : Mem) (x1 : Int32) (Rr : Mem) (h : RM_taken m x1 = some Rr) : Frm L R m Rr := by
  unfold RM_taken at h
  obtain ⟨m1, hm1, h⟩ := letM_ex h
  have a1 : Frm L R m m1 := Frm.sI hm1 (hL _ _ rfl)
  obtain ⟨m2, hm2, h⟩ := letM_ex h
  have a2 : Frm L R m m2 := a1.tr (Frm.sI hm2 (hL _ _ rfl))
  obtain ⟨m3, hm3, h⟩ := letM_ex h
  have a3 : Frm L R m m3 := a2.tr (Frm.sI hm3 (hL _ _ rfl))
  obtain ⟨m4, hm4, h⟩ := letM_ex h
  have a4 : Frm L R m m4 := a3.tr (Frm.sI hm4 (hL _ _ rfl))
  injection h with h
  subst h
  exact a4
def W_RM_plain : List (Nat × Nat) := [(136, 999999)]
theorem RM_plain_L2_fr {L R : List (Nat × Nat)} (hL : Sub W_RM_plain L) (kx : Mem → Option Mem) (Rr : Mem) (hx : ∀ (y0 : Mem), kx y0 = some Rr → Frm L R y0 Rr) : ∀ (n : Nat) (m : Mem) (x1 : Int32), RM_plain_L2 kx n m x1 = some Rr → Frm L R m Rr := by
  intro n
  induction n with
  | zero =>
    intro m x1 h
    exact absurd (show none = some Rr from h) (fun e => Option.some_ne_none Rr e.symm)
  | succ n ih =>
    intro m x1 h
    rw [RM_plain_L2] at h
    by_cases hb1 : 116 ≤ x1
    · have h := ifp h hb1
      exact hx m h
    · have h := ifn h hb1
      obtain ⟨hk2, h⟩ := ift h
      obtain ⟨m2, hm2, h⟩ := letM_ex h
      have a3 : Frm L R m m2 := Frm.sI hm2 (hL _ _ rfl)
      exact a3.tr (ih m2 (x1 + 1) h)
theorem RM_plain_L23_fr {L R : List (Nat × Nat)} (hL : Sub W_RM_plain L) (kx : Mem → Option Mem) (Rr : Mem) (hx : ∀ (y0 : Mem), kx y0 = some Rr → Frm L R y0 Rr) : ∀ (n : Nat) (m : Mem) (x1 : Int32), RM_plain_L23 kx n m x1 = some Rr → Frm L R m Rr := by
  intro n
  induction n with
  | zero =>
    intro m x1 h
    exact absurd (show none = some Rr from h) (fun e => Option.some_ne_none Rr e.symm)
  | succ n ih =>
    intro m x1 h
    rw [RM_plain_L23] at h
    by_cases hb1 : 4 ≤ x1
    · have h := ifp h hb1
      exact hx m h
    · have h := ifn h hb1
      obtain ⟨hk2, h⟩ := ift h
      obtain ⟨m2, hm2, h⟩ := letM_ex h
      have a3 : Frm L R m m2 := Frm.sI hm2 (hL _ _ rfl)
      exact a3.tr (ih m2 (x1 + 1) h)
theorem RM_plain_fr {L R : List (Nat × Nat)} (hL : Sub W_RM_plain L) (m : Mem) (Rr : Mem) (h : RM_plain m = some Rr) : Frm L R m Rr := by
  unfold RM_plain at h
  refine RM_plain_L2_fr hL _ Rr ?_ FU m 0 h
  intro m1 h
  refine RM_plain_L23_fr hL _ Rr ?_ FU m1 0 h
  intro m2 h
  injection h with h
  subst h
  exact Frm.rf
def W_RM_next : List (Nat × Nat) := [(133, 4), (133, 10), (133, 11), (133, 12), (133, 13), (133, 16)]
theorem RM_next_J18_fr {L R : List (Nat × Nat)} (hL : Sub W_RM_next L) (kr : Mem → Option Mem) (kx : Mem → Option Mem) (m : Mem) (Rr : Mem) (hr : ∀ (y0 : Mem), kr y0 = some Rr → Frm L R y0 Rr) (hx : ∀ (y0 : Mem), kx y0 = some Rr → Frm L R y0 Rr) (h : RM_next_J18 kr kx m = some Rr) : Frm L R m Rr := by
  unfold RM_next_J18 at h
  obtain ⟨m1, hm1, h⟩ := letM_ex h
  have a1 : Frm L R m m1 := Frm.sI hm1 (hL _ _ rfl)
  exact a1.tr (hr m1 h)
theorem RM_next_L0_fr {L R : List (Nat × Nat)} (hL : Sub W_RM_next L) (kx : Mem → Option Mem) (Rr : Mem) (hx : ∀ (y0 : Mem), kx y0 = some Rr → Frm L R y0 Rr) : ∀ (n : Nat) (m : Mem), RM_next_L0 kx n m = some Rr → Frm L R m Rr := by
  intro n
  induction n with
  | zero =>
    intro m h
    exact absurd (show none = some Rr from h) (fun e => Option.some_ne_none Rr e.symm)
  | succ n ih =>
    intro m h
    rw [RM_next_L0] at h
    obtain ⟨v1, hq1, h⟩ := bI_ex h
    by_cases hb2 : v1 = 32
    · have h := ifp h hb2
      exact RM_next_J18_fr hL _ _ m _ ih hx h
    · have h := ifn h hb2
      obtain ⟨v3, hq3, h⟩ := bI_ex h
      by_cases hb4 : v3 = 10
      · have h := ifp h hb4
        exact RM_next_J18_fr hL _ _ m _ ih hx h
      · have h := ifn h hb4
        exact hx m h
theorem RM_next_J251_fr {L R : List (Nat × Nat)} (hL : Sub W_RM_next L) (kr : Mem → Int32 → Option Mem) (kx : Mem → Int32 → Option Mem) (m : Mem) (x2 : Int32) (x3 : Int32) (Rr : Mem) (hr : ∀ (y0 : Mem) (y1 : Int32), kr y0 y1 = some Rr → Frm L R y0 Rr) (hx : ∀ (y0 : Mem) (y1 : Int32), kx y0 y1 = some Rr → Frm L R y0 Rr) (h : RM_next_J251 kr kx m x2 x3 = some Rr) : Frm L R m Rr := by
  unfold RM_next_J251 at h
  obtain ⟨m1, hm1, h⟩ := letM_ex h
  have a1 : Frm L R m m1 := Frm.sI hm1 (hL _ _ rfl)
  obtain ⟨m2, hm2, h⟩ := letM_ex h
  have a2 : Frm L R m m2 := a1.tr (Frm.sI hm2 (hL _ _ rfl))
  exact a2.tr (hr m2 x3 h)
theorem RM_next_J224_fr {L R : List (Nat × Nat)} (hL : Sub W_RM_next L) (kr : Mem → Int32 → Option Mem) (kx : Mem → Int32 → Option Mem) (m : Mem) (x2 : Int32) (x3 : Int32) (Rr : Mem) (hr : ∀ (y0 : Mem) (y1 : Int32), kr y0 y1 = some Rr → Frm L R y0 Rr) (hx : ∀ (y0 : Mem) (y1 : Int32), kx y0 y1 = some Rr → Frm L R y0 Rr) (h : RM_next_J224 kr kx m x2 x3 = some Rr) : Frm L R m Rr := by
  unfold RM_next_J224 at h
  by_cases hb1 : 2 ≤ (gI m 133 12)
  · have h := ifp h hb1
    exact RM_next_J251_fr hL _ _ m x2 x3 _ hr hx h
  · have h := ifn h hb1
    obtain ⟨v1, hq2, h⟩ := bI_ex h
    obtain ⟨m3, hm3, h⟩ := letM_ex h
    have a3 : Frm L R m m3 := Frm.sI hm3 (hL _ _ rfl)
    exact a3.tr (RM_next_J251_fr hL _ _ m3 x2 x3 _ hr hx h)
theorem RM_next_J197_fr {L R : List (Nat × Nat)} (hL : Sub W_RM_next L) (kr : Mem → Int32 → Option Mem) (kx : Mem → Int32 → Option Mem) (m : Mem) (x2 : Int32) (s0 : Int32) (Rr : Mem) (hr : ∀ (y0 : Mem) (y1 : Int32), kr y0 y1 = some Rr → Frm L R y0 Rr) (hx : ∀ (y0 : Mem) (y1 : Int32), kx y0 y1 = some Rr → Frm L R y0 Rr) (h : RM_next_J197 kr kx m x2 s0 = some Rr) : Frm L R m Rr := by
  unfold RM_next_J197 at h
  by_cases hb1 : 7 ≤ (gI m 133 12)
  · have h := ifp h hb1
    exact RM_next_J224_fr hL _ _ m x2 s0 _ hr hx h
  · have h := ifn h hb1
    obtain ⟨v1, hq2, h⟩ := bI_ex h
    obtain ⟨m3, hm3, h⟩ := letM_ex h
    have a3 : Frm L R m m3 := Frm.sJ hm3 (hL _ _ rfl)
    exact a3.tr (RM_next_J224_fr hL _ _ m3 x2 s0 _ hr hx h)
theorem RM_next_J177_fr {L R : List (Nat × Nat)} (hL : Sub W_RM_next L) (kr : Mem → Int32 → Option Mem) (kx : Mem → Int32 → Option Mem) (m : Mem) (x2 : Int32) (x3 : Int32) (Rr : Mem) (hr : ∀ (y0 : Mem) (y1 : Int32), kr y0 y1 = some Rr → Frm L R y0 Rr) (hx : ∀ (y0 : Mem) (y1 : Int32), kx y0 y1 = some Rr → Frm L R y0 Rr) (h : RM_next_J177 kr kx m x2 x3 = some Rr) : Frm L R m Rr := by
  unfold RM_next_J177 at h
  by_cases hb1 : x3 = 0
  · have h := ifp h hb1
    exact RM_next_J197_fr hL _ _ m x2 0 _ hr hx h
  · have h := ifn h hb1
    obtain ⟨v1, hq2, h⟩ := bI_ex h
    by_cases hb3 : (RM_isSmall v1) = x2
    · have h := ifp h hb3
      exact RM_next_J197_fr hL _ _ m x2 1 _ hr hx h
    · have h := ifn h hb3
      exact RM_next_J197_fr hL _ _ m x2 0 _ hr hx h
theorem RM_next_L157_fr {L R : List (Nat × Nat)} (hL : Sub W_RM_next L) (x2 : Int32) (kx : Mem → Int32 → Option Mem) (Rr : Mem) (hx : ∀ (y0 : Mem) (y1 : Int32), kx y0 y1 = some Rr → Frm L R y0 Rr) : ∀ (n : Nat) (m : Mem) (x3 : Int32), RM_next_L157 x2 kx n m x3 = some Rr → Frm L R m Rr := by
  intro n
  induction n with
  | zero =>
    intro m x3 h
    exact absurd (show none = some Rr from h) (fun e => Option.some_ne_none Rr e.symm)
  | succ n ih =>
    intro m x3 h
    rw [RM_next_L157] at h
    obtain ⟨v1, hq1, h⟩ := bI_ex h
    by_cases hb2 : (RM_isSmall v1) = 0
    · have h := ifp h hb2
      obtain ⟨v3, hq3, h⟩ := bI_ex h
      by_cases hb4 : (RM_isDigit v3) = 0
      · have h := ifp h hb4
        exact hx m x3 h
      · have h := ifn h hb4
        exact RM_next_J177_fr hL _ _ m x2 x3 _ ih hx h
    · have h := ifn h hb2
      exact RM_next_J177_fr hL _ _ m x2 x3 _ ih hx h
theorem RM_next_J293_fr {L R : List (Nat × Nat)} (hL : Sub W_RM_next L) (m : Mem) (x2 : Int32) (s1 : Int32) (s2 : Int32) (Rr : Mem) (h : RM_next_J293 m x2 s1 s2 = some Rr) : Frm L R m Rr := by
  unfold RM_next_J293 at h
  by_cases hb1 : s1 ≤ s2
  · have h := ifp h hb1
    by_cases hb2 : x2 = 0
    · have h := ifp h hb2
      obtain ⟨m1, hm1, h⟩ := letM_ex h
      have a3 : Frm L R m m1 := Frm.sI hm1 (hL _ _ rfl)
      injection h with h
      subst h
      exact a3
    · have h := ifn h hb2
      obtain ⟨m2, hm2, h⟩ := letM_ex h
      have a4 : Frm L R m m2 := Frm.sI hm2 (hL _ _ rfl)
      injection h with h
      subst h
      exact a4
  · have h := ifn h hb1
    obtain ⟨m3, hm3, h⟩ := letM_ex h
    have a5 : Frm L R m m3 := Frm.sI hm3 (hL _ _ rfl)
    injection h with h
    subst h
    exact a5
theorem RM_next_J140_fr {L R : List (Nat × Nat)} (hL : Sub W_RM_next L) (m : Mem) (x1 : Int32) (Rr : Mem) (h : RM_next_J140 m x1 = some Rr) : Frm L R m Rr := by
  unfold RM_next_J140 at h
  obtain ⟨v1, hv1, h⟩ := letV_ex h
  obtain ⟨m2, hm2, h⟩ := letM_ex h
  have a1 : Frm L R m m2 := Frm.sJ hm2 (hL _ _ rfl)
  obtain ⟨m3, hm3, h⟩ := letM_ex h
  have a2 : Frm L R m m3 := a1.tr (Frm.sI hm3 (hL _ _ rfl))
  refine a2.tr (RM_next_L157_fr hL v1 _ Rr ?_ FU m3 1 h)
  intro m5 y4 h
  by_cases hb4 : y4 = 0
  · have h := ifp h hb4
    obtain ⟨m6, hm6, h⟩ := letM_ex h
    have a5 : Frm L R m5 m6 := Frm.sI hm6 (hL _ _ rfl)
    injection h with h
    subst h
    exact a5
  · have h := ifn h hb4
    by_cases hb6 : v1 = 0
    · have h := ifp h hb6
      exact RM_next_J293_fr hL m5 v1 (gI m5 133 12) 2 _ h
    · have h := ifn h hb6
      exact RM_next_J293_fr hL m5 v1 (gI m5 133 12) 7 _ h
theorem RM_next_J121_fr {L R : List (Nat × Nat)} (hL : Sub W_RM_next L) (m : Mem) (x1 : Int32) (s1 : Int32) (Rr : Mem) (h : RM_next_J121 m x1 s1 = some Rr) : Frm L R m Rr := by
  unfold RM_next_J121 at h
  obtain ⟨m1, hm1, h⟩ := letM_ex h
  have a1 : Frm L R m m1 := Frm.sI hm1 (hL _ _ rfl)
  obtain ⟨m2, hm2, h⟩ := letM_ex h
  have a2 : Frm L R m m2 := a1.tr (Frm.sI hm2 (hL _ _ rfl))
  obtain ⟨m3, hm3, h⟩ := letM_ex h
  have a3 : Frm L R m m3 := a2.tr (Frm.sI hm3 (hL _ _ rfl))
  injection h with h
  subst h
  exact a3
theorem RM_next_J80_fr {L R : List (Nat × Nat)} (hL : Sub W_RM_next L) (m : Mem) (Rr : Mem) (h : RM_next_J80 m = some Rr) : Frm L R m Rr := by
  unfold RM_next_J80 at h
  obtain ⟨v1, hq1, h⟩ := bI_ex h
  by_cases hb2 : 0 ≤ v1
  · have h := ifp h hb2
    by_cases hb3 : (RM_isSmall v1) = 0
    · have h := ifp h hb3
      by_cases hb4 : (RM_isDigit v1) = 0
      · have h := ifp h hb4
        by_cases hb5 : v1 = 59
        · have h := ifp h hb5
          exact RM_next_J121_fr hL m v1 3 _ h
        · have h := ifn h hb5
          exact RM_next_J121_fr hL m v1 4 _ h
      · have h := ifn h hb4
        exact RM_next_J140_fr hL m v1 _ h
    · have h := ifn h hb3
      exact RM_next_J140_fr hL m v1 _ h
  · have h := ifn h hb2
    obtain ⟨m3, hm3, h⟩ := letM_ex h
    have a6 : Frm L R m m3 := Frm.sI hm3 (hL _ _ rfl)
    injection h with h
    subst h
    exact a6
theorem RM_next_fr {L R : List (Nat × Nat)} (hL : Sub W_RM_next L) (m : Mem) (Rr : Mem) (h : RM_next m = some Rr) : Frm L R m Rr := by
  unfold RM_next at h
  refine RM_next_L0_fr hL _ Rr ?_ FU m h
  intro m1 h
  obtain ⟨m2, hm2, h⟩ := letM_ex h
  have a2 : Frm L R m1 m2 := Frm.sI hm2 (hL _ _ rfl)
  obtain ⟨m3, hm3, h⟩ := letM_ex h
  have a3 : Frm L R m1 m3 := a2.tr (Frm.sI hm3 (hL _ _ rfl))
  by_cases hb4 : (gI m3 133 3) ≤ (gI m3 133 5)
  · have h := ifp h hb4
    exact a3.tr (RM_next_J80_fr hL m3 _ h)
  · have h := ifn h hb4
    by_cases hb5 : (gI m3 133 4) < (gI m3 133 5)
    · have h := ifp h hb5
      exact a3.tr (RM_next_J80_fr hL m3 _ h)
    · have h := ifn h hb5
      obtain ⟨m4, hm4, h⟩ := letM_ex h
      have a6 : Frm L R m1 m4 := a3.tr (Frm.sI hm4 (hL _ _ rfl))
      obtain ⟨m5, hm5, h⟩ := letM_ex h
      have a7 : Frm L R m1 m5 := a6.tr (Frm.sI hm5 (hL _ _ rfl))
      injection h with h
      subst h
      exact a7
def W_RM_bad : List (Nat × Nat) := [(133, 14), (133, 15)]
theorem RM_bad_fr {L R : List (Nat × Nat)} (hL : Sub W_RM_bad L) (m : Mem) (x1 : Int32) (Rr : Int32 × Mem) (h : RM_bad m x1 = some Rr) : Frm L R m Rr.2 := by
  unfold RM_bad at h
  obtain ⟨m1, hm1, h⟩ := letM_ex h
  have a1 : Frm L R m m1 := Frm.sI hm1 (hL _ _ rfl)
  obtain ⟨m2, hm2, h⟩ := letM_ex h
  have a2 : Frm L R m m2 := a1.tr (Frm.sI hm2 (hL _ _ rfl))
  injection h with h
  subst h
  exact a2
def W_RM_sign : List (Nat × Nat) := [(133, 4), (133, 10), (133, 11), (133, 12), (133, 13), (133, 14), (133, 15), (133, 16)]
theorem RM_sign_fr {L R : List (Nat × Nat)} (hL : Sub W_RM_sign L) (m : Mem) (x1 : Int32) (Rr : Int32 × Mem) (h : RM_sign m x1 = some Rr) : Frm L R m Rr.2 := by
  unfold RM_sign at h
  by_cases hb1 : (RM_isSign m x1) = 0
  · have h := ifp h hb1
    obtain ⟨v3, m4, hq2, h⟩ := bV_ex h
    have a3 : Frm L R m m4 := RM_bad_fr (subm hL rfl) m 1 _ hq2
    obtain ⟨hk4, h⟩ := ift h
    injection h with h
    subst h
    exact a3
  · have h := ifn h hb1
    obtain ⟨m1, hq5, h⟩ := bM_ex h
    have a6 : Frm L R m m1 := RM_next_fr (subm hL rfl) m _ hq5
    injection h with h
    subst h
    exact a6
def W_RM_takes : List (Nat × Nat) := [(133, 4), (133, 10), (133, 11), (133, 12), (133, 13), (133, 14), (133, 15), (133, 16), (133, 17)]
theorem RM_takes_fr {L R : List (Nat × Nat)} (hL : Sub W_RM_takes L) (m : Mem) (x1 : Int32) (x2 : Int32) (Rr : Int32 × Mem) (h : RM_takes m x1 x2 = some Rr) : Frm L R m Rr.2 := by
  unfold RM_takes at h
  by_cases hb1 : (gI m 133 10) = 2
  · have h := ifp h hb1
    by_cases hb2 : (RM_isIn (gI m 133 13) x1 x2) = 0
    · have h := ifp h hb2
      obtain ⟨v4, m5, hq3, h⟩ := bV_ex h
      have a4 : Frm L R m m5 := RM_bad_fr (subm hL rfl) m 2 _ hq3
      obtain ⟨hk5, h⟩ := ift h
      injection h with h
      subst h
      exact a4
    · have h := ifn h hb2
      obtain ⟨m1, hm1, h⟩ := letM_ex h
      have a6 : Frm L R m m1 := Frm.sI hm1 (hL _ _ rfl)
      obtain ⟨m2, hq7, h⟩ := bM_ex h
      have a8 : Frm L R m m2 := a6.tr (RM_next_fr (subm hL rfl) m1 _ hq7)
      injection h with h
      subst h
      exact a8
  · have h := ifn h hb1
    obtain ⟨v8, m9, hq9, h⟩ := bV_ex h
    have a10 : Frm L R m m9 := RM_bad_fr (subm hL rfl) m 1 _ hq9
    obtain ⟨hk11, h⟩ := ift h
    injection h with h
    subst h
    exact a10
def W_RM_fresh : List (Nat × Nat) := [(133, 4), (133, 10), (133, 11), (133, 12), (133, 13), (133, 14), (133, 15), (133, 16), (137, 999999)]
theorem RM_fresh_J43_fr {L R : List (Nat × Nat)} (hL : Sub W_RM_fresh L) (m : Mem) (Rr : Int32 × Mem) (h : RM_fresh_J43 m = some Rr) : Frm L R m Rr.2 := by
  unfold RM_fresh_J43 at h
  obtain ⟨v1, m2, hq1, h⟩ := bV_ex h
  have a2 : Frm L R m m2 := RM_bad_fr (subm hL rfl) m 3 _ hq1
  obtain ⟨hk3, h⟩ := ift h
  injection h with h
  subst h
  exact a2
theorem RM_fresh_fr {L R : List (Nat × Nat)} (hL : Sub W_RM_fresh L) (m : Mem) (x1 : Int32) (Rr : Int32 × Mem) (h : RM_fresh m x1 = some Rr) : Frm L R m Rr.2 := by
  unfold RM_fresh at h
  obtain ⟨v1, hq1, h⟩ := bI_ex h
  by_cases hb2 : v1 = 0
  · have h := ifp h hb2
    obtain ⟨v13, m14, hq3, h⟩ := bV_ex h
    have a4 : Frm L R m m14 := RM_bad_fr (subm hL rfl) m 1 _ hq3
    obtain ⟨hk5, h⟩ := ift h
    injection h with h
    subst h
    exact a4
  · have h := ifn h hb2
    obtain ⟨hk6, h⟩ := ift h
    obtain ⟨v4, hq7, h⟩ := bI_ex h
    by_cases hb8 : 0 ≤ v4
    · have h := ifp h hb8
      exact RM_fresh_J43_fr hL m _ h
    · have h := ifn h hb8
      obtain ⟨hk9, h⟩ := ift h
      obtain ⟨v7, hq10, h⟩ := bI_ex h
      by_cases hb11 : v7 < 0
      · have h := ifp h hb11
        obtain ⟨hk12, h⟩ := ift h
        obtain ⟨m10, hm10, h⟩ := letM_ex h
        have a13 : Frm L R m m10 := Frm.sJ hm10 (hL _ _ rfl)
        obtain ⟨m11, hq14, h⟩ := bM_ex h
        have a15 : Frm L R m m11 := a13.tr (RM_next_fr (subm hL rfl) m10 _ hq14)
        injection h with h
        subst h
        exact a15
      · have h := ifn h hb11
        exact RM_fresh_J43_fr hL m _ h
def W_RM_isOnce : List (Nat × Nat) := [(133, 4), (133, 10), (133, 11), (133, 12), (133, 13), (133, 14), (133, 15), (133, 16), (133, 19)]
theorem RM_isOnce_fr {L R : List (Nat × Nat)} (hL : Sub W_RM_isOnce L) (m : Mem) (x1 : Int32) (Rr : Int32 × Mem) (h : RM_isOnce m x1 = some Rr) : Frm L R m Rr.2 := by
  unfold RM_isOnce at h
  by_cases hb1 : (RM_has (gI m 133 19) x1) = 0
  · have h := ifp h hb1
    obtain ⟨m1, hm1, h⟩ := letM_ex h
    have a2 : Frm L R m m1 := Frm.sI hm1 (hL _ _ rfl)
    obtain ⟨m2, hq3, h⟩ := bM_ex h
    have a4 : Frm L R m m2 := a2.tr (RM_next_fr (subm hL rfl) m1 _ hq3)
    injection h with h
    subst h
    exact a4
  · have h := ifn h hb1
    obtain ⟨v4, m5, hq5, h⟩ := bV_ex h
    have a6 : Frm L R m m5 := RM_bad_fr (subm hL rfl) m 3 _ hq5
    obtain ⟨hk7, h⟩ := ift h
    injection h with h
    subst h
    exact a6
def W_RM_readLine : List (Nat × Nat) := [(133, 4), (133, 10), (133, 11), (133, 12), (133, 13), (133, 14), (133, 15), (133, 16), (136, 999999), (137, 999999)]
theorem RM_readLine_J180_fr {L R : List (Nat × Nat)} (hL : Sub W_RM_readLine L) (kr : Mem → Int32 → Option (Int32 × Mem)) (kx : Mem → Int32 → Option (Int32 × Mem)) (m : Mem) (x1 : Int32) (x2 : Int32) (x3 : Int32) (x4 : Int32) (Rr : Int32 × Mem) (hr : ∀ (y0 : Mem) (y1 : Int32), kr y0 y1 = some Rr → Frm L R y0 Rr.2) (hx : ∀ (y0 : Mem) (y1 : Int32), kx y0 y1 = some Rr → Frm L R y0 Rr.2) (h : RM_readLine_J180 kr kx m x1 x2 x3 x4 = some Rr) : Frm L R m Rr.2 := by
  unfold RM_readLine_J180 at h
  obtain ⟨hk1, h⟩ := ift h
  obtain ⟨m2, hm2, h⟩ := letM_ex h
  have a2 : Frm L R m m2 := Frm.sI hm2 (hL _ _ rfl)
  obtain ⟨hk3, h⟩ := ift h
  obtain ⟨m4, hm4, h⟩ := letM_ex h
  have a4 : Frm L R m m4 := a2.tr (Frm.sI hm4 (hL _ _ rfl))
  obtain ⟨m5, hq5, h⟩ := bM_ex h
  have a6 : Frm L R m m5 := a4.tr (RM_next_fr (subm hL rfl) m4 _ hq5)
  exact a6.tr (hr m5 (x2 + 1) h)
theorem RM_readLine_L45_fr {L R : List (Nat × Nat)} (hL : Sub W_RM_readLine L) (x1 : Int32) (x3 : Int32) (kx : Mem → Int32 → Option (Int32 × Mem)) (Rr : Int32 × Mem) (hx : ∀ (y0 : Mem) (y1 : Int32), kx y0 y1 = some Rr → Frm L R y0 Rr.2) : ∀ (n : Nat) (m : Mem) (x2 : Int32), RM_readLine_L45 x1 x3 kx n m x2 = some Rr → Frm L R m Rr.2 := by
  intro n
  induction n with
  | zero =>
    intro m x2 h
    exact absurd (show none = some Rr from h) (fun e => Option.some_ne_none Rr e.symm)
  | succ n ih =>
    intro m x2 h
    rw [RM_readLine_L45] at h
    by_cases hb1 : (RM_isSign m 59) = 0
    · have h := ifp h hb1
      by_cases hb2 : (gI m 133 10) = 2
      · have h := ifp h hb2
        by_cases hb3 : (gI m 133 13) ≤ 20
        · have h := ifp h hb3
          by_cases hb4 : x2 = 12
          · have h := ifp h hb4
            obtain ⟨v18, m19, hq5, h⟩ := bV_ex h
            have a6 : Frm L R m m19 := RM_bad_fr (subm hL rfl) m 4 _ hq5
            obtain ⟨hk7, h⟩ := ift h
            injection h with h
            subst h
            exact a6
          · have h := ifn h hb4
            obtain ⟨v1, hv1, h⟩ := letV_ex h
            obtain ⟨m2, hq8, h⟩ := bM_ex h
            have a9 : Frm L R m m2 := RM_next_fr (subm hL rfl) m _ hq8
            by_cases hb10 : (gI m2 133 10) = 2
            · have h := ifp h hb10
              by_cases hb11 : (gI m2 133 13) ≤ 20
              · have h := ifp h hb11
                by_cases hb12 : x2 ≤ 0
                · have h := ifp h hb12
                  exact a9.tr (RM_readLine_J180_fr hL _ _ m2 x1 x2 x3 v1 _ ih hx h)
                · have h := ifn h hb12
                  obtain ⟨hk13, h⟩ := ift h
                  by_cases hb14 : (gI m2 136 (ixn ((x3 + (2 * x2)) - 2))) = v1
                  · have h := ifp h hb14
                    obtain ⟨hk15, h⟩ := ift h
                    by_cases hb16 : (gI m2 136 (ixn ((x3 + (2 * x2)) - 1))) = (gI m2 133 13)
                    · have h := ifp h hb16
                      obtain ⟨v6, m7, hq17, h⟩ := bV_ex h
                      have a18 : Frm L R m m7 := a9.tr (RM_bad_fr (subm hL rfl) m2 3 _ hq17)
                      obtain ⟨hk19, h⟩ := ift h
                      injection h with h
                      subst h
                      exact a18
                    · have h := ifn h hb16
                      exact a9.tr (RM_readLine_J180_fr hL _ _ m2 x1 x2 x3 v1 _ ih hx h)
                  · have h := ifn h hb14
                    exact a9.tr (RM_readLine_J180_fr hL _ _ m2 x1 x2 x3 v1 _ ih hx h)
              · have h := ifn h hb11
                obtain ⟨v10, m11, hq20, h⟩ := bV_ex h
                have a21 : Frm L R m m11 := a9.tr (RM_bad_fr (subm hL rfl) m2 2 _ hq20)
                obtain ⟨hk22, h⟩ := ift h
                injection h with h
                subst h
                exact a21
            · have h := ifn h hb10
              obtain ⟨v14, m15, hq23, h⟩ := bV_ex h
              have a24 : Frm L R m m15 := a9.tr (RM_bad_fr (subm hL rfl) m2 1 _ hq23)
              obtain ⟨hk25, h⟩ := ift h
              injection h with h
              subst h
              exact a24
        · have h := ifn h hb3
          obtain ⟨v22, m23, hq26, h⟩ := bV_ex h
          have a27 : Frm L R m m23 := RM_bad_fr (subm hL rfl) m 2 _ hq26
          obtain ⟨hk28, h⟩ := ift h
          injection h with h
          subst h
          exact a27
      · have h := ifn h hb2
        obtain ⟨v26, m27, hq29, h⟩ := bV_ex h
        have a30 : Frm L R m m27 := RM_bad_fr (subm hL rfl) m 1 _ hq29
        obtain ⟨hk31, h⟩ := ift h
        injection h with h
        subst h
        exact a30
    · have h := ifn h hb1
      exact hx m x2 h
theorem RM_readLine_J287_fr {L R : List (Nat × Nat)} (hL : Sub W_RM_readLine L) (m : Mem) (x1 : Int32) (x2 : Int32) (Rr : Int32 × Mem) (h : RM_readLine_J287 m x1 x2 = some Rr) : Frm L R m Rr.2 := by
  unfold RM_readLine_J287 at h
  obtain ⟨hk1, h⟩ := ift h
  obtain ⟨m2, hm2, h⟩ := letM_ex h
  have a2 : Frm L R m m2 := Frm.sI hm2 (hL _ _ rfl)
  obtain ⟨hk3, h⟩ := ift h
  obtain ⟨m4, hm4, h⟩ := letM_ex h
  have a4 : Frm L R m m4 := a2.tr (Frm.sI hm4 (hL _ _ rfl))
  injection h with h
  subst h
  exact a4
theorem RM_readLine_J233_fr {L R : List (Nat × Nat)} (hL : Sub W_RM_readLine L) (m : Mem) (s1 : Int32) (Rr : Int32 × Mem) (h : RM_readLine_J233 m s1 = some Rr) : Frm L R m Rr.2 := by
  unfold RM_readLine_J233 at h
  obtain ⟨v1, m2, hq1, h⟩ := bV_ex h
  have a2 : Frm L R m m2 := RM_bad_fr (subm hL rfl) m s1 _ hq1
  obtain ⟨hk3, h⟩ := ift h
  injection h with h
  subst h
  exact a2
theorem RM_readLine_fr {L R : List (Nat × Nat)} (hL : Sub W_RM_readLine L) (m : Mem) (Rr : Int32 × Mem) (h : RM_readLine m = some Rr) : Frm L R m Rr.2 := by
  unfold RM_readLine at h
  obtain ⟨hk1, h⟩ := ift h
  obtain ⟨v2, hv2, h⟩ := letV_ex h
  by_cases hb2 : v2 = 3
  · have h := ifp h hb2
    obtain ⟨v19, m20, hq3, h⟩ := bV_ex h
    have a4 : Frm L R m m20 := RM_bad_fr (subm hL rfl) m 4 _ hq3
    obtain ⟨hk5, h⟩ := ift h
    injection h with h
    subst h
    exact a4
  · have h := ifn h hb2
    obtain ⟨m3, hq6, h⟩ := bM_ex h
    have a7 : Frm L R m m3 := RM_next_fr (subm hL rfl) m _ hq6
    obtain ⟨v5, m6, hq8, h⟩ := bV_ex h
    have a9 : Frm L R m m6 := a7.tr (RM_fresh_fr (subm hL rfl) m3 (13 + v2) _ hq8)
    by_cases hb10 : v5 = 0
    · have h := ifp h hb10
      injection h with h
      subst h
      exact a9
    · have h := ifn h hb10
      obtain ⟨v8, hv8, h⟩ := letV_ex h
      refine a9.tr (RM_readLine_L45_fr hL v2 v8 _ Rr ?_ FU m6 0 h)
      intro m10 y9 h
      by_cases hb12 : 3 ≤ y9
      · have h := ifp h hb12
        obtain ⟨hk13, h⟩ := ift h
        obtain ⟨hk14, h⟩ := ift h
        by_cases hb15 : (gI m10 136 (ixn v8)) = (gI m10 136 (ixn ((v8 + (2 * y9)) - 2)))
        · have h := ifp h hb15
          obtain ⟨hk16, h⟩ := ift h
          obtain ⟨hk17, h⟩ := ift h
          by_cases hb18 : (gI m10 136 (ixn (v8 + 1))) = (gI m10 136 (ixn ((v8 + (2 * y9)) - 1)))
          · have h := ifp h hb18
            obtain ⟨v15, m16, hq19, h⟩ := bV_ex h
            have a20 : Frm L R m10 m16 := RM_bad_fr (subm hL rfl) m10 3 _ hq19
            obtain ⟨hk21, h⟩ := ift h
            injection h with h
            subst h
            exact a20
          · have h := ifn h hb18
            exact RM_readLine_J287_fr hL m10 v2 y9 _ h
        · have h := ifn h hb15
          exact RM_readLine_J287_fr hL m10 v2 y9 _ h
      · have h := ifn h hb12
        by_cases hb22 : y9 = 0
        · have h := ifp h hb22
          exact RM_readLine_J233_fr hL m10 1 _ h
        · have h := ifn h hb22
          exact RM_readLine_J233_fr hL m10 4 _ h
def W_RM_row : List (Nat × Nat) := [(133, 4), (133, 10), (133, 11), (133, 12), (133, 13), (133, 14), (133, 15), (133, 16), (133, 17), (133, 19), (136, 999999), (137, 999999)]
theorem RM_row_L372_fr {L R : List (Nat × Nat)} (hL : Sub W_RM_row L) (kx : Mem → Option (Int32 × Mem)) (Rr : Int32 × Mem) (hx : ∀ (y0 : Mem), kx y0 = some Rr → Frm L R y0 Rr.2) : ∀ (n : Nat) (m : Mem) (x1 : Int32), RM_row_L372 kx n m x1 = some Rr → Frm L R m Rr.2 := by
  intro n
  induction n with
  | zero =>
    intro m x1 h
    exact absurd (show none = some Rr from h) (fun e => Option.some_ne_none Rr e.symm)
  | succ n ih =>
    intro m x1 h
    rw [RM_row_L372] at h
    by_cases hb1 : 4 ≤ x1
    · have h := ifp h hb1
      exact hx m h
    · have h := ifn h hb1
      obtain ⟨v1, m2, hq2, h⟩ := bV_ex h
      have a3 : Frm L R m m2 := RM_takes_fr (subm hL rfl) m 0 9 _ hq2
      by_cases hb4 : v1 = 0
      · have h := ifp h hb4
        injection h with h
        subst h
        exact a3
      · have h := ifn h hb4
        obtain ⟨hk5, h⟩ := ift h
        obtain ⟨m5, hm5, h⟩ := letM_ex h
        have a6 : Frm L R m m5 := a3.tr (Frm.sI hm5 (hL _ _ rfl))
        exact a6.tr (ih m5 (x1 + 1) h)
theorem RM_row_J337_fr {L R : List (Nat × Nat)} (hL : Sub W_RM_row L) (m : Mem) (s1 : Int32) (s2 : Int32) (Rr : Int32 × Mem) (h : RM_row_J337 m s1 s2 = some Rr) : Frm L R m Rr.2 := by
  unfold RM_row_J337 at h
  obtain ⟨hk1, h⟩ := ift h
  obtain ⟨m2, hm2, h⟩ := letM_ex h
  have a2 : Frm L R m m2 := Frm.sI hm2 (hL _ _ rfl)
  obtain ⟨m3, hq3, h⟩ := bM_ex h
  have a4 : Frm L R m m3 := a2.tr (RM_next_fr (subm hL rfl) m2 _ hq3)
  injection h with h
  subst h
  exact a4
theorem RM_row_J317_fr {L R : List (Nat × Nat)} (hL : Sub W_RM_row L) (m : Mem) (Rr : Int32 × Mem) (h : RM_row_J317 m = some Rr) : Frm L R m Rr.2 := by
  unfold RM_row_J317 at h
  by_cases hb1 : (RM_isWord m 6842739) = 0
  · have h := ifp h hb1
    exact RM_row_J337_fr hL m 5 0 _ h
  · have h := ifn h hb1
    exact RM_row_J337_fr hL m 5 1 _ h
theorem RM_row_J247_fr {L R : List (Nat × Nat)} (hL : Sub W_RM_row L) (m : Mem) (s0 : Int32) (Rr : Int32 × Mem) (h : RM_row_J247 m s0 = some Rr) : Frm L R m Rr.2 := by
  unfold RM_row_J247 at h
  by_cases hb1 : 0 ≤ s0
  · have h := ifp h hb1
    obtain ⟨hk2, h⟩ := ift h
    obtain ⟨m2, hm2, h⟩ := letM_ex h
    have a3 : Frm L R m m2 := Frm.sI hm2 (hL _ _ rfl)
    obtain ⟨m3, hq4, h⟩ := bM_ex h
    have a5 : Frm L R m m3 := a3.tr (RM_next_fr (subm hL rfl) m2 _ hq4)
    injection h with h
    subst h
    exact a5
  · have h := ifn h hb1
    obtain ⟨v5, m6, hq6, h⟩ := bV_ex h
    have a7 : Frm L R m m6 := RM_bad_fr (subm hL rfl) m 1 _ hq6
    obtain ⟨hk8, h⟩ := ift h
    injection h with h
    subst h
    exact a7
theorem RM_row_L147_fr {L R : List (Nat × Nat)} (hL : Sub W_RM_row L) (kx : Mem → Option (Int32 × Mem)) (Rr : Int32 × Mem) (hx : ∀ (y0 : Mem), kx y0 = some Rr → Frm L R y0 Rr.2) : ∀ (n : Nat) (m : Mem) (x1 : Int32), RM_row_L147 kx n m x1 = some Rr → Frm L R m Rr.2 := by
  intro n
  induction n with
  | zero =>
    intro m x1 h
    exact absurd (show none = some Rr from h) (fun e => Option.some_ne_none Rr e.symm)
  | succ n ih =>
    intro m x1 h
    rw [RM_row_L147] at h
    by_cases hb1 : 2 ≤ x1
    · have h := ifp h hb1
      exact hx m h
    · have h := ifn h hb1
      obtain ⟨v1, m2, hq2, h⟩ := bV_ex h
      have a3 : Frm L R m m2 := RM_takes_fr (subm hL rfl) m 0 19 _ hq2
      by_cases hb4 : v1 = 0
      · have h := ifp h hb4
        injection h with h
        subst h
        exact a3
      · have h := ifn h hb4
        obtain ⟨hk5, h⟩ := ift h
        obtain ⟨m5, hm5, h⟩ := letM_ex h
        have a6 : Frm L R m m5 := a3.tr (Frm.sI hm5 (hL _ _ rfl))
        exact a6.tr (ih m5 (x1 + 1) h)
theorem RM_row_J82_fr {L R : List (Nat × Nat)} (hL : Sub W_RM_row L) (kr : Mem → Int32 → Option (Int32 × Mem)) (kx : Mem → Option (Int32 × Mem)) (m : Mem) (x1 : Int32) (x2 : Int32) (s1 : Int32) (s2 : Int32) (Rr : Int32 × Mem) (hr : ∀ (y0 : Mem) (y1 : Int32), kr y0 y1 = some Rr → Frm L R y0 Rr.2) (hx : ∀ (y0 : Mem), kx y0 = some Rr → Frm L R y0 Rr.2) (h : RM_row_J82 kr kx m x1 x2 s1 s2 = some Rr) : Frm L R m Rr.2 := by
  unfold RM_row_J82 at h
  obtain ⟨v1, m2, hq1, h⟩ := bV_ex h
  have a2 : Frm L R m m2 := RM_takes_fr (subm hL rfl) m s1 s2 _ hq1
  by_cases hb3 : v1 = 0
  · have h := ifp h hb3
    injection h with h
    subst h
    exact a2
  · have h := ifn h hb3
    obtain ⟨hk4, h⟩ := ift h
    obtain ⟨m5, hm5, h⟩ := letM_ex h
    have a5 : Frm L R m m5 := a2.tr (Frm.sI hm5 (hL _ _ rfl))
    exact a5.tr (hr m5 (x2 + 1) h)
theorem RM_row_L63_fr {L R : List (Nat × Nat)} (hL : Sub W_RM_row L) (x1 : Int32) (kx : Mem → Option (Int32 × Mem)) (Rr : Int32 × Mem) (hx : ∀ (y0 : Mem), kx y0 = some Rr → Frm L R y0 Rr.2) : ∀ (n : Nat) (m : Mem) (x2 : Int32), RM_row_L63 x1 kx n m x2 = some Rr → Frm L R m Rr.2 := by
  intro n
  induction n with
  | zero =>
    intro m x2 h
    exact absurd (show none = some Rr from h) (fun e => Option.some_ne_none Rr e.symm)
  | succ n ih =>
    intro m x2 h
    rw [RM_row_L63] at h
    by_cases hb1 : 3 ≤ x2
    · have h := ifp h hb1
      exact hx m h
    · have h := ifn h hb1
      by_cases hb2 : 2 ≤ x2
      · have h := ifp h hb2
        exact RM_row_J82_fr hL _ _ m x1 x2 0 99 _ ih hx h
      · have h := ifn h hb2
        exact RM_row_J82_fr hL _ _ m x1 x2 0 19 _ ih hx h
theorem RM_row_fr {L R : List (Nat × Nat)} (hL : Sub W_RM_row L) (m : Mem) (Rr : Int32 × Mem) (h : RM_row m = some Rr) : Frm L R m Rr.2 := by
  unfold RM_row at h
  by_cases hb1 : (RM_isWord m 1818848869) = 0
  · have h := ifp h hb1
    by_cases hb2 : (RM_isWord m 6840697) = 0
    · have h := ifp h hb2
      by_cases hb3 : (RM_isWord m 109300298179432) = 0
      · have h := ifp h hb3
        by_cases hb4 : (RM_isWord m 7102839) = 0
        · have h := ifp h hb4
          by_cases hb5 : (RM_isWord m 1701078885) = 0
          · have h := ifp h hb5
            by_cases hb6 : (RM_isWord m 448378008179) = 0
            · have h := ifp h hb6
              obtain ⟨v5, m6, hq7, h⟩ := bV_ex h
              have a8 : Frm L R m m6 := RM_bad_fr (subm hL rfl) m 1 _ hq7
              obtain ⟨hk9, h⟩ := ift h
              injection h with h
              subst h
              exact a8
            · have h := ifn h hb6
              obtain ⟨v1, m2, hq10, h⟩ := bV_ex h
              have a11 : Frm L R m m2 := RM_isOnce_fr (subm hL rfl) m 3 _ hq10
              by_cases hb12 : v1 = 0
              · have h := ifp h hb12
                injection h with h
                subst h
                exact a11
              · have h := ifn h hb12
                refine a11.tr (RM_row_L372_fr hL _ Rr ?_ FU m2 0 h)
                intro m4 h
                injection h with h
                subst h
                exact Frm.rf
          · have h := ifn h hb5
            obtain ⟨v9, m10, hq14, h⟩ := bV_ex h
            have a15 : Frm L R m m10 := RM_isOnce_fr (subm hL rfl) m 2 _ hq14
            by_cases hb16 : v9 = 0
            · have h := ifp h hb16
              injection h with h
              subst h
              exact a15
            · have h := ifn h hb16
              by_cases hb17 : (RM_isWord m10 6842739) = 0
              · have h := ifp h hb17
                by_cases hb18 : (RM_isWord m10 123563833652072) = 0
                · have h := ifp h hb18
                  obtain ⟨v12, m13, hq19, h⟩ := bV_ex h
                  have a20 : Frm L R m m13 := a15.tr (RM_bad_fr (subm hL rfl) m10 1 _ hq19)
                  obtain ⟨hk21, h⟩ := ift h
                  injection h with h
                  subst h
                  exact a20
                · have h := ifn h hb18
                  exact a15.tr (RM_row_J317_fr hL m10 _ h)
              · have h := ifn h hb17
                exact a15.tr (RM_row_J317_fr hL m10 _ h)
        · have h := ifn h hb4
          obtain ⟨v16, m17, hq22, h⟩ := bV_ex h
          have a23 : Frm L R m m17 := RM_isOnce_fr (subm hL rfl) m 1 _ hq22
          by_cases hb24 : v16 = 0
          · have h := ifp h hb24
            injection h with h
            subst h
            exact a23
          · have h := ifn h hb24
            by_cases hb25 : (RM_isWord m17 7300196) = 0
            · have h := ifp h hb25
              by_cases hb26 : (RM_isWord m17 491496238692) = 0
              · have h := ifp h hb26
                by_cases hb27 : (RM_isWord m17 1818584692) = 0
                · have h := ifp h hb27
                  exact a23.tr (RM_row_J247_fr hL m17 (-1) _ h)
                · have h := ifn h hb27
                  exact a23.tr (RM_row_J247_fr hL m17 2 _ h)
              · have h := ifn h hb26
                exact a23.tr (RM_row_J247_fr hL m17 1 _ h)
            · have h := ifn h hb25
              exact a23.tr (RM_row_J247_fr hL m17 0 _ h)
      · have h := ifn h hb3
        obtain ⟨v19, m20, hq28, h⟩ := bV_ex h
        have a29 : Frm L R m m20 := RM_isOnce_fr (subm hL rfl) m 0 _ hq28
        by_cases hb30 : v19 = 0
        · have h := ifp h hb30
          injection h with h
          subst h
          exact a29
        · have h := ifn h hb30
          refine a29.tr (RM_row_L147_fr hL _ Rr ?_ FU m20 0 h)
          intro m22 h
          injection h with h
          subst h
          exact Frm.rf
    · have h := ifn h hb2
      obtain ⟨hk32, h⟩ := ift h
      obtain ⟨v24, hv24, h⟩ := letV_ex h
      by_cases hb33 : v24 = 10
      · have h := ifp h hb33
        obtain ⟨v33, m34, hq34, h⟩ := bV_ex h
        have a35 : Frm L R m m34 := RM_bad_fr (subm hL rfl) m 4 _ hq34
        obtain ⟨hk36, h⟩ := ift h
        injection h with h
        subst h
        exact a35
      · have h := ifn h hb33
        obtain ⟨m25, hq37, h⟩ := bM_ex h
        have a38 : Frm L R m m25 := RM_next_fr (subm hL rfl) m _ hq37
        obtain ⟨v27, m28, hq39, h⟩ := bV_ex h
        have a40 : Frm L R m m28 := a38.tr (RM_fresh_fr (subm hL rfl) m25 (16 + v24) _ hq39)
        by_cases hb41 : v27 = 0
        · have h := ifp h hb41
          injection h with h
          subst h
          exact a40
        · have h := ifn h hb41
          refine a40.tr (RM_row_L63_fr hL v24 _ Rr ?_ FU m28 0 h)
          intro m30 h
          obtain ⟨hk43, h⟩ := ift h
          obtain ⟨m32, hm32, h⟩ := letM_ex h
          have a44 : Frm L R m30 m32 := Frm.sI hm32 (hL _ _ rfl)
          injection h with h
          subst h
          exact a44
  · have h := ifn h hb1
    obtain ⟨v37, m38, hq45, h⟩ := bV_ex h
    have a46 : Frm L R m m38 := RM_readLine_fr (subm hL rfl) m _ hq45
    obtain ⟨hk47, h⟩ := ift h
    injection h with h
    subst h
    exact a46
def W_RM_parish : List (Nat × Nat) := [(133, 0), (133, 2), (133, 3), (133, 4), (133, 5), (133, 10), (133, 11), (133, 12), (133, 13), (133, 14), (133, 15), (133, 16), (133, 17), (133, 18), (133, 19), (133, 40), (135, 999999), (136, 999999), (137, 999999)]
theorem RM_parish_L35_fr {L R : List (Nat × Nat)} (hL : Sub W_RM_parish L) (kx : Mem → Option (Int32 × Mem)) (Rr : Int32 × Mem) (hx : ∀ (y0 : Mem), kx y0 = some Rr → Frm L R y0 Rr.2) : ∀ (n : Nat) (m : Mem), RM_parish_L35 kx n m = some Rr → Frm L R m Rr.2 := by
  intro n
  induction n with
  | zero =>
    intro m h
    exact absurd (show none = some Rr from h) (fun e => Option.some_ne_none Rr e.symm)
  | succ n ih =>
    intro m h
    rw [RM_parish_L35] at h
    by_cases hb1 : (gI m 133 10) = 0
    · have h := ifp h hb1
      exact hx m h
    · have h := ifn h hb1
      obtain ⟨v1, m2, hq2, h⟩ := bV_ex h
      have a3 : Frm L R m m2 := RM_row_fr (subm hL rfl) m _ hq2
      by_cases hb4 : v1 = 0
      · have h := ifp h hb4
        injection h with h
        subst h
        exact a3
      · have h := ifn h hb4
        obtain ⟨v4, m5, hq5, h⟩ := bV_ex h
        have a6 : Frm L R m m5 := a3.tr (RM_sign_fr (subm hL rfl) m2 59 _ hq5)
        by_cases hb7 : v4 = 0
        · have h := ifp h hb7
          injection h with h
          subst h
          exact a6
        · have h := ifn h hb7
          obtain ⟨m7, hm7, h⟩ := letM_ex h
          have a8 : Frm L R m m7 := a6.tr (Frm.sI hm7 (hL _ _ rfl))
          exact a8.tr (ih m7 h)
theorem RM_parish_L80_fr {L R : List (Nat × Nat)} (hL : Sub W_RM_parish L) (kx : Mem → Option (Int32 × Mem)) (Rr : Int32 × Mem) (hx : ∀ (y0 : Mem), kx y0 = some Rr → Frm L R y0 Rr.2) : ∀ (n : Nat) (m : Mem) (x1 : Int32), RM_parish_L80 kx n m x1 = some Rr → Frm L R m Rr.2 := by
  intro n
  induction n with
  | zero =>
    intro m x1 h
    exact absurd (show none = some Rr from h) (fun e => Option.some_ne_none Rr e.symm)
  | succ n ih =>
    intro m x1 h
    rw [RM_parish_L80] at h
    by_cases hb1 : 116 ≤ x1
    · have h := ifp h hb1
      exact hx m h
    · have h := ifn h hb1
      obtain ⟨hk2, h⟩ := ift h
      obtain ⟨m2, hm2, h⟩ := letM_ex h
      have a3 : Frm L R m m2 := Frm.sI hm2 (hL _ _ rfl)
      exact a3.tr (ih m2 (x1 + 1) h)
theorem RM_parish_L106_fr {L R : List (Nat × Nat)} (hL : Sub W_RM_parish L) (kx : Mem → Option (Int32 × Mem)) (Rr : Int32 × Mem) (hx : ∀ (y0 : Mem), kx y0 = some Rr → Frm L R y0 Rr.2) : ∀ (n : Nat) (m : Mem) (x1 : Int32), RM_parish_L106 kx n m x1 = some Rr → Frm L R m Rr.2 := by
  intro n
  induction n with
  | zero =>
    intro m x1 h
    exact absurd (show none = some Rr from h) (fun e => Option.some_ne_none Rr e.symm)
  | succ n ih =>
    intro m x1 h
    rw [RM_parish_L106] at h
    by_cases hb1 : 13 ≤ x1
    · have h := ifp h hb1
      exact hx m h
    · have h := ifn h hb1
      obtain ⟨hk2, h⟩ := ift h
      obtain ⟨hk3, h⟩ := ift h
      obtain ⟨m3, hm3, h⟩ := letM_ex h
      have a4 : Frm L R m m3 := Frm.sJ hm3 (hL _ _ rfl)
      exact a4.tr (ih m3 (x1 + 1) h)
theorem RM_parish_fr {L R : List (Nat × Nat)} (hL : Sub W_RM_parish L) (m : Mem) (Rr : Int32 × Mem) (h : RM_parish m = some Rr) : Frm L R m Rr.2 := by
  unfold RM_parish at h
  obtain ⟨m1, hm1, h⟩ := letM_ex h
  have a1 : Frm L R m m1 := Frm.sI hm1 (hL _ _ rfl)
  obtain ⟨m2, hq2, h⟩ := bM_ex h
  have a3 : Frm L R m m2 := a1.tr (RM_taken_fr (subm hL rfl) m1 900 _ hq2)
  obtain ⟨m4, hm4, h⟩ := letM_ex h
  have a4 : Frm L R m m4 := a3.tr (Frm.sI hm4 (hL _ _ rfl))
  obtain ⟨m5, hm5, h⟩ := letM_ex h
  have a5 : Frm L R m m5 := a4.tr (Frm.sI hm5 (hL _ _ rfl))
  obtain ⟨m6, hm6, h⟩ := letM_ex h
  have a6 : Frm L R m m6 := a5.tr (Frm.sI hm6 (hL _ _ rfl))
  obtain ⟨m7, hq7, h⟩ := bM_ex h
  have a8 : Frm L R m m7 := a6.tr (RM_plain_fr (subm hL rfl) m6 _ hq7)
  obtain ⟨m9, hq9, h⟩ := bM_ex h
  have a10 : Frm L R m m9 := a8.tr (RM_next_fr (subm hL rfl) m7 _ hq9)
  refine a10.tr (RM_parish_L35_fr hL _ Rr ?_ FU m9 h)
  intro m11 h
  refine RM_parish_L80_fr hL _ Rr ?_ FU m11 0 h
  intro m12 h
  refine RM_parish_L106_fr hL _ Rr ?_ FU m12 0 h
  intro m13 h
  obtain ⟨m14, hm14, h⟩ := letM_ex h
  have a14 : Frm L R m13 m14 := Frm.sI hm14 (hL _ _ rfl)
  injection h with h
  subst h
  exact a14
def W_RM_fault : List (Nat × Nat) := [(133, 0)]
theorem RM_fault_fr {L R : List (Nat × Nat)} (hL : Sub W_RM_fault L) (m : Mem) (Rr : Int32 × Mem) (h : RM_fault m = some Rr) : Frm L R m Rr.2 := by
  unfold RM_fault at h
  obtain ⟨m1, hm1, h⟩ := letM_ex h
  have a1 : Frm L R m m1 := Frm.sI hm1 (hL _ _ rfl)
  injection h with h
  subst h
  exact a1
def W_RM_closes : List (Nat × Nat) := [(139, 999999), (140, 999999)]
theorem RM_closes_fr {L R : List (Nat × Nat)} (hL : Sub W_RM_closes L) (m : Mem) (Rr : Mem) (h : RM_closes m = some Rr) : Frm L R m Rr := by
  unfold RM_closes at h
  obtain ⟨hk1, h⟩ := ift h
  obtain ⟨hk2, h⟩ := ift h
  obtain ⟨m3, hm3, h⟩ := letM_ex h
  have a3 : Frm L R m m3 := Frm.sI hm3 (hL _ _ rfl)
  obtain ⟨hk4, h⟩ := ift h
  obtain ⟨m5, hm5, h⟩ := letM_ex h
  have a5 : Frm L R m m5 := a3.tr (Frm.sI hm5 (hL _ _ rfl))
  injection h with h
  subst h
  exact a5
def W_RM_looks : List (Nat × Nat) := [(133, 22), (139, 999999), (140, 999999)]
theorem RM_looks_L15_fr {L R : List (Nat × Nat)} (hL : Sub W_RM_looks L) (x1 : Int32) (kx : Mem → Option Mem) (Rr : Mem) (hx : ∀ (y0 : Mem), kx y0 = some Rr → Frm L R y0 Rr) : ∀ (n : Nat) (m : Mem) (x2 : Int32), RM_looks_L15 x1 kx n m x2 = some Rr → Frm L R m Rr := by
  intro n
  induction n with
  | zero =>
    intro m x2 h
    exact absurd (show none = some Rr from h) (fun e => Option.some_ne_none Rr e.symm)
  | succ n ih =>
    intro m x2 h
    rw [RM_looks_L15] at h
    by_cases hb1 : (gI m 133 22) ≤ x2
    · have h := ifp h hb1
      exact hx m h
    · have h := ifn h hb1
      obtain ⟨hk2, h⟩ := ift h
      obtain ⟨hk3, h⟩ := ift h
      obtain ⟨m3, hm3, h⟩ := letM_ex h
      have a4 : Frm L R m m3 := Frm.sI hm3 (hL _ _ rfl)
      obtain ⟨hk5, h⟩ := ift h
      obtain ⟨m5, hm5, h⟩ := letM_ex h
      have a6 : Frm L R m m5 := a4.tr (Frm.sI hm5 (hL _ _ rfl))
      exact a6.tr (ih m5 (x2 + 1) h)
theorem RM_looks_fr {L R : List (Nat × Nat)} (hL : Sub W_RM_looks L) (m : Mem) (x1 : Int32) (Rr : Mem) (h : RM_looks m x1 = some Rr) : Frm L R m Rr := by
  unfold RM_looks at h
  obtain ⟨hk1, h⟩ := ift h
  obtain ⟨m2, hm2, h⟩ := letM_ex h
  have a2 : Frm L R m m2 := Frm.sI hm2 (hL _ _ rfl)
  refine a2.tr (RM_looks_L15_fr hL x1 _ Rr ?_ FU m2 0 h)
  intro m3 h
  obtain ⟨m4, hq4, h⟩ := bM_ex h
  have a5 : Frm L R m3 m4 := RM_closes_fr (subm hL rfl) m3 _ hq4
  injection h with h
  subst h
  exact a5
def W_RM_rounds : List (Nat × Nat) := [(133, 23), (133, 24)]
theorem RM_rounds_J143_fr {L R : List (Nat × Nat)} (hL : Sub W_RM_rounds L) (kr : Mem → Int32 → Option Mem) (kx : Mem → Option Mem) (m : Mem) (x1 : Int32) (x2 : Int32) (x3 : Int32) (x5 : Int32) (x6 : Int32) (Rr : Mem) (hr : ∀ (y0 : Mem) (y1 : Int32), kr y0 y1 = some Rr → Frm L R y0 Rr) (hx : ∀ (y0 : Mem), kx y0 = some Rr → Frm L R y0 Rr) (h : RM_rounds_J143 kr kx m x1 x2 x3 x5 x6 = some Rr) : Frm L R m Rr := by
  unfold RM_rounds_J143 at h
  by_cases hb1 : x5 = 0
  · have h := ifp h hb1
    exact hr m (x3 + 1) h
  · have h := ifn h hb1
    by_cases hb2 : 0 ≤ x6
    · have h := ifp h hb2
      exact hr m (x3 + 1) h
    · have h := ifn h hb2
      obtain ⟨m1, hm1, h⟩ := letM_ex h
      have a3 : Frm L R m m1 := Frm.sI hm1 (hL _ _ rfl)
      obtain ⟨m2, hm2, h⟩ := letM_ex h
      have a4 : Frm L R m m2 := a3.tr (Frm.sI hm2 (hL _ _ rfl))
      exact a4.tr (hr m2 (x3 + 1) h)
theorem RM_rounds_J76_fr {L R : List (Nat × Nat)} (hL : Sub W_RM_rounds L) (kr : Mem → Int32 → Option Mem) (kx : Mem → Option Mem) (m : Mem) (x1 : Int32) (x2 : Int32) (x3 : Int32) (x4 : Int32) (s0 : Int32) (Rr : Mem) (hr : ∀ (y0 : Mem) (y1 : Int32), kr y0 y1 = some Rr → Frm L R y0 Rr) (hx : ∀ (y0 : Mem), kx y0 = some Rr → Frm L R y0 Rr) (h : RM_rounds_J76 kr kx m x1 x2 x3 x4 s0 = some Rr) : Frm L R m Rr := by
  unfold RM_rounds_J76 at h
  obtain ⟨hk1, h⟩ := ift h
  obtain ⟨hk2, h⟩ := ift h
  obtain ⟨v3, hv3, h⟩ := letV_ex h
  by_cases hb3 : x4 = 0
  · have h := ifp h hb3
    exact RM_rounds_J143_fr hL _ _ m x1 x2 x3 s0 v3 _ hr hx h
  · have h := ifn h hb3
    by_cases hb4 : v3 ≤ 0
    · have h := ifp h hb4
      exact RM_rounds_J143_fr hL _ _ m x1 x2 x3 s0 v3 _ hr hx h
    · have h := ifn h hb4
      obtain ⟨m4, hm4, h⟩ := letM_ex h
      have a5 : Frm L R m m4 := Frm.sI hm4 (hL _ _ rfl)
      obtain ⟨m5, hm5, h⟩ := letM_ex h
      have a6 : Frm L R m m5 := a5.tr (Frm.sI hm5 (hL _ _ rfl))
      exact a6.tr (RM_rounds_J143_fr hL _ _ m5 x1 x2 x3 s0 v3 _ hr hx h)
theorem RM_rounds_J47_fr {L R : List (Nat × Nat)} (hL : Sub W_RM_rounds L) (kr : Mem → Int32 → Option Mem) (kx : Mem → Option Mem) (m : Mem) (x1 : Int32) (x2 : Int32) (x3 : Int32) (s0 : Int32) (Rr : Mem) (hr : ∀ (y0 : Mem) (y1 : Int32), kr y0 y1 = some Rr → Frm L R y0 Rr) (hx : ∀ (y0 : Mem), kx y0 = some Rr → Frm L R y0 Rr) (h : RM_rounds_J47 kr kx m x1 x2 x3 s0 = some Rr) : Frm L R m Rr := by
  unfold RM_rounds_J47 at h
  obtain ⟨hk1, h⟩ := ift h
  by_cases hb2 : x2 < (gI m 140 (ixn (x3 + 1)))
  · have h := ifp h hb2
    exact RM_rounds_J76_fr hL _ _ m x1 x2 x3 s0 0 _ hr hx h
  · have h := ifn h hb2
    obtain ⟨hk3, h⟩ := ift h
    by_cases hb4 : (gI m 140 (ixn x3)) ≤ x2
    · have h := ifp h hb4
      exact RM_rounds_J76_fr hL _ _ m x1 x2 x3 s0 0 _ hr hx h
    · have h := ifn h hb4
      exact RM_rounds_J76_fr hL _ _ m x1 x2 x3 s0 1 _ hr hx h
theorem RM_rounds_L12_fr {L R : List (Nat × Nat)} (hL : Sub W_RM_rounds L) (x1 : Int32) (x2 : Int32) (kx : Mem → Option Mem) (Rr : Mem) (hx : ∀ (y0 : Mem), kx y0 = some Rr → Frm L R y0 Rr) : ∀ (n : Nat) (m : Mem) (x3 : Int32), RM_rounds_L12 x1 x2 kx n m x3 = some Rr → Frm L R m Rr := by
  intro n
  induction n with
  | zero =>
    intro m x3 h
    exact absurd (show none = some Rr from h) (fun e => Option.some_ne_none Rr e.symm)
  | succ n ih =>
    intro m x3 h
    rw [RM_rounds_L12] at h
    by_cases hb1 : (gI m 133 22) ≤ x3
    · have h := ifp h hb1
      exact hx m h
    · have h := ifn h hb1
      obtain ⟨hk2, h⟩ := ift h
      by_cases hb3 : x2 < (gI m 140 (ixn x3))
      · have h := ifp h hb3
        exact RM_rounds_J47_fr hL _ _ m x1 x2 x3 0 _ ih hx h
      · have h := ifn h hb3
        obtain ⟨hk4, h⟩ := ift h
        by_cases hb5 : (gI m 140 (ixn (x3 + 1))) ≤ x2
        · have h := ifp h hb5
          exact RM_rounds_J47_fr hL _ _ m x1 x2 x3 0 _ ih hx h
        · have h := ifn h hb5
          exact RM_rounds_J47_fr hL _ _ m x1 x2 x3 1 _ ih hx h
theorem RM_rounds_fr {L R : List (Nat × Nat)} (hL : Sub W_RM_rounds L) (m : Mem) (x1 : Int32) (x2 : Int32) (Rr : Mem) (h : RM_rounds m x1 x2 = some Rr) : Frm L R m Rr := by
  unfold RM_rounds at h
  obtain ⟨m1, hm1, h⟩ := letM_ex h
  have a1 : Frm L R m m1 := Frm.sI hm1 (hL _ _ rfl)
  obtain ⟨m2, hm2, h⟩ := letM_ex h
  have a2 : Frm L R m m2 := a1.tr (Frm.sI hm2 (hL _ _ rfl))
  refine a2.tr (RM_rounds_L12_fr hL x1 x2 _ Rr ?_ FU m2 0 h)
  intro m3 h
  injection h with h
  subst h
  exact Frm.rf
def W_RM_isHis : List (Nat × Nat) := [(133, 23), (133, 24)]
theorem RM_isHis_fr {L R : List (Nat × Nat)} (hL : Sub W_RM_isHis L) (m : Mem) (x1 : Int32) (x2 : Int32) (Rr : Int32 × Mem) (h : RM_isHis m x1 x2 = some Rr) : Frm L R m Rr.2 := by
  unfold RM_isHis at h
  obtain ⟨v1, hq1, h⟩ := bI_ex h
  by_cases hb2 : v1 = 0
  · have h := ifp h hb2
    obtain ⟨m3, hq3, h⟩ := bM_ex h
    have a4 : Frm L R m m3 := RM_rounds_fr (subm hL rfl) m x1 x2 _ hq3
    obtain ⟨hk5, h⟩ := ift h
    by_cases hb6 : (gI m3 135 (ixn 4)) = 0
    · have h := ifp h hb6
      by_cases hb7 : (irm (gI m3 133 23) 2) = 1
      · have h := ifp h hb7
        injection h with h
        subst h
        exact a4
      · have h := ifn h hb7
        injection h with h
        subst h
        exact a4
    · have h := ifn h hb6
      by_cases hb8 : (gI m3 135 (ixn 4)) = 1
      · have h := ifp h hb8
        by_cases hb9 : (gI m3 133 24) = 0
        · have h := ifp h hb9
          injection h with h
          subst h
          exact a4
        · have h := ifn h hb9
          injection h with h
          subst h
          exact a4
      · have h := ifn h hb8
        by_cases hb10 : (gI m3 133 24) ≤ 0
        · have h := ifp h hb10
          injection h with h
          subst h
          exact a4
        · have h := ifn h hb10
          injection h with h
          subst h
          exact a4
  · have h := ifn h hb2
    obtain ⟨hk11, h⟩ := ift h
    by_cases hb12 : (gI m 135 (ixn 5)) = 1
    · have h := ifp h hb12
      injection h with h
      subst h
      exact Frm.rf
    · have h := ifn h hb12
      injection h with h
      subst h
      exact Frm.rf
def W_RM_corner : List (Nat × Nat) := [(133, 0), (133, 22), (139, 999999), (140, 999999)]
theorem RM_corner_J24_fr {L R : List (Nat × Nat)} (hL : Sub W_RM_corner L) (m : Mem) (x1 : Int32) (x2 : Int32) (x3 : Int32) (s1 : Int32) (Rr : Int32 × Mem) (h : RM_corner_J24 m x1 x2 x3 s1 = some Rr) : Frm L R m Rr.2 := by
  unfold RM_corner_J24 at h
  obtain ⟨v1, m2, hq1, h⟩ := bV_ex h
  have a2 : Frm L R m m2 := RM_throwsIf_fr (subm hL rfl) m s1 _ hq1
  by_cases hb3 : v1 = 0
  · have h := ifp h hb3
    by_cases hb4 : 2 ≤ x3
    · have h := ifp h hb4
      obtain ⟨m4, hq5, h⟩ := bM_ex h
      have a6 : Frm L R m m4 := a2.tr (RM_looks_fr (subm hL rfl) m2 x1 _ hq5)
      obtain ⟨hk7, h⟩ := ift h
      obtain ⟨v7, hv7, h⟩ := letV_ex h
      obtain ⟨hk8, h⟩ := ift h
      obtain ⟨hk9, h⟩ := ift h
      obtain ⟨hk10, h⟩ := ift h
      obtain ⟨v11, hv11, h⟩ := letV_ex h
      by_cases hb11 : v11 ≤ 0
      · have h := ifp h hb11
        by_cases hb12 : 0 ≤ v11
        · have h := ifp h hb12
          injection h with h
          subst h
          exact a6
        · have h := ifn h hb12
          injection h with h
          subst h
          exact a6
      · have h := ifn h hb11
        injection h with h
        subst h
        exact a6
    · have h := ifn h hb4
      obtain ⟨hk13, h⟩ := ift h
      injection h with h
      subst h
      exact a2
  · have h := ifn h hb3
    injection h with h
    subst h
    exact a2
theorem RM_corner_fr {L R : List (Nat × Nat)} (hL : Sub W_RM_corner L) (m : Mem) (x1 : Int32) (x2 : Int32) (x3 : Int32) (Rr : Int32 × Mem) (h : RM_corner m x1 x2 x3 = some Rr) : Frm L R m Rr.2 := by
  unfold RM_corner at h
  obtain ⟨v1, hq1, h⟩ := bI_ex h
  by_cases hb2 : v1 = 0
  · have h := ifp h hb2
    exact RM_corner_J24_fr hL m x1 x2 x3 1 _ h
  · have h := ifn h hb2
    by_cases hb3 : (RM_isIn x3 0 2) = 0
    · have h := ifp h hb3
      exact RM_corner_J24_fr hL m x1 x2 x3 1 _ h
    · have h := ifn h hb3
      exact RM_corner_J24_fr hL m x1 x2 x3 0 _ h
def W_RM_hay : List (Nat × Nat) := [(133, 0)]
theorem RM_hay_J23_fr {L R : List (Nat × Nat)} (hL : Sub W_RM_hay L) (m : Mem) (x1 : Int32) (x2 : Int32) (s1 : Int32) (Rr : Int32 × Mem) (h : RM_hay_J23 m x1 x2 s1 = some Rr) : Frm L R m Rr.2 := by
  unfold RM_hay_J23 at h
  obtain ⟨v1, m2, hq1, h⟩ := bV_ex h
  have a2 : Frm L R m m2 := RM_throwsIf_fr (subm hL rfl) m s1 _ hq1
  by_cases hb3 : v1 = 0
  · have h := ifp h hb3
    obtain ⟨hk4, h⟩ := ift h
    injection h with h
    subst h
    exact a2
  · have h := ifn h hb3
    injection h with h
    subst h
    exact a2
theorem RM_hay_fr {L R : List (Nat × Nat)} (hL : Sub W_RM_hay L) (m : Mem) (x1 : Int32) (x2 : Int32) (Rr : Int32 × Mem) (h : RM_hay m x1 x2 = some Rr) : Frm L R m Rr.2 := by
  unfold RM_hay at h
  obtain ⟨v1, hq1, h⟩ := bI_ex h
  by_cases hb2 : v1 = 0
  · have h := ifp h hb2
    exact RM_hay_J23_fr hL m x1 x2 1 _ h
  · have h := ifn h hb2
    by_cases hb3 : (RM_isIn x2 0 2) = 0
    · have h := ifp h hb3
      exact RM_hay_J23_fr hL m x1 x2 1 _ h
    · have h := ifn h hb3
      exact RM_hay_J23_fr hL m x1 x2 0 _ h
def W_RM_line : List (Nat × Nat) := [(133, 0), (133, 22), (139, 999999), (140, 999999)]
theorem RM_line_L99_fr {L R : List (Nat × Nat)} (hL : Sub W_RM_line L) (x2 : Int32) (x3 : Int32) (x6 : Int32) (kx : Mem → Int32 → Int32 → Option (Int32 × Mem)) (Rr : Int32 × Mem) (hx : ∀ (y0 : Mem) (y1 : Int32) (y2 : Int32), kx y0 y1 y2 = some Rr → Frm L R y0 Rr.2) : ∀ (n : Nat) (m : Mem) (x4 : Int32) (x5 : Int32) (x7 : Int32), RM_line_L99 x2 x3 x6 kx n m x4 x5 x7 = some Rr → Frm L R m Rr.2 := by
  intro n
  induction n with
  | zero =>
    intro m x4 x5 x7 h
    exact absurd (show none = some Rr from h) (fun e => Option.some_ne_none Rr e.symm)
  | succ n ih =>
    intro m x4 x5 x7 h
    rw [RM_line_L99] at h
    by_cases hb1 : x6 ≤ x7
    · have h := ifp h hb1
      exact hx m x4 x5 h
    · have h := ifn h hb1
      obtain ⟨v1, hq2, h⟩ := bI_ex h
      by_cases hb3 : v1 = 0
      · have h := ifp h hb3
        by_cases hb4 : (x6 - x7) = 1
        · have h := ifp h hb4
          exact ih m x4 x5 (x7 + 1) h
        · have h := ifn h hb4
          by_cases hb5 : (x6 - x7) = ((gI m 133 22) - 1)
          · have h := ifp h hb5
            exact ih m x4 x5 (x7 + 1) h
          · have h := ifn h hb5
            obtain ⟨v3, hq6, h⟩ := bI_ex h
            by_cases hb7 : v3 = 0
            · have h := ifp h hb7
              exact ih m x4 x5 (x7 + 1) h
            · have h := ifn h hb7
              exact ih m x4 (x5 + 1) (x7 + 1) h
      · have h := ifn h hb3
        exact ih m (x4 + 1) x5 (x7 + 1) h
theorem RM_line_L49_fr {L R : List (Nat × Nat)} (hL : Sub W_RM_line L) (x2 : Int32) (kx : Mem → Int32 → Int32 → Int32 → Option (Int32 × Mem)) (Rr : Int32 × Mem) (hx : ∀ (y0 : Mem) (y1 : Int32) (y2 : Int32) (y3 : Int32), kx y0 y1 y2 y3 = some Rr → Frm L R y0 Rr.2) : ∀ (n : Nat) (m : Mem) (x3 : Int32) (x4 : Int32) (x5 : Int32) (x6 : Int32), RM_line_L49 x2 kx n m x3 x4 x5 x6 = some Rr → Frm L R m Rr.2 := by
  intro n
  induction n with
  | zero =>
    intro m x3 x4 x5 x6 h
    exact absurd (show none = some Rr from h) (fun e => Option.some_ne_none Rr e.symm)
  | succ n ih =>
    intro m x3 x4 x5 x6 h
    rw [RM_line_L49] at h
    by_cases hb1 : (gI m 133 22) ≤ x6
    · have h := ifp h hb1
      exact hx m x3 x4 x5 h
    · have h := ifn h hb1
      obtain ⟨hk2, h⟩ := ift h
      obtain ⟨hk3, h⟩ := ift h
      obtain ⟨v3, hv3, h⟩ := letV_ex h
      refine RM_line_L99_fr hL x2 v3 x6 _ Rr ?_ FU m x4 x5 0 h
      intro m6 y4 y5 h
      exact ih m6 v3 y4 y5 (x6 + 1) h
theorem RM_line_fr {L R : List (Nat × Nat)} (hL : Sub W_RM_line L) (m : Mem) (x1 : Int32) (x2 : Int32) (Rr : Int32 × Mem) (h : RM_line m x1 x2 = some Rr) : Frm L R m Rr.2 := by
  unfold RM_line at h
  obtain ⟨m1, hm1, h⟩ := letM_ex h
  have a1 : Frm L R m m1 := Frm.sI hm1 (hL _ _ rfl)
  obtain ⟨v2, hq2, h⟩ := bI_ex h
  by_cases hb3 : v2 = 0
  · have h := ifp h hb3
    injection h with h
    subst h
    exact a1
  · have h := ifn h hb3
    by_cases hb4 : (RM_isIn x2 0 3) = 0
    · have h := ifp h hb4
      injection h with h
      subst h
      exact a1
    · have h := ifn h hb4
      obtain ⟨m4, hq5, h⟩ := bM_ex h
      have a6 : Frm L R m m4 := a1.tr (RM_looks_fr (subm hL rfl) m1 x1 _ hq5)
      by_cases hb7 : x2 = 0
      · have h := ifp h hb7
        injection h with h
        subst h
        exact a6
      · have h := ifn h hb7
        refine a6.tr (RM_line_L49_fr hL x2 _ Rr ?_ FU m4 0 0 0 0 h)
        intro m9 y6 y7 y8 h
        by_cases hb9 : x2 = 1
        · have h := ifp h hb9
          injection h with h
          subst h
          exact Frm.rf
        · have h := ifn h hb9
          by_cases hb10 : x2 = 2
          · have h := ifp h hb10
            injection h with h
            subst h
            exact Frm.rf
          · have h := ifn h hb10
            injection h with h
            subst h
            exact Frm.rf
def W_RM_whose : List (Nat × Nat) := [(133, 0), (133, 22), (133, 23), (133, 24), (139, 999999), (140, 999999)]
theorem RM_whose_J46_fr {L R : List (Nat × Nat)} (hL : Sub W_RM_whose L) (m : Mem) (x2 : Int32) (x3 : Int32) (s0 : Int32) (Rr : Int32 × Mem) (h : RM_whose_J46 m x2 x3 s0 = some Rr) : Frm L R m Rr.2 := by
  unfold RM_whose_J46 at h
  obtain ⟨v1, hq1, h⟩ := bI_ex h
  by_cases hb2 : v1 = 0
  · have h := ifp h hb2
    injection h with h
    subst h
    exact Frm.rf
  · have h := ifn h hb2
    injection h with h
    subst h
    exact Frm.rf
theorem RM_whose_fr {L R : List (Nat × Nat)} (hL : Sub W_RM_whose L) (m : Mem) (x1 : Int32) (x2 : Int32) (x3 : Int32) (Rr : Int32 × Mem) (h : RM_whose m x1 x2 x3 = some Rr) : Frm L R m Rr.2 := by
  unfold RM_whose at h
  obtain ⟨m1, hm1, h⟩ := letM_ex h
  have a1 : Frm L R m m1 := Frm.sI hm1 (hL _ _ rfl)
  obtain ⟨v2, hq2, h⟩ := bI_ex h
  by_cases hb3 : v2 = 0
  · have h := ifp h hb3
    injection h with h
    subst h
    exact a1
  · have h := ifn h hb3
    by_cases hb4 : (RM_isPoint x2 x3) = 0
    · have h := ifp h hb4
      injection h with h
      subst h
      exact a1
    · have h := ifn h hb4
      obtain ⟨m4, hq5, h⟩ := bM_ex h
      have a6 : Frm L R m m4 := a1.tr (RM_looks_fr (subm hL rfl) m1 x1 _ hq5)
      obtain ⟨v6, m7, hq7, h⟩ := bV_ex h
      have a8 : Frm L R m m7 := a6.tr (RM_isHis_fr (subm hL rfl) m4 (2 * x2) (2 * x3) _ hq7)
      by_cases hb9 : v6 = 0
      · have h := ifp h hb9
        exact a8.tr (RM_whose_J46_fr hL m7 x2 x3 0 _ h)
      · have h := ifn h hb9
        exact a8.tr (RM_whose_J46_fr hL m7 x2 x3 1 _ h)
def W_RM_round : List (Nat × Nat) := [(133, 0), (133, 22), (133, 23), (133, 24), (139, 999999), (140, 999999)]
theorem RM_round_J22_fr {L R : List (Nat × Nat)} (hL : Sub W_RM_round L) (m : Mem) (x1 : Int32) (x2 : Int32) (x3 : Int32) (s1 : Int32) (Rr : Int32 × Mem) (h : RM_round_J22 m x1 x2 x3 s1 = some Rr) : Frm L R m Rr.2 := by
  unfold RM_round_J22 at h
  obtain ⟨v1, m2, hq1, h⟩ := bV_ex h
  have a2 : Frm L R m m2 := RM_throwsIf_fr (subm hL rfl) m s1 _ hq1
  by_cases hb3 : v1 = 0
  · have h := ifp h hb3
    obtain ⟨m4, hq4, h⟩ := bM_ex h
    have a5 : Frm L R m m4 := a2.tr (RM_looks_fr (subm hL rfl) m2 x1 _ hq4)
    obtain ⟨v6, hq6, h⟩ := bI_ex h
    obtain ⟨v8, m9, hq7, h⟩ := bV_ex h
    have a8 : Frm L R m m9 := a5.tr (RM_throwsIf_fr (subm hL rfl) m4 v6 _ hq7)
    by_cases hb9 : v8 = 0
    · have h := ifp h hb9
      obtain ⟨m11, hq10, h⟩ := bM_ex h
      have a11 : Frm L R m m11 := a8.tr (RM_rounds_fr (subm hL rfl) m9 (2 * x2) (2 * x3) _ hq10)
      injection h with h
      subst h
      exact a11
    · have h := ifn h hb9
      injection h with h
      subst h
      exact a8
  · have h := ifn h hb3
    injection h with h
    subst h
    exact a2
theorem RM_round_fr {L R : List (Nat × Nat)} (hL : Sub W_RM_round L) (m : Mem) (x1 : Int32) (x2 : Int32) (x3 : Int32) (Rr : Int32 × Mem) (h : RM_round m x1 x2 x3 = some Rr) : Frm L R m Rr.2 := by
  unfold RM_round at h
  obtain ⟨v1, hq1, h⟩ := bI_ex h
  by_cases hb2 : v1 = 0
  · have h := ifp h hb2
    exact RM_round_J22_fr hL m x1 x2 x3 1 _ h
  · have h := ifn h hb2
    by_cases hb3 : (RM_isPoint x2 x3) = 0
    · have h := ifp h hb3
      exact RM_round_J22_fr hL m x1 x2 x3 1 _ h
    · have h := ifn h hb3
      exact RM_round_J22_fr hL m x1 x2 x3 0 _ h
def W_RM_isSquareHis : List (Nat × Nat) := [(133, 23), (133, 24)]
theorem RM_isSquareHis_fr {L R : List (Nat × Nat)} (hL : Sub W_RM_isSquareHis L) (m : Mem) (x1 : Int32) (x2 : Int32) (Rr : Int32 × Mem) (h : RM_isSquareHis m x1 x2 = some Rr) : Frm L R m Rr.2 := by
  unfold RM_isSquareHis at h
  obtain ⟨v1, m2, hq1, h⟩ := bV_ex h
  have a2 : Frm L R m m2 := RM_isHis_fr (subm hL rfl) m ((2 * x1) + 1) ((2 * x2) + 1) _ hq1
  obtain ⟨hk3, h⟩ := ift h
  injection h with h
  subst h
  exact a2
def W_RM_square : List (Nat × Nat) := [(133, 0), (133, 22), (133, 23), (133, 24), (139, 999999), (140, 999999)]
theorem RM_square_fr {L R : List (Nat × Nat)} (hL : Sub W_RM_square L) (m : Mem) (x1 : Int32) (x2 : Int32) (x3 : Int32) (Rr : Int32 × Mem) (h : RM_square m x1 x2 x3 = some Rr) : Frm L R m Rr.2 := by
  unfold RM_square at h
  obtain ⟨m1, hm1, h⟩ := letM_ex h
  have a1 : Frm L R m m1 := Frm.sI hm1 (hL _ _ rfl)
  obtain ⟨v2, hq2, h⟩ := bI_ex h
  by_cases hb3 : v2 = 0
  · have h := ifp h hb3
    injection h with h
    subst h
    exact a1
  · have h := ifn h hb3
    by_cases hb4 : (RM_isSquare x2 x3) = 0
    · have h := ifp h hb4
      injection h with h
      subst h
      exact a1
    · have h := ifn h hb4
      obtain ⟨m4, hq5, h⟩ := bM_ex h
      have a6 : Frm L R m m4 := a1.tr (RM_looks_fr (subm hL rfl) m1 x1 _ hq5)
      obtain ⟨v6, m7, hq7, h⟩ := bV_ex h
      have a8 : Frm L R m m7 := a6.tr (RM_isSquareHis_fr (subm hL rfl) m4 x2 x3 _ hq7)
      by_cases hb9 : v6 = 0
      · have h := ifp h hb9
        injection h with h
        subst h
        exact a8
      · have h := ifn h hb9
        injection h with h
        subst h
        exact a8
def W_RM_maps : List (Nat × Nat) := [(133, 22), (133, 23), (133, 24), (139, 999999), (140, 999999), (141, 999999)]
theorem RM_maps_L9_fr {L R : List (Nat × Nat)} (hL : Sub W_RM_maps L) (kx : Mem → Int32 → Option (Int32 × Mem)) (Rr : Int32 × Mem) (hx : ∀ (y0 : Mem) (y1 : Int32), kx y0 y1 = some Rr → Frm L R y0 Rr.2) : ∀ (n : Nat) (m : Mem) (x2 : Int32) (x3 : Int32), RM_maps_L9 kx n m x2 x3 = some Rr → Frm L R m Rr.2 := by
  intro n
  induction n with
  | zero =>
    intro m x2 x3 h
    exact absurd (show none = some Rr from h) (fun e => Option.some_ne_none Rr e.symm)
  | succ n ih =>
    intro m x2 x3 h
    rw [RM_maps_L9] at h
    by_cases hb1 : 400 ≤ x3
    · have h := ifp h hb1
      exact hx m x2 h
    · have h := ifn h hb1
      obtain ⟨v1, m2, hq2, h⟩ := bV_ex h
      have a3 : Frm L R m m2 := RM_isSquareHis_fr (subm hL rfl) m (irm x3 20) (x3 / 20) _ hq2
      obtain ⟨hk4, h⟩ := ift h
      obtain ⟨m5, hm5, h⟩ := letM_ex h
      have a5 : Frm L R m m5 := a3.tr (Frm.sI hm5 (hL _ _ rfl))
      by_cases hb6 : (gI m5 141 (ixn x3)) = 0
      · have h := ifp h hb6
        obtain ⟨v6, hv6, h⟩ := letV_ex h
        exact a5.tr (ih m5 v6 (x3 + 1) h)
      · have h := ifn h hb6
        obtain ⟨v7, hv7, h⟩ := letV_ex h
        exact a5.tr (ih m5 v7 (x3 + 1) h)
theorem RM_maps_fr {L R : List (Nat × Nat)} (hL : Sub W_RM_maps L) (m : Mem) (x1 : Int32) (Rr : Int32 × Mem) (h : RM_maps m x1 = some Rr) : Frm L R m Rr.2 := by
  unfold RM_maps at h
  obtain ⟨m1, hq1, h⟩ := bM_ex h
  have a2 : Frm L R m m1 := RM_looks_fr (subm hL rfl) m x1 _ hq1
  refine a2.tr (RM_maps_L9_fr hL _ Rr ?_ FU m1 0 0 h)
  intro m4 y3 h
  injection h with h
  subst h
  exact Frm.rf
def W_RM_acres : List (Nat × Nat) := [(133, 0), (133, 22), (133, 23), (133, 24), (139, 999999), (140, 999999), (141, 999999)]
theorem RM_acres_fr {L R : List (Nat × Nat)} (hL : Sub W_RM_acres L) (m : Mem) (x1 : Int32) (Rr : Int32 × Mem) (h : RM_acres m x1 = some Rr) : Frm L R m Rr.2 := by
  unfold RM_acres at h
  obtain ⟨m1, hm1, h⟩ := letM_ex h
  have a1 : Frm L R m m1 := Frm.sI hm1 (hL _ _ rfl)
  obtain ⟨v2, hq2, h⟩ := bI_ex h
  by_cases hb3 : v2 = 0
  · have h := ifp h hb3
    injection h with h
    subst h
    exact a1
  · have h := ifn h hb3
    obtain ⟨v4, m5, hq4, h⟩ := bV_ex h
    have a5 : Frm L R m m5 := a1.tr (RM_maps_fr (subm hL rfl) m1 x1 _ hq4)
    injection h with h
    subst h
    exact a5
def W_RM_border : List (Nat × Nat) := [(133, 0), (133, 22), (133, 23), (133, 24), (139, 999999), (140, 999999), (141, 999999)]
theorem RM_border_L35_fr {L R : List (Nat × Nat)} (hL : Sub W_RM_border L) (x3 : Int32) (kx : Mem → Int32 → Option (Int32 × Mem)) (Rr : Int32 × Mem) (hx : ∀ (y0 : Mem) (y1 : Int32), kx y0 y1 = some Rr → Frm L R y0 Rr.2) : ∀ (n : Nat) (m : Mem) (x2 : Int32) (x4 : Int32), RM_border_L35 x3 kx n m x2 x4 = some Rr → Frm L R m Rr.2 := by
  intro n
  induction n with
  | zero =>
    intro m x2 x4 h
    exact absurd (show none = some Rr from h) (fun e => Option.some_ne_none Rr e.symm)
  | succ n ih =>
    intro m x2 x4 h
    rw [RM_border_L35] at h
    by_cases hb1 : 4 ≤ x4
    · have h := ifp h hb1
      exact hx m x2 h
    · have h := ifn h hb1
      obtain ⟨hk2, h⟩ := ift h
      by_cases hb3 : (gI m 141 (ixn x3)) = 0
      · have h := ifp h hb3
        obtain ⟨v2, hv2, h⟩ := letV_ex h
        exact ih m v2 (x4 + 1) h
      · have h := ifn h hb3
        by_cases hb4 : (RM_beside x3 x4) < 0
        · have h := ifp h hb4
          obtain ⟨v3, hv3, h⟩ := letV_ex h
          exact ih m v3 (x4 + 1) h
        · have h := ifn h hb4
          obtain ⟨hk5, h⟩ := ift h
          by_cases hb6 : (gI m 141 (ixn (RM_beside x3 x4))) = 0
          · have h := ifp h hb6
            obtain ⟨v6, hv6, h⟩ := letV_ex h
            exact ih m v6 (x4 + 1) h
          · have h := ifn h hb6
            obtain ⟨v5, hv5, h⟩ := letV_ex h
            exact ih m v5 (x4 + 1) h
theorem RM_border_L25_fr {L R : List (Nat × Nat)} (hL : Sub W_RM_border L) (kx : Mem → Int32 → Option (Int32 × Mem)) (Rr : Int32 × Mem) (hx : ∀ (y0 : Mem) (y1 : Int32), kx y0 y1 = some Rr → Frm L R y0 Rr.2) : ∀ (n : Nat) (m : Mem) (x2 : Int32) (x3 : Int32), RM_border_L25 kx n m x2 x3 = some Rr → Frm L R m Rr.2 := by
  intro n
  induction n with
  | zero =>
    intro m x2 x3 h
    exact absurd (show none = some Rr from h) (fun e => Option.some_ne_none Rr e.symm)
  | succ n ih =>
    intro m x2 x3 h
    rw [RM_border_L25] at h
    by_cases hb1 : 400 ≤ x3
    · have h := ifp h hb1
      exact hx m x2 h
    · have h := ifn h hb1
      refine RM_border_L35_fr hL x3 _ Rr ?_ FU m x2 0 h
      intro m2 y1 h
      exact ih m2 y1 (x3 + 1) h
theorem RM_border_fr {L R : List (Nat × Nat)} (hL : Sub W_RM_border L) (m : Mem) (x1 : Int32) (Rr : Int32 × Mem) (h : RM_border m x1 = some Rr) : Frm L R m Rr.2 := by
  unfold RM_border at h
  obtain ⟨m1, hm1, h⟩ := letM_ex h
  have a1 : Frm L R m m1 := Frm.sI hm1 (hL _ _ rfl)
  obtain ⟨v2, hq2, h⟩ := bI_ex h
  by_cases hb3 : v2 = 0
  · have h := ifp h hb3
    injection h with h
    subst h
    exact a1
  · have h := ifn h hb3
    obtain ⟨v4, m5, hq4, h⟩ := bV_ex h
    have a5 : Frm L R m m5 := a1.tr (RM_maps_fr (subm hL rfl) m1 x1 _ hq4)
    refine a5.tr (RM_border_L25_fr hL _ Rr ?_ FU m5 0 0 h)
    intro m8 y7 h
    injection h with h
    subst h
    exact Frm.rf
def W_RM_within : List (Nat × Nat) := [(133, 0), (133, 22), (133, 23), (133, 24), (139, 999999), (140, 999999)]
theorem RM_within_L33_fr {L R : List (Nat × Nat)} (hL : Sub W_RM_within L) (x1 : Int32) (kx : Mem → Int32 → Option (Int32 × Mem)) (Rr : Int32 × Mem) (hx : ∀ (y0 : Mem) (y1 : Int32), kx y0 y1 = some Rr → Frm L R y0 Rr.2) : ∀ (n : Nat) (m : Mem) (x3 : Int32) (x4 : Int32), RM_within_L33 x1 kx n m x3 x4 = some Rr → Frm L R m Rr.2 := by
  intro n
  induction n with
  | zero =>
    intro m x3 x4 h
    exact absurd (show none = some Rr from h) (fun e => Option.some_ne_none Rr e.symm)
  | succ n ih =>
    intro m x3 x4 h
    rw [RM_within_L33] at h
    obtain ⟨hk1, h⟩ := ift h
    by_cases hb2 : (gI m 135 (ixn (11 + x1))) ≤ x4
    · have h := ifp h hb2
      exact hx m x3 h
    · have h := ifn h hb2
      obtain ⟨hk3, h⟩ := ift h
      obtain ⟨hk4, h⟩ := ift h
      obtain ⟨v4, m5, hq5, h⟩ := bV_ex h
      have a6 : Frm L R m m5 := RM_isHis_fr (subm hL rfl) m (2 * (gI m 135 (ixn ((14 + (24 * x1)) + (2 * x4))))) (2 * (gI m 135 (ixn (((14 + (24 * x1)) + (2 * x4)) + 1)))) _ hq5
      by_cases hb7 : v4 = 0
      · have h := ifp h hb7
        obtain ⟨v7, hv7, h⟩ := letV_ex h
        exact a6.tr (ih m5 v7 (x4 + 1) h)
      · have h := ifn h hb7
        obtain ⟨v8, hv8, h⟩ := letV_ex h
        exact a6.tr (ih m5 v8 (x4 + 1) h)
theorem RM_within_fr {L R : List (Nat × Nat)} (hL : Sub W_RM_within L) (m : Mem) (x1 : Int32) (x2 : Int32) (Rr : Int32 × Mem) (h : RM_within m x1 x2 = some Rr) : Frm L R m Rr.2 := by
  unfold RM_within at h
  obtain ⟨m1, hm1, h⟩ := letM_ex h
  have a1 : Frm L R m m1 := Frm.sI hm1 (hL _ _ rfl)
  obtain ⟨v2, hq2, h⟩ := bI_ex h
  by_cases hb3 : v2 = 0
  · have h := ifp h hb3
    injection h with h
    subst h
    exact a1
  · have h := ifn h hb3
    obtain ⟨v4, hq4, h⟩ := bI_ex h
    by_cases hb5 : v4 = 0
    · have h := ifp h hb5
      injection h with h
      subst h
      exact a1
    · have h := ifn h hb5
      obtain ⟨m6, hq6, h⟩ := bM_ex h
      have a7 : Frm L R m m6 := a1.tr (RM_looks_fr (subm hL rfl) m1 x2 _ hq6)
      refine a7.tr (RM_within_L33_fr hL x1 _ Rr ?_ FU m6 0 0 h)
      intro m9 y8 h
      injection h with h
      subst h
      exact Frm.rf
def W_RM_claim : List (Nat × Nat) := [(133, 4), (133, 10), (133, 11), (133, 12), (133, 13), (133, 14), (133, 15), (133, 16), (133, 17), (133, 23), (133, 24), (133, 28)]
theorem RM_claim_J244_fr {L R : List (Nat × Nat)} (hL : Sub W_RM_claim L) (m : Mem) (Rr : Int32 × Mem) (h : RM_claim_J244 m = some Rr) : Frm L R m Rr.2 := by
  unfold RM_claim_J244 at h
  obtain ⟨m1, hq1, h⟩ := bM_ex h
  have a2 : Frm L R m m1 := RM_next_fr (subm hL rfl) m _ hq1
  injection h with h
  subst h
  exact a2
theorem RM_claim_J180_fr {L R : List (Nat × Nat)} (hL : Sub W_RM_claim L) (m : Mem) (x4 : Int32) (x5 : Int32) (Rr : Int32 × Mem) (h : RM_claim_J180 m x4 x5 = some Rr) : Frm L R m Rr.2 := by
  unfold RM_claim_J180 at h
  by_cases hb1 : (RM_isWord m 6842739) = 0
  · have h := ifp h hb1
    by_cases hb2 : (RM_isWord m 123563833652072) = 0
    · have h := ifp h hb2
      obtain ⟨v1, m2, hq3, h⟩ := bV_ex h
      have a4 : Frm L R m m2 := RM_bad_fr (subm hL rfl) m 1 _ hq3
      obtain ⟨hk5, h⟩ := ift h
      injection h with h
      subst h
      exact a4
    · have h := ifn h hb2
      obtain ⟨v5, m6, hq6, h⟩ := bV_ex h
      have a7 : Frm L R m m6 := RM_isHis_fr (subm hL rfl) m x4 x5 _ hq6
      by_cases hb8 : v5 = 0
      · have h := ifp h hb8
        obtain ⟨m9, hm9, h⟩ := letM_ex h
        have a9 : Frm L R m m9 := a7.tr (Frm.sI hm9 (hL _ _ rfl))
        exact a9.tr (RM_claim_J244_fr hL m9 _ h)
      · have h := ifn h hb8
        obtain ⟨m8, hm8, h⟩ := letM_ex h
        have a10 : Frm L R m m8 := a7.tr (Frm.sI hm8 (hL _ _ rfl))
        exact a10.tr (RM_claim_J244_fr hL m8 _ h)
  · have h := ifn h hb1
    obtain ⟨v10, m11, hq11, h⟩ := bV_ex h
    have a12 : Frm L R m m11 := RM_isHis_fr (subm hL rfl) m x4 x5 _ hq11
    obtain ⟨hk13, h⟩ := ift h
    obtain ⟨m14, hm14, h⟩ := letM_ex h
    have a14 : Frm L R m m14 := a12.tr (Frm.sI hm14 (hL _ _ rfl))
    exact a14.tr (RM_claim_J244_fr hL m14 _ h)
theorem RM_claim_J151_fr {L R : List (Nat × Nat)} (hL : Sub W_RM_claim L) (m : Mem) (x2 : Int32) (x4 : Int32) (x5 : Int32) (Rr : Int32 × Mem) (h : RM_claim_J151 m x2 x4 x5 = some Rr) : Frm L R m Rr.2 := by
  unfold RM_claim_J151 at h
  by_cases hb1 : (RM_isWord m 28526) = 0
  · have h := ifp h hb1
    exact RM_claim_J180_fr hL m x4 x5 _ h
  · have h := ifn h hb1
    by_cases hb2 : x2 = 0
    · have h := ifp h hb2
      exact RM_claim_J180_fr hL m x4 x5 _ h
    · have h := ifn h hb2
      obtain ⟨v1, hq3, h⟩ := bI_ex h
      obtain ⟨hk4, h⟩ := ift h
      obtain ⟨m4, hm4, h⟩ := letM_ex h
      have a5 : Frm L R m m4 := Frm.sI hm4 (hL _ _ rfl)
      exact a5.tr (RM_claim_J244_fr hL m4 _ h)
theorem RM_claim_J44_fr {L R : List (Nat × Nat)} (hL : Sub W_RM_claim L) (m : Mem) (x1 : Int32) (x2 : Int32) (s0 : Int32) (Rr : Int32 × Mem) (h : RM_claim_J44 m x1 x2 s0 = some Rr) : Frm L R m Rr.2 := by
  unfold RM_claim_J44 at h
  by_cases hb1 : 0 ≤ s0
  · have h := ifp h hb1
    by_cases hb2 : x1 = 30
    · have h := ifp h hb2
      obtain ⟨v15, m16, hq3, h⟩ := bV_ex h
      have a4 : Frm L R m m16 := RM_bad_fr (subm hL rfl) m 4 _ hq3
      obtain ⟨hk5, h⟩ := ift h
      injection h with h
      subst h
      exact a4
    · have h := ifn h hb2
      obtain ⟨m1, hq6, h⟩ := bM_ex h
      have a7 : Frm L R m m1 := RM_next_fr (subm hL rfl) m _ hq6
      obtain ⟨hk8, h⟩ := ift h
      obtain ⟨v4, hv4, h⟩ := letV_ex h
      obtain ⟨hk9, h⟩ := ift h
      obtain ⟨v6, hv6, h⟩ := letV_ex h
      by_cases hb10 : x2 = 0
      · have h := ifp h hb10
        exact a7.tr (RM_claim_J151_fr hL m1 x2 v4 v6 _ h)
      · have h := ifn h hb10
        obtain ⟨v7, m8, hq11, h⟩ := bV_ex h
        have a12 : Frm L R m m8 := a7.tr (RM_takes_fr (subm hL rfl) m1 0 20 _ hq11)
        by_cases hb13 : v7 = 0
        · have h := ifp h hb13
          injection h with h
          subst h
          exact a12
        · have h := ifn h hb13
          obtain ⟨v10, hv10, h⟩ := letV_ex h
          obtain ⟨v11, m12, hq14, h⟩ := bV_ex h
          have a15 : Frm L R m m12 := a12.tr (RM_takes_fr (subm hL rfl) m8 0 20 _ hq14)
          by_cases hb16 : v11 = 0
          · have h := ifp h hb16
            injection h with h
            subst h
            exact a15
          · have h := ifn h hb16
            obtain ⟨v14, hv14, h⟩ := letV_ex h
            exact a15.tr (RM_claim_J151_fr hL m12 x2 v10 v14 _ h)
  · have h := ifn h hb1
    obtain ⟨v19, m20, hq17, h⟩ := bV_ex h
    have a18 : Frm L R m m20 := RM_bad_fr (subm hL rfl) m 3 _ hq17
    obtain ⟨hk19, h⟩ := ift h
    injection h with h
    subst h
    exact a18
theorem RM_claim_J25_fr {L R : List (Nat × Nat)} (hL : Sub W_RM_claim L) (m : Mem) (x1 : Int32) (x2 : Int32) (Rr : Int32 × Mem) (h : RM_claim_J25 m x1 x2 = some Rr) : Frm L R m Rr.2 := by
  unfold RM_claim_J25 at h
  by_cases hb1 : x2 = 0
  · have h := ifp h hb1
    obtain ⟨hk2, h⟩ := ift h
    obtain ⟨v2, hq3, h⟩ := bI_ex h
    exact RM_claim_J44_fr hL m x1 x2 v2 _ h
  · have h := ifn h hb1
    exact RM_claim_J44_fr hL m x1 x2 0 _ h
theorem RM_claim_fr {L R : List (Nat × Nat)} (hL : Sub W_RM_claim L) (m : Mem) (x1 : Int32) (Rr : Int32 × Mem) (h : RM_claim m x1 = some Rr) : Frm L R m Rr.2 := by
  unfold RM_claim at h
  obtain ⟨v1, hv1, h⟩ := letV_ex h
  by_cases hb1 : v1 = 0
  · have h := ifp h hb1
    obtain ⟨v2, hq2, h⟩ := bI_ex h
    by_cases hb3 : v2 = 0
    · have h := ifp h hb3
      obtain ⟨v4, m5, hq4, h⟩ := bV_ex h
      have a5 : Frm L R m m5 := RM_bad_fr (subm hL rfl) m 1 _ hq4
      obtain ⟨hk6, h⟩ := ift h
      injection h with h
      subst h
      exact a5
    · have h := ifn h hb3
      exact RM_claim_J25_fr hL m x1 v1 _ h
  · have h := ifn h hb1
    exact RM_claim_J25_fr hL m x1 v1 _ h
def W_RM_claims : List (Nat × Nat) := [(133, 0), (133, 2), (133, 3), (133, 4), (133, 5), (133, 10), (133, 11), (133, 12), (133, 13), (133, 14), (133, 15), (133, 16), (133, 17), (133, 22), (133, 23), (133, 24), (133, 27), (133, 28), (139, 999999), (140, 999999)]
theorem RM_claims_L45_fr {L R : List (Nat × Nat)} (hL : Sub W_RM_claims L) (kx : Mem → Int32 → Int32 → Option (Int32 × Mem)) (Rr : Int32 × Mem) (hx : ∀ (y0 : Mem) (y1 : Int32) (y2 : Int32), kx y0 y1 y2 = some Rr → Frm L R y0 Rr.2) : ∀ (n : Nat) (m : Mem) (x2 : Int32) (x3 : Int32) (x4 : Int32), RM_claims_L45 kx n m x2 x3 x4 = some Rr → Frm L R m Rr.2 := by
  intro n
  induction n with
  | zero =>
    intro m x2 x3 x4 h
    exact absurd (show none = some Rr from h) (fun e => Option.some_ne_none Rr e.symm)
  | succ n ih =>
    intro m x2 x3 x4 h
    rw [RM_claims_L45] at h
    by_cases hb1 : (gI m 133 10) = 0
    · have h := ifp h hb1
      exact hx m x3 x4 h
    · have h := ifn h hb1
      obtain ⟨v1, m2, hq2, h⟩ := bV_ex h
      have a3 : Frm L R m m2 := RM_claim_fr (subm hL rfl) m x2 _ hq2
      by_cases hb4 : v1 = 0
      · have h := ifp h hb4
        injection h with h
        subst h
        exact a3
      · have h := ifn h hb4
        obtain ⟨v4, m5, hq5, h⟩ := bV_ex h
        have a6 : Frm L R m m5 := a3.tr (RM_sign_fr (subm hL rfl) m2 59 _ hq5)
        by_cases hb7 : v4 = 0
        · have h := ifp h hb7
          injection h with h
          subst h
          exact a6
        · have h := ifn h hb7
          by_cases hb8 : (gI m5 133 28) = 0
          · have h := ifp h hb8
            by_cases hb9 : 0 ≤ x4
            · have h := ifp h hb9
              exact a6.tr (ih m5 (x2 + 1) (x3 + 1) x4 h)
            · have h := ifn h hb9
              exact a6.tr (ih m5 (x2 + 1) (x3 + 1) x2 h)
          · have h := ifn h hb8
            exact a6.tr (ih m5 (x2 + 1) x3 x4 h)
theorem RM_claims_fr {L R : List (Nat × Nat)} (hL : Sub W_RM_claims L) (m : Mem) (x1 : Int32) (Rr : Int32 × Mem) (h : RM_claims m x1 = some Rr) : Frm L R m Rr.2 := by
  unfold RM_claims at h
  obtain ⟨m1, hm1, h⟩ := letM_ex h
  have a1 : Frm L R m m1 := Frm.sI hm1 (hL _ _ rfl)
  obtain ⟨m2, hq2, h⟩ := bM_ex h
  have a3 : Frm L R m m2 := a1.tr (RM_taken_fr (subm hL rfl) m1 300 _ hq2)
  obtain ⟨v4, hq4, h⟩ := bI_ex h
  by_cases hb5 : v4 = 0
  · have h := ifp h hb5
    injection h with h
    subst h
    exact a3
  · have h := ifn h hb5
    obtain ⟨m6, hm6, h⟩ := letM_ex h
    have a6 : Frm L R m m6 := a3.tr (Frm.sI hm6 (hL _ _ rfl))
    obtain ⟨m7, hq7, h⟩ := bM_ex h
    have a8 : Frm L R m m7 := a6.tr (RM_looks_fr (subm hL rfl) m6 x1 _ hq7)
    obtain ⟨m9, hq9, h⟩ := bM_ex h
    have a10 : Frm L R m m9 := a8.tr (RM_next_fr (subm hL rfl) m7 _ hq9)
    refine a10.tr (RM_claims_L45_fr hL _ Rr ?_ FU m9 0 0 (-1) h)
    intro m13 y11 y12 h
    obtain ⟨m14, hm14, h⟩ := letM_ex h
    have a12 : Frm L R m13 m14 := Frm.sI hm14 (hL _ _ rfl)
    injection h with h
    subst h
    exact a12
def W_RM_wrong : List (Nat × Nat) := [(133, 0)]
theorem RM_wrong_fr {L R : List (Nat × Nat)} (hL : Sub W_RM_wrong L) (m : Mem) (Rr : Int32 × Mem) (h : RM_wrong m = some Rr) : Frm L R m Rr.2 := by
  unfold RM_wrong at h
  obtain ⟨m1, hm1, h⟩ := letM_ex h
  have a1 : Frm L R m m1 := Frm.sI hm1 (hL _ _ rfl)
  injection h with h
  subst h
  exact a1
def W_RM_loads : List (Nat × Nat) := [(133, 0), (133, 22), (133, 23), (133, 24), (139, 999999), (140, 999999)]
theorem RM_loads_J85_fr {L R : List (Nat × Nat)} (hL : Sub W_RM_loads L) (kr : Mem → Int32 → Int32 → Option (Int32 × Mem)) (kx : Mem → Int32 → Option (Int32 × Mem)) (m : Mem) (x2 : Int32) (x3 : Int32) (x4 : Int32) (s0 : Int32) (s1 : Int32) (Rr : Int32 × Mem) (hr : ∀ (y0 : Mem) (y1 : Int32) (y2 : Int32), kr y0 y1 y2 = some Rr → Frm L R y0 Rr.2) (hx : ∀ (y0 : Mem) (y1 : Int32), kx y0 y1 = some Rr → Frm L R y0 Rr.2) (h : RM_loads_J85 kr kx m x2 x3 x4 s0 s1 = some Rr) : Frm L R m Rr.2 := by
  unfold RM_loads_J85 at h
  by_cases hb1 : s0 = s1
  · have h := ifp h hb1
    obtain ⟨hk2, h⟩ := ift h
    obtain ⟨v2, hv2, h⟩ := letV_ex h
    exact hr m v2 (x4 + 1) h
  · have h := ifn h hb1
    exact hr m x3 (x4 + 1) h
theorem RM_loads_L34_fr {L R : List (Nat × Nat)} (hL : Sub W_RM_loads L) (x2 : Int32) (kx : Mem → Int32 → Option (Int32 × Mem)) (Rr : Int32 × Mem) (hx : ∀ (y0 : Mem) (y1 : Int32), kx y0 y1 = some Rr → Frm L R y0 Rr.2) : ∀ (n : Nat) (m : Mem) (x3 : Int32) (x4 : Int32), RM_loads_L34 x2 kx n m x3 x4 = some Rr → Frm L R m Rr.2 := by
  intro n
  induction n with
  | zero =>
    intro m x3 x4 h
    exact absurd (show none = some Rr from h) (fun e => Option.some_ne_none Rr e.symm)
  | succ n ih =>
    intro m x3 x4 h
    rw [RM_loads_L34] at h
    obtain ⟨hk1, h⟩ := ift h
    by_cases hb2 : (gI m 135 (ixn 1)) ≤ x4
    · have h := ifp h hb2
      exact hx m x3 h
    · have h := ifn h hb2
      obtain ⟨hk3, h⟩ := ift h
      obtain ⟨hk4, h⟩ := ift h
      obtain ⟨v4, m5, hq5, h⟩ := bV_ex h
      have a6 : Frm L R m m5 := RM_isSquareHis_fr (subm hL rfl) m (gI m 135 (ixn (86 + (3 * x4)))) (gI m 135 (ixn ((86 + (3 * x4)) + 1))) _ hq5
      by_cases hb7 : x2 = 1
      · have h := ifp h hb7
        exact a6.tr (RM_loads_J85_fr hL _ _ m5 x2 x3 x4 v4 1 _ ih hx h)
      · have h := ifn h hb7
        exact a6.tr (RM_loads_J85_fr hL _ _ m5 x2 x3 x4 v4 0 _ ih hx h)
theorem RM_loads_fr {L R : List (Nat × Nat)} (hL : Sub W_RM_loads L) (m : Mem) (x1 : Int32) (x2 : Int32) (Rr : Int32 × Mem) (h : RM_loads m x1 x2 = some Rr) : Frm L R m Rr.2 := by
  unfold RM_loads at h
  obtain ⟨m1, hm1, h⟩ := letM_ex h
  have a1 : Frm L R m m1 := Frm.sI hm1 (hL _ _ rfl)
  obtain ⟨v2, hq2, h⟩ := bI_ex h
  by_cases hb3 : v2 = 0
  · have h := ifp h hb3
    injection h with h
    subst h
    exact a1
  · have h := ifn h hb3
    by_cases hb4 : (RM_isIn x2 0 1) = 0
    · have h := ifp h hb4
      injection h with h
      subst h
      exact a1
    · have h := ifn h hb4
      obtain ⟨m4, hq5, h⟩ := bM_ex h
      have a6 : Frm L R m m4 := a1.tr (RM_looks_fr (subm hL rfl) m1 x1 _ hq5)
      refine a6.tr (RM_loads_L34_fr hL x2 _ Rr ?_ FU m4 0 0 h)
      intro m7 y6 h
      injection h with h
      subst h
      exact Frm.rf
def W_RM_heirOf : List (Nat × Nat) := [(133, 22), (133, 23), (133, 24), (139, 999999), (140, 999999)]
theorem RM_heirOf_L5_fr {L R : List (Nat × Nat)} (hL : Sub W_RM_heirOf L) (x1 : Int32) (x2 : Int32) (kx : Mem → Int32 → Option (Int32 × Mem)) (Rr : Int32 × Mem) (hx : ∀ (y0 : Mem) (y1 : Int32), kx y0 y1 = some Rr → Frm L R y0 Rr.2) : ∀ (n : Nat) (m : Mem) (x3 : Int32) (x4 : Int32), RM_heirOf_L5 x1 x2 kx n m x3 x4 = some Rr → Frm L R m Rr.2 := by
  intro n
  induction n with
  | zero =>
    intro m x3 x4 h
    exact absurd (show none = some Rr from h) (fun e => Option.some_ne_none Rr e.symm)
  | succ n ih =>
    intro m x3 x4 h
    rw [RM_heirOf_L5] at h
    by_cases hb1 : 2 ≤ x4
    · have h := ifp h hb1
      exact hx m x3 h
    · have h := ifn h hb1
      obtain ⟨v1, hq2, h⟩ := bI_ex h
      by_cases hb3 : v1 = 0
      · have h := ifp h hb3
        exact ih m x3 (x4 + 1) h
      · have h := ifn h hb3
        obtain ⟨m3, hq4, h⟩ := bM_ex h
        have a5 : Frm L R m m3 := RM_looks_fr (subm hL rfl) m x4 _ hq4
        obtain ⟨v5, m6, hq6, h⟩ := bV_ex h
        have a7 : Frm L R m m6 := a5.tr (RM_isSquareHis_fr (subm hL rfl) m3 x1 x2 _ hq6)
        by_cases hb8 : v5 = 0
        · have h := ifp h hb8
          obtain ⟨v8, hv8, h⟩ := letV_ex h
          exact a7.tr (ih m6 v8 (x4 + 1) h)
        · have h := ifn h hb8
          obtain ⟨v9, hv9, h⟩ := letV_ex h
          exact a7.tr (ih m6 v9 (x4 + 1) h)
theorem RM_heirOf_fr {L R : List (Nat × Nat)} (hL : Sub W_RM_heirOf L) (m : Mem) (x1 : Int32) (x2 : Int32) (Rr : Int32 × Mem) (h : RM_heirOf m x1 x2 = some Rr) : Frm L R m Rr.2 := by
  unfold RM_heirOf at h
  refine RM_heirOf_L5_fr hL x1 x2 _ Rr ?_ FU m 0 0 h
  intro m2 y1 h
  obtain ⟨hk2, h⟩ := ift h
  injection h with h
  subst h
  exact Frm.rf
def W_RM_heir : List (Nat × Nat) := [(133, 0), (133, 22), (133, 23), (133, 24), (139, 999999), (140, 999999)]
theorem RM_heir_fr {L R : List (Nat × Nat)} (hL : Sub W_RM_heir L) (m : Mem) (x1 : Int32) (x2 : Int32) (Rr : Int32 × Mem) (h : RM_heir m x1 x2 = some Rr) : Frm L R m Rr.2 := by
  unfold RM_heir at h
  obtain ⟨m1, hm1, h⟩ := letM_ex h
  have a1 : Frm L R m m1 := Frm.sI hm1 (hL _ _ rfl)
  by_cases hb2 : (RM_isSquare x1 x2) = 0
  · have h := ifp h hb2
    injection h with h
    subst h
    exact a1
  · have h := ifn h hb2
    obtain ⟨v2, m3, hq3, h⟩ := bV_ex h
    have a4 : Frm L R m m3 := a1.tr (RM_heirOf_fr (subm hL rfl) m1 x1 x2 _ hq3)
    injection h with h
    subst h
    exact a4
def W_RM_estate : List (Nat × Nat) := [(133, 0), (133, 22), (133, 23), (133, 24), (139, 999999), (140, 999999)]
theorem RM_estate_L21_fr {L R : List (Nat × Nat)} (hL : Sub W_RM_estate L) (x1 : Int32) (kx : Mem → Int32 → Option (Int32 × Mem)) (Rr : Int32 × Mem) (hx : ∀ (y0 : Mem) (y1 : Int32), kx y0 y1 = some Rr → Frm L R y0 Rr.2) : ∀ (n : Nat) (m : Mem) (x2 : Int32) (x3 : Int32), RM_estate_L21 x1 kx n m x2 x3 = some Rr → Frm L R m Rr.2 := by
  intro n
  induction n with
  | zero =>
    intro m x2 x3 h
    exact absurd (show none = some Rr from h) (fun e => Option.some_ne_none Rr e.symm)
  | succ n ih =>
    intro m x2 x3 h
    rw [RM_estate_L21] at h
    by_cases hb1 : 400 ≤ x3
    · have h := ifp h hb1
      exact hx m x2 h
    · have h := ifn h hb1
      obtain ⟨v1, m2, hq2, h⟩ := bV_ex h
      have a3 : Frm L R m m2 := RM_heirOf_fr (subm hL rfl) m (irm x3 20) (x3 / 20) _ hq2
      by_cases hb4 : v1 = x1
      · have h := ifp h hb4
        obtain ⟨v5, hv5, h⟩ := letV_ex h
        exact a3.tr (ih m2 v5 (x3 + 1) h)
      · have h := ifn h hb4
        obtain ⟨v4, hv4, h⟩ := letV_ex h
        exact a3.tr (ih m2 v4 (x3 + 1) h)
theorem RM_estate_fr {L R : List (Nat × Nat)} (hL : Sub W_RM_estate L) (m : Mem) (x1 : Int32) (Rr : Int32 × Mem) (h : RM_estate m x1 = some Rr) : Frm L R m Rr.2 := by
  unfold RM_estate at h
  obtain ⟨m1, hm1, h⟩ := letM_ex h
  have a1 : Frm L R m m1 := Frm.sI hm1 (hL _ _ rfl)
  by_cases hb2 : (RM_isIn x1 0 9) = 0
  · have h := ifp h hb2
    injection h with h
    subst h
    exact a1
  · have h := ifn h hb2
    refine a1.tr (RM_estate_L21_fr hL x1 _ Rr ?_ FU m1 0 0 h)
    intro m3 y2 h
    injection h with h
    subst h
    exact Frm.rf
def W_RM_parts : List (Nat × Nat) := [(133, 22), (133, 23), (133, 24), (133, 33), (139, 999999), (140, 999999), (141, 999999), (143, 999999), (144, 999999), (145, 999999), (146, 999999)]
theorem RM_parts_L13_fr {L R : List (Nat × Nat)} (hL : Sub W_RM_parts L) (kx : Mem → Option Mem) (Rr : Mem) (hx : ∀ (y0 : Mem), kx y0 = some Rr → Frm L R y0 Rr) : ∀ (n : Nat) (m : Mem) (x2 : Int32), RM_parts_L13 kx n m x2 = some Rr → Frm L R m Rr := by
  intro n
  induction n with
  | zero =>
    intro m x2 h
    exact absurd (show none = some Rr from h) (fun e => Option.some_ne_none Rr e.symm)
  | succ n ih =>
    intro m x2 h
    rw [RM_parts_L13] at h
    by_cases hb1 : 400 ≤ x2
    · have h := ifp h hb1
      exact hx m h
    · have h := ifn h hb1
      obtain ⟨hk2, h⟩ := ift h
      obtain ⟨m2, hm2, h⟩ := letM_ex h
      have a3 : Frm L R m m2 := Frm.sI hm2 (hL _ _ rfl)
      exact a3.tr (ih m2 (x2 + 1) h)
theorem RM_parts_L95_fr {L R : List (Nat × Nat)} (hL : Sub W_RM_parts L) (x2 : Int32) (x4 : Int32) (kx : Mem → Int32 → Option Mem) (Rr : Mem) (hx : ∀ (y0 : Mem) (y1 : Int32), kx y0 y1 = some Rr → Frm L R y0 Rr) : ∀ (n : Nat) (m : Mem) (x3 : Int32) (x5 : Int32), RM_parts_L95 x2 x4 kx n m x3 x5 = some Rr → Frm L R m Rr := by
  intro n
  induction n with
  | zero =>
    intro m x3 x5 h
    exact absurd (show none = some Rr from h) (fun e => Option.some_ne_none Rr e.symm)
  | succ n ih =>
    intro m x3 x5 h
    rw [RM_parts_L95] at h
    by_cases hb1 : 4 ≤ x5
    · have h := ifp h hb1
      exact hx m x3 h
    · have h := ifn h hb1
      obtain ⟨hk2, h⟩ := ift h
      obtain ⟨v2, hv2, h⟩ := letV_ex h
      by_cases hb3 : v2 < 0
      · have h := ifp h hb3
        exact ih m x3 (x5 + 1) h
      · have h := ifn h hb3
        obtain ⟨hk4, h⟩ := ift h
        by_cases hb5 : 0 ≤ (gI m 143 (ixn v2))
        · have h := ifp h hb5
          exact ih m x3 (x5 + 1) h
        · have h := ifn h hb5
          obtain ⟨hk6, h⟩ := ift h
          by_cases hb7 : (gI m 141 (ixn v2)) = (gI m 141 (ixn x2))
          · have h := ifp h hb7
            obtain ⟨m5, hm5, h⟩ := letM_ex h
            have a8 : Frm L R m m5 := Frm.sI hm5 (hL _ _ rfl)
            obtain ⟨hk9, h⟩ := ift h
            obtain ⟨m7, hm7, h⟩ := letM_ex h
            have a10 : Frm L R m m7 := a8.tr (Frm.sI hm7 (hL _ _ rfl))
            exact a10.tr (ih m7 (x3 + 1) (x5 + 1) h)
          · have h := ifn h hb7
            exact ih m x3 (x5 + 1) h
theorem RM_parts_L86_fr {L R : List (Nat × Nat)} (hL : Sub W_RM_parts L) (x2 : Int32) (kx : Mem → Int32 → Option Mem) (Rr : Mem) (hx : ∀ (y0 : Mem) (y1 : Int32), kx y0 y1 = some Rr → Frm L R y0 Rr) : ∀ (n : Nat) (m : Mem) (x3 : Int32) (x4 : Int32), RM_parts_L86 x2 kx n m x3 x4 = some Rr → Frm L R m Rr := by
  intro n
  induction n with
  | zero =>
    intro m x3 x4 h
    exact absurd (show none = some Rr from h) (fun e => Option.some_ne_none Rr e.symm)
  | succ n ih =>
    intro m x3 x4 h
    rw [RM_parts_L86] at h
    by_cases hb1 : x3 ≤ x4
    · have h := ifp h hb1
      exact hx m x3 h
    · have h := ifn h hb1
      refine RM_parts_L95_fr hL x2 x4 _ Rr ?_ FU m x3 0 h
      intro m2 y1 h
      exact ih m2 y1 (x4 + 1) h
theorem RM_parts_L35_fr {L R : List (Nat × Nat)} (hL : Sub W_RM_parts L) (kx : Mem → Option Mem) (Rr : Mem) (hx : ∀ (y0 : Mem), kx y0 = some Rr → Frm L R y0 Rr) : ∀ (n : Nat) (m : Mem) (x2 : Int32), RM_parts_L35 kx n m x2 = some Rr → Frm L R m Rr := by
  intro n
  induction n with
  | zero =>
    intro m x2 h
    exact absurd (show none = some Rr from h) (fun e => Option.some_ne_none Rr e.symm)
  | succ n ih =>
    intro m x2 h
    rw [RM_parts_L35] at h
    by_cases hb1 : 400 ≤ x2
    · have h := ifp h hb1
      exact hx m h
    · have h := ifn h hb1
      obtain ⟨hk2, h⟩ := ift h
      by_cases hb3 : (gI m 143 (ixn x2)) < 0
      · have h := ifp h hb3
        obtain ⟨hk4, h⟩ := ift h
        obtain ⟨m3, hm3, h⟩ := letM_ex h
        have a5 : Frm L R m m3 := Frm.sI hm3 (hL _ _ rfl)
        obtain ⟨m4, hm4, h⟩ := letM_ex h
        have a6 : Frm L R m m4 := a5.tr (Frm.sI hm4 (hL _ _ rfl))
        obtain ⟨hk7, h⟩ := ift h
        obtain ⟨m6, hm6, h⟩ := letM_ex h
        have a8 : Frm L R m m6 := a6.tr (Frm.sI hm6 (hL _ _ rfl))
        refine a8.tr (RM_parts_L86_fr hL x2 _ Rr ?_ FU m6 1 0 h)
        intro m8 y7 h
        obtain ⟨hk10, h⟩ := ift h
        obtain ⟨m10, hm10, h⟩ := letM_ex h
        have a11 : Frm L R m8 m10 := Frm.sI hm10 (hL _ _ rfl)
        obtain ⟨m11, hm11, h⟩ := letM_ex h
        have a12 : Frm L R m8 m11 := a11.tr (Frm.sI hm11 (hL _ _ rfl))
        exact a12.tr (ih m11 (x2 + 1) h)
      · have h := ifn h hb3
        exact ih m (x2 + 1) h
theorem RM_parts_fr {L R : List (Nat × Nat)} (hL : Sub W_RM_parts L) (m : Mem) (x1 : Int32) (Rr : Mem) (h : RM_parts m x1 = some Rr) : Frm L R m Rr := by
  unfold RM_parts at h
  obtain ⟨v1, m2, hq1, h⟩ := bV_ex h
  have a2 : Frm L R m m2 := RM_maps_fr (subm hL rfl) m x1 _ hq1
  obtain ⟨m4, hm4, h⟩ := letM_ex h
  have a3 : Frm L R m m4 := a2.tr (Frm.sI hm4 (hL _ _ rfl))
  refine a3.tr (RM_parts_L13_fr hL _ Rr ?_ FU m4 0 h)
  intro m5 h
  refine RM_parts_L35_fr hL _ Rr ?_ FU m5 0 h
  intro m6 h
  injection h with h
  subst h
  exact Frm.rf
def W_RM_pieces : List (Nat × Nat) := [(133, 0), (133, 22), (133, 23), (133, 24), (133, 33), (139, 999999), (140, 999999), (141, 999999), (143, 999999), (144, 999999), (145, 999999), (146, 999999)]
theorem RM_pieces_fr {L R : List (Nat × Nat)} (hL : Sub W_RM_pieces L) (m : Mem) (x1 : Int32) (Rr : Int32 × Mem) (h : RM_pieces m x1 = some Rr) : Frm L R m Rr.2 := by
  unfold RM_pieces at h
  obtain ⟨m1, hm1, h⟩ := letM_ex h
  have a1 : Frm L R m m1 := Frm.sI hm1 (hL _ _ rfl)
  obtain ⟨v2, hq2, h⟩ := bI_ex h
  by_cases hb3 : v2 = 0
  · have h := ifp h hb3
    injection h with h
    subst h
    exact a1
  · have h := ifn h hb3
    obtain ⟨m4, hq4, h⟩ := bM_ex h
    have a5 : Frm L R m m4 := a1.tr (RM_parts_fr (subm hL rfl) m1 x1 _ hq4)
    injection h with h
    subst h
    exact a5
def W_RM_besides : List (Nat × Nat) := [(147, 999999)]
theorem RM_besides_L2_fr {L R : List (Nat × Nat)} (hL : Sub W_RM_besides L) (x1 : Int32) (kx : Mem → Option (Int32 × Mem)) (Rr : Int32 × Mem) (hx : ∀ (y0 : Mem), kx y0 = some Rr → Frm L R y0 Rr.2) : ∀ (n : Nat) (m : Mem) (x2 : Int32), RM_besides_L2 x1 kx n m x2 = some Rr → Frm L R m Rr.2 := by
  intro n
  induction n with
  | zero =>
    intro m x2 h
    exact absurd (show none = some Rr from h) (fun e => Option.some_ne_none Rr e.symm)
  | succ n ih =>
    intro m x2 h
    rw [RM_besides_L2] at h
    by_cases hb1 : (gI m 133 33) ≤ x2
    · have h := ifp h hb1
      exact hx m h
    · have h := ifn h hb1
      obtain ⟨hk2, h⟩ := ift h
      obtain ⟨m2, hm2, h⟩ := letM_ex h
      have a3 : Frm L R m m2 := Frm.sI hm2 (hL _ _ rfl)
      exact a3.tr (ih m2 (x2 + 1) h)
theorem RM_besides_L50_fr {L R : List (Nat × Nat)} (hL : Sub W_RM_besides L) (x1 : Int32) (x3 : Int32) (kx : Mem → Int32 → Option (Int32 × Mem)) (Rr : Int32 × Mem) (hx : ∀ (y0 : Mem) (y1 : Int32), kx y0 y1 = some Rr → Frm L R y0 Rr.2) : ∀ (n : Nat) (m : Mem) (x2 : Int32) (x4 : Int32), RM_besides_L50 x1 x3 kx n m x2 x4 = some Rr → Frm L R m Rr.2 := by
  intro n
  induction n with
  | zero =>
    intro m x2 x4 h
    exact absurd (show none = some Rr from h) (fun e => Option.some_ne_none Rr e.symm)
  | succ n ih =>
    intro m x2 x4 h
    rw [RM_besides_L50] at h
    by_cases hb1 : 4 ≤ x4
    · have h := ifp h hb1
      exact hx m x2 h
    · have h := ifn h hb1
      obtain ⟨v1, hv1, h⟩ := letV_ex h
      by_cases hb2 : v1 < 0
      · have h := ifp h hb2
        exact ih m x2 (x4 + 1) h
      · have h := ifn h hb2
        obtain ⟨hk3, h⟩ := ift h
        by_cases hb4 : (gI m 143 (ixn v1)) = x1
        · have h := ifp h hb4
          exact ih m x2 (x4 + 1) h
        · have h := ifn h hb4
          obtain ⟨hk5, h⟩ := ift h
          by_cases hb6 : (gI m 147 (ixn (gI m 143 (ixn v1)))) = 0
          · have h := ifp h hb6
            obtain ⟨m4, hm4, h⟩ := letM_ex h
            have a7 : Frm L R m m4 := Frm.sI hm4 (hL _ _ rfl)
            exact a7.tr (ih m4 (x2 + 1) (x4 + 1) h)
          · have h := ifn h hb6
            exact ih m x2 (x4 + 1) h
theorem RM_besides_L27_fr {L R : List (Nat × Nat)} (hL : Sub W_RM_besides L) (x1 : Int32) (kx : Mem → Int32 → Option (Int32 × Mem)) (Rr : Int32 × Mem) (hx : ∀ (y0 : Mem) (y1 : Int32), kx y0 y1 = some Rr → Frm L R y0 Rr.2) : ∀ (n : Nat) (m : Mem) (x2 : Int32) (x3 : Int32), RM_besides_L27 x1 kx n m x2 x3 = some Rr → Frm L R m Rr.2 := by
  intro n
  induction n with
  | zero =>
    intro m x2 x3 h
    exact absurd (show none = some Rr from h) (fun e => Option.some_ne_none Rr e.symm)
  | succ n ih =>
    intro m x2 x3 h
    rw [RM_besides_L27] at h
    by_cases hb1 : 400 ≤ x3
    · have h := ifp h hb1
      exact hx m x2 h
    · have h := ifn h hb1
      obtain ⟨hk2, h⟩ := ift h
      by_cases hb3 : (gI m 143 (ixn x3)) = x1
      · have h := ifp h hb3
        refine RM_besides_L50_fr hL x1 x3 _ Rr ?_ FU m x2 0 h
        intro m3 y2 h
        exact ih m3 y2 (x3 + 1) h
      · have h := ifn h hb3
        exact ih m x2 (x3 + 1) h
theorem RM_besides_fr {L R : List (Nat × Nat)} (hL : Sub W_RM_besides L) (m : Mem) (x1 : Int32) (Rr : Int32 × Mem) (h : RM_besides m x1 = some Rr) : Frm L R m Rr.2 := by
  unfold RM_besides at h
  refine RM_besides_L2_fr hL x1 _ Rr ?_ FU m 0 h
  intro m1 h
  refine RM_besides_L27_fr hL x1 _ Rr ?_ FU m1 0 0 h
  intro m3 y2 h
  injection h with h
  subst h
  exact Frm.rf
def W_RM_piece : List (Nat × Nat) := [(133, 0), (133, 22), (133, 23), (133, 24), (133, 33), (139, 999999), (140, 999999), (141, 999999), (143, 999999), (144, 999999), (145, 999999), (146, 999999), (147, 999999)]
theorem RM_piece_fr {L R : List (Nat × Nat)} (hL : Sub W_RM_piece L) (m : Mem) (x1 : Int32) (x2 : Int32) (x3 : Int32) (Rr : Int32 × Mem) (h : RM_piece m x1 x2 x3 = some Rr) : Frm L R m Rr.2 := by
  unfold RM_piece at h
  obtain ⟨m1, hm1, h⟩ := letM_ex h
  have a1 : Frm L R m m1 := Frm.sI hm1 (hL _ _ rfl)
  obtain ⟨v2, hq2, h⟩ := bI_ex h
  by_cases hb3 : v2 = 0
  · have h := ifp h hb3
    injection h with h
    subst h
    exact a1
  · have h := ifn h hb3
    by_cases hb4 : (RM_isIn x3 0 4) = 0
    · have h := ifp h hb4
      injection h with h
      subst h
      exact a1
    · have h := ifn h hb4
      obtain ⟨m4, hq5, h⟩ := bM_ex h
      have a6 : Frm L R m m4 := a1.tr (RM_parts_fr (subm hL rfl) m1 x1 _ hq5)
      by_cases hb7 : (RM_isIn x2 0 ((gI m4 133 33) - 1)) = 0
      · have h := ifp h hb7
        injection h with h
        subst h
        exact a6
      · have h := ifn h hb7
        obtain ⟨hk8, h⟩ := ift h
        obtain ⟨v7, hv7, h⟩ := letV_ex h
        by_cases hb9 : x3 = 0
        · have h := ifp h hb9
          injection h with h
          subst h
          exact a6
        · have h := ifn h hb9
          by_cases hb10 : x3 = 1
          · have h := ifp h hb10
            obtain ⟨hk11, h⟩ := ift h
            by_cases hb12 : (gI m4 141 (ixn v7)) = 0
            · have h := ifp h hb12
              injection h with h
              subst h
              exact a6
            · have h := ifn h hb12
              injection h with h
              subst h
              exact a6
          · have h := ifn h hb10
            by_cases hb13 : x3 = 2
            · have h := ifp h hb13
              injection h with h
              subst h
              exact a6
            · have h := ifn h hb13
              by_cases hb14 : x3 = 3
              · have h := ifp h hb14
                injection h with h
                subst h
                exact a6
              · have h := ifn h hb14
                obtain ⟨v8, m9, hq15, h⟩ := bV_ex h
                have a16 : Frm L R m m9 := a6.tr (RM_besides_fr (subm hL rfl) m4 x2 _ hq15)
                injection h with h
                subst h
                exact a16
def W_RM_pieceAt : List (Nat × Nat) := [(133, 0), (133, 22), (133, 23), (133, 24), (133, 33), (139, 999999), (140, 999999), (141, 999999), (143, 999999), (144, 999999), (145, 999999), (146, 999999)]
theorem RM_pieceAt_fr {L R : List (Nat × Nat)} (hL : Sub W_RM_pieceAt L) (m : Mem) (x1 : Int32) (x2 : Int32) (x3 : Int32) (Rr : Int32 × Mem) (h : RM_pieceAt m x1 x2 x3 = some Rr) : Frm L R m Rr.2 := by
  unfold RM_pieceAt at h
  obtain ⟨m1, hm1, h⟩ := letM_ex h
  have a1 : Frm L R m m1 := Frm.sI hm1 (hL _ _ rfl)
  obtain ⟨v2, hq2, h⟩ := bI_ex h
  by_cases hb3 : v2 = 0
  · have h := ifp h hb3
    injection h with h
    subst h
    exact a1
  · have h := ifn h hb3
    by_cases hb4 : (RM_isSquare x2 x3) = 0
    · have h := ifp h hb4
      injection h with h
      subst h
      exact a1
    · have h := ifn h hb4
      obtain ⟨m4, hq5, h⟩ := bM_ex h
      have a6 : Frm L R m m4 := a1.tr (RM_parts_fr (subm hL rfl) m1 x1 _ hq5)
      obtain ⟨hk7, h⟩ := ift h
      injection h with h
      subst h
      exact a6
def W_RM_crosses : List (Nat × Nat) := [(133, 0), (133, 22), (139, 999999), (140, 999999)]
theorem RM_crosses_fr {L R : List (Nat × Nat)} (hL : Sub W_RM_crosses L) (m : Mem) (x1 : Int32) (x2 : Int32) (x3 : Int32) (x4 : Int32) (Rr : Int32 × Mem) (h : RM_crosses m x1 x2 x3 x4 = some Rr) : Frm L R m Rr.2 := by
  unfold RM_crosses at h
  obtain ⟨m1, hm1, h⟩ := letM_ex h
  have a1 : Frm L R m m1 := Frm.sI hm1 (hL _ _ rfl)
  obtain ⟨v2, hq2, h⟩ := bI_ex h
  by_cases hb3 : v2 = 0
  · have h := ifp h hb3
    injection h with h
    subst h
    exact a1
  · have h := ifn h hb3
    by_cases hb4 : (RM_isSquare x2 x3) = 0
    · have h := ifp h hb4
      injection h with h
      subst h
      exact a1
    · have h := ifn h hb4
      by_cases hb5 : (RM_isIn x4 0 3) = 0
      · have h := ifp h hb5
        injection h with h
        subst h
        exact a1
      · have h := ifn h hb5
        by_cases hb6 : 0 ≤ (RM_beside ((20 * x3) + x2) x4)
        · have h := ifp h hb6
          obtain ⟨m4, hq7, h⟩ := bM_ex h
          have a8 : Frm L R m m4 := a1.tr (RM_looks_fr (subm hL rfl) m1 x1 _ hq7)
          obtain ⟨v6, hq9, h⟩ := bI_ex h
          injection h with h
          subst h
          exact a8
        · have h := ifn h hb6
          injection h with h
          subst h
          exact a1
def W_RM_walk : List (Nat × Nat) := [(133, 0), (133, 2), (133, 3), (133, 4), (133, 5), (133, 10), (133, 11), (133, 12), (133, 13), (133, 14), (133, 15), (133, 16), (133, 17), (133, 22), (133, 36), (139, 999999), (140, 999999), (148, 999999)]
theorem RM_walk_L142_fr {L R : List (Nat × Nat)} (hL : Sub W_RM_walk L) (x6 : Int32) (x7 : Int32) (kx : Mem → Int32 → Int32 → Int32 → Option (Int32 × Mem)) (Rr : Int32 × Mem) (hx : ∀ (y0 : Mem) (y1 : Int32) (y2 : Int32) (y3 : Int32), kx y0 y1 y2 y3 = some Rr → Frm L R y0 Rr.2) : ∀ (n : Nat) (m : Mem) (x3 : Int32) (x4 : Int32) (x5 : Int32) (x8 : Int32), RM_walk_L142 x6 x7 kx n m x3 x4 x5 x8 = some Rr → Frm L R m Rr.2 := by
  intro n
  induction n with
  | zero =>
    intro m x3 x4 x5 x8 h
    exact absurd (show none = some Rr from h) (fun e => Option.some_ne_none Rr e.symm)
  | succ n ih =>
    intro m x3 x4 x5 x8 h
    rw [RM_walk_L142] at h
    by_cases hb1 : (gI m 133 17) ≤ x8
    · have h := ifp h hb1
      exact hx m x3 x4 x5 h
    · have h := ifn h hb1
      by_cases hb2 : 0 ≤ (RM_beside x3 x6)
      · have h := ifp h hb2
        obtain ⟨v1, hq3, h⟩ := bI_ex h
        obtain ⟨v3, hv3, h⟩ := letV_ex h
        obtain ⟨v4, hv4, h⟩ := letV_ex h
        exact ih m v4 v3 (x5 + 1) (x8 + 1) h
      · have h := ifn h hb2
        obtain ⟨m5, hm5, h⟩ := letM_ex h
        have a4 : Frm L R m m5 := Frm.sI hm5 (hL _ _ rfl)
        injection h with h
        subst h
        exact a4
theorem RM_walk_L81_fr {L R : List (Nat × Nat)} (hL : Sub W_RM_walk L) (kx : Mem → Int32 → Int32 → Int32 → Option (Int32 × Mem)) (Rr : Int32 × Mem) (hx : ∀ (y0 : Mem) (y1 : Int32) (y2 : Int32) (y3 : Int32), kx y0 y1 y2 y3 = some Rr → Frm L R y0 Rr.2) : ∀ (n : Nat) (m : Mem) (x3 : Int32) (x4 : Int32) (x5 : Int32), RM_walk_L81 kx n m x3 x4 x5 = some Rr → Frm L R m Rr.2 := by
  intro n
  induction n with
  | zero =>
    intro m x3 x4 x5 h
    exact absurd (show none = some Rr from h) (fun e => Option.some_ne_none Rr e.symm)
  | succ n ih =>
    intro m x3 x4 x5 h
    rw [RM_walk_L81] at h
    by_cases hb1 : (gI m 133 10) = 0
    · have h := ifp h hb1
      exact hx m x3 x4 x5 h
    · have h := ifn h hb1
      obtain ⟨v1, hv1, h⟩ := letV_ex h
      by_cases hb2 : 0 ≤ v1
      · have h := ifp h hb2
        obtain ⟨v2, hv2, h⟩ := letV_ex h
        obtain ⟨m3, hq3, h⟩ := bM_ex h
        have a4 : Frm L R m m3 := RM_next_fr (subm hL rfl) m _ hq3
        obtain ⟨v5, m6, hq5, h⟩ := bV_ex h
        have a6 : Frm L R m m6 := a4.tr (RM_takes_fr (subm hL rfl) m3 1 20 _ hq5)
        by_cases hb7 : v5 = 0
        · have h := ifp h hb7
          injection h with h
          subst h
          exact a6
        · have h := ifn h hb7
          refine a6.tr (RM_walk_L142_fr hL v1 v2 _ Rr ?_ FU m6 x3 x4 x5 0 h)
          intro m11 y8 y9 y10 h
          obtain ⟨v12, m13, hq9, h⟩ := bV_ex h
          have a10 : Frm L R m11 m13 := RM_sign_fr (subm hL rfl) m11 59 _ hq9
          by_cases hb11 : v12 = 0
          · have h := ifp h hb11
            injection h with h
            subst h
            exact a10
          · have h := ifn h hb11
            exact a10.tr (ih m13 y8 y9 y10 h)
      · have h := ifn h hb2
        obtain ⟨v15, m16, hq12, h⟩ := bV_ex h
        have a13 : Frm L R m m16 := RM_bad_fr (subm hL rfl) m 1 _ hq12
        injection h with h
        subst h
        exact a13
theorem RM_walk_fr {L R : List (Nat × Nat)} (hL : Sub W_RM_walk L) (m : Mem) (x1 : Int32) (x2 : Int32) (Rr : Int32 × Mem) (h : RM_walk m x1 x2 = some Rr) : Frm L R m Rr.2 := by
  unfold RM_walk at h
  obtain ⟨m1, hm1, h⟩ := letM_ex h
  have a1 : Frm L R m m1 := Frm.sI hm1 (hL _ _ rfl)
  obtain ⟨m2, hq2, h⟩ := bM_ex h
  have a3 : Frm L R m m2 := a1.tr (RM_taken_fr (subm hL rfl) m1 300 _ hq2)
  obtain ⟨v4, hq4, h⟩ := bI_ex h
  by_cases hb5 : v4 = 0
  · have h := ifp h hb5
    injection h with h
    subst h
    exact a3
  · have h := ifn h hb5
    obtain ⟨v6, hq6, h⟩ := bI_ex h
    by_cases hb7 : v6 = 0
    · have h := ifp h hb7
      injection h with h
      subst h
      exact a3
    · have h := ifn h hb7
      obtain ⟨m8, hm8, h⟩ := letM_ex h
      have a8 : Frm L R m m8 := a3.tr (Frm.sI hm8 (hL _ _ rfl))
      obtain ⟨m9, hq9, h⟩ := bM_ex h
      have a10 : Frm L R m m9 := a8.tr (RM_looks_fr (subm hL rfl) m8 x1 _ hq9)
      obtain ⟨hk11, h⟩ := ift h
      obtain ⟨hk12, h⟩ := ift h
      obtain ⟨v13, hv13, h⟩ := letV_ex h
      obtain ⟨m14, hq13, h⟩ := bM_ex h
      have a14 : Frm L R m m14 := a10.tr (RM_next_fr (subm hL rfl) m9 _ hq13)
      refine a14.tr (RM_walk_L81_fr hL _ Rr ?_ FU m14 v13 0 0 h)
      intro m19 y16 y17 y18 h
      obtain ⟨hk16, h⟩ := ift h
      obtain ⟨m21, hm21, h⟩ := letM_ex h
      have a17 : Frm L R m19 m21 := Frm.sI hm21 (hL _ _ rfl)
      obtain ⟨hk18, h⟩ := ift h
      obtain ⟨m23, hm23, h⟩ := letM_ex h
      have a19 : Frm L R m19 m23 := a17.tr (Frm.sI hm23 (hL _ _ rfl))
      obtain ⟨hk20, h⟩ := ift h
      obtain ⟨m25, hm25, h⟩ := letM_ex h
      have a21 : Frm L R m19 m25 := a19.tr (Frm.sI hm25 (hL _ _ rfl))
      obtain ⟨m26, hm26, h⟩ := letM_ex h
      have a22 : Frm L R m19 m26 := a21.tr (Frm.sI hm26 (hL _ _ rfl))
      injection h with h
      subst h
      exact a22
def W_RM_walked : List (Nat × Nat) := [(133, 0)]
theorem RM_walked_fr {L R : List (Nat × Nat)} (hL : Sub W_RM_walked L) (m : Mem) (x1 : Int32) (Rr : Int32 × Mem) (h : RM_walked m x1 = some Rr) : Frm L R m Rr.2 := by
  unfold RM_walked at h
  obtain ⟨m1, hm1, h⟩ := letM_ex h
  have a1 : Frm L R m m1 := Frm.sI hm1 (hL _ _ rfl)
  by_cases hb2 : (gI m1 133 36) = 0
  · have h := ifp h hb2
    injection h with h
    subst h
    exact a1
  · have h := ifn h hb2
    by_cases hb3 : (RM_isIn x1 0 2) = 0
    · have h := ifp h hb3
      injection h with h
      subst h
      exact a1
    · have h := ifn h hb3
      obtain ⟨hk4, h⟩ := ift h
      injection h with h
      subst h
      exact a1
def W_RM_least : List (Nat × Nat) := [(133, 0), (133, 22), (139, 999999), (140, 999999), (149, 999999)]
theorem RM_least_L40_fr {L R : List (Nat × Nat)} (hL : Sub W_RM_least L) (x2 : Int32) (x3 : Int32) (kx : Mem → Option (Int32 × Mem)) (Rr : Int32 × Mem) (hx : ∀ (y0 : Mem), kx y0 = some Rr → Frm L R y0 Rr.2) : ∀ (n : Nat) (m : Mem) (x4 : Int32), RM_least_L40 x2 x3 kx n m x4 = some Rr → Frm L R m Rr.2 := by
  intro n
  induction n with
  | zero =>
    intro m x4 h
    exact absurd (show none = some Rr from h) (fun e => Option.some_ne_none Rr e.symm)
  | succ n ih =>
    intro m x4 h
    rw [RM_least_L40] at h
    by_cases hb1 : 400 ≤ x4
    · have h := ifp h hb1
      exact hx m h
    · have h := ifn h hb1
      obtain ⟨hk2, h⟩ := ift h
      obtain ⟨m2, hm2, h⟩ := letM_ex h
      have a3 : Frm L R m m2 := Frm.sI hm2 (hL _ _ rfl)
      exact a3.tr (ih m2 (x4 + 1) h)
theorem RM_least_L123_fr {L R : List (Nat × Nat)} (hL : Sub W_RM_least L) (x3 : Int32) (x5 : Int32) (kx : Mem → Int32 → Option (Int32 × Mem)) (Rr : Int32 × Mem) (hx : ∀ (y0 : Mem) (y1 : Int32), kx y0 y1 = some Rr → Frm L R y0 Rr.2) : ∀ (n : Nat) (m : Mem) (x4 : Int32) (x6 : Int32), RM_least_L123 x3 x5 kx n m x4 x6 = some Rr → Frm L R m Rr.2 := by
  intro n
  induction n with
  | zero =>
    intro m x4 x6 h
    exact absurd (show none = some Rr from h) (fun e => Option.some_ne_none Rr e.symm)
  | succ n ih =>
    intro m x4 x6 h
    rw [RM_least_L123] at h
    by_cases hb1 : 4 ≤ x6
    · have h := ifp h hb1
      exact hx m x4 h
    · have h := ifn h hb1
      obtain ⟨v1, hv1, h⟩ := letV_ex h
      by_cases hb2 : v1 < 0
      · have h := ifp h hb2
        exact ih m x4 (x6 + 1) h
      · have h := ifn h hb2
        obtain ⟨hk3, h⟩ := ift h
        by_cases hb4 : 100000000 ≤ (gI m 149 (ixn x5))
        · have h := ifp h hb4
          exact ih m x4 (x6 + 1) h
        · have h := ifn h hb4
          obtain ⟨hk5, h⟩ := ift h
          by_cases hb6 : ((gI m 149 (ixn x5)) + 1) < (gI m 149 (ixn v1))
          · have h := ifp h hb6
            obtain ⟨v4, hq7, h⟩ := bI_ex h
            obtain ⟨v6, hv6, h⟩ := letV_ex h
            by_cases hb8 : v6 < (gI m 149 (ixn v1))
            · have h := ifp h hb8
              obtain ⟨m7, hm7, h⟩ := letM_ex h
              have a9 : Frm L R m m7 := Frm.sI hm7 (hL _ _ rfl)
              exact a9.tr (ih m7 1 (x6 + 1) h)
            · have h := ifn h hb8
              exact ih m x4 (x6 + 1) h
          · have h := ifn h hb6
            exact ih m x4 (x6 + 1) h
theorem RM_least_L112_fr {L R : List (Nat × Nat)} (hL : Sub W_RM_least L) (x3 : Int32) (kx : Mem → Int32 → Option (Int32 × Mem)) (Rr : Int32 × Mem) (hx : ∀ (y0 : Mem) (y1 : Int32), kx y0 y1 = some Rr → Frm L R y0 Rr.2) : ∀ (n : Nat) (m : Mem) (x4 : Int32) (x5 : Int32), RM_least_L112 x3 kx n m x4 x5 = some Rr → Frm L R m Rr.2 := by
  intro n
  induction n with
  | zero =>
    intro m x4 x5 h
    exact absurd (show none = some Rr from h) (fun e => Option.some_ne_none Rr e.symm)
  | succ n ih =>
    intro m x4 x5 h
    rw [RM_least_L112] at h
    by_cases hb1 : 400 ≤ x5
    · have h := ifp h hb1
      exact hx m x4 h
    · have h := ifn h hb1
      refine RM_least_L123_fr hL x3 x5 _ Rr ?_ FU m x4 0 h
      intro m2 y1 h
      exact ih m2 y1 (x5 + 1) h
theorem RM_least_L101_fr {L R : List (Nat × Nat)} (hL : Sub W_RM_least L) (x3 : Int32) (kx : Mem → Option (Int32 × Mem)) (Rr : Int32 × Mem) (hx : ∀ (y0 : Mem), kx y0 = some Rr → Frm L R y0 Rr.2) : ∀ (n : Nat) (m : Mem) (x4 : Int32), RM_least_L101 x3 kx n m x4 = some Rr → Frm L R m Rr.2 := by
  intro n
  induction n with
  | zero =>
    intro m x4 h
    exact absurd (show none = some Rr from h) (fun e => Option.some_ne_none Rr e.symm)
  | succ n ih =>
    intro m x4 h
    rw [RM_least_L101] at h
    by_cases hb1 : x4 = 0
    · have h := ifp h hb1
      exact hx m h
    · have h := ifn h hb1
      refine RM_least_L112_fr hL x3 _ Rr ?_ FU m 0 0 h
      intro m2 y1 h
      exact ih m2 y1 h
theorem RM_least_fr {L R : List (Nat × Nat)} (hL : Sub W_RM_least L) (m : Mem) (x1 : Int32) (x2 : Int32) (x3 : Int32) (Rr : Int32 × Mem) (h : RM_least m x1 x2 x3 = some Rr) : Frm L R m Rr.2 := by
  unfold RM_least at h
  obtain ⟨m1, hm1, h⟩ := letM_ex h
  have a1 : Frm L R m m1 := Frm.sI hm1 (hL _ _ rfl)
  obtain ⟨v2, hq2, h⟩ := bI_ex h
  by_cases hb3 : v2 = 0
  · have h := ifp h hb3
    injection h with h
    subst h
    exact a1
  · have h := ifn h hb3
    obtain ⟨v4, hq4, h⟩ := bI_ex h
    by_cases hb5 : v4 = 0
    · have h := ifp h hb5
      injection h with h
      subst h
      exact a1
    · have h := ifn h hb5
      by_cases hb6 : (RM_isIn x3 0 1) = 0
      · have h := ifp h hb6
        injection h with h
        subst h
        exact a1
      · have h := ifn h hb6
        obtain ⟨m6, hq7, h⟩ := bM_ex h
        have a8 : Frm L R m m6 := a1.tr (RM_looks_fr (subm hL rfl) m1 x1 _ hq7)
        refine a8.tr (RM_least_L40_fr hL x2 x3 _ Rr ?_ FU m6 0 h)
        intro m8 h
        obtain ⟨hk10, h⟩ := ift h
        obtain ⟨hk11, h⟩ := ift h
        obtain ⟨hk12, h⟩ := ift h
        obtain ⟨m12, hm12, h⟩ := letM_ex h
        have a13 : Frm L R m8 m12 := Frm.sI hm12 (hL _ _ rfl)
        refine a13.tr (RM_least_L101_fr hL x3 _ Rr ?_ FU m12 1 h)
        intro m13 h
        obtain ⟨hk15, h⟩ := ift h
        obtain ⟨hk16, h⟩ := ift h
        obtain ⟨hk17, h⟩ := ift h
        obtain ⟨v17, hv17, h⟩ := letV_ex h
        by_cases hb18 : x3 = 0
        · have h := ifp h hb18
          injection h with h
          subst h
          exact Frm.rf
        · have h := ifn h hb18
          injection h with h
          subst h
          exact Frm.rf
def W_RM_stiles : List (Nat × Nat) := [(133, 0), (133, 22), (133, 23), (133, 24), (133, 33), (139, 999999), (140, 999999), (141, 999999), (143, 999999), (144, 999999), (145, 999999), (146, 999999), (150, 999999)]
theorem RM_stiles_J130_fr {L R : List (Nat × Nat)} (hL : Sub W_RM_stiles L) (kr : Mem → Int32 → Int32 → Option (Int32 × Mem)) (kx : Mem → Int32 → Option (Int32 × Mem)) (m : Mem) (x2 : Int32) (x3 : Int32) (x4 : Int32) (x5 : Int32) (x7 : Int32) (s0 : Int32) (Rr : Int32 × Mem) (hr : ∀ (y0 : Mem) (y1 : Int32) (y2 : Int32), kr y0 y1 y2 = some Rr → Frm L R y0 Rr.2) (hx : ∀ (y0 : Mem) (y1 : Int32), kx y0 y1 = some Rr → Frm L R y0 Rr.2) (h : RM_stiles_J130 kr kx m x2 x3 x4 x5 x7 s0 = some Rr) : Frm L R m Rr.2 := by
  unfold RM_stiles_J130 at h
  obtain ⟨v1, hv1, h⟩ := letV_ex h
  exact hr m s0 v1 h
theorem RM_stiles_L77_fr {L R : List (Nat × Nat)} (hL : Sub W_RM_stiles L) (x2 : Int32) (x3 : Int32) (x4 : Int32) (x5 : Int32) (kx : Mem → Int32 → Option (Int32 × Mem)) (Rr : Int32 × Mem) (hx : ∀ (y0 : Mem) (y1 : Int32), kx y0 y1 = some Rr → Frm L R y0 Rr.2) : ∀ (n : Nat) (m : Mem) (x6 : Int32) (x7 : Int32), RM_stiles_L77 x2 x3 x4 x5 kx n m x6 x7 = some Rr → Frm L R m Rr.2 := by
  intro n
  induction n with
  | zero =>
    intro m x6 x7 h
    exact absurd (show none = some Rr from h) (fun e => Option.some_ne_none Rr e.symm)
  | succ n ih =>
    intro m x6 x7 h
    rw [RM_stiles_L77] at h
    by_cases hb1 : x7 ≤ 0
    · have h := ifp h hb1
      exact hx m x6 h
    · have h := ifn h hb1
      obtain ⟨hk2, h⟩ := ift h
      obtain ⟨hk3, h⟩ := ift h
      obtain ⟨v3, hv3, h⟩ := letV_ex h
      by_cases hb4 : x6 ≤ v3
      · have h := ifp h hb4
        exact RM_stiles_J130_fr hL _ _ m x2 x3 x4 x5 x7 x6 _ ih hx h
      · have h := ifn h hb4
        exact RM_stiles_J130_fr hL _ _ m x2 x3 x4 x5 x7 v3 _ ih hx h
theorem RM_stiles_L147_fr {L R : List (Nat × Nat)} (hL : Sub W_RM_stiles L) (x2 : Int32) (x3 : Int32) (x4 : Int32) (x5 : Int32) (kx : Mem → Int32 → Option (Int32 × Mem)) (Rr : Int32 × Mem) (hx : ∀ (y0 : Mem) (y1 : Int32), kx y0 y1 = some Rr → Frm L R y0 Rr.2) : ∀ (n : Nat) (m : Mem) (x6 : Int32) (x7 : Int32), RM_stiles_L147 x2 x3 x4 x5 kx n m x6 x7 = some Rr → Frm L R m Rr.2 := by
  intro n
  induction n with
  | zero =>
    intro m x6 x7 h
    exact absurd (show none = some Rr from h) (fun e => Option.some_ne_none Rr e.symm)
  | succ n ih =>
    intro m x6 x7 h
    rw [RM_stiles_L147] at h
    by_cases hb1 : x2 ≤ x7
    · have h := ifp h hb1
      exact hx m x6 h
    · have h := ifn h hb1
      by_cases hb2 : x4 = (jshl 1 x7)
      · have h := ifp h hb2
        obtain ⟨hk3, h⟩ := ift h
        obtain ⟨hk4, h⟩ := ift h
        obtain ⟨hk5, h⟩ := ift h
        by_cases hb6 : (gI m 143 (ixn ((20 * (gI m 135 (ixn ((86 + (3 * x7)) + 1)))) + (gI m 135 (ixn (86 + (3 * x7))))))) = x5
        · have h := ifp h hb6
          exact ih m 0 (x7 + 1) h
        · have h := ifn h hb6
          exact ih m x6 (x7 + 1) h
      · have h := ifn h hb2
        exact ih m x6 (x7 + 1) h
theorem RM_stiles_L54_fr {L R : List (Nat × Nat)} (hL : Sub W_RM_stiles L) (x2 : Int32) (x3 : Int32) (x4 : Int32) (kx : Mem → Option (Int32 × Mem)) (Rr : Int32 × Mem) (hx : ∀ (y0 : Mem), kx y0 = some Rr → Frm L R y0 Rr.2) : ∀ (n : Nat) (m : Mem) (x5 : Int32), RM_stiles_L54 x2 x3 x4 kx n m x5 = some Rr → Frm L R m Rr.2 := by
  intro n
  induction n with
  | zero =>
    intro m x5 h
    exact absurd (show none = some Rr from h) (fun e => Option.some_ne_none Rr e.symm)
  | succ n ih =>
    intro m x5 h
    rw [RM_stiles_L54] at h
    by_cases hb1 : (gI m 133 33) ≤ x5
    · have h := ifp h hb1
      exact hx m h
    · have h := ifn h hb1
      obtain ⟨v1, hv1, h⟩ := letV_ex h
      refine RM_stiles_L77_fr hL x2 x3 x4 x5 _ Rr ?_ FU m 100000000 v1 h
      intro m3 y2 h
      refine RM_stiles_L147_fr hL x2 x3 x4 x5 _ Rr ?_ FU m3 y2 0 h
      intro m5 y4 h
      obtain ⟨hk4, h⟩ := ift h
      obtain ⟨m7, hm7, h⟩ := letM_ex h
      have a5 : Frm L R m5 m7 := Frm.sI hm7 (hL _ _ rfl)
      exact a5.tr (ih m7 (x5 + 1) h)
theorem RM_stiles_L258_fr {L R : List (Nat × Nat)} (hL : Sub W_RM_stiles L) (x2 : Int32) (x3 : Int32) (x4 : Int32) (x6 : Int32) (kx : Mem → Int32 → Option (Int32 × Mem)) (Rr : Int32 × Mem) (hx : ∀ (y0 : Mem) (y1 : Int32), kx y0 y1 = some Rr → Frm L R y0 Rr.2) : ∀ (n : Nat) (m : Mem) (x5 : Int32) (x7 : Int32), RM_stiles_L258 x2 x3 x4 x6 kx n m x5 x7 = some Rr → Frm L R m Rr.2 := by
  intro n
  induction n with
  | zero =>
    intro m x5 x7 h
    exact absurd (show none = some Rr from h) (fun e => Option.some_ne_none Rr e.symm)
  | succ n ih =>
    intro m x5 x7 h
    rw [RM_stiles_L258] at h
    by_cases hb1 : 4 ≤ x7
    · have h := ifp h hb1
      exact hx m x5 h
    · have h := ifn h hb1
      obtain ⟨v1, hv1, h⟩ := letV_ex h
      by_cases hb2 : v1 < 0
      · have h := ifp h hb2
        exact ih m x5 (x7 + 1) h
      · have h := ifn h hb2
        obtain ⟨hk3, h⟩ := ift h
        obtain ⟨hk4, h⟩ := ift h
        by_cases hb5 : (gI m 143 (ixn v1)) = (gI m 143 (ixn x6))
        · have h := ifp h hb5
          exact ih m x5 (x7 + 1) h
        · have h := ifn h hb5
          obtain ⟨hk6, h⟩ := ift h
          obtain ⟨hk7, h⟩ := ift h
          by_cases hb8 : ((gI m 150 (ixn ((400 * x4) + (gI m 143 (ixn x6))))) + 1) < (gI m 150 (ixn ((400 * x4) + (gI m 143 (ixn v1)))))
          · have h := ifp h hb8
            obtain ⟨m6, hm6, h⟩ := letM_ex h
            have a9 : Frm L R m m6 := Frm.sI hm6 (hL _ _ rfl)
            exact a9.tr (ih m6 1 (x7 + 1) h)
          · have h := ifn h hb8
            exact ih m x5 (x7 + 1) h
theorem RM_stiles_L247_fr {L R : List (Nat × Nat)} (hL : Sub W_RM_stiles L) (x2 : Int32) (x3 : Int32) (x4 : Int32) (kx : Mem → Int32 → Option (Int32 × Mem)) (Rr : Int32 × Mem) (hx : ∀ (y0 : Mem) (y1 : Int32), kx y0 y1 = some Rr → Frm L R y0 Rr.2) : ∀ (n : Nat) (m : Mem) (x5 : Int32) (x6 : Int32), RM_stiles_L247 x2 x3 x4 kx n m x5 x6 = some Rr → Frm L R m Rr.2 := by
  intro n
  induction n with
  | zero =>
    intro m x5 x6 h
    exact absurd (show none = some Rr from h) (fun e => Option.some_ne_none Rr e.symm)
  | succ n ih =>
    intro m x5 x6 h
    rw [RM_stiles_L247] at h
    by_cases hb1 : 400 ≤ x6
    · have h := ifp h hb1
      exact hx m x5 h
    · have h := ifn h hb1
      refine RM_stiles_L258_fr hL x2 x3 x4 x6 _ Rr ?_ FU m x5 0 h
      intro m2 y1 h
      exact ih m2 y1 (x6 + 1) h
theorem RM_stiles_L236_fr {L R : List (Nat × Nat)} (hL : Sub W_RM_stiles L) (x2 : Int32) (x3 : Int32) (x4 : Int32) (kx : Mem → Option (Int32 × Mem)) (Rr : Int32 × Mem) (hx : ∀ (y0 : Mem), kx y0 = some Rr → Frm L R y0 Rr.2) : ∀ (n : Nat) (m : Mem) (x5 : Int32), RM_stiles_L236 x2 x3 x4 kx n m x5 = some Rr → Frm L R m Rr.2 := by
  intro n
  induction n with
  | zero =>
    intro m x5 h
    exact absurd (show none = some Rr from h) (fun e => Option.some_ne_none Rr e.symm)
  | succ n ih =>
    intro m x5 h
    rw [RM_stiles_L236] at h
    by_cases hb1 : x5 = 0
    · have h := ifp h hb1
      exact hx m h
    · have h := ifn h hb1
      refine RM_stiles_L247_fr hL x2 x3 x4 _ Rr ?_ FU m 0 0 h
      intro m2 y1 h
      exact ih m2 y1 h
theorem RM_stiles_L45_fr {L R : List (Nat × Nat)} (hL : Sub W_RM_stiles L) (x2 : Int32) (x3 : Int32) (kx : Mem → Option (Int32 × Mem)) (Rr : Int32 × Mem) (hx : ∀ (y0 : Mem), kx y0 = some Rr → Frm L R y0 Rr.2) : ∀ (n : Nat) (m : Mem) (x4 : Int32), RM_stiles_L45 x2 x3 kx n m x4 = some Rr → Frm L R m Rr.2 := by
  intro n
  induction n with
  | zero =>
    intro m x4 h
    exact absurd (show none = some Rr from h) (fun e => Option.some_ne_none Rr e.symm)
  | succ n ih =>
    intro m x4 h
    rw [RM_stiles_L45] at h
    by_cases hb1 : x3 ≤ x4
    · have h := ifp h hb1
      exact hx m h
    · have h := ifn h hb1
      refine RM_stiles_L54_fr hL x2 x3 x4 _ Rr ?_ FU m 0 h
      intro m1 h
      refine RM_stiles_L236_fr hL x2 x3 x4 _ Rr ?_ FU m1 1 h
      intro m2 h
      exact ih m2 (x4 + 1) h
theorem RM_stiles_fr {L R : List (Nat × Nat)} (hL : Sub W_RM_stiles L) (m : Mem) (x1 : Int32) (Rr : Int32 × Mem) (h : RM_stiles m x1 = some Rr) : Frm L R m Rr.2 := by
  unfold RM_stiles at h
  obtain ⟨m1, hm1, h⟩ := letM_ex h
  have a1 : Frm L R m m1 := Frm.sI hm1 (hL _ _ rfl)
  obtain ⟨v2, hq2, h⟩ := bI_ex h
  by_cases hb3 : v2 = 0
  · have h := ifp h hb3
    injection h with h
    subst h
    exact a1
  · have h := ifn h hb3
    obtain ⟨hk4, h⟩ := ift h
    by_cases hb5 : (gI m1 135 (ixn 1)) ≤ 6
    · have h := ifp h hb5
      obtain ⟨m5, hq6, h⟩ := bM_ex h
      have a7 : Frm L R m m5 := a1.tr (RM_parts_fr (subm hL rfl) m1 x1 _ hq6)
      obtain ⟨v7, hv7, h⟩ := letV_ex h
      obtain ⟨v8, hv8, h⟩ := letV_ex h
      refine a7.tr (RM_stiles_L45_fr hL v7 v8 _ Rr ?_ FU m5 1 h)
      intro m9 h
      by_cases hb9 : v7 = 0
      · have h := ifp h hb9
        injection h with h
        subst h
        exact Frm.rf
      · have h := ifn h hb9
        obtain ⟨hk10, h⟩ := ift h
        obtain ⟨hk11, h⟩ := ift h
        obtain ⟨hk12, h⟩ := ift h
        obtain ⟨hk13, h⟩ := ift h
        injection h with h
        subst h
        exact Frm.rf
    · have h := ifn h hb5
      injection h with h
      subst h
      exact a1
def W_RM_keep : List (Nat × Nat) := [(133, 40), (151, 999999)]
theorem RM_keep_L47_fr {L R : List (Nat × Nat)} (hL : Sub W_RM_keep L) (kx : Mem → Option Mem) (Rr : Mem) (hx : ∀ (y0 : Mem), kx y0 = some Rr → Frm L R y0 Rr) : ∀ (n : Nat) (m : Mem) (x1 : Int32), RM_keep_L47 kx n m x1 = some Rr → Frm L R m Rr := by
  intro n
  induction n with
  | zero =>
    intro m x1 h
    exact absurd (show none = some Rr from h) (fun e => Option.some_ne_none Rr e.symm)
  | succ n ih =>
    intro m x1 h
    rw [RM_keep_L47] at h
    by_cases hb1 : 116 ≤ x1
    · have h := ifp h hb1
      exact hx m h
    · have h := ifn h hb1
      obtain ⟨hk2, h⟩ := ift h
      obtain ⟨hk3, h⟩ := ift h
      obtain ⟨m3, hm3, h⟩ := letM_ex h
      have a4 : Frm L R m m3 := Frm.sI hm3 (hL _ _ rfl)
      exact a4.tr (ih m3 (x1 + 1) h)
theorem RM_keep_J45_fr {L R : List (Nat × Nat)} (hL : Sub W_RM_keep L) (m : Mem) (Rr : Mem) (h : RM_keep_J45 m = some Rr) : Frm L R m Rr := by
  unfold RM_keep_J45 at h
  refine RM_keep_L47_fr hL _ Rr ?_ FU m 0 h
  intro m1 h
  obtain ⟨m2, hm2, h⟩ := letM_ex h
  have a2 : Frm L R m1 m2 := Frm.sI hm2 (hL _ _ rfl)
  injection h with h
  subst h
  exact a2
theorem RM_keep_L11_fr {L R : List (Nat × Nat)} (hL : Sub W_RM_keep L) (kx : Mem → Option Mem) (Rr : Mem) (hx : ∀ (y0 : Mem), kx y0 = some Rr → Frm L R y0 Rr) : ∀ (n : Nat) (m : Mem) (x1 : Int32), RM_keep_L11 kx n m x1 = some Rr → Frm L R m Rr := by
  intro n
  induction n with
  | zero =>
    intro m x1 h
    exact absurd (show none = some Rr from h) (fun e => Option.some_ne_none Rr e.symm)
  | succ n ih =>
    intro m x1 h
    rw [RM_keep_L11] at h
    by_cases hb1 : 812 ≤ x1
    · have h := ifp h hb1
      exact hx m h
    · have h := ifn h hb1
      obtain ⟨hk2, h⟩ := ift h
      obtain ⟨hk3, h⟩ := ift h
      obtain ⟨m3, hm3, h⟩ := letM_ex h
      have a4 : Frm L R m m3 := Frm.sI hm3 (hL _ _ rfl)
      exact a4.tr (ih m3 (x1 + 1) h)
theorem RM_keep_fr {L R : List (Nat × Nat)} (hL : Sub W_RM_keep L) (m : Mem) (Rr : Mem) (h : RM_keep m = some Rr) : Frm L R m Rr := by
  unfold RM_keep at h
  by_cases hb1 : (gI m 133 40) = 8
  · have h := ifp h hb1
    refine RM_keep_L11_fr hL _ Rr ?_ FU m 0 h
    intro m1 h
    obtain ⟨m2, hm2, h⟩ := letM_ex h
    have a3 : Frm L R m1 m2 := Frm.sI hm2 (hL _ _ rfl)
    exact a3.tr (RM_keep_J45_fr hL m2 _ h)
  · have h := ifn h hb1
    exact RM_keep_J45_fr hL m _ h
def W_RM_undo : List (Nat × Nat) := [(133, 0), (133, 40), (135, 999999)]
theorem RM_undo_L26_fr {L R : List (Nat × Nat)} (hL : Sub W_RM_undo L) (kx : Mem → Option (Int32 × Mem)) (Rr : Int32 × Mem) (hx : ∀ (y0 : Mem), kx y0 = some Rr → Frm L R y0 Rr.2) : ∀ (n : Nat) (m : Mem) (x1 : Int32), RM_undo_L26 kx n m x1 = some Rr → Frm L R m Rr.2 := by
  intro n
  induction n with
  | zero =>
    intro m x1 h
    exact absurd (show none = some Rr from h) (fun e => Option.some_ne_none Rr e.symm)
  | succ n ih =>
    intro m x1 h
    rw [RM_undo_L26] at h
    by_cases hb1 : 116 ≤ x1
    · have h := ifp h hb1
      exact hx m h
    · have h := ifn h hb1
      obtain ⟨hk2, h⟩ := ift h
      obtain ⟨hk3, h⟩ := ift h
      obtain ⟨m3, hm3, h⟩ := letM_ex h
      have a4 : Frm L R m m3 := Frm.sI hm3 (hL _ _ rfl)
      exact a4.tr (ih m3 (x1 + 1) h)
theorem RM_undo_fr {L R : List (Nat × Nat)} (hL : Sub W_RM_undo L) (m : Mem) (Rr : Int32 × Mem) (h : RM_undo m = some Rr) : Frm L R m Rr.2 := by
  unfold RM_undo at h
  obtain ⟨m1, hm1, h⟩ := letM_ex h
  have a1 : Frm L R m m1 := Frm.sI hm1 (hL _ _ rfl)
  by_cases hb2 : (gI m1 133 40) = 0
  · have h := ifp h hb2
    injection h with h
    subst h
    exact a1
  · have h := ifn h hb2
    obtain ⟨m2, hm2, h⟩ := letM_ex h
    have a3 : Frm L R m m2 := a1.tr (Frm.sI hm2 (hL _ _ rfl))
    refine a3.tr (RM_undo_L26_fr hL _ Rr ?_ FU m2 0 h)
    intro m3 h
    injection h with h
    subst h
    exact Frm.rf
def W_RM_puts : List (Nat × Nat) := [(135, 999999)]
theorem RM_puts_fr {L R : List (Nat × Nat)} (hL : Sub W_RM_puts L) (m : Mem) (x1 : Int32) (x2 : Int32) (x3 : Int32) (x4 : Int32) (Rr : Mem) (h : RM_puts m x1 x2 x3 x4 = some Rr) : Frm L R m Rr := by
  unfold RM_puts at h
  obtain ⟨hk1, h⟩ := ift h
  obtain ⟨m2, hm2, h⟩ := letM_ex h
  have a2 : Frm L R m m2 := Frm.sI hm2 (hL _ _ rfl)
  obtain ⟨hk3, h⟩ := ift h
  obtain ⟨m4, hm4, h⟩ := letM_ex h
  have a4 : Frm L R m m4 := a2.tr (Frm.sI hm4 (hL _ _ rfl))
  injection h with h
  subst h
  exact a4
def W_RM_move : List (Nat × Nat) := [(133, 0), (133, 40), (135, 999999), (151, 999999)]
theorem RM_move_fr {L R : List (Nat × Nat)} (hL : Sub W_RM_move L) (m : Mem) (x1 : Int32) (x2 : Int32) (x3 : Int32) (x4 : Int32) (Rr : Int32 × Mem) (h : RM_move m x1 x2 x3 x4 = some Rr) : Frm L R m Rr.2 := by
  unfold RM_move at h
  obtain ⟨m1, hm1, h⟩ := letM_ex h
  have a1 : Frm L R m m1 := Frm.sI hm1 (hL _ _ rfl)
  obtain ⟨v2, hq2, h⟩ := bI_ex h
  by_cases hb3 : v2 = 0
  · have h := ifp h hb3
    injection h with h
    subst h
    exact a1
  · have h := ifn h hb3
    obtain ⟨v4, hq4, h⟩ := bI_ex h
    by_cases hb5 : v4 = 0
    · have h := ifp h hb5
      injection h with h
      subst h
      exact a1
    · have h := ifn h hb5
      obtain ⟨m6, hq6, h⟩ := bM_ex h
      have a7 : Frm L R m m6 := a1.tr (RM_keep_fr (subm hL rfl) m1 _ hq6)
      obtain ⟨m8, hq8, h⟩ := bM_ex h
      have a9 : Frm L R m m8 := a7.tr (RM_puts_fr (subm hL rfl) m6 x1 x2 x3 x4 _ hq8)
      obtain ⟨hk10, h⟩ := ift h
      obtain ⟨m11, hm11, h⟩ := letM_ex h
      have a11 : Frm L R m m11 := a9.tr (Frm.sI hm11 (hL _ _ rfl))
      injection h with h
      subst h
      exact a11
def W_RM_shift : List (Nat × Nat) := [(133, 0), (133, 40), (135, 999999), (151, 999999)]
theorem RM_shift_L48_fr {L R : List (Nat × Nat)} (hL : Sub W_RM_shift L) (x1 : Int32) (x2 : Int32) (x3 : Int32) (kx : Mem → Option (Int32 × Mem)) (Rr : Int32 × Mem) (hx : ∀ (y0 : Mem), kx y0 = some Rr → Frm L R y0 Rr.2) : ∀ (n : Nat) (m : Mem) (x4 : Int32), RM_shift_L48 x1 x2 x3 kx n m x4 = some Rr → Frm L R m Rr.2 := by
  intro n
  induction n with
  | zero =>
    intro m x4 h
    exact absurd (show none = some Rr from h) (fun e => Option.some_ne_none Rr e.symm)
  | succ n ih =>
    intro m x4 h
    rw [RM_shift_L48] at h
    obtain ⟨hk1, h⟩ := ift h
    by_cases hb2 : (gI m 135 (ixn (11 + x1))) ≤ x4
    · have h := ifp h hb2
      exact hx m h
    · have h := ifn h hb2
      obtain ⟨hk3, h⟩ := ift h
      obtain ⟨hk4, h⟩ := ift h
      by_cases hb5 : (RM_isPoint ((gI m 135 (ixn ((14 + (24 * x1)) + (2 * x4)))) + x2) ((gI m 135 (ixn (((14 + (24 * x1)) + (2 * x4)) + 1))) + x3)) = 0
      · have h := ifp h hb5
        injection h with h
        subst h
        exact Frm.rf
      · have h := ifn h hb5
        exact ih m (x4 + 1) h
theorem RM_shift_L123_fr {L R : List (Nat × Nat)} (hL : Sub W_RM_shift L) (x1 : Int32) (x2 : Int32) (x3 : Int32) (kx : Mem → Option (Int32 × Mem)) (Rr : Int32 × Mem) (hx : ∀ (y0 : Mem), kx y0 = some Rr → Frm L R y0 Rr.2) : ∀ (n : Nat) (m : Mem) (x4 : Int32), RM_shift_L123 x1 x2 x3 kx n m x4 = some Rr → Frm L R m Rr.2 := by
  intro n
  induction n with
  | zero =>
    intro m x4 h
    exact absurd (show none = some Rr from h) (fun e => Option.some_ne_none Rr e.symm)
  | succ n ih =>
    intro m x4 h
    rw [RM_shift_L123] at h
    obtain ⟨hk1, h⟩ := ift h
    by_cases hb2 : (gI m 135 (ixn (11 + x1))) ≤ x4
    · have h := ifp h hb2
      exact hx m h
    · have h := ifn h hb2
      obtain ⟨hk3, h⟩ := ift h
      obtain ⟨hk4, h⟩ := ift h
      obtain ⟨m4, hq5, h⟩ := bM_ex h
      have a6 : Frm L R m m4 := RM_puts_fr (subm hL rfl) m x1 x4 ((gI m 135 (ixn ((14 + (24 * x1)) + (2 * x4)))) + x2) ((gI m 135 (ixn (((14 + (24 * x1)) + (2 * x4)) + 1))) + x3) _ hq5
      exact a6.tr (ih m4 (x4 + 1) h)
theorem RM_shift_J21_fr {L R : List (Nat × Nat)} (hL : Sub W_RM_shift L) (m : Mem) (x1 : Int32) (x2 : Int32) (x3 : Int32) (Rr : Int32 × Mem) (h : RM_shift_J21 m x1 x2 x3 = some Rr) : Frm L R m Rr.2 := by
  unfold RM_shift_J21 at h
  by_cases hb1 : (RM_isIn x2 (-20) 20) = 0
  · have h := ifp h hb1
    injection h with h
    subst h
    exact Frm.rf
  · have h := ifn h hb1
    by_cases hb2 : (RM_isIn x3 (-20) 20) = 0
    · have h := ifp h hb2
      injection h with h
      subst h
      exact Frm.rf
    · have h := ifn h hb2
      refine RM_shift_L48_fr hL x1 x2 x3 _ Rr ?_ FU m 0 h
      intro m1 h
      obtain ⟨m2, hq4, h⟩ := bM_ex h
      have a5 : Frm L R m1 m2 := RM_keep_fr (subm hL rfl) m1 _ hq4
      refine a5.tr (RM_shift_L123_fr hL x1 x2 x3 _ Rr ?_ FU m2 0 h)
      intro m4 h
      obtain ⟨hk7, h⟩ := ift h
      obtain ⟨hk8, h⟩ := ift h
      obtain ⟨m7, hm7, h⟩ := letM_ex h
      have a9 : Frm L R m4 m7 := Frm.sI hm7 (hL _ _ rfl)
      injection h with h
      subst h
      exact a9
theorem RM_shift_fr {L R : List (Nat × Nat)} (hL : Sub W_RM_shift L) (m : Mem) (x1 : Int32) (x2 : Int32) (x3 : Int32) (Rr : Int32 × Mem) (h : RM_shift m x1 x2 x3 = some Rr) : Frm L R m Rr.2 := by
  unfold RM_shift at h
  obtain ⟨m1, hm1, h⟩ := letM_ex h
  have a1 : Frm L R m m1 := Frm.sI hm1 (hL _ _ rfl)
  obtain ⟨v2, hq2, h⟩ := bI_ex h
  by_cases hb3 : v2 = 0
  · have h := ifp h hb3
    injection h with h
    subst h
    exact a1
  · have h := ifn h hb3
    by_cases hb4 : x2 = 0
    · have h := ifp h hb4
      by_cases hb5 : x3 = 0
      · have h := ifp h hb5
        injection h with h
        subst h
        exact a1
      · have h := ifn h hb5
        exact a1.tr (RM_shift_J21_fr hL m1 x1 x2 x3 _ h)
    · have h := ifn h hb4
      exact a1.tr (RM_shift_J21_fr hL m1 x1 x2 x3 _ h)
def W_RM_moved : List (Nat × Nat) := [(133, 0), (133, 22), (133, 23), (133, 24), (135, 999999), (139, 999999), (140, 999999), (141, 999999), (142, 999999)]
theorem RM_moved_L94_fr {L R : List (Nat × Nat)} (hL : Sub W_RM_moved L) (x1 : Int32) (x2 : Int32) (x5 : Int32) (x6 : Int32) (x7 : Int32) (kx : Mem → Option (Int32 × Mem)) (Rr : Int32 × Mem) (hx : ∀ (y0 : Mem), kx y0 = some Rr → Frm L R y0 Rr.2) : ∀ (n : Nat) (m : Mem) (x8 : Int32), RM_moved_L94 x1 x2 x5 x6 x7 kx n m x8 = some Rr → Frm L R m Rr.2 := by
  intro n
  induction n with
  | zero =>
    intro m x8 h
    exact absurd (show none = some Rr from h) (fun e => Option.some_ne_none Rr e.symm)
  | succ n ih =>
    intro m x8 h
    rw [RM_moved_L94] at h
    by_cases hb1 : 400 ≤ x8
    · have h := ifp h hb1
      exact hx m h
    · have h := ifn h hb1
      obtain ⟨hk2, h⟩ := ift h
      obtain ⟨m2, hm2, h⟩ := letM_ex h
      have a3 : Frm L R m m2 := Frm.sI hm2 (hL _ _ rfl)
      exact a3.tr (ih m2 (x8 + 1) h)
theorem RM_moved_J188_fr {L R : List (Nat × Nat)} (hL : Sub W_RM_moved L) (kr : Mem → Int32 → Int32 → Option (Int32 × Mem)) (kx : Mem → Int32 → Option (Int32 × Mem)) (m : Mem) (x5 : Int32) (x9 : Int32) (s0 : Int32) (s1 : Int32) (s2 : Int32) (Rr : Int32 × Mem) (hr : ∀ (y0 : Mem) (y1 : Int32) (y2 : Int32), kr y0 y1 y2 = some Rr → Frm L R y0 Rr.2) (hx : ∀ (y0 : Mem) (y1 : Int32), kx y0 y1 = some Rr → Frm L R y0 Rr.2) (h : RM_moved_J188 kr kx m x5 x9 s0 s1 s2 = some Rr) : Frm L R m Rr.2 := by
  unfold RM_moved_J188 at h
  by_cases hb1 : s1 = s2
  · have h := ifp h hb1
    obtain ⟨v2, hv2, h⟩ := letV_ex h
    exact hr m v2 (x9 + 1) h
  · have h := ifn h hb1
    obtain ⟨v1, hv1, h⟩ := letV_ex h
    exact hr m v1 (x9 + 1) h
theorem RM_moved_L144_fr {L R : List (Nat × Nat)} (hL : Sub W_RM_moved L) (x5 : Int32) (kx : Mem → Int32 → Option (Int32 × Mem)) (Rr : Int32 × Mem) (hx : ∀ (y0 : Mem) (y1 : Int32), kx y0 y1 = some Rr → Frm L R y0 Rr.2) : ∀ (n : Nat) (m : Mem) (x8 : Int32) (x9 : Int32), RM_moved_L144 x5 kx n m x8 x9 = some Rr → Frm L R m Rr.2 := by
  intro n
  induction n with
  | zero =>
    intro m x8 x9 h
    exact absurd (show none = some Rr from h) (fun e => Option.some_ne_none Rr e.symm)
  | succ n ih =>
    intro m x8 x9 h
    rw [RM_moved_L144] at h
    by_cases hb1 : 400 ≤ x9
    · have h := ifp h hb1
      exact hx m x8 h
    · have h := ifn h hb1
      obtain ⟨hk2, h⟩ := ift h
      by_cases hb3 : (gI m 142 (ixn x9)) = (gI m 141 (ixn x9))
      · have h := ifp h hb3
        obtain ⟨v2, hv2, h⟩ := letV_ex h
        exact ih m v2 (x9 + 1) h
      · have h := ifn h hb3
        by_cases hb4 : x5 = 0
        · have h := ifp h hb4
          exact RM_moved_J188_fr hL _ _ m x5 x9 x8 (gI m 142 (ixn x9)) 1 _ ih hx h
        · have h := ifn h hb4
          exact RM_moved_J188_fr hL _ _ m x5 x9 x8 (gI m 142 (ixn x9)) 0 _ ih hx h
theorem RM_moved_fr {L R : List (Nat × Nat)} (hL : Sub W_RM_moved L) (m : Mem) (x1 : Int32) (x2 : Int32) (x3 : Int32) (x4 : Int32) (x5 : Int32) (Rr : Int32 × Mem) (h : RM_moved m x1 x2 x3 x4 x5 = some Rr) : Frm L R m Rr.2 := by
  unfold RM_moved at h
  obtain ⟨m1, hm1, h⟩ := letM_ex h
  have a1 : Frm L R m m1 := Frm.sI hm1 (hL _ _ rfl)
  obtain ⟨v2, hq2, h⟩ := bI_ex h
  by_cases hb3 : v2 = 0
  · have h := ifp h hb3
    injection h with h
    subst h
    exact a1
  · have h := ifn h hb3
    obtain ⟨v4, hq4, h⟩ := bI_ex h
    by_cases hb5 : v4 = 0
    · have h := ifp h hb5
      injection h with h
      subst h
      exact a1
    · have h := ifn h hb5
      by_cases hb6 : (RM_isIn x5 0 1) = 0
      · have h := ifp h hb6
        injection h with h
        subst h
        exact a1
      · have h := ifn h hb6
        obtain ⟨hk7, h⟩ := ift h
        obtain ⟨v7, hv7, h⟩ := letV_ex h
        obtain ⟨hk8, h⟩ := ift h
        obtain ⟨v9, hv9, h⟩ := letV_ex h
        obtain ⟨m10, hq9, h⟩ := bM_ex h
        have a10 : Frm L R m m10 := a1.tr (RM_puts_fr (subm hL rfl) m1 x1 x2 x3 x4 _ hq9)
        obtain ⟨v12, m13, hq11, h⟩ := bV_ex h
        have a12 : Frm L R m m13 := a10.tr (RM_maps_fr (subm hL rfl) m10 x1 _ hq11)
        refine a12.tr (RM_moved_L94_fr hL x1 x2 x5 v7 v9 _ Rr ?_ FU m13 0 h)
        intro m15 h
        obtain ⟨m16, hq14, h⟩ := bM_ex h
        have a15 : Frm L R m15 m16 := RM_puts_fr (subm hL rfl) m15 x1 x2 v7 v9 _ hq14
        obtain ⟨v18, m19, hq16, h⟩ := bV_ex h
        have a17 : Frm L R m15 m19 := a15.tr (RM_maps_fr (subm hL rfl) m16 x1 _ hq16)
        refine a17.tr (RM_moved_L144_fr hL x5 _ Rr ?_ FU m19 0 0 h)
        intro m22 y21 h
        injection h with h
        subst h
        exact Frm.rf
def W_RM_draw : List (Nat × Nat) := [(133, 41)]
theorem RM_draw_fr {L R : List (Nat × Nat)} (hL : Sub W_RM_draw L) (m : Mem) (x1 : Int32) (Rr : Int32 × Mem) (h : RM_draw m x1 = some Rr) : Frm L R m Rr.2 := by
  unfold RM_draw at h
  obtain ⟨m1, hm1, h⟩ := letM_ex h
  have a1 : Frm L R m m1 := Frm.sI hm1 (hL _ _ rfl)
  obtain ⟨hk2, h⟩ := ift h
  injection h with h
  subst h
  exact a1
def W_RM_nights : List (Nat × Nat) := [(133, 0), (133, 40), (133, 41), (135, 999999), (151, 999999)]
theorem RM_nights_J170_fr {L R : List (Nat × Nat)} (hL : Sub W_RM_nights L) (kr : Mem → Int32 → Option (Int32 × Mem)) (kx : Mem → Option (Int32 × Mem)) (m : Mem) (x1 : Int32) (x3 : Int32) (x4 : Int32) (x5 : Int32) (x6 : Int32) (x8 : Int32) (s0 : Int32) (s1 : Int32) (Rr : Int32 × Mem) (hr : ∀ (y0 : Mem) (y1 : Int32), kr y0 y1 = some Rr → Frm L R y0 Rr.2) (hx : ∀ (y0 : Mem), kx y0 = some Rr → Frm L R y0 Rr.2) (h : RM_nights_J170 kr kx m x1 x3 x4 x5 x6 x8 s0 s1 = some Rr) : Frm L R m Rr.2 := by
  unfold RM_nights_J170 at h
  obtain ⟨v1, hv1, h⟩ := letV_ex h
  obtain ⟨v2, hq1, h⟩ := bI_ex h
  by_cases hb2 : v2 = 0
  · have h := ifp h hb2
    exact hr m (x4 + 1) h
  · have h := ifn h hb2
    obtain ⟨m4, hq3, h⟩ := bM_ex h
    have a4 : Frm L R m m4 := RM_puts_fr (subm hL rfl) m x5 x6 x8 v1 _ hq3
    obtain ⟨hk5, h⟩ := ift h
    obtain ⟨m7, hm7, h⟩ := letM_ex h
    have a6 : Frm L R m m7 := a4.tr (Frm.sI hm7 (hL _ _ rfl))
    exact a6.tr (hr m7 (x4 + 1) h)
theorem RM_nights_J127_fr {L R : List (Nat × Nat)} (hL : Sub W_RM_nights L) (kr : Mem → Int32 → Option (Int32 × Mem)) (kx : Mem → Option (Int32 × Mem)) (m : Mem) (x1 : Int32) (x3 : Int32) (x4 : Int32) (x5 : Int32) (x6 : Int32) (x7 : Int32) (s0 : Int32) (s1 : Int32) (Rr : Int32 × Mem) (hr : ∀ (y0 : Mem) (y1 : Int32), kr y0 y1 = some Rr → Frm L R y0 Rr.2) (hx : ∀ (y0 : Mem), kx y0 = some Rr → Frm L R y0 Rr.2) (h : RM_nights_J127 kr kx m x1 x3 x4 x5 x6 x7 s0 s1 = some Rr) : Frm L R m Rr.2 := by
  unfold RM_nights_J127 at h
  obtain ⟨v1, hv1, h⟩ := letV_ex h
  obtain ⟨hk1, h⟩ := ift h
  by_cases hb2 : x7 = 2
  · have h := ifp h hb2
    exact RM_nights_J170_fr hL _ _ m x1 x3 x4 x5 x6 v1 (gI m 135 (ixn (((14 + (24 * x5)) + (2 * x6)) + 1))) 1 _ hr hx h
  · have h := ifn h hb2
    by_cases hb3 : x7 = 0
    · have h := ifp h hb3
      exact RM_nights_J170_fr hL _ _ m x1 x3 x4 x5 x6 v1 (gI m 135 (ixn (((14 + (24 * x5)) + (2 * x6)) + 1))) (-1) _ hr hx h
    · have h := ifn h hb3
      exact RM_nights_J170_fr hL _ _ m x1 x3 x4 x5 x6 v1 (gI m 135 (ixn (((14 + (24 * x5)) + (2 * x6)) + 1))) 0 _ hr hx h
theorem RM_nights_L47_fr {L R : List (Nat × Nat)} (hL : Sub W_RM_nights L) (x1 : Int32) (x3 : Int32) (kx : Mem → Option (Int32 × Mem)) (Rr : Int32 × Mem) (hx : ∀ (y0 : Mem), kx y0 = some Rr → Frm L R y0 Rr.2) : ∀ (n : Nat) (m : Mem) (x4 : Int32), RM_nights_L47 x1 x3 kx n m x4 = some Rr → Frm L R m Rr.2 := by
  intro n
  induction n with
  | zero =>
    intro m x4 h
    exact absurd (show none = some Rr from h) (fun e => Option.some_ne_none Rr e.symm)
  | succ n ih =>
    intro m x4 h
    rw [RM_nights_L47] at h
    by_cases hb1 : x1 ≤ x4
    · have h := ifp h hb1
      exact hx m h
    · have h := ifn h hb1
      obtain ⟨hk2, h⟩ := ift h
      obtain ⟨v2, m3, hq3, h⟩ := bV_ex h
      have a4 : Frm L R m m3 := RM_draw_fr (subm hL rfl) m (gI m 135 (ixn 0)) _ hq3
      obtain ⟨hk5, h⟩ := ift h
      obtain ⟨v6, m7, hq6, h⟩ := bV_ex h
      have a7 : Frm L R m m7 := a4.tr (RM_draw_fr (subm hL rfl) m3 (gI m3 135 (ixn (11 + v2))) _ hq6)
      obtain ⟨v9, m10, hq8, h⟩ := bV_ex h
      have a9 : Frm L R m m10 := a7.tr (RM_draw_fr (subm hL rfl) m7 4 _ hq8)
      obtain ⟨hk10, h⟩ := ift h
      by_cases hb11 : v9 = 1
      · have h := ifp h hb11
        exact a9.tr (RM_nights_J127_fr hL _ _ m10 x1 x3 x4 v2 v6 v9 (gI m10 135 (ixn ((14 + (24 * v2)) + (2 * v6)))) 1 _ ih hx h)
      · have h := ifn h hb11
        by_cases hb12 : v9 = 3
        · have h := ifp h hb12
          exact a9.tr (RM_nights_J127_fr hL _ _ m10 x1 x3 x4 v2 v6 v9 (gI m10 135 (ixn ((14 + (24 * v2)) + (2 * v6)))) (-1) _ ih hx h)
        · have h := ifn h hb12
          exact a9.tr (RM_nights_J127_fr hL _ _ m10 x1 x3 x4 v2 v6 v9 (gI m10 135 (ixn ((14 + (24 * v2)) + (2 * v6)))) 0 _ ih hx h)
theorem RM_nights_fr {L R : List (Nat × Nat)} (hL : Sub W_RM_nights L) (m : Mem) (x1 : Int32) (x2 : Int32) (Rr : Int32 × Mem) (h : RM_nights m x1 x2 = some Rr) : Frm L R m Rr.2 := by
  unfold RM_nights at h
  obtain ⟨m1, hm1, h⟩ := letM_ex h
  have a1 : Frm L R m m1 := Frm.sI hm1 (hL _ _ rfl)
  by_cases hb2 : (RM_isIn x1 1 200) = 0
  · have h := ifp h hb2
    injection h with h
    subst h
    exact a1
  · have h := ifn h hb2
    obtain ⟨hk3, h⟩ := ift h
    by_cases hb4 : (gI m1 135 (ixn 0)) = 0
    · have h := ifp h hb4
      injection h with h
      subst h
      exact a1
    · have h := ifn h hb4
      obtain ⟨m3, hq5, h⟩ := bM_ex h
      have a6 : Frm L R m m3 := a1.tr (RM_keep_fr (subm hL rfl) m1 _ hq5)
      obtain ⟨m5, hm5, h⟩ := letM_ex h
      have a7 : Frm L R m m5 := a6.tr (Frm.sI hm5 (hL _ _ rfl))
      obtain ⟨hk8, h⟩ := ift h
      obtain ⟨v7, hv7, h⟩ := letV_ex h
      refine a7.tr (RM_nights_L47_fr hL x1 v7 _ Rr ?_ FU m5 0 h)
      intro m8 h
      obtain ⟨hk10, h⟩ := ift h
      injection h with h
      subst h
      exact Frm.rf
def W_RM_isTold : List (Nat × Nat) := [(133, 2), (133, 3), (133, 4), (133, 5), (133, 43), (152, 999999)]
theorem RM_isTold_J83_fr {L R : List (Nat × Nat)} (hL : Sub W_RM_isTold L) (kr : Mem → Int32 → Option (Int32 × Mem)) (kx : Mem → Option (Int32 × Mem)) (m : Mem) (x1 : Int32) (s0 : Int32) (s1 : Int32) (Rr : Int32 × Mem) (hr : ∀ (y0 : Mem) (y1 : Int32), kr y0 y1 = some Rr → Frm L R y0 Rr.2) (hx : ∀ (y0 : Mem), kx y0 = some Rr → Frm L R y0 Rr.2) (h : RM_isTold_J83 kr kx m x1 s0 s1 = some Rr) : Frm L R m Rr.2 := by
  unfold RM_isTold_J83 at h
  by_cases hb1 : s0 ≤ s1
  · have h := ifp h hb1
    exact hr m (x1 + 1) h
  · have h := ifn h hb1
    injection h with h
    subst h
    exact Frm.rf
theorem RM_isTold_L45_fr {L R : List (Nat × Nat)} (hL : Sub W_RM_isTold L) (kx : Mem → Option (Int32 × Mem)) (Rr : Int32 × Mem) (hx : ∀ (y0 : Mem), kx y0 = some Rr → Frm L R y0 Rr.2) : ∀ (n : Nat) (m : Mem) (x1 : Int32), RM_isTold_L45 kx n m x1 = some Rr → Frm L R m Rr.2 := by
  intro n
  induction n with
  | zero =>
    intro m x1 h
    exact absurd (show none = some Rr from h) (fun e => Option.some_ne_none Rr e.symm)
  | succ n ih =>
    intro m x1 h
    rw [RM_isTold_L45] at h
    by_cases hb1 : (gI m 133 3) ≤ x1
    · have h := ifp h hb1
      exact hx m h
    · have h := ifn h hb1
      obtain ⟨v1, hq2, h⟩ := bI_ex h
      obtain ⟨hk3, h⟩ := ift h
      obtain ⟨m4, hm4, h⟩ := letM_ex h
      have a4 : Frm L R m m4 := Frm.sI hm4 (hL _ _ rfl)
      by_cases hb5 : (irm x1 3) = 2
      · have h := ifp h hb5
        exact a4.tr (RM_isTold_J83_fr hL _ _ m4 x1 (gI m4 152 (ixn x1)) 1 _ ih hx h)
      · have h := ifn h hb5
        exact a4.tr (RM_isTold_J83_fr hL _ _ m4 x1 (gI m4 152 (ixn x1)) 20 _ ih hx h)
theorem RM_isTold_fr {L R : List (Nat × Nat)} (hL : Sub W_RM_isTold L) (m : Mem) (Rr : Int32 × Mem) (h : RM_isTold m = some Rr) : Frm L R m Rr.2 := by
  unfold RM_isTold at h
  obtain ⟨m1, hq1, h⟩ := bM_ex h
  have a2 : Frm L R m m1 := RM_taken_fr (subm hL rfl) m 940 _ hq1
  by_cases hb3 : (irm (gI m1 133 3) 3) = 0
  · have h := ifp h hb3
    by_cases hb4 : (RM_isIn ((gI m1 133 3) / 3) 1 8) = 0
    · have h := ifp h hb4
      injection h with h
      subst h
      exact a2
    · have h := ifn h hb4
      obtain ⟨m3, hm3, h⟩ := letM_ex h
      have a5 : Frm L R m m3 := a2.tr (Frm.sI hm3 (hL _ _ rfl))
      refine a5.tr (RM_isTold_L45_fr hL _ Rr ?_ FU m3 0 h)
      intro m4 h
      injection h with h
      subst h
      exact Frm.rf
  · have h := ifn h hb3
    injection h with h
    subst h
    exact a2
def W_RM_areSo : List (Nat × Nat) := [(133, 23), (133, 24)]
theorem RM_areSo_J55_fr {L R : List (Nat × Nat)} (hL : Sub W_RM_areSo L) (kr : Mem → Int32 → Option (Int32 × Mem)) (kx : Mem → Option (Int32 × Mem)) (m : Mem) (x1 : Int32) (s0 : Int32) (s1 : Int32) (Rr : Int32 × Mem) (hr : ∀ (y0 : Mem) (y1 : Int32), kr y0 y1 = some Rr → Frm L R y0 Rr.2) (hx : ∀ (y0 : Mem), kx y0 = some Rr → Frm L R y0 Rr.2) (h : RM_areSo_J55 kr kx m x1 s0 s1 = some Rr) : Frm L R m Rr.2 := by
  unfold RM_areSo_J55 at h
  by_cases hb1 : s0 = s1
  · have h := ifp h hb1
    exact hr m (x1 + 1) h
  · have h := ifn h hb1
    injection h with h
    subst h
    exact Frm.rf
theorem RM_areSo_L2_fr {L R : List (Nat × Nat)} (hL : Sub W_RM_areSo L) (kx : Mem → Option (Int32 × Mem)) (Rr : Int32 × Mem) (hx : ∀ (y0 : Mem), kx y0 = some Rr → Frm L R y0 Rr.2) : ∀ (n : Nat) (m : Mem) (x1 : Int32), RM_areSo_L2 kx n m x1 = some Rr → Frm L R m Rr.2 := by
  intro n
  induction n with
  | zero =>
    intro m x1 h
    exact absurd (show none = some Rr from h) (fun e => Option.some_ne_none Rr e.symm)
  | succ n ih =>
    intro m x1 h
    rw [RM_areSo_L2] at h
    by_cases hb1 : (gI m 133 43) ≤ x1
    · have h := ifp h hb1
      exact hx m h
    · have h := ifn h hb1
      obtain ⟨hk2, h⟩ := ift h
      obtain ⟨hk3, h⟩ := ift h
      obtain ⟨v3, m4, hq4, h⟩ := bV_ex h
      have a5 : Frm L R m m4 := RM_isHis_fr (subm hL rfl) m (2 * (gI m 152 (ixn (3 * x1)))) (2 * (gI m 152 (ixn ((3 * x1) + 1)))) _ hq4
      obtain ⟨hk6, h⟩ := ift h
      by_cases hb7 : (gI m4 152 (ixn ((3 * x1) + 2))) = 1
      · have h := ifp h hb7
        exact a5.tr (RM_areSo_J55_fr hL _ _ m4 x1 v3 1 _ ih hx h)
      · have h := ifn h hb7
        exact a5.tr (RM_areSo_J55_fr hL _ _ m4 x1 v3 0 _ ih hx h)
theorem RM_areSo_fr {L R : List (Nat × Nat)} (hL : Sub W_RM_areSo L) (m : Mem) (Rr : Int32 × Mem) (h : RM_areSo m = some Rr) : Frm L R m Rr.2 := by
  unfold RM_areSo at h
  refine RM_areSo_L2_fr hL _ Rr ?_ FU m 0 h
  intro m1 h
  injection h with h
  subst h
  exact Frm.rf
def W_RM_tries : List (Nat × Nat) := [(139, 999999), (140, 999999)]
theorem RM_tries_fr {L R : List (Nat × Nat)} (hL : Sub W_RM_tries L) (m : Mem) (x1 : Int32) (x2 : Int32) (x3 : Int32) (x4 : Int32) (Rr : Int32 × Mem) (h : RM_tries m x1 x2 x3 x4 = some Rr) : Frm L R m Rr.2 := by
  unfold RM_tries at h
  obtain ⟨v1, hv1, h⟩ := letV_ex h
  obtain ⟨hk1, h⟩ := ift h
  obtain ⟨hk2, h⟩ := ift h
  obtain ⟨v4, hv4, h⟩ := letV_ex h
  obtain ⟨hk3, h⟩ := ift h
  obtain ⟨v6, hv6, h⟩ := letV_ex h
  obtain ⟨hk4, h⟩ := ift h
  obtain ⟨m8, hm8, h⟩ := letM_ex h
  have a5 : Frm L R m m8 := Frm.sI hm8 (hL _ _ rfl)
  obtain ⟨m9, hm9, h⟩ := letM_ex h
  have a6 : Frm L R m m9 := a5.tr (Frm.sI hm9 (hL _ _ rfl))
  obtain ⟨m10, hq7, h⟩ := bM_ex h
  have a8 : Frm L R m m10 := a6.tr (RM_closes_fr (subm hL rfl) m9 _ hq7)
  obtain ⟨hk9, h⟩ := ift h
  injection h with h
  subst h
  exact a8
def W_RM_found : List (Nat × Nat) := [(133, 46), (133, 47), (153, 999999)]
theorem RM_found_J17_fr {L R : List (Nat × Nat)} (hL : Sub W_RM_found L) (m : Mem) (x1 : Int32) (x2 : Int32) (s1 : Int32) (Rr : Mem) (h : RM_found_J17 m x1 x2 s1 = some Rr) : Frm L R m Rr := by
  unfold RM_found_J17 at h
  obtain ⟨m1, hm1, h⟩ := letM_ex h
  have a1 : Frm L R m m1 := Frm.sI hm1 (hL _ _ rfl)
  obtain ⟨hk2, h⟩ := ift h
  obtain ⟨m3, hm3, h⟩ := letM_ex h
  have a3 : Frm L R m m3 := a1.tr (Frm.sI hm3 (hL _ _ rfl))
  obtain ⟨hk4, h⟩ := ift h
  obtain ⟨hk5, h⟩ := ift h
  obtain ⟨m6, hm6, h⟩ := letM_ex h
  have a6 : Frm L R m m6 := a3.tr (Frm.sI hm6 (hL _ _ rfl))
  obtain ⟨hk7, h⟩ := ift h
  obtain ⟨m8, hm8, h⟩ := letM_ex h
  have a8 : Frm L R m m8 := a6.tr (Frm.sI hm8 (hL _ _ rfl))
  by_cases hb9 : x2 < 0
  · have h := ifp h hb9
    obtain ⟨m9, hm9, h⟩ := letM_ex h
    have a10 : Frm L R m m9 := a8.tr (Frm.sI hm9 (hL _ _ rfl))
    injection h with h
    subst h
    exact a10
  · have h := ifn h hb9
    obtain ⟨hk11, h⟩ := ift h
    obtain ⟨m11, hm11, h⟩ := letM_ex h
    have a12 : Frm L R m m11 := a8.tr (Frm.sI hm11 (hL _ _ rfl))
    obtain ⟨hk13, h⟩ := ift h
    obtain ⟨hk14, h⟩ := ift h
    obtain ⟨m14, hm14, h⟩ := letM_ex h
    have a15 : Frm L R m m14 := a12.tr (Frm.sI hm14 (hL _ _ rfl))
    obtain ⟨hk16, h⟩ := ift h
    obtain ⟨m16, hm16, h⟩ := letM_ex h
    have a17 : Frm L R m m16 := a15.tr (Frm.sI hm16 (hL _ _ rfl))
    obtain ⟨m17, hm17, h⟩ := letM_ex h
    have a18 : Frm L R m m17 := a17.tr (Frm.sI hm17 (hL _ _ rfl))
    injection h with h
    subst h
    exact a18
theorem RM_found_fr {L R : List (Nat × Nat)} (hL : Sub W_RM_found L) (m : Mem) (x1 : Int32) (x2 : Int32) (Rr : Mem) (h : RM_found m x1 x2 = some Rr) : Frm L R m Rr := by
  unfold RM_found at h
  by_cases hb1 : (gI m 133 47) = 0
  · have h := ifp h hb1
    by_cases hb2 : 0 ≤ x2
    · have h := ifp h hb2
      exact RM_found_J17_fr hL m x1 x2 2 _ h
    · have h := ifn h hb2
      exact RM_found_J17_fr hL m x1 x2 1 _ h
  · have h := ifn h hb1
    obtain ⟨m1, hm1, h⟩ := letM_ex h
    have a3 : Frm L R m m1 := Frm.sI hm1 (hL _ _ rfl)
    injection h with h
    subst h
    exact a3
def W_RM_byNight : List (Nat × Nat) := [(133, 0), (133, 2), (133, 3), (133, 4), (133, 5), (133, 22), (133, 23), (133, 24), (133, 43), (133, 45), (133, 46), (133, 47), (139, 999999), (140, 999999), (152, 999999), (153, 999999)]
theorem RM_byNight_L93_fr {L R : List (Nat × Nat)} (hL : Sub W_RM_byNight L) (x1 : Int32) (x2 : Int32) (x3 : Int32) (x4 : Int32) (kx : Mem → Option (Int32 × Mem)) (Rr : Int32 × Mem) (hx : ∀ (y0 : Mem), kx y0 = some Rr → Frm L R y0 Rr.2) : ∀ (n : Nat) (m : Mem) (x5 : Int32), RM_byNight_L93 x1 x2 x3 x4 kx n m x5 = some Rr → Frm L R m Rr.2 := by
  intro n
  induction n with
  | zero =>
    intro m x5 h
    exact absurd (show none = some Rr from h) (fun e => Option.some_ne_none Rr e.symm)
  | succ n ih =>
    intro m x5 h
    rw [RM_byNight_L93] at h
    by_cases hb1 : x3 ≤ x5
    · have h := ifp h hb1
      exact hx m h
    · have h := ifn h hb1
      by_cases hb2 : x5 = (x3 / 2)
      · have h := ifp h hb2
        exact ih m (x5 + 1) h
      · have h := ifn h hb2
        obtain ⟨m1, hq3, h⟩ := bM_ex h
        have a4 : Frm L R m m1 := RM_looks_fr (subm hL rfl) m x1 _ hq3
        obtain ⟨v3, m4, hq5, h⟩ := bV_ex h
        have a6 : Frm L R m m4 := a4.tr (RM_tries_fr (subm hL rfl) m1 x1 x4 x5 x2 _ hq5)
        by_cases hb7 : v3 = 0
        · have h := ifp h hb7
          exact a6.tr (ih m4 (x5 + 1) h)
        · have h := ifn h hb7
          obtain ⟨v6, hq8, h⟩ := bI_ex h
          by_cases hb9 : v6 = 0
          · have h := ifp h hb9
            exact a6.tr (ih m4 (x5 + 1) h)
          · have h := ifn h hb9
            obtain ⟨v8, m9, hq10, h⟩ := bV_ex h
            have a11 : Frm L R m m9 := a6.tr (RM_areSo_fr (subm hL rfl) m4 _ hq10)
            by_cases hb12 : v8 = 0
            · have h := ifp h hb12
              exact a11.tr (ih m9 (x5 + 1) h)
            · have h := ifn h hb12
              obtain ⟨m11, hq13, h⟩ := bM_ex h
              have a14 : Frm L R m m11 := a11.tr (RM_found_fr (subm hL rfl) m9 x4 (-1) _ hq13)
              exact a14.tr (ih m11 (x5 + 1) h)
theorem RM_byNight_L76_fr {L R : List (Nat × Nat)} (hL : Sub W_RM_byNight L) (x1 : Int32) (x2 : Int32) (x3 : Int32) (kx : Mem → Option (Int32 × Mem)) (Rr : Int32 × Mem) (hx : ∀ (y0 : Mem), kx y0 = some Rr → Frm L R y0 Rr.2) : ∀ (n : Nat) (m : Mem) (x4 : Int32), RM_byNight_L76 x1 x2 x3 kx n m x4 = some Rr → Frm L R m Rr.2 := by
  intro n
  induction n with
  | zero =>
    intro m x4 h
    exact absurd (show none = some Rr from h) (fun e => Option.some_ne_none Rr e.symm)
  | succ n ih =>
    intro m x4 h
    rw [RM_byNight_L76] at h
    obtain ⟨hk1, h⟩ := ift h
    by_cases hb2 : (gI m 135 (ixn (11 + x1))) ≤ x4
    · have h := ifp h hb2
      exact hx m h
    · have h := ifn h hb2
      refine RM_byNight_L93_fr hL x1 x2 x3 x4 _ Rr ?_ FU m 0 h
      intro m2 h
      exact ih m2 (x4 + 1) h
theorem RM_byNight_L256_fr {L R : List (Nat × Nat)} (hL : Sub W_RM_byNight L) (x1 : Int32) (x2 : Int32) (x3 : Int32) (x4 : Int32) (x5 : Int32) (x6 : Int32) (kx : Mem → Option (Int32 × Mem)) (Rr : Int32 × Mem) (hx : ∀ (y0 : Mem), kx y0 = some Rr → Frm L R y0 Rr.2) : ∀ (n : Nat) (m : Mem) (x7 : Int32), RM_byNight_L256 x1 x2 x3 x4 x5 x6 kx n m x7 = some Rr → Frm L R m Rr.2 := by
  intro n
  induction n with
  | zero =>
    intro m x7 h
    exact absurd (show none = some Rr from h) (fun e => Option.some_ne_none Rr e.symm)
  | succ n ih =>
    intro m x7 h
    rw [RM_byNight_L256] at h
    by_cases hb1 : x3 ≤ x7
    · have h := ifp h hb1
      exact hx m h
    · have h := ifn h hb1
      by_cases hb2 : x7 = (x3 / 2)
      · have h := ifp h hb2
        exact ih m (x7 + 1) h
      · have h := ifn h hb2
        obtain ⟨v1, m2, hq3, h⟩ := bV_ex h
        have a4 : Frm L R m m2 := RM_tries_fr (subm hL rfl) m x1 x5 x7 x2 _ hq3
        by_cases hb5 : v1 = 0
        · have h := ifp h hb5
          exact a4.tr (ih m2 (x7 + 1) h)
        · have h := ifn h hb5
          obtain ⟨v4, hq6, h⟩ := bI_ex h
          by_cases hb7 : v4 = 0
          · have h := ifp h hb7
            exact a4.tr (ih m2 (x7 + 1) h)
          · have h := ifn h hb7
            obtain ⟨v6, m7, hq8, h⟩ := bV_ex h
            have a9 : Frm L R m m7 := a4.tr (RM_areSo_fr (subm hL rfl) m2 _ hq8)
            by_cases hb10 : v6 = 0
            · have h := ifp h hb10
              exact a9.tr (ih m7 (x7 + 1) h)
            · have h := ifn h hb10
              obtain ⟨m9, hq11, h⟩ := bM_ex h
              have a12 : Frm L R m m9 := a9.tr (RM_found_fr (subm hL rfl) m7 x4 x5 _ hq11)
              exact a12.tr (ih m9 (x7 + 1) h)
theorem RM_byNight_L218_fr {L R : List (Nat × Nat)} (hL : Sub W_RM_byNight L) (x1 : Int32) (x2 : Int32) (x3 : Int32) (x4 : Int32) (x5 : Int32) (kx : Mem → Option (Int32 × Mem)) (Rr : Int32 × Mem) (hx : ∀ (y0 : Mem), kx y0 = some Rr → Frm L R y0 Rr.2) : ∀ (n : Nat) (m : Mem) (x6 : Int32), RM_byNight_L218 x1 x2 x3 x4 x5 kx n m x6 = some Rr → Frm L R m Rr.2 := by
  intro n
  induction n with
  | zero =>
    intro m x6 h
    exact absurd (show none = some Rr from h) (fun e => Option.some_ne_none Rr e.symm)
  | succ n ih =>
    intro m x6 h
    rw [RM_byNight_L218] at h
    by_cases hb1 : x3 ≤ x6
    · have h := ifp h hb1
      exact hx m h
    · have h := ifn h hb1
      obtain ⟨m1, hq2, h⟩ := bM_ex h
      have a3 : Frm L R m m1 := RM_looks_fr (subm hL rfl) m x1 _ hq2
      by_cases hb4 : x6 = (x3 / 2)
      · have h := ifp h hb4
        exact a3.tr (ih m1 (x6 + 1) h)
      · have h := ifn h hb4
        obtain ⟨v3, m4, hq5, h⟩ := bV_ex h
        have a6 : Frm L R m m4 := a3.tr (RM_tries_fr (subm hL rfl) m1 x1 x4 x6 x2 _ hq5)
        by_cases hb7 : v3 = 0
        · have h := ifp h hb7
          exact a6.tr (ih m4 (x6 + 1) h)
        · have h := ifn h hb7
          refine a6.tr (RM_byNight_L256_fr hL x1 x2 x3 x4 x5 x6 _ Rr ?_ FU m4 0 h)
          intro m6 h
          exact ih m6 (x6 + 1) h
theorem RM_byNight_L201_fr {L R : List (Nat × Nat)} (hL : Sub W_RM_byNight L) (x1 : Int32) (x2 : Int32) (x3 : Int32) (x4 : Int32) (kx : Mem → Option (Int32 × Mem)) (Rr : Int32 × Mem) (hx : ∀ (y0 : Mem), kx y0 = some Rr → Frm L R y0 Rr.2) : ∀ (n : Nat) (m : Mem) (x5 : Int32), RM_byNight_L201 x1 x2 x3 x4 kx n m x5 = some Rr → Frm L R m Rr.2 := by
  intro n
  induction n with
  | zero =>
    intro m x5 h
    exact absurd (show none = some Rr from h) (fun e => Option.some_ne_none Rr e.symm)
  | succ n ih =>
    intro m x5 h
    rw [RM_byNight_L201] at h
    obtain ⟨hk1, h⟩ := ift h
    by_cases hb2 : (gI m 135 (ixn (11 + x1))) ≤ x5
    · have h := ifp h hb2
      exact hx m h
    · have h := ifn h hb2
      refine RM_byNight_L218_fr hL x1 x2 x3 x4 x5 _ Rr ?_ FU m 0 h
      intro m2 h
      exact ih m2 (x5 + 1) h
theorem RM_byNight_L181_fr {L R : List (Nat × Nat)} (hL : Sub W_RM_byNight L) (x1 : Int32) (x2 : Int32) (x3 : Int32) (kx : Mem → Option (Int32 × Mem)) (Rr : Int32 × Mem) (hx : ∀ (y0 : Mem), kx y0 = some Rr → Frm L R y0 Rr.2) : ∀ (n : Nat) (m : Mem) (x4 : Int32), RM_byNight_L181 x1 x2 x3 kx n m x4 = some Rr → Frm L R m Rr.2 := by
  intro n
  induction n with
  | zero =>
    intro m x4 h
    exact absurd (show none = some Rr from h) (fun e => Option.some_ne_none Rr e.symm)
  | succ n ih =>
    intro m x4 h
    rw [RM_byNight_L181] at h
    obtain ⟨hk1, h⟩ := ift h
    by_cases hb2 : (gI m 135 (ixn (11 + x1))) ≤ x4
    · have h := ifp h hb2
      exact hx m h
    · have h := ifn h hb2
      obtain ⟨v2, hv2, h⟩ := letV_ex h
      refine RM_byNight_L201_fr hL x1 x2 x3 x4 _ Rr ?_ FU m v2 h
      intro m3 h
      exact ih m3 (x4 + 1) h
theorem RM_byNight_fr {L R : List (Nat × Nat)} (hL : Sub W_RM_byNight L) (m : Mem) (x1 : Int32) (x2 : Int32) (Rr : Int32 × Mem) (h : RM_byNight m x1 x2 = some Rr) : Frm L R m Rr.2 := by
  unfold RM_byNight at h
  obtain ⟨m1, hm1, h⟩ := letM_ex h
  have a1 : Frm L R m m1 := Frm.sI hm1 (hL _ _ rfl)
  obtain ⟨v2, m3, hq2, h⟩ := bV_ex h
  have a3 : Frm L R m m3 := a1.tr (RM_isTold_fr (subm hL rfl) m1 _ hq2)
  by_cases hb4 : v2 = 0
  · have h := ifp h hb4
    injection h with h
    subst h
    exact a3
  · have h := ifn h hb4
    obtain ⟨v5, hq5, h⟩ := bI_ex h
    by_cases hb6 : v5 = 0
    · have h := ifp h hb6
      injection h with h
      subst h
      exact a3
    · have h := ifn h hb6
      by_cases hb7 : (RM_isIn x2 1 3) = 0
      · have h := ifp h hb7
        injection h with h
        subst h
        exact a3
      · have h := ifn h hb7
        obtain ⟨m7, hq8, h⟩ := bM_ex h
        have a9 : Frm L R m m7 := a3.tr (RM_looks_fr (subm hL rfl) m3 x1 _ hq8)
        obtain ⟨v9, m10, hq10, h⟩ := bV_ex h
        have a11 : Frm L R m m10 := a9.tr (RM_areSo_fr (subm hL rfl) m7 _ hq10)
        by_cases hb12 : v9 = 0
        · have h := ifp h hb12
          obtain ⟨v12, hv12, h⟩ := letV_ex h
          obtain ⟨m13, hm13, h⟩ := letM_ex h
          have a13 : Frm L R m m13 := a11.tr (Frm.sI hm13 (hL _ _ rfl))
          refine a13.tr (RM_byNight_L76_fr hL x1 x2 v12 _ Rr ?_ FU m13 0 h)
          intro m14 h
          by_cases hb15 : (gI m14 133 47) ≤ 0
          · have h := ifp h hb15
            refine RM_byNight_L181_fr hL x1 x2 v12 _ Rr ?_ FU m14 0 h
            intro m15 h
            by_cases hb17 : (gI m15 133 47) = 0
            · have h := ifp h hb17
              injection h with h
              subst h
              exact Frm.rf
            · have h := ifn h hb17
              obtain ⟨m16, hm16, h⟩ := letM_ex h
              have a18 : Frm L R m15 m16 := Frm.sI hm16 (hL _ _ rfl)
              injection h with h
              subst h
              exact a18
          · have h := ifn h hb15
            obtain ⟨m17, hm17, h⟩ := letM_ex h
            have a19 : Frm L R m14 m17 := Frm.sI hm17 (hL _ _ rfl)
            injection h with h
            subst h
            exact a19
        · have h := ifn h hb12
          obtain ⟨m18, hm18, h⟩ := letM_ex h
          have a20 : Frm L R m m18 := a11.tr (Frm.sI hm18 (hL _ _ rfl))
          obtain ⟨m19, hm19, h⟩ := letM_ex h
          have a21 : Frm L R m m19 := a20.tr (Frm.sI hm19 (hL _ _ rfl))
          injection h with h
          subst h
          exact a21
def W_RM_ways : List (Nat × Nat) := [(133, 0)]
theorem RM_ways_fr {L R : List (Nat × Nat)} (hL : Sub W_RM_ways L) (m : Mem) (Rr : Int32 × Mem) (h : RM_ways m = some Rr) : Frm L R m Rr.2 := by
  unfold RM_ways at h
  obtain ⟨m1, hm1, h⟩ := letM_ex h
  have a1 : Frm L R m m1 := Frm.sI hm1 (hL _ _ rfl)
  injection h with h
  subst h
  exact a1
def W_RM_way : List (Nat × Nat) := [(133, 0)]
theorem RM_way_fr {L R : List (Nat × Nat)} (hL : Sub W_RM_way L) (m : Mem) (x1 : Int32) (x2 : Int32) (Rr : Int32 × Mem) (h : RM_way m x1 x2 = some Rr) : Frm L R m Rr.2 := by
  unfold RM_way at h
  obtain ⟨m1, hm1, h⟩ := letM_ex h
  have a1 : Frm L R m m1 := Frm.sI hm1 (hL _ _ rfl)
  by_cases hb2 : (gI m1 133 45) ≤ 0
  · have h := ifp h hb2
    injection h with h
    subst h
    exact a1
  · have h := ifn h hb2
    by_cases hb3 : (RM_isIn x1 0 ((gI m1 133 46) - 1)) = 0
    · have h := ifp h hb3
      injection h with h
      subst h
      exact a1
    · have h := ifn h hb3
      by_cases hb4 : (RM_isIn x2 0 2) = 0
      · have h := ifp h hb4
        injection h with h
        subst h
        exact a1
      · have h := ifn h hb4
        obtain ⟨hk5, h⟩ := ift h
        injection h with h
        subst h
        exact a1
def W_RM_isBy : List (Nat × Nat) := [(133, 23), (133, 24), (139, 999999), (140, 999999)]
theorem RM_isBy_J33_fr {L R : List (Nat × Nat)} (hL : Sub W_RM_isBy L) (kr : Mem → Int32 → Option (Int32 × Mem)) (kx : Mem → Option (Int32 × Mem)) (m : Mem) (x1 : Int32) (x2 : Int32) (x3 : Int32) (x4 : Int32) (x5 : Int32) (s1 : Int32) (s2 : Int32) (s3 : Int32) (Rr : Int32 × Mem) (hr : ∀ (y0 : Mem) (y1 : Int32), kr y0 y1 = some Rr → Frm L R y0 Rr.2) (hx : ∀ (y0 : Mem), kx y0 = some Rr → Frm L R y0 Rr.2) (h : RM_isBy_J33 kr kx m x1 x2 x3 x4 x5 s1 s2 s3 = some Rr) : Frm L R m Rr.2 := by
  unfold RM_isBy_J33 at h
  obtain ⟨hk1, h⟩ := ift h
  obtain ⟨m2, hm2, h⟩ := letM_ex h
  have a2 : Frm L R m m2 := Frm.sI hm2 (hL _ _ rfl)
  by_cases hb3 : 2 ≤ x5
  · have h := ifp h hb3
    obtain ⟨hk4, h⟩ := ift h
    obtain ⟨m4, hm4, h⟩ := letM_ex h
    have a5 : Frm L R m m4 := a2.tr (Frm.sI hm4 (hL _ _ rfl))
    exact a5.tr (hr m4 (x5 + 1) h)
  · have h := ifn h hb3
    obtain ⟨hk6, h⟩ := ift h
    obtain ⟨m6, hm6, h⟩ := letM_ex h
    have a7 : Frm L R m m6 := a2.tr (Frm.sI hm6 (hL _ _ rfl))
    exact a7.tr (hr m6 (x5 + 1) h)
theorem RM_isBy_L3_fr {L R : List (Nat × Nat)} (hL : Sub W_RM_isBy L) (x1 : Int32) (x2 : Int32) (x3 : Int32) (x4 : Int32) (kx : Mem → Option (Int32 × Mem)) (Rr : Int32 × Mem) (hx : ∀ (y0 : Mem), kx y0 = some Rr → Frm L R y0 Rr.2) : ∀ (n : Nat) (m : Mem) (x5 : Int32), RM_isBy_L3 x1 x2 x3 x4 kx n m x5 = some Rr → Frm L R m Rr.2 := by
  intro n
  induction n with
  | zero =>
    intro m x5 h
    exact absurd (show none = some Rr from h) (fun e => Option.some_ne_none Rr e.symm)
  | succ n ih =>
    intro m x5 h
    rw [RM_isBy_L3] at h
    by_cases hb1 : 4 ≤ x5
    · have h := ifp h hb1
      exact hx m h
    · have h := ifn h hb1
      by_cases hb2 : x5 = 1
      · have h := ifp h hb2
        exact RM_isBy_J33_fr hL _ _ m x1 x2 x3 x4 x5 x5 2 x3 _ ih hx h
      · have h := ifn h hb2
        by_cases hb3 : x5 = 2
        · have h := ifp h hb3
          exact RM_isBy_J33_fr hL _ _ m x1 x2 x3 x4 x5 x5 2 x3 _ ih hx h
        · have h := ifn h hb3
          exact RM_isBy_J33_fr hL _ _ m x1 x2 x3 x4 x5 x5 2 x1 _ ih hx h
theorem RM_isBy_fr {L R : List (Nat × Nat)} (hL : Sub W_RM_isBy L) (m : Mem) (x1 : Int32) (x2 : Int32) (x3 : Int32) (x4 : Int32) (Rr : Int32 × Mem) (h : RM_isBy m x1 x2 x3 x4 = some Rr) : Frm L R m Rr.2 := by
  unfold RM_isBy at h
  refine RM_isBy_L3_fr hL x1 x2 x3 x4 _ Rr ?_ FU m 0 h
  intro m1 h
  obtain ⟨m2, hq2, h⟩ := bM_ex h
  have a3 : Frm L R m1 m2 := RM_closes_fr (subm hL rfl) m1 _ hq2
  obtain ⟨v4, m5, hq4, h⟩ := bV_ex h
  have a5 : Frm L R m1 m5 := a3.tr (RM_areSo_fr (subm hL rfl) m2 _ hq4)
  obtain ⟨hk6, h⟩ := ift h
  injection h with h
  subst h
  exact a5
def W_RM_rectangle : List (Nat × Nat) := [(133, 0), (133, 2), (133, 3), (133, 4), (133, 5), (133, 22), (133, 23), (133, 24), (133, 43), (133, 49), (139, 999999), (140, 999999), (152, 999999), (154, 999999)]
theorem RM_rectangle_J83_fr {L R : List (Nat × Nat)} (hL : Sub W_RM_rectangle L) (kr : Mem → Int32 → Int32 → Option (Int32 × Mem)) (kx : Mem → Int32 → Option (Int32 × Mem)) (m : Mem) (x1 : Int32) (x2 : Int32) (x3 : Int32) (x4 : Int32) (x5 : Int32) (x6 : Int32) (Rr : Int32 × Mem) (hr : ∀ (y0 : Mem) (y1 : Int32) (y2 : Int32), kr y0 y1 y2 = some Rr → Frm L R y0 Rr.2) (hx : ∀ (y0 : Mem) (y1 : Int32), kx y0 y1 = some Rr → Frm L R y0 Rr.2) (h : RM_rectangle_J83 kr kx m x1 x2 x3 x4 x5 x6 = some Rr) : Frm L R m Rr.2 := by
  unfold RM_rectangle_J83 at h
  obtain ⟨v1, m2, hq1, h⟩ := bV_ex h
  have a2 : Frm L R m m2 := RM_isBy_fr (subm hL rfl) m x2 x3 x4 x5 _ hq1
  by_cases hb3 : v1 = 0
  · have h := ifp h hb3
    exact a2.tr (hr m2 x1 (x5 + 1) h)
  · have h := ifn h hb3
    obtain ⟨hk4, h⟩ := ift h
    obtain ⟨m5, hm5, h⟩ := letM_ex h
    have a5 : Frm L R m m5 := a2.tr (Frm.sI hm5 (hL _ _ rfl))
    obtain ⟨hk6, h⟩ := ift h
    obtain ⟨m7, hm7, h⟩ := letM_ex h
    have a7 : Frm L R m m7 := a5.tr (Frm.sI hm7 (hL _ _ rfl))
    obtain ⟨hk8, h⟩ := ift h
    obtain ⟨m9, hm9, h⟩ := letM_ex h
    have a9 : Frm L R m m9 := a7.tr (Frm.sI hm9 (hL _ _ rfl))
    obtain ⟨hk10, h⟩ := ift h
    obtain ⟨m11, hm11, h⟩ := letM_ex h
    have a11 : Frm L R m m11 := a9.tr (Frm.sI hm11 (hL _ _ rfl))
    obtain ⟨m12, hm12, h⟩ := letM_ex h
    have a12 : Frm L R m m12 := a11.tr (Frm.sI hm12 (hL _ _ rfl))
    exact a12.tr (hr m12 x6 (x5 + 1) h)
theorem RM_rectangle_L55_fr {L R : List (Nat × Nat)} (hL : Sub W_RM_rectangle L) (x2 : Int32) (x3 : Int32) (x4 : Int32) (kx : Mem → Int32 → Option (Int32 × Mem)) (Rr : Int32 × Mem) (hx : ∀ (y0 : Mem) (y1 : Int32), kx y0 y1 = some Rr → Frm L R y0 Rr.2) : ∀ (n : Nat) (m : Mem) (x1 : Int32) (x5 : Int32), RM_rectangle_L55 x2 x3 x4 kx n m x1 x5 = some Rr → Frm L R m Rr.2 := by
  intro n
  induction n with
  | zero =>
    intro m x1 x5 h
    exact absurd (show none = some Rr from h) (fun e => Option.some_ne_none Rr e.symm)
  | succ n ih =>
    intro m x1 x5 h
    rw [RM_rectangle_L55] at h
    by_cases hb1 : 20 < x5
    · have h := ifp h hb1
      exact hx m x1 h
    · have h := ifn h hb1
      obtain ⟨v1, hv1, h⟩ := letV_ex h
      by_cases hb2 : x1 < 0
      · have h := ifp h hb2
        exact RM_rectangle_J83_fr hL _ _ m x1 x2 x3 x4 x5 v1 _ ih hx h
      · have h := ifn h hb2
        by_cases hb3 : x1 ≤ v1
        · have h := ifp h hb3
          exact ih m x1 (x5 + 1) h
        · have h := ifn h hb3
          exact RM_rectangle_J83_fr hL _ _ m x1 x2 x3 x4 x5 v1 _ ih hx h
theorem RM_rectangle_L43_fr {L R : List (Nat × Nat)} (hL : Sub W_RM_rectangle L) (x2 : Int32) (x3 : Int32) (kx : Mem → Int32 → Option (Int32 × Mem)) (Rr : Int32 × Mem) (hx : ∀ (y0 : Mem) (y1 : Int32), kx y0 y1 = some Rr → Frm L R y0 Rr.2) : ∀ (n : Nat) (m : Mem) (x1 : Int32) (x4 : Int32), RM_rectangle_L43 x2 x3 kx n m x1 x4 = some Rr → Frm L R m Rr.2 := by
  intro n
  induction n with
  | zero =>
    intro m x1 x4 h
    exact absurd (show none = some Rr from h) (fun e => Option.some_ne_none Rr e.symm)
  | succ n ih =>
    intro m x1 x4 h
    rw [RM_rectangle_L43] at h
    by_cases hb1 : 20 < x4
    · have h := ifp h hb1
      exact hx m x1 h
    · have h := ifn h hb1
      obtain ⟨v1, hv1, h⟩ := letV_ex h
      refine RM_rectangle_L55_fr hL x2 x3 x4 _ Rr ?_ FU m x1 v1 h
      intro m3 y2 h
      exact ih m3 y2 (x4 + 1) h
theorem RM_rectangle_L32_fr {L R : List (Nat × Nat)} (hL : Sub W_RM_rectangle L) (x2 : Int32) (kx : Mem → Int32 → Option (Int32 × Mem)) (Rr : Int32 × Mem) (hx : ∀ (y0 : Mem) (y1 : Int32), kx y0 y1 = some Rr → Frm L R y0 Rr.2) : ∀ (n : Nat) (m : Mem) (x1 : Int32) (x3 : Int32), RM_rectangle_L32 x2 kx n m x1 x3 = some Rr → Frm L R m Rr.2 := by
  intro n
  induction n with
  | zero =>
    intro m x1 x3 h
    exact absurd (show none = some Rr from h) (fun e => Option.some_ne_none Rr e.symm)
  | succ n ih =>
    intro m x1 x3 h
    rw [RM_rectangle_L32] at h
    by_cases hb1 : 20 ≤ x3
    · have h := ifp h hb1
      exact hx m x1 h
    · have h := ifn h hb1
      obtain ⟨v1, hv1, h⟩ := letV_ex h
      refine RM_rectangle_L43_fr hL x2 x3 _ Rr ?_ FU m x1 v1 h
      intro m3 y2 h
      exact ih m3 y2 (x3 + 1) h
theorem RM_rectangle_L24_fr {L R : List (Nat × Nat)} (hL : Sub W_RM_rectangle L) (kx : Mem → Int32 → Option (Int32 × Mem)) (Rr : Int32 × Mem) (hx : ∀ (y0 : Mem) (y1 : Int32), kx y0 y1 = some Rr → Frm L R y0 Rr.2) : ∀ (n : Nat) (m : Mem) (x1 : Int32) (x2 : Int32), RM_rectangle_L24 kx n m x1 x2 = some Rr → Frm L R m Rr.2 := by
  intro n
  induction n with
  | zero =>
    intro m x1 x2 h
    exact absurd (show none = some Rr from h) (fun e => Option.some_ne_none Rr e.symm)
  | succ n ih =>
    intro m x1 x2 h
    rw [RM_rectangle_L24] at h
    by_cases hb1 : 20 ≤ x2
    · have h := ifp h hb1
      exact hx m x1 h
    · have h := ifn h hb1
      refine RM_rectangle_L32_fr hL x2 _ Rr ?_ FU m x1 0 h
      intro m2 y1 h
      exact ih m2 y1 (x2 + 1) h
theorem RM_rectangle_fr {L R : List (Nat × Nat)} (hL : Sub W_RM_rectangle L) (m : Mem) (Rr : Int32 × Mem) (h : RM_rectangle m = some Rr) : Frm L R m Rr.2 := by
  unfold RM_rectangle at h
  obtain ⟨m1, hm1, h⟩ := letM_ex h
  have a1 : Frm L R m m1 := Frm.sI hm1 (hL _ _ rfl)
  obtain ⟨v2, m3, hq2, h⟩ := bV_ex h
  have a3 : Frm L R m m3 := a1.tr (RM_isTold_fr (subm hL rfl) m1 _ hq2)
  by_cases hb4 : v2 = 0
  · have h := ifp h hb4
    injection h with h
    subst h
    exact a3
  · have h := ifn h hb4
    obtain ⟨m5, hm5, h⟩ := letM_ex h
    have a5 : Frm L R m m5 := a3.tr (Frm.sI hm5 (hL _ _ rfl))
    refine a5.tr (RM_rectangle_L24_fr hL _ Rr ?_ FU m5 (-1) 0 h)
    intro m7 y6 h
    injection h with h
    subst h
    exact Frm.rf
def W_RM_side : List (Nat × Nat) := [(133, 0)]
theorem RM_side_fr {L R : List (Nat × Nat)} (hL : Sub W_RM_side L) (m : Mem) (x1 : Int32) (Rr : Int32 × Mem) (h : RM_side m x1 = some Rr) : Frm L R m Rr.2 := by
  unfold RM_side at h
  obtain ⟨m1, hm1, h⟩ := letM_ex h
  have a1 : Frm L R m m1 := Frm.sI hm1 (hL _ _ rfl)
  by_cases hb2 : (gI m1 133 49) = 0
  · have h := ifp h hb2
    injection h with h
    subst h
    exact a1
  · have h := ifn h hb2
    by_cases hb3 : (RM_isIn x1 0 3) = 0
    · have h := ifp h hb3
      injection h with h
      subst h
      exact a1
    · have h := ifn h hb3
      obtain ⟨hk4, h⟩ := ift h
      injection h with h
      subst h
      exact a1
def W_RM_mends : List (Nat × Nat) := [(156, 999999)]
theorem RM_mends_J73_fr {L R : List (Nat × Nat)} (hL : Sub W_RM_mends L) (kr : Mem → Int32 → Option (Int32 × Mem)) (kx : Mem → Option (Int32 × Mem)) (m : Mem) (x1 : Int32) (x2 : Int32) (x3 : Int32) (x4 : Int32) (x5 : Int32) (x6 : Int32) (x7 : Int32) (s0 : Int32) (Rr : Int32 × Mem) (hr : ∀ (y0 : Mem) (y1 : Int32), kr y0 y1 = some Rr → Frm L R y0 Rr.2) (hx : ∀ (y0 : Mem), kx y0 = some Rr → Frm L R y0 Rr.2) (h : RM_mends_J73 kr kx m x1 x2 x3 x4 x5 x6 x7 s0 = some Rr) : Frm L R m Rr.2 := by
  unfold RM_mends_J73 at h
  by_cases hb1 : x7 = 0
  · have h := ifp h hb1
    by_cases hb2 : s0 = 0
    · have h := ifp h hb2
      obtain ⟨hk3, h⟩ := ift h
      obtain ⟨m2, hm2, h⟩ := letM_ex h
      have a4 : Frm L R m m2 := Frm.sI hm2 (hL _ _ rfl)
      exact a4.tr (hr m2 (x6 + 1) h)
    · have h := ifn h hb2
      obtain ⟨hk5, h⟩ := ift h
      obtain ⟨m4, hm4, h⟩ := letM_ex h
      have a6 : Frm L R m m4 := Frm.sI hm4 (hL _ _ rfl)
      exact a6.tr (hr m4 (x6 + 1) h)
  · have h := ifn h hb1
    obtain ⟨hk7, h⟩ := ift h
    obtain ⟨m6, hm6, h⟩ := letM_ex h
    have a8 : Frm L R m m6 := Frm.sI hm6 (hL _ _ rfl)
    exact a8.tr (hr m6 (x6 + 1) h)
theorem RM_mends_J65_fr {L R : List (Nat × Nat)} (hL : Sub W_RM_mends L) (kr : Mem → Int32 → Option (Int32 × Mem)) (kx : Mem → Option (Int32 × Mem)) (m : Mem) (x1 : Int32) (x2 : Int32) (x3 : Int32) (x4 : Int32) (x5 : Int32) (x6 : Int32) (x7 : Int32) (s0 : Int32) (s1 : Int32) (Rr : Int32 × Mem) (hr : ∀ (y0 : Mem) (y1 : Int32), kr y0 y1 = some Rr → Frm L R y0 Rr.2) (hx : ∀ (y0 : Mem), kx y0 = some Rr → Frm L R y0 Rr.2) (h : RM_mends_J65 kr kx m x1 x2 x3 x4 x5 x6 x7 s0 s1 = some Rr) : Frm L R m Rr.2 := by
  unfold RM_mends_J65 at h
  by_cases hb1 : s0 = s1
  · have h := ifp h hb1
    exact RM_mends_J73_fr hL _ _ m x1 x2 x3 x4 x5 x6 x7 1 _ hr hx h
  · have h := ifn h hb1
    exact RM_mends_J73_fr hL _ _ m x1 x2 x3 x4 x5 x6 x7 0 _ hr hx h
theorem RM_mends_J46_fr {L R : List (Nat × Nat)} (hL : Sub W_RM_mends L) (kr : Mem → Int32 → Option (Int32 × Mem)) (kx : Mem → Option (Int32 × Mem)) (m : Mem) (x1 : Int32) (x2 : Int32) (x3 : Int32) (x4 : Int32) (x5 : Int32) (x6 : Int32) (s0 : Int32) (Rr : Int32 × Mem) (hr : ∀ (y0 : Mem) (y1 : Int32), kr y0 y1 = some Rr → Frm L R y0 Rr.2) (hx : ∀ (y0 : Mem), kx y0 = some Rr → Frm L R y0 Rr.2) (h : RM_mends_J46 kr kx m x1 x2 x3 x4 x5 x6 s0 = some Rr) : Frm L R m Rr.2 := by
  unfold RM_mends_J46 at h
  obtain ⟨hk1, h⟩ := ift h
  by_cases hb2 : x2 ≤ 0
  · have h := ifp h hb2
    exact RM_mends_J65_fr hL _ _ m x1 x2 x3 x4 x5 x6 s0 (gI m 157 (ixn x6)) x3 _ hr hx h
  · have h := ifn h hb2
    exact RM_mends_J65_fr hL _ _ m x1 x2 x3 x4 x5 x6 s0 (gI m 157 (ixn x6)) x4 _ hr hx h
theorem RM_mends_J38_fr {L R : List (Nat × Nat)} (hL : Sub W_RM_mends L) (kr : Mem → Int32 → Option (Int32 × Mem)) (kx : Mem → Option (Int32 × Mem)) (m : Mem) (x1 : Int32) (x2 : Int32) (x3 : Int32) (x4 : Int32) (x5 : Int32) (x6 : Int32) (s0 : Int32) (s1 : Int32) (Rr : Int32 × Mem) (hr : ∀ (y0 : Mem) (y1 : Int32), kr y0 y1 = some Rr → Frm L R y0 Rr.2) (hx : ∀ (y0 : Mem), kx y0 = some Rr → Frm L R y0 Rr.2) (h : RM_mends_J38 kr kx m x1 x2 x3 x4 x5 x6 s0 s1 = some Rr) : Frm L R m Rr.2 := by
  unfold RM_mends_J38 at h
  by_cases hb1 : s0 = s1
  · have h := ifp h hb1
    exact RM_mends_J46_fr hL _ _ m x1 x2 x3 x4 x5 x6 1 _ hr hx h
  · have h := ifn h hb1
    exact RM_mends_J46_fr hL _ _ m x1 x2 x3 x4 x5 x6 0 _ hr hx h
theorem RM_mends_L15_fr {L R : List (Nat × Nat)} (hL : Sub W_RM_mends L) (x1 : Int32) (x2 : Int32) (x3 : Int32) (x4 : Int32) (x5 : Int32) (kx : Mem → Option (Int32 × Mem)) (Rr : Int32 × Mem) (hx : ∀ (y0 : Mem), kx y0 = some Rr → Frm L R y0 Rr.2) : ∀ (n : Nat) (m : Mem) (x6 : Int32), RM_mends_L15 x1 x2 x3 x4 x5 kx n m x6 = some Rr → Frm L R m Rr.2 := by
  intro n
  induction n with
  | zero =>
    intro m x6 h
    exact absurd (show none = some Rr from h) (fun e => Option.some_ne_none Rr e.symm)
  | succ n ih =>
    intro m x6 h
    rw [RM_mends_L15] at h
    by_cases hb1 : x1 ≤ x6
    · have h := ifp h hb1
      exact hx m h
    · have h := ifn h hb1
      obtain ⟨hk2, h⟩ := ift h
      by_cases hb3 : x2 ≤ 0
      · have h := ifp h hb3
        exact RM_mends_J38_fr hL _ _ m x1 x2 x3 x4 x5 x6 (gI m 157 (ixn x6)) x4 _ ih hx h
      · have h := ifn h hb3
        exact RM_mends_J38_fr hL _ _ m x1 x2 x3 x4 x5 x6 (gI m 157 (ixn x6)) x3 _ ih hx h
theorem RM_mends_L138_fr {L R : List (Nat × Nat)} (hL : Sub W_RM_mends L) (x1 : Int32) (x5 : Int32) (x6 : Int32) (kx : Mem → Int32 → Option (Int32 × Mem)) (Rr : Int32 × Mem) (hx : ∀ (y0 : Mem) (y1 : Int32), kx y0 y1 = some Rr → Frm L R y0 Rr.2) : ∀ (n : Nat) (m : Mem) (x7 : Int32) (x8 : Int32), RM_mends_L138 x1 x5 x6 kx n m x7 x8 = some Rr → Frm L R m Rr.2 := by
  intro n
  induction n with
  | zero =>
    intro m x7 x8 h
    exact absurd (show none = some Rr from h) (fun e => Option.some_ne_none Rr e.symm)
  | succ n ih =>
    intro m x7 x8 h
    rw [RM_mends_L138] at h
    by_cases hb1 : x1 ≤ x8
    · have h := ifp h hb1
      exact hx m x7 h
    · have h := ifn h hb1
      obtain ⟨hk2, h⟩ := ift h
      obtain ⟨hk3, h⟩ := ift h
      by_cases hb4 : (gI m 156 (ixn x8)) ≤ (gI m 156 (ixn x7))
      · have h := ifp h hb4
        exact ih m x7 (x8 + 1) h
      · have h := ifn h hb4
        exact ih m x8 (x8 + 1) h
theorem RM_mends_L127_fr {L R : List (Nat × Nat)} (hL : Sub W_RM_mends L) (x1 : Int32) (kx : Mem → Int32 → Option (Int32 × Mem)) (Rr : Int32 × Mem) (hx : ∀ (y0 : Mem) (y1 : Int32), kx y0 y1 = some Rr → Frm L R y0 Rr.2) : ∀ (n : Nat) (m : Mem) (x5 : Int32) (x6 : Int32), RM_mends_L127 x1 kx n m x5 x6 = some Rr → Frm L R m Rr.2 := by
  intro n
  induction n with
  | zero =>
    intro m x5 x6 h
    exact absurd (show none = some Rr from h) (fun e => Option.some_ne_none Rr e.symm)
  | succ n ih =>
    intro m x5 x6 h
    rw [RM_mends_L127] at h
    by_cases hb1 : x5 ≤ 0
    · have h := ifp h hb1
      exact hx m x6 h
    · have h := ifn h hb1
      refine RM_mends_L138_fr hL x1 x5 x6 _ Rr ?_ FU m 0 1 h
      intro m2 y1 h
      obtain ⟨hk3, h⟩ := ift h
      by_cases hb4 : (gI m2 156 (ixn y1)) = 0
      · have h := ifp h hb4
        injection h with h
        subst h
        exact Frm.rf
      · have h := ifn h hb4
        obtain ⟨v4, hv4, h⟩ := letV_ex h
        obtain ⟨m5, hm5, h⟩ := letM_ex h
        have a5 : Frm L R m2 m5 := Frm.sI hm5 (hL _ _ rfl)
        exact a5.tr (ih m5 v4 (x6 + 1) h)
theorem RM_mends_J10_fr {L R : List (Nat × Nat)} (hL : Sub W_RM_mends L) (m : Mem) (x1 : Int32) (x2 : Int32) (x3 : Int32) (x4 : Int32) (s0 : Int32) (Rr : Int32 × Mem) (h : RM_mends_J10 m x1 x2 x3 x4 s0 = some Rr) : Frm L R m Rr.2 := by
  unfold RM_mends_J10 at h
  refine RM_mends_L15_fr hL x1 x2 x3 x4 s0 _ Rr ?_ FU m 0 h
  intro m1 h
  refine RM_mends_L127_fr hL x1 _ Rr ?_ FU m1 s0 0 h
  intro m3 y2 h
  injection h with h
  subst h
  exact Frm.rf
theorem RM_mends_fr {L R : List (Nat × Nat)} (hL : Sub W_RM_mends L) (m : Mem) (x1 : Int32) (x2 : Int32) (x3 : Int32) (x4 : Int32) (Rr : Int32 × Mem) (h : RM_mends m x1 x2 x3 x4 = some Rr) : Frm L R m Rr.2 := by
  unfold RM_mends at h
  by_cases hb1 : 0 ≤ x2
  · have h := ifp h hb1
    exact RM_mends_J10_fr hL m x1 x2 x3 x4 x2 _ h
  · have h := ifn h hb1
    exact RM_mends_J10_fr hL m x1 x2 x3 x4 (-x2) _ h
def W_RM_paces : List (Nat × Nat) := [(133, 0), (133, 2), (133, 3), (133, 4), (133, 5), (133, 10), (133, 11), (133, 12), (133, 13), (133, 14), (133, 15), (133, 16), (133, 17), (133, 52), (155, 999999), (156, 999999), (157, 999999), (158, 999999)]
theorem RM_paces_J55_fr {L R : List (Nat × Nat)} (hL : Sub W_RM_paces L) (kr : Mem → Int32 → Option (Int32 × Mem)) (kx : Mem → Int32 → Option (Int32 × Mem)) (m : Mem) (s1 : Int32) (Rr : Int32 × Mem) (hr : ∀ (y0 : Mem) (y1 : Int32), kr y0 y1 = some Rr → Frm L R y0 Rr.2) (hx : ∀ (y0 : Mem) (y1 : Int32), kx y0 y1 = some Rr → Frm L R y0 Rr.2) (h : RM_paces_J55 kr kx m s1 = some Rr) : Frm L R m Rr.2 := by
  unfold RM_paces_J55 at h
  obtain ⟨v1, m2, hq1, h⟩ := bV_ex h
  have a2 : Frm L R m m2 := RM_bad_fr (subm hL rfl) m s1 _ hq1
  injection h with h
  subst h
  exact a2
theorem RM_paces_J45_fr {L R : List (Nat × Nat)} (hL : Sub W_RM_paces L) (kr : Mem → Int32 → Option (Int32 × Mem)) (kx : Mem → Int32 → Option (Int32 × Mem)) (m : Mem) (x2 : Int32) (Rr : Int32 × Mem) (hr : ∀ (y0 : Mem) (y1 : Int32), kr y0 y1 = some Rr → Frm L R y0 Rr.2) (hx : ∀ (y0 : Mem) (y1 : Int32), kx y0 y1 = some Rr → Frm L R y0 Rr.2) (h : RM_paces_J45 kr kx m x2 = some Rr) : Frm L R m Rr.2 := by
  unfold RM_paces_J45 at h
  by_cases hb1 : 0 ≤ x2
  · have h := ifp h hb1
    exact RM_paces_J55_fr hL _ _ m 4 _ hr hx h
  · have h := ifn h hb1
    exact RM_paces_J55_fr hL _ _ m 1 _ hr hx h
theorem RM_paces_L23_fr {L R : List (Nat × Nat)} (hL : Sub W_RM_paces L) (kx : Mem → Int32 → Option (Int32 × Mem)) (Rr : Int32 × Mem) (hx : ∀ (y0 : Mem) (y1 : Int32), kx y0 y1 = some Rr → Frm L R y0 Rr.2) : ∀ (n : Nat) (m : Mem) (x1 : Int32), RM_paces_L23 kx n m x1 = some Rr → Frm L R m Rr.2 := by
  intro n
  induction n with
  | zero =>
    intro m x1 h
    exact absurd (show none = some Rr from h) (fun e => Option.some_ne_none Rr e.symm)
  | succ n ih =>
    intro m x1 h
    rw [RM_paces_L23] at h
    by_cases hb1 : (gI m 133 10) = 0
    · have h := ifp h hb1
      exact hx m x1 h
    · have h := ifn h hb1
      obtain ⟨v1, hv1, h⟩ := letV_ex h
      by_cases hb2 : v1 < 0
      · have h := ifp h hb2
        exact RM_paces_J45_fr hL _ _ m v1 _ ih hx h
      · have h := ifn h hb2
        by_cases hb3 : x1 = 30
        · have h := ifp h hb3
          exact RM_paces_J45_fr hL _ _ m v1 _ ih hx h
        · have h := ifn h hb3
          obtain ⟨m2, hq4, h⟩ := bM_ex h
          have a5 : Frm L R m m2 := RM_next_fr (subm hL rfl) m _ hq4
          obtain ⟨v4, m5, hq6, h⟩ := bV_ex h
          have a7 : Frm L R m m5 := a5.tr (RM_takes_fr (subm hL rfl) m2 1 99 _ hq6)
          by_cases hb8 : v4 = 0
          · have h := ifp h hb8
            injection h with h
            subst h
            exact a7
          · have h := ifn h hb8
            obtain ⟨v7, m8, hq9, h⟩ := bV_ex h
            have a10 : Frm L R m m8 := a7.tr (RM_sign_fr (subm hL rfl) m5 59 _ hq9)
            by_cases hb11 : v7 = 0
            · have h := ifp h hb11
              injection h with h
              subst h
              exact a10
            · have h := ifn h hb11
              obtain ⟨hk12, h⟩ := ift h
              obtain ⟨m11, hm11, h⟩ := letM_ex h
              have a13 : Frm L R m m11 := a10.tr (Frm.sI hm11 (hL _ _ rfl))
              obtain ⟨m12, hm12, h⟩ := letM_ex h
              have a14 : Frm L R m m12 := a13.tr (Frm.sI hm12 (hL _ _ rfl))
              exact a14.tr (ih m12 (x1 + 1) h)
theorem RM_paces_J195_fr {L R : List (Nat × Nat)} (hL : Sub W_RM_paces L) (kr : Mem → Int32 → Int32 → Int32 → Option (Int32 × Mem)) (kx : Mem → Int32 → Int32 → Option (Int32 × Mem)) (m : Mem) (x1 : Int32) (x3 : Int32) (x4 : Int32) (s0 : Int32) (s1 : Int32) (Rr : Int32 × Mem) (hr : ∀ (y0 : Mem) (y1 : Int32) (y2 : Int32) (y3 : Int32), kr y0 y1 y2 y3 = some Rr → Frm L R y0 Rr.2) (hx : ∀ (y0 : Mem) (y1 : Int32) (y2 : Int32), kx y0 y1 y2 = some Rr → Frm L R y0 Rr.2) (h : RM_paces_J195 kr kx m x1 x3 x4 s0 s1 = some Rr) : Frm L R m Rr.2 := by
  unfold RM_paces_J195 at h
  obtain ⟨v1, hv1, h⟩ := letV_ex h
  obtain ⟨hk1, h⟩ := ift h
  by_cases hb2 : (gI m 157 (ixn x4)) = 2
  · have h := ifp h hb2
    obtain ⟨v5, hv5, h⟩ := letV_ex h
    exact hr m v1 v5 (x4 + 1) h
  · have h := ifn h hb2
    by_cases hb3 : (gI m 157 (ixn x4)) = 0
    · have h := ifp h hb3
      obtain ⟨v4, hv4, h⟩ := letV_ex h
      exact hr m v1 v4 (x4 + 1) h
    · have h := ifn h hb3
      obtain ⟨v3, hv3, h⟩ := letV_ex h
      exact hr m v1 v3 (x4 + 1) h
theorem RM_paces_L144_fr {L R : List (Nat × Nat)} (hL : Sub W_RM_paces L) (x1 : Int32) (kx : Mem → Int32 → Int32 → Option (Int32 × Mem)) (Rr : Int32 × Mem) (hx : ∀ (y0 : Mem) (y1 : Int32) (y2 : Int32), kx y0 y1 y2 = some Rr → Frm L R y0 Rr.2) : ∀ (n : Nat) (m : Mem) (x2 : Int32) (x3 : Int32) (x4 : Int32), RM_paces_L144 x1 kx n m x2 x3 x4 = some Rr → Frm L R m Rr.2 := by
  intro n
  induction n with
  | zero =>
    intro m x2 x3 x4 h
    exact absurd (show none = some Rr from h) (fun e => Option.some_ne_none Rr e.symm)
  | succ n ih =>
    intro m x2 x3 x4 h
    rw [RM_paces_L144] at h
    by_cases hb1 : x1 ≤ x4
    · have h := ifp h hb1
      exact hx m x2 x3 h
    · have h := ifn h hb1
      obtain ⟨hk2, h⟩ := ift h
      by_cases hb3 : (gI m 157 (ixn x4)) = 1
      · have h := ifp h hb3
        exact RM_paces_J195_fr hL _ _ m x1 x3 x4 x2 (gI m 158 (ixn x4)) _ ih hx h
      · have h := ifn h hb3
        by_cases hb4 : (gI m 157 (ixn x4)) = 3
        · have h := ifp h hb4
          exact RM_paces_J195_fr hL _ _ m x1 x3 x4 x2 (-(gI m 158 (ixn x4))) _ ih hx h
        · have h := ifn h hb4
          exact RM_paces_J195_fr hL _ _ m x1 x3 x4 x2 0 _ ih hx h
theorem RM_paces_J337_fr {L R : List (Nat × Nat)} (hL : Sub W_RM_paces L) (m : Mem) (x1 : Int32) (x3 : Int32) (s1 : Int32) (s2 : Int32) (Rr : Int32 × Mem) (h : RM_paces_J337 m x1 x3 s1 s2 = some Rr) : Frm L R m Rr.2 := by
  unfold RM_paces_J337 at h
  by_cases hb1 : 0 ≤ x3
  · have h := ifp h hb1
    obtain ⟨hk2, h⟩ := ift h
    obtain ⟨m2, hm2, h⟩ := letM_ex h
    have a3 : Frm L R m m2 := Frm.sI hm2 (hL _ _ rfl)
    obtain ⟨m3, hm3, h⟩ := letM_ex h
    have a4 : Frm L R m m3 := a3.tr (Frm.sI hm3 (hL _ _ rfl))
    injection h with h
    subst h
    exact a4
  · have h := ifn h hb1
    obtain ⟨hk5, h⟩ := ift h
    obtain ⟨m5, hm5, h⟩ := letM_ex h
    have a6 : Frm L R m m5 := Frm.sI hm5 (hL _ _ rfl)
    obtain ⟨m6, hm6, h⟩ := letM_ex h
    have a7 : Frm L R m m6 := a6.tr (Frm.sI hm6 (hL _ _ rfl))
    injection h with h
    subst h
    exact a7
theorem RM_paces_J307_fr {L R : List (Nat × Nat)} (hL : Sub W_RM_paces L) (m : Mem) (x1 : Int32) (x2 : Int32) (x3 : Int32) (x4 : Int32) (x5 : Int32) (s1 : Int32) (s2 : Int32) (Rr : Int32 × Mem) (h : RM_paces_J307 m x1 x2 x3 x4 x5 s1 s2 = some Rr) : Frm L R m Rr.2 := by
  unfold RM_paces_J307 at h
  obtain ⟨hk1, h⟩ := ift h
  obtain ⟨m2, hm2, h⟩ := letM_ex h
  have a2 : Frm L R m m2 := Frm.sI hm2 (hL _ _ rfl)
  by_cases hb3 : x4 < 0
  · have h := ifp h hb3
    obtain ⟨hk4, h⟩ := ift h
    obtain ⟨m4, hm4, h⟩ := letM_ex h
    have a5 : Frm L R m m4 := a2.tr (Frm.sI hm4 (hL _ _ rfl))
    obtain ⟨m5, hm5, h⟩ := letM_ex h
    have a6 : Frm L R m m5 := a5.tr (Frm.sI hm5 (hL _ _ rfl))
    injection h with h
    subst h
    exact a6
  · have h := ifn h hb3
    by_cases hb7 : 0 ≤ x5
    · have h := ifp h hb7
      by_cases hb8 : 0 ≤ x2
      · have h := ifp h hb8
        exact a2.tr (RM_paces_J337_fr hL m2 x1 x3 3 x2 _ h)
      · have h := ifn h hb8
        exact a2.tr (RM_paces_J337_fr hL m2 x1 x3 3 (-x2) _ h)
    · have h := ifn h hb7
      obtain ⟨hk9, h⟩ := ift h
      obtain ⟨m7, hm7, h⟩ := letM_ex h
      have a10 : Frm L R m m7 := a2.tr (Frm.sI hm7 (hL _ _ rfl))
      obtain ⟨m8, hm8, h⟩ := letM_ex h
      have a11 : Frm L R m m8 := a10.tr (Frm.sI hm8 (hL _ _ rfl))
      injection h with h
      subst h
      exact a11
theorem RM_paces_fr {L R : List (Nat × Nat)} (hL : Sub W_RM_paces L) (m : Mem) (Rr : Int32 × Mem) (h : RM_paces m = some Rr) : Frm L R m Rr.2 := by
  unfold RM_paces at h
  obtain ⟨m1, hm1, h⟩ := letM_ex h
  have a1 : Frm L R m m1 := Frm.sI hm1 (hL _ _ rfl)
  obtain ⟨m2, hq2, h⟩ := bM_ex h
  have a3 : Frm L R m m2 := a1.tr (RM_taken_fr (subm hL rfl) m1 300 _ hq2)
  obtain ⟨m4, hm4, h⟩ := letM_ex h
  have a4 : Frm L R m m4 := a3.tr (Frm.sI hm4 (hL _ _ rfl))
  obtain ⟨m5, hq5, h⟩ := bM_ex h
  have a6 : Frm L R m m5 := a4.tr (RM_next_fr (subm hL rfl) m4 _ hq5)
  refine a6.tr (RM_paces_L23_fr hL _ Rr ?_ FU m5 0 h)
  intro m8 y7 h
  by_cases hb8 : 2 ≤ y7
  · have h := ifp h hb8
    refine RM_paces_L144_fr hL y7 _ Rr ?_ FU m8 0 0 0 h
    intro m11 y9 y10 h
    obtain ⟨v12, m13, hq10, h⟩ := bV_ex h
    have a11 : Frm L R m11 m13 := RM_mends_fr (subm hL rfl) m11 y7 y9 1 3 _ hq10
    obtain ⟨v15, m16, hq12, h⟩ := bV_ex h
    have a13 : Frm L R m11 m16 := a11.tr (RM_mends_fr (subm hL rfl) m13 y7 y10 2 0 _ hq12)
    obtain ⟨hk14, h⟩ := ift h
    obtain ⟨m19, hm19, h⟩ := letM_ex h
    have a15 : Frm L R m11 m19 := a13.tr (Frm.sI hm19 (hL _ _ rfl))
    obtain ⟨hk16, h⟩ := ift h
    obtain ⟨m21, hm21, h⟩ := letM_ex h
    have a17 : Frm L R m11 m21 := a15.tr (Frm.sI hm21 (hL _ _ rfl))
    by_cases hb18 : v12 < 0
    · have h := ifp h hb18
      exact a17.tr (RM_paces_J307_fr hL m21 y7 y9 y10 v12 v15 2 (-1) _ h)
    · have h := ifn h hb18
      by_cases hb19 : 0 ≤ v15
      · have h := ifp h hb19
        exact a17.tr (RM_paces_J307_fr hL m21 y7 y9 y10 v12 v15 2 (v12 + v15) _ h)
      · have h := ifn h hb19
        exact a17.tr (RM_paces_J307_fr hL m21 y7 y9 y10 v12 v15 2 (-1) _ h)
  · have h := ifn h hb8
    obtain ⟨v22, m23, hq20, h⟩ := bV_ex h
    have a21 : Frm L R m8 m23 := RM_bad_fr (subm hL rfl) m8 4 _ hq20
    injection h with h
    subst h
    exact a21
def W_RM_paced : List (Nat × Nat) := [(133, 0)]
theorem RM_paced_fr {L R : List (Nat × Nat)} (hL : Sub W_RM_paced L) (m : Mem) (x1 : Int32) (Rr : Int32 × Mem) (h : RM_paced m x1 = some Rr) : Frm L R m Rr.2 := by
  unfold RM_paced at h
  obtain ⟨m1, hm1, h⟩ := letM_ex h
  have a1 : Frm L R m m1 := Frm.sI hm1 (hL _ _ rfl)
  by_cases hb2 : (gI m1 133 52) = 0
  · have h := ifp h hb2
    injection h with h
    subst h
    exact a1
  · have h := ifn h hb2
    by_cases hb3 : (RM_isIn x1 0 3) = 0
    · have h := ifp h hb3
      injection h with h
      subst h
      exact a1
    · have h := ifn h hb3
      obtain ⟨hk4, h⟩ := ift h
      injection h with h
      subst h
      exact a1
def W_RM_image : List (Nat × Nat) := [(133, 0), (159, 999999), (160, 999999), (161, 999999)]
theorem RM_image_L18_fr {L R : List (Nat × Nat)} (hL : Sub W_RM_image L) (x1 : Int32) (kx : Mem → Option (Int32 × Mem)) (Rr : Int32 × Mem) (hx : ∀ (y0 : Mem), kx y0 = some Rr → Frm L R y0 Rr.2) : ∀ (n : Nat) (m : Mem) (x2 : Int32), RM_image_L18 x1 kx n m x2 = some Rr → Frm L R m Rr.2 := by
  intro n
  induction n with
  | zero =>
    intro m x2 h
    exact absurd (show none = some Rr from h) (fun e => Option.some_ne_none Rr e.symm)
  | succ n ih =>
    intro m x2 h
    rw [RM_image_L18] at h
    by_cases hb1 : 116 ≤ x2
    · have h := ifp h hb1
      exact hx m h
    · have h := ifn h hb1
      obtain ⟨hk2, h⟩ := ift h
      obtain ⟨hk3, h⟩ := ift h
      obtain ⟨m3, hm3, h⟩ := letM_ex h
      have a4 : Frm L R m m3 := Frm.sI hm3 (hL _ _ rfl)
      exact a4.tr (ih m3 (x2 + 1) h)
theorem RM_image_L49_fr {L R : List (Nat × Nat)} (hL : Sub W_RM_image L) (x1 : Int32) (kx : Mem → Option (Int32 × Mem)) (Rr : Int32 × Mem) (hx : ∀ (y0 : Mem), kx y0 = some Rr → Frm L R y0 Rr.2) : ∀ (n : Nat) (m : Mem) (x2 : Int32), RM_image_L49 x1 kx n m x2 = some Rr → Frm L R m Rr.2 := by
  intro n
  induction n with
  | zero =>
    intro m x2 h
    exact absurd (show none = some Rr from h) (fun e => Option.some_ne_none Rr e.symm)
  | succ n ih =>
    intro m x2 h
    rw [RM_image_L49] at h
    by_cases hb1 : 13 ≤ x2
    · have h := ifp h hb1
      exact hx m h
    · have h := ifn h hb1
      obtain ⟨hk2, h⟩ := ift h
      obtain ⟨hk3, h⟩ := ift h
      obtain ⟨m3, hm3, h⟩ := letM_ex h
      have a4 : Frm L R m m3 := Frm.sJ hm3 (hL _ _ rfl)
      exact a4.tr (ih m3 (x2 + 1) h)
theorem RM_image_fr {L R : List (Nat × Nat)} (hL : Sub W_RM_image L) (m : Mem) (x1 : Int32) (Rr : Int32 × Mem) (h : RM_image m x1 = some Rr) : Frm L R m Rr.2 := by
  unfold RM_image at h
  obtain ⟨m1, hm1, h⟩ := letM_ex h
  have a1 : Frm L R m m1 := Frm.sI hm1 (hL _ _ rfl)
  by_cases hb2 : (RM_isIn x1 0 1) = 0
  · have h := ifp h hb2
    injection h with h
    subst h
    exact a1
  · have h := ifn h hb2
    refine a1.tr (RM_image_L18_fr hL x1 _ Rr ?_ FU m1 0 h)
    intro m2 h
    refine RM_image_L49_fr hL x1 _ Rr ?_ FU m2 0 h
    intro m3 h
    obtain ⟨hk5, h⟩ := ift h
    obtain ⟨m5, hm5, h⟩ := letM_ex h
    have a6 : Frm L R m3 m5 := Frm.sI hm5 (hL _ _ rfl)
    injection h with h
    subst h
    exact a6
def W_RM_restore : List (Nat × Nat) := [(133, 0), (133, 40), (135, 999999), (137, 999999)]
theorem RM_restore_L27_fr {L R : List (Nat × Nat)} (hL : Sub W_RM_restore L) (x1 : Int32) (kx : Mem → Option (Int32 × Mem)) (Rr : Int32 × Mem) (hx : ∀ (y0 : Mem), kx y0 = some Rr → Frm L R y0 Rr.2) : ∀ (n : Nat) (m : Mem) (x2 : Int32), RM_restore_L27 x1 kx n m x2 = some Rr → Frm L R m Rr.2 := by
  intro n
  induction n with
  | zero =>
    intro m x2 h
    exact absurd (show none = some Rr from h) (fun e => Option.some_ne_none Rr e.symm)
  | succ n ih =>
    intro m x2 h
    rw [RM_restore_L27] at h
    by_cases hb1 : 116 ≤ x2
    · have h := ifp h hb1
      exact hx m h
    · have h := ifn h hb1
      obtain ⟨hk2, h⟩ := ift h
      obtain ⟨hk3, h⟩ := ift h
      obtain ⟨m3, hm3, h⟩ := letM_ex h
      have a4 : Frm L R m m3 := Frm.sI hm3 (hL _ _ rfl)
      exact a4.tr (ih m3 (x2 + 1) h)
theorem RM_restore_L58_fr {L R : List (Nat × Nat)} (hL : Sub W_RM_restore L) (x1 : Int32) (kx : Mem → Option (Int32 × Mem)) (Rr : Int32 × Mem) (hx : ∀ (y0 : Mem), kx y0 = some Rr → Frm L R y0 Rr.2) : ∀ (n : Nat) (m : Mem) (x2 : Int32), RM_restore_L58 x1 kx n m x2 = some Rr → Frm L R m Rr.2 := by
  intro n
  induction n with
  | zero =>
    intro m x2 h
    exact absurd (show none = some Rr from h) (fun e => Option.some_ne_none Rr e.symm)
  | succ n ih =>
    intro m x2 h
    rw [RM_restore_L58] at h
    by_cases hb1 : 13 ≤ x2
    · have h := ifp h hb1
      exact hx m h
    · have h := ifn h hb1
      obtain ⟨hk2, h⟩ := ift h
      obtain ⟨hk3, h⟩ := ift h
      obtain ⟨m3, hm3, h⟩ := letM_ex h
      have a4 : Frm L R m m3 := Frm.sJ hm3 (hL _ _ rfl)
      exact a4.tr (ih m3 (x2 + 1) h)
theorem RM_restore_fr {L R : List (Nat × Nat)} (hL : Sub W_RM_restore L) (m : Mem) (x1 : Int32) (Rr : Int32 × Mem) (h : RM_restore m x1 = some Rr) : Frm L R m Rr.2 := by
  unfold RM_restore at h
  obtain ⟨m1, hm1, h⟩ := letM_ex h
  have a1 : Frm L R m m1 := Frm.sI hm1 (hL _ _ rfl)
  by_cases hb2 : (RM_isIn x1 0 1) = 0
  · have h := ifp h hb2
    injection h with h
    subst h
    exact a1
  · have h := ifn h hb2
    obtain ⟨hk3, h⟩ := ift h
    by_cases hb4 : (gI m1 161 (ixn x1)) = 0
    · have h := ifp h hb4
      injection h with h
      subst h
      exact a1
    · have h := ifn h hb4
      refine a1.tr (RM_restore_L27_fr hL x1 _ Rr ?_ FU m1 0 h)
      intro m3 h
      refine RM_restore_L58_fr hL x1 _ Rr ?_ FU m3 0 h
      intro m4 h
      obtain ⟨m5, hm5, h⟩ := letM_ex h
      have a7 : Frm L R m4 m5 := Frm.sI hm5 (hL _ _ rfl)
      injection h with h
      subst h
      exact a7
def W_RM_count : List (Nat × Nat) := [(133, 0)]
theorem RM_count_fr {L R : List (Nat × Nat)} (hL : Sub W_RM_count L) (m : Mem) (x1 : Int32) (Rr : Int32 × Mem) (h : RM_count m x1 = some Rr) : Frm L R m Rr.2 := by
  unfold RM_count at h
  obtain ⟨m1, hm1, h⟩ := letM_ex h
  have a1 : Frm L R m m1 := Frm.sI hm1 (hL _ _ rfl)
  by_cases hb2 : x1 = 7
  · have h := ifp h hb2
    injection h with h
    subst h
    exact a1
  · have h := ifn h hb2
    by_cases hb3 : (RM_isIn x1 0 6) = 0
    · have h := ifp h hb3
      injection h with h
      subst h
      exact a1
    · have h := ifn h hb3
      obtain ⟨hk4, h⟩ := ift h
      injection h with h
      subst h
      exact a1

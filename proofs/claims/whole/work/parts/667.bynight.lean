/-! byNight -/
def LWn (L : Nat) (s : Ac) : Prop := ∀ w, s.2 = some w → w.length = L
theorem LWn.ac {L : Nat} {s t : Ac} (h : LWn L s) (k : LWn L t) : LWn L (ac s t) := by
  intro w hw
  simp only [_root_.Jvm.Pilot.COddHayLaw_law_r4503_43f9b3.ac] at hw
  cases z : s.2 with
  | none => rw [z] at hw; exact k w (by simpa using hw)
  | some v => rw [z] at hw; exact h w (by rw [z]; simpa using hw)
theorem LWn_L {α : Type} {L : Nat} {a : α → Ac} : ∀ l : List α, (∀ x ∈ l, LWn L (a x)) → LWn L (acL a l)
  | [], _ => fun w hw => by cases hw
  | x :: l, h => (h x (List.mem_cons_self ..)).ac (LWn_L l (fun y hy => h y (List.mem_cons_of_mem _ hy)))
theorem LWn_one {g : Bool} {c : Nat} {w : List Nat} : LWn w.length (oneI g c w) := fun v hv => by
  unfold oneI at hv
  cases g
  · cases hv
  · cases hv; rfl
theorem T1_LW (b : Nat → Nat) (N n r : Nat) (lw ed : Int32) (X Y : Nat → Int) : LWn 3 (T1n b N n r lw ed X Y) := LWn_L _ (fun c _ => LWn_L _ (fun p _ => LWn_one))
theorem T2_LW (b : Nat → Nat) (N n r : Nat) (lw ed : Int32) (X Y : Nat → Int) : LWn 6 (T2n b N n r lw ed X Y) := LWn_L _ (fun c _ => LWn_L _ (fun j _ => LWn_L _ (fun p _ => LWn_L _ (fun q _ => LWn_one))))
def RsR (m m' : Mem) (v : Int32) (so : Bool) (s1 s2 : Ac) : Prop :=
  (so = true ∧ v = 0 ∧ gI m' 133 45 = 1 ∧ gI m' 133 46 = 0) ∨
  (so = false ∧ 0 < s1.1 ∧ v = 1 ∧ gI m' 133 45 = nI s1.1 ∧ ∀ w, s1.2 = some w → gI m' 133 46 = nI (w.length / 3) ∧ ∀ i x, w[i]? = some x → gI m' 153 i = nI x) ∨
  (so = false ∧ s1.1 = 0 ∧ 0 < s2.1 ∧ v = 2 ∧ gI m' 133 45 = nI s2.1 ∧ ∀ w, s2.2 = some w → gI m' 133 46 = nI (w.length / 3) ∧ ∀ i x, w[i]? = some x → gI m' 153 i = nI x) ∨
  (so = false ∧ s1.1 = 0 ∧ s2.1 = 0 ∧ v = -1 ∧ gI m' 133 45 = gI m 133 45 ∧ gI m' 133 46 = gI m 133 46 ∧ ∀ i, gI m' 153 i = gI m 153 i)
/-- the reference, once what is told is read -/
theorem rbn {m1 mB : Mem} {k N n r : Nat} {b : Nat → Nat} {lw ed : Int32} {X Y : Nat → Int} (H : NXc N n b ed X Y) (hk3 : k < 3) (hr : 1 ≤ r ∧ r ≤ 3) (hT : RM_isTold (sI m1 133 0 0) = some (1, mB)) (hL : RM_isLine mB (nI k) = some 1) (hR : RXn mB k N n b lw ed X Y) (k45 : gI mB 133 45 = gI m1 133 45) (k46 : gI mB 133 46 = gI m1 133 46) (k153 : ∀ i, gI mB 153 i = gI m1 153 i) : ∃ v m', RM_byNight m1 (nI k) (nI r) = some (v, m') ∧ RsR m1 m' v (soP b N lw ed n X Y) (T1n b N n r lw ed X Y) (T2n b N n r lw ed X Y) ∧ gI m' 133 2 = gI mB 133 2 := by
  have hn := H.2.2.1
  have hB := big hr
  obtain ⟨m7, e7, P7, F7⟩ := hR.look H hk3
  have R7 := hR.fr (F7.mo (wL_sub rfl))
  obtain ⟨m10, e10, F10⟩ := so_eq H R7 P7
  have G10 : Frm Lsk [] mB m10 := F7.tr (F10.mo (wL_sub rfl))
  have R10 := hR.fr (G10.mo (wL_sub rfl))
  have eT : ((2 * nI r) + 1) * ((2 * nI r) + 1) = nI ((2 * r + 1) * (2 * r + 1)) := by rw [k2, n_mul, k1, n_add, n_mul]
  rw [RM_byNight, letM_p, hT, bV_s, if_neg (show ¬ (1 : Int32) = 0 by decide), hL, bI_s, if_neg (show ¬ (1 : Int32) = 0 by decide), show RM_isIn (nI r) 1 3 = 1 from isIn_in (a := 1) (b := 3) hr.1 hr.2 (by omega), if_neg (show ¬ (1 : Int32) = 0 by decide), e7, bM_s, e10, bV_s]
  cases hso : soP b N lw ed n X Y with
  | true =>
    refine ⟨0, sI (sI m10 133 45 1) 133 46 0, ?_, Or.inl ⟨rfl, rfl, ?_, ?_⟩, ?_⟩
    · rw [if_neg (show ¬ b2i true = 0 by decide), letM_p, letM_p]
    · rw [gI_sI, if_neg (by omega), gI_sI, if_pos ⟨rfl, rfl⟩]
    · rw [gI_sI, if_pos ⟨rfl, rfl⟩]
    · rw [gI_sI, if_neg (by omega), gI_sI, if_neg (by omega), G10.I 133 2 rfl]
  | false =>
    rw [if_pos (show b2i false = 0 from rfl), letV_p, eT, letM_p]
    have b1 := T1_bd hr hn b N lw ed X Y
    have b2 := T2_bd hr hn b N lw ed X Y
    have F13 : Frm Lrf [] m10 (sI m10 133 47 0) := Frm.sI rfl rfl
    have R13 := R10.fr F13
    have S13 : SRn m1 (sI m10 133 47 0) ac0 := ⟨by rw [gI_sI, if_pos ⟨rfl, rfl⟩]; rfl, fun _ => ⟨by rw [gI_sI, if_neg (by omega), G10.I 133 46 rfl, k46], fun i => by rw [gI_sI, if_neg (by omega), G10.I 153 _ rfl, k153]⟩, fun w hw => by cases hw⟩
    have q13 : gI (sI m10 133 47 0) 133 45 = gI m1 133 45 ∧ gI (sI m10 133 47 0) 133 2 = gI mB 133 2 := ⟨by rw [gI_sI, if_neg (by omega), G10.I 133 45 rfl, k45], by rw [gI_sI, if_neg (by omega), G10.I 133 2 rfl]⟩
    obtain ⟨m14, e14, S14, F14⟩ := l76_loop (kx := fun m14 => if (gI m14 133 47) ≤ 0 then (RM_byNight_L181 (nI k) (nI r) (nI ((2 * r + 1) * (2 * r + 1))) (fun m15 => if (gI m15 133 47) = 0 then (some ((-1), m15))
      else (letM (sI m15 133 45 (gI m15 133 47)) fun m16 =>
      some (2, m16))) FU m14 0)
      else (letM (sI m14 133 45 (gI m14 133 47)) fun m17 =>
      some (1, m17))) H hk3 hr rfl n 0 FU (sI m10 133 47 0) ac0 (by omega) (by unfold FU; omega) R13 S13 okA_0 (by rw [ac_l]; exact Nat.lt_of_le_of_lt b1 (by omega))
    rw [ac_l] at S14
    replace S14 : SRn m1 m14 (T1n b N n r lw ed X Y) := S14
    have ok1 : okA (T1n b N n r lw ed X Y) := okA_L _ (fun c _ => R1_ok ..)
    have ok2 : okA (T2n b N n r lw ed X Y) := okA_L _ (fun c _ => okA_L _ (fun j _ => R2_ok ..))
    rw [show nI 0 = 0 from rfl] at e14
    rw [e14, S14.1]
    have q14 : gI m14 133 45 = gI m1 133 45 ∧ gI m14 133 2 = gI mB 133 2 := ⟨by rw [F14.I 133 45 rfl]; exact q13.1, by rw [F14.I 133 2 rfl]; exact q13.2⟩
    by_cases z1 : (T1n b N n r lw ed X Y).1 = 0
    · rw [if_pos (by rw [k0, n_le (by omega) (by omega)]; omega)]
      have z1' : T1n b N n r lw ed X Y = ac0 := Prod.ext z1 (ok1.mp z1)
      rw [z1'] at S14
      obtain ⟨m15, e15, S15, F15⟩ := l181_loop (kx := fun m15 => if (gI m15 133 47) = 0 then (some ((-1), m15))
        else (letM (sI m15 133 45 (gI m15 133 47)) fun m16 =>
        some (2, m16))) H hk3 hr rfl n 0 FU m14 ac0 (by omega) (by unfold FU; omega) (R13.fr F14) S14 okA_0 (by rw [ac_l]; exact Nat.lt_of_le_of_lt b2 (by omega))
      rw [ac_l] at S15
      replace S15 : SRn m1 m15 (T2n b N n r lw ed X Y) := S15
      rw [show nI 0 = 0 from rfl] at e15
      rw [e15, S15.1]
      by_cases z2 : (T2n b N n r lw ed X Y).1 = 0
      · rw [if_pos (by rw [z2]; rfl)]
        exact ⟨_, m15, rfl, Or.inr (Or.inr (Or.inr ⟨rfl, z1, z2, rfl, by rw [F15.I 133 45 rfl]; exact q14.1, (S15.2.1 (ok2.mp z2)).1, (S15.2.1 (ok2.mp z2)).2⟩)), by rw [F15.I 133 2 rfl]; exact q14.2⟩
      · rw [if_neg (by rw [k0, n_eq (by omega) (by omega)]; exact z2), letM_p]
        refine ⟨2, _, rfl, Or.inr (Or.inr (Or.inl ⟨rfl, z1, by omega, rfl, by rw [gI_sI, if_pos ⟨rfl, rfl⟩], fun w hw => ⟨by rw [gI_sI, if_neg (by omega)]; exact (S15.2.2 w hw).1, fun i x hx => by rw [gI_sI, if_neg (by omega)]; exact (S15.2.2 w hw).2 i x hx⟩⟩)), ?_⟩
        rw [gI_sI, if_neg (by omega), F15.I 133 2 rfl]; exact q14.2
    · rw [if_neg (by rw [k0, n_le (by omega) (by omega)]; omega), letM_p]
      refine ⟨1, _, rfl, Or.inr (Or.inl ⟨rfl, by omega, rfl, by rw [gI_sI, if_pos ⟨rfl, rfl⟩], fun w hw => ⟨by rw [gI_sI, if_neg (by omega)]; exact (S14.2.2 w hw).1, fun i x hx => by rw [gI_sI, if_neg (by omega)]; exact (S14.2.2 w hw).2 i x hx⟩⟩), ?_⟩
      rw [gI_sI, if_neg (by omega)]; exact q14.2
/-- both answers are one, and what is kept is alike -/
theorem both {m m1 m2 : Mem} {v v' : Int32} {so : Bool} {s1 s2 : Ac} (hC : RsC m m1 v so s1 s2) (hR : RsR m1 m2 v' so s1 s2) (F45 : gI m1 133 45 = gI m 133 45) (F46 : gI m1 133 46 = gI m 133 46) (F153 : ∀ i, gI m1 153 i = gI m 153 i) (o1 : okA s1) (o2 : okA s2) (L1 : LWn 3 s1) (L2 : LWn 6 s2) (b1 : s1.1 ≤ 576) (b2 : s2.1 ≤ 331776)
    (hQ : gI m 40 1 = gI m 133 45 ∧ (gI m 133 45 = -1 ∧ gI m 40 0 = 0 ∨ 0 < gI m 133 45 ∧ gI m 40 0 = gI m 133 46 ∧ isN (gI m 133 46) 2 ∧ ∀ i, i < 3 * ixn (gI m 133 46) → gI m 41 i = gI m 153 i)) : v = v' ∧ gI m1 40 1 = gI m2 133 45 ∧ (gI m2 133 45 = -1 ∧ gI m1 40 0 = 0 ∨ 0 < gI m2 133 45 ∧ gI m1 40 0 = gI m2 133 46 ∧ isN (gI m2 133 46) 2 ∧ ∀ i, i < 3 * ixn (gI m2 133 46) → gI m1 41 i = gI m2 153 i) := by
  rcases hC with ⟨c0, c1, c2, c3⟩ | ⟨c0, c1, c2, c3, c4, c5⟩ | ⟨c0, c1, c2, c3, c4, c5, c6⟩ | ⟨c0, c1, c2, c3, c4, c5, c6⟩ <;> rcases hR with ⟨d0, d1, d2, d3⟩ | ⟨d0, d1, d2, d3, d4⟩ | ⟨d0, d1, d2, d3, d4, d5⟩ | ⟨d0, d1, d2, d3, d4, d5, d6⟩
  · exact ⟨by rw [c1, d1], by rw [c3, d2], Or.inr ⟨by rw [d2]; decide, by rw [c2, d3], by rw [d3]; exact isN.of (n := 0) (by omega) (by omega), fun i hi => by rw [d3, show ixn 0 = 0 from rfl] at hi; omega⟩⟩
  · rw [c0] at d0; cases d0
  · rw [c0] at d0; cases d0
  · rw [c0] at d0; cases d0
  · rw [c0] at d0; cases d0
  · obtain ⟨w, hw⟩ : ∃ w, s1.2 = some w := by
      cases z : s1.2 with
      | none => have := o1.mpr z; omega
      | some w => exact ⟨w, rfl⟩
    have hl := L1 w hw
    obtain ⟨q1, q2⟩ := d4 w hw
    rw [hl] at q1
    have q1' : gI m2 133 46 = nI 1 := q1
    refine ⟨by rw [c2, d2], by rw [c4, d3], Or.inr ⟨by rw [d3, k0, n_lt (by omega) (by omega)]; exact c1, by rw [c3, q1']; rfl, by rw [q1']; exact isN.of (by omega) (by omega), fun i hi => ?_⟩⟩
    rw [q1', n_ixn (by omega)] at hi
    have hx := List.getElem?_eq_getElem (l := w) (i := i) (by omega)
    rw [c5 w hw i _ hx, q2 i _ hx]
  · omega
  · omega
  · rw [c0] at d0; cases d0
  · omega
  · obtain ⟨w, hw⟩ : ∃ w, s2.2 = some w := by
      cases z : s2.2 with
      | none => have := o2.mpr z; omega
      | some w => exact ⟨w, rfl⟩
    have hl := L2 w hw
    obtain ⟨q1, q2⟩ := d5 w hw
    rw [hl] at q1
    have q1' : gI m2 133 46 = nI 2 := q1
    refine ⟨by rw [c3, d3], by rw [c5, d4], Or.inr ⟨by rw [d4, k0, n_lt (by omega) (by omega)]; exact c2, by rw [c4, q1']; rfl, by rw [q1']; exact isN.of (by omega) (by omega), fun i hi => ?_⟩⟩
    rw [q1', n_ixn (by omega)] at hi
    have hx := List.getElem?_eq_getElem (l := w) (i := i) (by omega)
    rw [c6 w hw i _ hx, q2 i _ hx]
  · omega
  · rw [c0] at d0; cases d0
  · omega
  · omega
  · refine ⟨by rw [c3, d3], ?_, ?_⟩
    · rw [c5, d4, F45]; exact hQ.1
    · rw [c4, d4, d5, F45, F46]
      rcases hQ.2 with h | ⟨h1, h2, h3, h4⟩
      · exact Or.inl h
      · exact Or.inr ⟨h1, h2, h3, fun i hi => by rw [c6, d6, F153]; exact h4 i hi⟩
theorem three_cases (w : Int32) : (RM_isIn w 1 3 = 0 ∧ (w < 1 ∨ ¬ w < 1 ∧ ¬ w ≤ 3)) ∨ ∃ r : Nat, (1 ≤ r ∧ r ≤ 3) ∧ w = nI r ∧ ¬ w < 1 ∧ w ≤ 3 := by
  by_cases h1 : w < 1
  · exact Or.inl ⟨isIn_lo h1, Or.inl h1⟩
  · by_cases h2 : w ≤ 3
    · right
      have g1 : 1 ≤ w.toInt := by
        have := Int32.not_lt.mp h1
        rw [Int32.le_iff_toInt_le] at this
        exact this
      have g2 : w.toInt ≤ 3 := by
        rw [Int32.le_iff_toInt_le] at h2
        exact h2
      refine ⟨w.toInt.toNat, by omega, ?_, h1, h2⟩
      rw [nI_iz, show ((w.toInt.toNat : Nat) : Int) = w.toInt by omega, iz_of]
    · left
      refine ⟨?_, Or.inr ⟨h1, h2⟩⟩
      unfold RM_isIn
      rw [if_neg h1, if_pos (Int32.not_le.mp h2)]

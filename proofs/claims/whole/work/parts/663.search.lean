/-! by night: the class's search -/
theorem l84_loop {N n r : Nat} {b : Nat → Nat} {lw ed : Int32} {X Y : Nat → Int} {m0 : Mem} {kx : Mem → Option (Int32 × Mem)} (H : NXc N n b ed X Y) (hr : 1 ≤ r ∧ r ≤ 3) (hu : ∀ i, i < n → ¬ (X i = X (nx n i) ∧ Y i = Y (nx n i))) : ∀ (d c fu : Nat) (m : Mem) (s : Ac), c + d = n → d < fu → TXn m b N n r lw ed X Y → SCn m0 m s → okA s → (ac s (acL (R1n b N n r lw ed X Y) (List.range' c d))).1 < 2147483648 → ∃ m', NI_search_L84 kx fu m (nI c) = kx m' ∧ SCn m0 m' (ac s (acL (R1n b N n r lw ed X Y) (List.range' c d))) ∧ Frm Ltr [] m m'
  | 0, c, fu, m, s, hd, hf, hT, hS, hk, hb => by
    obtain ⟨f, rfl⟩ : ∃ f, fu = f + 1 := ⟨fu - 1, by omega⟩
    have hn := H.2.2.1
    exact ⟨m, by rw [NI_search_L84, hT.1.2.1, if_pos (by rw [n_le (by omega) (by omega)]; omega)], by rw [show List.range' c 0 = [] from rfl, acL, ac_0]; exact hS, Frm.rf⟩
  | d + 1, c, fu, m, s, hd, hf, hT, hS, hk, hb => by
    obtain ⟨f, rfl⟩ : ∃ f, fu = f + 1 := ⟨fu - 1, by omega⟩
    have hn := H.2.2.1
    have hc : c < n := by omega
    have ec : nI c + 1 = nI (c + 1) := by rw [k1, n_add]
    rw [List.range'_succ, acL, ← ac_as] at hb ⊢
    have hb0 : (ac s (R1n b N n r lw ed X Y c)).1 < 2147483648 := by simp only [ac] at hb ⊢; omega
    rw [← A1_eq H hu hc] at hb0
    obtain ⟨m1, e1, S1, F1⟩ := tryOne_eq H hr hc hT hS hk hb0
    rw [A1_eq H hu hc] at S1
    obtain ⟨m', e, S, F⟩ := l84_loop (kx := kx) H hr hu d (c + 1) f m1 _ (by omega) (by omega) (hT.fr F1) S1 (hk.ac (R1_ok ..)) hb
    exact ⟨m', by rw [NI_search_L84, hT.1.2.1, if_neg (by rw [n_le (by omega) (by omega)]; omega), e1, bM_s, ec]; exact e, S, F1.tr F⟩
theorem l137_loop {N n r i : Nat} {b : Nat → Nat} {lw ed : Int32} {X Y : Nat → Int} {m0 : Mem} {kx : Mem → Option (Int32 × Mem)} (H : NXc N n b ed X Y) (hr : 1 ≤ r ∧ r ≤ 3) (hu : ∀ i, i < n → ¬ (X i = X (nx n i) ∧ Y i = Y (nx n i))) (hi : i < n) : ∀ (d j fu : Nat) (m : Mem) (s : Ac), j + d = n → i < j → d < fu → TXn m b N n r lw ed X Y → SCn m0 m s → okA s → (ac s (acL (R2n b N n r lw ed X Y i) (List.range' j d))).1 < 2147483648 → ∃ m', NI_search_L137 (nI i) kx fu m (nI j) = kx m' ∧ SCn m0 m' (ac s (acL (R2n b N n r lw ed X Y i) (List.range' j d))) ∧ Frm Ltr [] m m'
  | 0, j, fu, m, s, hd, hij, hf, hT, hS, hk, hb => by
    obtain ⟨f, rfl⟩ : ∃ f, fu = f + 1 := ⟨fu - 1, by omega⟩
    have hn := H.2.2.1
    exact ⟨m, by rw [NI_search_L137, hT.1.2.1, if_pos (by rw [n_le (by omega) (by omega)]; omega)], by rw [show List.range' j 0 = [] from rfl, acL, ac_0]; exact hS, Frm.rf⟩
  | d + 1, j, fu, m, s, hd, hij, hf, hT, hS, hk, hb => by
    obtain ⟨f, rfl⟩ : ∃ f, fu = f + 1 := ⟨fu - 1, by omega⟩
    have hn := H.2.2.1
    have hj : j < n := by omega
    have ec : nI j + 1 = nI (j + 1) := by rw [k1, n_add]
    rw [List.range'_succ, acL, ← ac_as] at hb ⊢
    have hb0 : (ac s (R2n b N n r lw ed X Y i j)).1 < 2147483648 := by simp only [ac] at hb ⊢; omega
    rw [← A2_eq H hu hi hj (by omega)] at hb0
    obtain ⟨m1, e1, S1, F1⟩ := tryTwo_eq H hr hi hj hT hS hk hb0
    rw [A2_eq H hu hi hj (by omega)] at S1
    obtain ⟨m', e, S, F⟩ := l137_loop (kx := kx) H hr hu hi d (j + 1) f m1 _ (by omega) (by omega) (by omega) (hT.fr F1) S1 (hk.ac (R2_ok ..)) hb
    exact ⟨m', by rw [NI_search_L137, hT.1.2.1, if_neg (by rw [n_le (by omega) (by omega)]; omega), e1, bM_s, ec]; exact e, S, F1.tr F⟩
theorem l121_loop {N n r : Nat} {b : Nat → Nat} {lw ed : Int32} {X Y : Nat → Int} {m0 : Mem} {kx : Mem → Option (Int32 × Mem)} (H : NXc N n b ed X Y) (hr : 1 ≤ r ∧ r ≤ 3) (hu : ∀ i, i < n → ¬ (X i = X (nx n i) ∧ Y i = Y (nx n i))) : ∀ (d i fu : Nat) (m : Mem) (s : Ac), i + d = n → d < fu → TXn m b N n r lw ed X Y → SCn m0 m s → okA s → (ac s (acL (Jn b N n r lw ed X Y) (List.range' i d))).1 < 2147483648 → ∃ m', NI_search_L121 kx fu m (nI i) = kx m' ∧ SCn m0 m' (ac s (acL (Jn b N n r lw ed X Y) (List.range' i d))) ∧ Frm Ltr [] m m'
  | 0, i, fu, m, s, hd, hf, hT, hS, hk, hb => by
    obtain ⟨f, rfl⟩ : ∃ f, fu = f + 1 := ⟨fu - 1, by omega⟩
    have hn := H.2.2.1
    exact ⟨m, by rw [NI_search_L121, hT.1.2.1, if_pos (by rw [n_le (by omega) (by omega)]; omega)], by rw [show List.range' i 0 = [] from rfl, acL, ac_0]; exact hS, Frm.rf⟩
  | d + 1, i, fu, m, s, hd, hf, hT, hS, hk, hb => by
    obtain ⟨f, rfl⟩ : ∃ f, fu = f + 1 := ⟨fu - 1, by omega⟩
    have hn := H.2.2.1
    have hi : i < n := by omega
    have ec : nI i + 1 = nI (i + 1) := by rw [k1, n_add]
    rw [List.range'_succ, acL, ← ac_as] at hb ⊢
    have hb0 : (ac s (Jn b N n r lw ed X Y i)).1 < 2147483648 := by simp only [ac] at hb ⊢; omega
    obtain ⟨m1, e1, S1, F1⟩ := l137_loop (kx := fun m2 => NI_search_L121 kx f m2 (nI i + 1)) H hr hu hi (n - (i + 1)) (i + 1) FU m s (by omega) (by omega) (by unfold FU; omega) hT hS hk hb0
    obtain ⟨m', e, S, F⟩ := l121_loop (kx := kx) H hr hu d (i + 1) f m1 _ (by omega) (by omega) (hT.fr F1) S1 (hk.ac (okA_L _ (fun j _ => R2_ok ..))) hb
    rw [ec] at e1
    exact ⟨m', by rw [NI_search_L121, hT.1.2.1, if_neg (by rw [n_le (by omega) (by omega)]; omega), letV_p, ec, e1]; exact e, S, F1.tr F⟩
/-- the answer, and what is kept of it -/
def RsC (m m' : Mem) (v : Int32) (so : Bool) (s1 s2 : Ac) : Prop :=
  (so = true ∧ v = 0 ∧ gI m' 40 0 = 0 ∧ gI m' 40 1 = 1) ∨
  (so = false ∧ 0 < s1.1 ∧ v = 1 ∧ gI m' 40 0 = 1 ∧ gI m' 40 1 = nI s1.1 ∧ ∀ w, s1.2 = some w → ∀ i x, w[i]? = some x → gI m' 41 i = nI x) ∨
  (so = false ∧ s1.1 = 0 ∧ 0 < s2.1 ∧ v = 2 ∧ gI m' 40 0 = 2 ∧ gI m' 40 1 = nI s2.1 ∧ ∀ w, s2.2 = some w → ∀ i x, w[i]? = some x → gI m' 41 i = nI x) ∨
  (so = false ∧ s1.1 = 0 ∧ s2.1 = 0 ∧ v = -1 ∧ gI m' 40 0 = gI m 40 0 ∧ gI m' 40 1 = gI m 40 1 ∧ ∀ i, gI m' 41 i = gI m 41 i)
theorem copy42 {m : Mem} {o : Nat} (ho : 66 ≤ o) : ∃ m', LN_copyFrom m 42 o = some m' ∧ gI m' 42 1 = gI m o 1 ∧ (∀ j, j < 12 → gI m' 43 j = gI m (o + 1) j ∧ gI m' 44 j = gI m (o + 2) j) ∧ Frm [(42, 999999), (43, 999999), (44, 999999)] [] m m' := by
  refine ⟨_, rfl, ?_, fun j hj => ⟨?_, ?_⟩, ?_⟩
  · rw [gI_cpI, if_neg (by omega), gI_cpI, if_neg (by omega), gI_sI, if_pos ⟨rfl, rfl⟩, gI_sJ]
  · have : ixn 0 = 0 := rfl
    have t : ixn 12 = 12 := rfl
    rw [gI_cpI, if_neg (by omega), gI_cpI, if_pos (by omega), gI_sI, if_neg (by omega), gI_sJ]
    congr 1; omega
  · have : ixn 0 = 0 := rfl
    have t : ixn 12 = 12 := rfl
    rw [gI_cpI, if_pos (by omega), gI_cpI, if_neg (by omega), gI_sI, if_neg (by omega), gI_sJ]
    congr 1; omega
  · exact (Frm.sJ rfl rfl).tr ((Frm.sI rfl rfl).tr ((Frm.cI rfl (fun _ => rfl)).tr (Frm.cI rfl (fun _ => rfl))))
theorem conclude_eq (m : Mem) (x : Int32) : ∃ m', NI_conclude m x = some (x, m') ∧ gI m' 40 0 = x ∧ gI m' 40 1 = gI m 40 17 ∧ ∀ i, gI m' 41 i = gI m 41 i := by
  refine ⟨sI (sI m 40 0 x) 40 1 (gI m 40 17), ?_, ?_, ?_, fun i => ?_⟩
  · rw [NI_conclude, letM_p, gI_sI, if_neg (by omega), letM_p]
  · rw [gI_sI, if_neg (by omega), gI_sI, if_pos ⟨rfl, rfl⟩]
  · rw [gI_sI, if_pos ⟨rfl, rfl⟩]
  · rw [gI_sI, if_neg (by omega), gI_sI, if_neg (by omega)]
theorem search_eq {N n r o : Nat} {b : Nat → Nat} {lw ed : Int32} {X Y : Nat → Int} {m : Mem} (H : NXc N n b ed X Y) (hr : 1 ≤ r ∧ r ≤ 3) (hu : ∀ i, i < n → ¬ (X i = X (nx n i) ∧ Y i = Y (nx n i))) (ho : 66 ≤ o) (hP : PolyC m o n X Y) (hC : CP m N b lw ed) : ∃ v m', NI_search m o (nI r) = some (v, m') ∧ RsC m m' v (soP b N lw ed n X Y) (T1n b N n r lw ed X Y) (T2n b N n r lw ed X Y) := by
  have hn := H.2.2.1
  obtain ⟨m1, e1, c1, c2, F1⟩ := copy42 (m := m) ho
  have C1 : CXn m1 N n b lw ed X Y := ⟨hC.fr F1 (fun c j a b => by unfold wL; simp; omega), by rw [c1]; exact hP.1, hn, fun i hi => by rw [(c2 i (by omega)).1, (c2 i (by omega)).2]; exact hP.2.2 i hi⟩
  obtain ⟨m3, e3, E3, F3⟩ := seeEdges_eq H C1
  have C3 := C1.fr (F3.mo (wL_sub rfl))
  have F5 : Frm Lns [] m3 (sI m3 40 17 0) := Frm.sI rfl rfl
  have C5 := C3.fr F5
  have E5 : EDm (sI m3 40 17 0) N n b X Y n := fun e he => by rw [gJ_sI, gI_sI, if_neg (by omega)]; exact E3 e he
  obtain ⟨m6, e6, r1, r2, F6⟩ := leaveOut_eq H (fun e he => skN_no hn he) C5 E5
  have C6 := C5.fr (F6.mo (wL_sub rfl))
  have E6 : EDm m6 N n b X Y n := fun e he => by rw [F6.J 46 _ rfl, F6.I 47 _ rfl]; exact E5 e he
  have q17 : gI m6 40 17 = 0 := by rw [F6.I 40 17 rfl, gI_sI, if_pos ⟨rfl, rfl⟩]
  have k41 : ∀ i, gI m6 41 i = gI m 41 i := fun i => by rw [F6.I 41 _ rfl, gI_sI, if_neg (by omega), F3.I 41 _ rfl, F1.I 41 _ rfl]
  have k40 : gI m6 40 0 = gI m 40 0 ∧ gI m6 40 1 = gI m 40 1 := ⟨by rw [F6.I 40 0 rfl, gI_sI, if_neg (by omega), F3.I 40 0 rfl, F1.I 40 0 rfl], by rw [F6.I 40 1 rfl, gI_sI, if_neg (by omega), F3.I 40 1 rfl, F1.I 40 1 rfl]⟩
  have ef : PT_fit m6 (gJ m6 40 15) (gI m6 40 16) = some (b2i (soP b N lw ed n X Y)) := by
    rw [fit_eq C6.1 H.1 H.2.2.2.1, r1, r2, mean0 H.1 hn H.2.2.2.1 H.2.2.2.2.1]
  rw [NI_search, e1, bM_s, e3, bM_s, letM_p, e6, bM_s, ef, bI_s]
  cases hso : soP b N lw ed n X Y with
  | true =>
    obtain ⟨m', e, d1, d2, d3⟩ := conclude_eq (sI m6 40 17 1) 0
    refine ⟨0, m', ?_, Or.inl ⟨rfl, rfl, d1, by rw [d2, gI_sI, if_pos ⟨rfl, rfl⟩]⟩⟩
    rw [if_neg (show ¬ b2i true = 0 by decide), letM_p, e, bV_s]
  | false =>
    rw [if_pos (show b2i false = 0 from rfl)]
    have b1 := T1_bd hr hn b N lw ed X Y
    have b2 := T2_bd hr hn b N lw ed X Y
    obtain ⟨m10, e10, A10, F10⟩ := al_loop (kx := fun m10 => NI_search_L84 (fun m11 => if (gI m11 40 17) ≤ 0 then (NI_search_L121 (fun m12 => if (gI m12 40 17) ≤ 0 then (some ((-1), m12))
      else (bV (NI_conclude m12 2) fun v13 m14 =>
      some (v13, m14))) FU m11 0)
      else (bV (NI_conclude m11 1) fun v16 m17 =>
      some (v16, m17))) FU m10 0) H hr n 0 FU m6 (by omega) (by unfold FU; omega) C6 (fun c hc => by omega)
    have T10 : TXn m10 b N n r lw ed X Y := ⟨C6.fr (F10.mo (wL_sub rfl)), fun e he => by rw [F10.J 46 _ rfl, F10.I 47 _ rfl]; exact E6 e he, A10⟩
    have S10 : SCn m m10 ac0 := ⟨by rw [F10.I 40 17 rfl, q17]; rfl, fun _ i => by rw [F10.I 41 _ rfl]; exact k41 i, fun w hw => by cases hw⟩
    obtain ⟨m11, e11, S11, F11⟩ := l84_loop (kx := fun m11 => if (gI m11 40 17) ≤ 0 then (NI_search_L121 (fun m12 => if (gI m12 40 17) ≤ 0 then (some ((-1), m12))
      else (bV (NI_conclude m12 2) fun v13 m14 =>
      some (v13, m14))) FU m11 0)
      else (bV (NI_conclude m11 1) fun v16 m17 =>
      some (v16, m17))) H hr hu n 0 FU m10 ac0 (by omega) (by unfold FU; omega) T10 S10 okA_0 (by rw [ac_l]; exact Nat.lt_of_le_of_lt b1 (by omega))
    rw [ac_l] at S11
    replace S11 : SCn m m11 (T1n b N n r lw ed X Y) := S11
    have ok1 : okA (T1n b N n r lw ed X Y) := okA_L _ (fun c _ => R1_ok ..)
    have ok2 : okA (T2n b N n r lw ed X Y) := okA_L _ (fun c _ => okA_L _ (fun j _ => R2_ok ..))
    rw [show nI 0 = 0 from rfl] at e10 e11
    rw [e10, e11, S11.1]
    have k40' : gI m11 40 0 = gI m 40 0 ∧ gI m11 40 1 = gI m 40 1 := ⟨by rw [F11.I 40 0 rfl, F10.I 40 0 rfl]; exact k40.1, by rw [F11.I 40 1 rfl, F10.I 40 1 rfl]; exact k40.2⟩
    by_cases z1 : (T1n b N n r lw ed X Y).1 = 0
    · rw [if_pos (by rw [k0, n_le (by omega) (by omega)]; omega)]
      have z1' : T1n b N n r lw ed X Y = ac0 := Prod.ext z1 (ok1.mp z1)
      rw [z1'] at S11
      obtain ⟨m12, e12, S12, F12⟩ := l121_loop (kx := fun m12 => if (gI m12 40 17) ≤ 0 then (some ((-1), m12))
        else (bV (NI_conclude m12 2) fun v13 m14 =>
        some (v13, m14))) H hr hu n 0 FU m11 ac0 (by omega) (by unfold FU; omega) (T10.fr F11) S11 okA_0 (by rw [ac_l]; exact Nat.lt_of_le_of_lt b2 (by omega))
      rw [ac_l] at S12
      replace S12 : SCn m m12 (T2n b N n r lw ed X Y) := S12
      rw [show nI 0 = 0 from rfl] at e12
      rw [e12, S12.1]
      by_cases z2 : (T2n b N n r lw ed X Y).1 = 0
      · rw [if_pos (by rw [k0, n_le (by omega) (by omega)]; omega)]
        exact ⟨_, m12, rfl, Or.inr (Or.inr (Or.inr ⟨rfl, z1, z2, rfl, by rw [F12.I 40 0 rfl]; exact k40'.1, by rw [F12.I 40 1 rfl]; exact k40'.2, S12.2.1 (ok2.mp z2)⟩))⟩
      · rw [if_neg (by rw [k0, n_le (by omega) (by omega)]; omega)]
        obtain ⟨m', e, d1, d2, d3⟩ := conclude_eq m12 2
        refine ⟨2, m', by rw [e, bV_s], Or.inr (Or.inr (Or.inl ⟨rfl, z1, by omega, rfl, d1, by rw [d2]; exact S12.1, fun w hw i x hx => by rw [d3]; exact S12.2.2 w hw i x hx⟩))⟩
    · rw [if_neg (by rw [k0, n_le (by omega) (by omega)]; omega)]
      obtain ⟨m', e, d1, d2, d3⟩ := conclude_eq m11 1
      refine ⟨1, m', by rw [e, bV_s], Or.inr (Or.inl ⟨rfl, by omega, rfl, d1, by rw [d2]; exact S11.1, fun w hw i x hx => by rw [d3]; exact S11.2.2 w hw i x hx⟩)⟩

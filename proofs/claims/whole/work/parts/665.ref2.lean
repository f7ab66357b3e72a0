/-! by night: the reference's loops -/
abbrev Lsk : List (Nat × Nat) := [(133, 22), (133, 23), (133, 24), (139, 999999), (140, 999999)]
theorem SRn.fr {m0 m m' : Mem} {s : Ac} (h : SRn m0 m s) (F : Frm Lsk [] m m') : SRn m0 m' s := by
  unfold SRn at *
  rw [F.I 133 47 rfl, F.I 133 46 rfl]
  simp only [fun j => F.I 153 j rfl]
  exact h
theorem RXn.look {m : Mem} {k N n : Nat} {b : Nat → Nat} {lw ed : Int32} {X Y : Nat → Int} (H : NXc N n b ed X Y) (hk : k < 3) (hR : RXn m k N n b lw ed X Y) : ∃ m', RM_looks m (nI k) = some m' ∧ Pz m' n X Y ∧ Frm Lsk [] m m' := by
  obtain ⟨m', e, P, F⟩ := looks_eq (m := m) (n := n) (k := k) (X := X) (Y := Y) H.2.2.1 (by have := H.2.1; omega) hk hR.1 (fun j hj => by
    obtain ⟨a, c⟩ := hR.2.1 j hj
    obtain ⟨q1, q2⟩ := H.2.2.2.2.2 j hj
    exact ⟨a, c, by omega, by omega⟩)
  exact ⟨m', e, P, F.mo (wL_sub rfl)⟩
theorem plc_no {r c t : Nat} {X Y : Nat → Int} (h : ¬ t = (2 * r + 1) * (2 * r + 1) / 2) : plc r X Y c t = if 0 ≤ pxz r X c t ∧ pxz r X c t ≤ 20 ∧ 0 ≤ pyz r Y c t ∧ pyz r Y c t ≤ 20 then some ((pxz r X c t).toNat, (pyz r Y c t).toNat) else none := by
  unfold plc
  rw [if_neg h]
  rfl
theorem plc_mid {r c t : Nat} {X Y : Nat → Int} (h : t = (2 * r + 1) * (2 * r + 1) / 2) : plc r X Y c t = none := by
  unfold plc
  rw [if_pos h]
abbrev mtc (o : Option Pl) (a : Pl → Ac) : Ac := match o with | none => ac0 | some p => a p
abbrev f1n (b : Nat → Nat) (N n r : Nat) (lw ed : Int32) (X Y : Nat → Int) (c t : Nat) : Ac := mtc (plc r X Y c t) (fun p => oneI (ok1n b N n lw ed X Y c p) 1 [c, p.1, p.2])
theorem big {r : Nat} (hr : 1 ≤ r ∧ r ≤ 3) : (2 * r + 1) * (2 * r + 1) ≤ 49 := by rcases (show r = 1 ∨ r = 2 ∨ r = 3 by omega) with rfl | rfl | rfl <;> omega
theorem l93_loop {k N n r c T : Nat} {b : Nat → Nat} {lw ed : Int32} {X Y : Nat → Int} {m0 : Mem} {kx : Mem → Option (Int32 × Mem)} (H : NXc N n b ed X Y) (hk3 : k < 3) (hr : 1 ≤ r ∧ r ≤ 3) (hc : c < n) (hT : T = (2 * r + 1) * (2 * r + 1)) : ∀ (d t fu : Nat) (m : Mem) (s : Ac), t + d = T → d < fu → RXn m k N n b lw ed X Y → SRn m0 m s → okA s → (ac s (acL (f1n b N n r lw ed X Y c) (List.range' t d))).1 < 2147483648 → ∃ m', RM_byNight_L93 (nI k) (nI r) (nI T) (nI c) kx fu m (nI t) = kx m' ∧ SRn m0 m' (ac s (acL (f1n b N n r lw ed X Y c) (List.range' t d))) ∧ Frm Lrf [] m m'
  | 0, t, fu, m, s, hd, hf, hR, hS, hk, hb => by
    obtain ⟨f, rfl⟩ : ∃ f, fu = f + 1 := ⟨fu - 1, by omega⟩
    have := big hr
    exact ⟨m, by rw [RM_byNight_L93, if_pos (by rw [n_le (by omega) (by omega)]; omega)], by rw [show List.range' t 0 = [] from rfl, acL, ac_0]; exact hS, Frm.rf⟩
  | d + 1, t, fu, m, s, hd, hf, hR, hS, hk, hb => by
    obtain ⟨f, rfl⟩ : ∃ f, fu = f + 1 := ⟨fu - 1, by omega⟩
    have hB := big hr
    have hn := H.2.2.1
    have et : nI t + 1 = nI (t + 1) := by rw [k1, n_add]
    have eT : nI T / 2 = nI (T / 2) := by rw [k2, div_n (by omega) (by omega) (by omega)]
    have cm : (nI t = nI (T / 2)) ↔ t = (2 * r + 1) * (2 * r + 1) / 2 := by rw [n_eq (by omega) (by omega), hT]
    rw [List.range'_succ, acL, ← ac_as] at hb ⊢
    have hb0 : s.1 < 2147483648 := by simp only [ac] at hb; omega
    by_cases z : t = (2 * r + 1) * (2 * r + 1) / 2
    · have ef : f1n b N n r lw ed X Y c t = ac0 := by unfold f1n; rw [plc_mid z]
      rw [ef, ac_0] at hb ⊢
      obtain ⟨m', e, S, F⟩ := l93_loop (kx := kx) H hk3 hr hc hT d (t + 1) f m s (by omega) (by omega) hR hS hk hb
      exact ⟨m', by rw [RM_byNight_L93, if_neg (by rw [n_le (by omega) (by omega)]; omega), eT, if_pos (cm.mpr z), et]; exact e, S, F⟩
    · obtain ⟨m1, e1, P1, F1⟩ := hR.look H hk3
      have R1 := hR.fr (F1.mo (wL_sub rfl))
      obtain ⟨m4, e4, P4, F4⟩ := tries_eq (t := t) H hk3 hr hc (by omega) R1 P1
      have G4 : Frm Lsk [] m m4 := F1.tr (F4.mo (wL_sub rfl))
      have R4 := hR.fr (G4.mo (wL_sub rfl))
      have S4 := hS.fr G4
      have e0 : RM_byNight_L93 (nI k) (nI r) (nI T) (nI c) kx (f + 1) m (nI t) = if b2i (decide (0 ≤ pxz r X c t ∧ pxz r X c t ≤ 20 ∧ 0 ≤ pyz r Y c t ∧ pyz r Y c t ≤ 20)) = 0 then RM_byNight_L93 (nI k) (nI r) (nI T) (nI c) kx f m4 (nI (t + 1)) else (bI (RM_areUnlikeCorners m4) fun v6 =>
          if v6 = 0 then RM_byNight_L93 (nI k) (nI r) (nI T) (nI c) kx f m4 (nI (t + 1))
          else (bV (RM_areSo m4) fun v8 m9 =>
          if v8 = 0 then RM_byNight_L93 (nI k) (nI r) (nI T) (nI c) kx f m9 (nI (t + 1))
          else (bM (RM_found m9 (nI c) (-1)) fun m11 =>
          RM_byNight_L93 (nI k) (nI r) (nI T) (nI c) kx f m11 (nI (t + 1))))) := by
        rw [RM_byNight_L93, if_neg (by rw [n_le (by omega) (by omega)]; omega), eT, if_neg (fun w => z (cm.mp w)), e1, bM_s, e4, bV_s, et]
      rw [e0]
      by_cases w : 0 ≤ pxz r X c t ∧ pxz r X c t ≤ 20 ∧ 0 ≤ pyz r Y c t ∧ pyz r Y c t ≤ 20
      · obtain ⟨x, hx⟩ : ∃ x : Nat, pxz r X c t = (x : Int) := ⟨(pxz r X c t).toNat, by omega⟩
        obtain ⟨y, hy⟩ : ∃ y : Nat, pyz r Y c t = (y : Int) := ⟨(pyz r Y c t).toNat, by omega⟩
        have ef : f1n b N n r lw ed X Y c t = oneI (ok1n b N n lw ed X Y c (x, y)) 1 [c, x, y] := by unfold f1n; rw [plc_no z, if_pos w, hx, hy]; rfl
        rw [hx, hy] at P4
        rw [decide_eq_true w, if_neg (show ¬ b2i true = 0 by decide), unlike_eq P4, bI_s]
        cases hu : unlB n (upz X c x) (upz Y c y) with
        | false =>
          have ef2 : f1n b N n r lw ed X Y c t = ac0 := by rw [ef]; unfold ok1n oneI; simp only [hu, Bool.false_and]; rfl
          rw [ef2, ac_0] at hb ⊢
          obtain ⟨m', e, S, F⟩ := l93_loop (kx := kx) H hk3 hr hc hT d (t + 1) f m4 s (by omega) (by omega) R4 S4 hk hb
          exact ⟨m', by rw [if_pos (show b2i false = 0 from rfl)]; exact e, S, (G4.mo (wL_sub rfl)).tr F⟩
        | true =>
          obtain ⟨m9, e9, F9⟩ := so_eq H R4 P4
          have G9 : Frm Lsk [] m m9 := G4.tr (F9.mo (wL_sub rfl))
          have R9 := hR.fr (G9.mo (wL_sub rfl))
          have S9 := hS.fr G9
          have P9 : Pz m9 n (upz X c x) (upz Y c y) := P4.fr F9 rfl (fun _ => rfl) (fun _ => rfl)
          rw [if_neg (show ¬ b2i true = 0 by decide), e9, bV_s]
          cases hs : soP b N lw ed n (upz X c x) (upz Y c y) with
          | false =>
            have ef2 : f1n b N n r lw ed X Y c t = ac0 := by rw [ef]; unfold ok1n oneI; simp only [hs, Bool.and_false]; rfl
            rw [ef2, ac_0] at hb ⊢
            obtain ⟨m', e, S, F⟩ := l93_loop (kx := kx) H hk3 hr hc hT d (t + 1) f m9 s (by omega) (by omega) R9 S9 hk hb
            exact ⟨m', by rw [if_pos (show b2i false = 0 from rfl)]; exact e, S, (G9.mo (wL_sub rfl)).tr F⟩
          | true =>
            have ef2 : f1n b N n r lw ed X Y c t = (1, some [c, x, y]) := by rw [ef]; unfold ok1n oneI; simp only [hs, hu, Bool.and_true]; rfl
            rw [ef2] at hb ⊢
            obtain ⟨p1, p2, -, -⟩ := P9.2.2 c (by omega)
            simp only [clz_lt (X := upz X c (x : Int)) hc, clz_lt (X := upz Y c (y : Int)) hc, upz_at] at p1 p2
            obtain ⟨m11, e11, S11, F11⟩ := found1 (p := (x, y)) S9 hk hb0 (show c < 13 by omega) (by simp only; omega) (by simp only; omega) p1 p2
            obtain ⟨m', e, S, F⟩ := l93_loop (kx := kx) H hk3 hr hc hT d (t + 1) f m11 _ (by omega) (by omega) (R9.fr (F11.mo (wL_sub rfl))) S11 (hk.ac (by unfold okA; simp)) hb
            exact ⟨m', by rw [if_neg (show ¬ b2i true = 0 by decide), e11, bM_s]; exact e, S, (G9.mo (wL_sub rfl)).tr ((F11.mo (wL_sub rfl)).tr F)⟩
      · have ef : f1n b N n r lw ed X Y c t = ac0 := by unfold f1n; rw [plc_no z, if_neg w]
        rw [ef, ac_0] at hb ⊢
        obtain ⟨m', e, S, F⟩ := l93_loop (kx := kx) H hk3 hr hc hT d (t + 1) f m4 s (by omega) (by omega) R4 S4 hk hb
        exact ⟨m', by rw [decide_eq_false w, if_pos (show b2i false = 0 from rfl)]; exact e, S, (G4.mo (wL_sub rfl)).tr F⟩
theorem R1_f1 (b : Nat → Nat) (N n r : Nat) (lw ed : Int32) (X Y : Nat → Int) (c : Nat) : acL (f1n b N n r lw ed X Y c) (List.range' 0 ((2 * r + 1) * (2 * r + 1))) = R1n b N n r lw ed X Y c := by
  unfold R1n
  show _ = acL _ (pls r X Y c ((2 * r + 1) * (2 * r + 1)))
  unfold pls
  rw [acL_fm, List.range_eq_range']
  refine acL_cong _ (fun t _ => ?_)
  unfold f1n mtc
  cases plc r X Y c t <;> rfl
theorem l76_loop {k N n r T : Nat} {b : Nat → Nat} {lw ed : Int32} {X Y : Nat → Int} {m0 : Mem} {kx : Mem → Option (Int32 × Mem)} (H : NXc N n b ed X Y) (hk3 : k < 3) (hr : 1 ≤ r ∧ r ≤ 3) (hT : T = (2 * r + 1) * (2 * r + 1)) : ∀ (d c fu : Nat) (m : Mem) (s : Ac), c + d = n → d < fu → RXn m k N n b lw ed X Y → SRn m0 m s → okA s → (ac s (acL (R1n b N n r lw ed X Y) (List.range' c d))).1 < 2147483648 → ∃ m', RM_byNight_L76 (nI k) (nI r) (nI T) kx fu m (nI c) = kx m' ∧ SRn m0 m' (ac s (acL (R1n b N n r lw ed X Y) (List.range' c d))) ∧ Frm Lrf [] m m'
  | 0, c, fu, m, s, hd, hf, hR, hS, hk, hb => by
    obtain ⟨f, rfl⟩ : ∃ f, fu = f + 1 := ⟨fu - 1, by omega⟩
    have hn := H.2.2.1
    have e11 : 11 + nI k = nI (11 + k) := by rw [k11, n_add]
    exact ⟨m, by rw [RM_byNight_L76, e11, if_pos (n_in (show 11 + k < 116 by omega) (by omega)), n_ixn (by omega), hR.1, if_pos (by rw [n_le (by omega) (by omega)]; omega)], by rw [show List.range' c 0 = [] from rfl, acL, ac_0]; exact hS, Frm.rf⟩
  | d + 1, c, fu, m, s, hd, hf, hR, hS, hk, hb => by
    obtain ⟨f, rfl⟩ : ∃ f, fu = f + 1 := ⟨fu - 1, by omega⟩
    have hn := H.2.2.1
    have hc : c < n := by omega
    have hB := big hr
    have e11 : 11 + nI k = nI (11 + k) := by rw [k11, n_add]
    have ec : nI c + 1 = nI (c + 1) := by rw [k1, n_add]
    rw [List.range'_succ, acL, ← ac_as] at hb ⊢
    have hb0 : (ac s (R1n b N n r lw ed X Y c)).1 < 2147483648 := by simp only [ac] at hb ⊢; omega
    rw [← R1_f1, ← hT] at hb0
    obtain ⟨m1, e1, S1, F1⟩ := l93_loop (kx := fun m2 => RM_byNight_L76 (nI k) (nI r) (nI T) kx f m2 (nI c + 1)) H hk3 hr hc hT T 0 FU m s (by omega) (by unfold FU; omega) hR hS hk hb0
    rw [hT, R1_f1] at S1
    obtain ⟨m', e, S, F⟩ := l76_loop (kx := kx) H hk3 hr hT d (c + 1) f m1 _ (by omega) (by omega) (hR.fr F1) S1 (hk.ac (R1_ok ..)) hb
    refine ⟨m', ?_, S, F1.tr F⟩
    rw [show nI 0 = 0 from rfl] at e1
    rw [RM_byNight_L76, e11, if_pos (n_in (show 11 + k < 116 by omega) (by omega)), n_ixn (by omega), hR.1, if_neg (by rw [n_le (by omega) (by omega)]; omega), e1, ec]
    exact e

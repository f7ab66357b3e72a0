/-! by night: the reference's pairs -/
theorem upz_upz (X : Nat → Int) (c : Nat) (v w : Int) : upz (upz X c v) c w = upz X c w := by
  funext i
  unfold upz
  by_cases h : i = c
  · rw [if_pos h, if_pos h]
  · rw [if_neg h, if_neg h, if_neg h]
theorem upz_self (X : Nat → Int) (c : Nat) : upz X c (X c) = X := by
  funext i
  unfold upz
  by_cases h : i = c
  · rw [if_pos h, h]
  · rw [if_neg h]
abbrev f2n (b : Nat → Nat) (N n r : Nat) (lw ed : Int32) (X Y : Nat → Int) (i j : Nat) (p : Pl) (t : Nat) : Ac := mtc (plc r X Y j t) (fun q => oneI (ok2n b N n lw ed X Y i j p q) 1 [i, p.1, p.2, j, q.1, q.2])
theorem l256_loop {k N n r i j T : Nat} {b : Nat → Nat} {lw ed x6 : Int32} {X Y : Nat → Int} {m0 : Mem} {kx : Mem → Option (Int32 × Mem)} {p : Pl} (H : NXc N n b ed X Y) (hk3 : k < 3) (hr : 1 ≤ r ∧ r ≤ 3) (hi : i < n) (hj : j < n) (hij : i ≠ j) (o1 : p.1 ≤ 20) (o2 : p.2 ≤ 20) (hT : T = (2 * r + 1) * (2 * r + 1)) : ∀ (d t fu : Nat) (m : Mem) (s : Ac) (qx qy : Int), t + d = T → d < fu → RXn m k N n b lw ed X Y → Pz m n (upw X i p.1 j qx) (upw Y i p.2 j qy) → SRn m0 m s → okA s → (ac s (acL (f2n b N n r lw ed X Y i j p) (List.range' t d))).1 < 2147483648 → ∃ m', RM_byNight_L256 (nI k) (nI r) (nI T) (nI i) (nI j) x6 kx fu m (nI t) = kx m' ∧ SRn m0 m' (ac s (acL (f2n b N n r lw ed X Y i j p) (List.range' t d))) ∧ Frm Lrf [] m m'
  | 0, t, fu, m, s, qx, qy, hd, hf, hR, hP, hS, hk, hb => by
    obtain ⟨f, rfl⟩ : ∃ f, fu = f + 1 := ⟨fu - 1, by omega⟩
    have := big hr
    exact ⟨m, by rw [RM_byNight_L256, if_pos (by rw [n_le (by omega) (by omega)]; omega)], by rw [show List.range' t 0 = [] from rfl, acL, ac_0]; exact hS, Frm.rf⟩
  | d + 1, t, fu, m, s, qx, qy, hd, hf, hR, hP, hS, hk, hb => by
    obtain ⟨f, rfl⟩ : ∃ f, fu = f + 1 := ⟨fu - 1, by omega⟩
    have hB := big hr
    have hn := H.2.2.1
    have et : nI t + 1 = nI (t + 1) := by rw [k1, n_add]
    have eT : nI T / 2 = nI (T / 2) := by rw [k2, div_n (by omega) (by omega) (by omega)]
    have cm : (nI t = nI (T / 2)) ↔ t = (2 * r + 1) * (2 * r + 1) / 2 := by rw [n_eq (by omega) (by omega), hT]
    rw [List.range'_succ, acL, ← ac_as] at hb ⊢
    have hb0 : s.1 < 2147483648 := by simp only [ac] at hb; omega
    by_cases z : t = (2 * r + 1) * (2 * r + 1) / 2
    · have ef : f2n b N n r lw ed X Y i j p t = ac0 := by unfold f2n; rw [plc_mid z]
      rw [ef, ac_0] at hb ⊢
      obtain ⟨m', e, S, F⟩ := l256_loop (kx := kx) (x6 := x6) H hk3 hr hi hj hij o1 o2 hT d (t + 1) f m s qx qy (by omega) (by omega) hR hP hS hk hb
      exact ⟨m', by rw [RM_byNight_L256, if_neg (by rw [n_le (by omega) (by omega)]; omega), eT, if_pos (cm.mpr z), et]; exact e, S, F⟩
    · obtain ⟨m4, e4, P4, F4⟩ := tries_eq (t := t) H hk3 hr hj (by omega) hR hP
      have eu : ∀ (Z : Nat → Int) (a c v : Int), upz (upw Z i a j c) j v = upw Z i a j v := fun Z a c v => by unfold upw; rw [upz_upz]
      rw [eu, eu] at P4
      have G4 : Frm Lsk [] m m4 := F4.mo (wL_sub rfl)
      have R4 := hR.fr (G4.mo (wL_sub rfl))
      have S4 := hS.fr G4
      have e0 : RM_byNight_L256 (nI k) (nI r) (nI T) (nI i) (nI j) x6 kx (f + 1) m (nI t) = if b2i (decide (0 ≤ pxz r X j t ∧ pxz r X j t ≤ 20 ∧ 0 ≤ pyz r Y j t ∧ pyz r Y j t ≤ 20)) = 0 then RM_byNight_L256 (nI k) (nI r) (nI T) (nI i) (nI j) x6 kx f m4 (nI (t + 1)) else (bI (RM_areUnlikeCorners m4) fun v6 =>
          if v6 = 0 then RM_byNight_L256 (nI k) (nI r) (nI T) (nI i) (nI j) x6 kx f m4 (nI (t + 1))
          else (bV (RM_areSo m4) fun v8 m9 =>
          if v8 = 0 then RM_byNight_L256 (nI k) (nI r) (nI T) (nI i) (nI j) x6 kx f m9 (nI (t + 1))
          else (bM (RM_found m9 (nI i) (nI j)) fun m11 =>
          RM_byNight_L256 (nI k) (nI r) (nI T) (nI i) (nI j) x6 kx f m11 (nI (t + 1))))) := by
        rw [RM_byNight_L256, if_neg (by rw [n_le (by omega) (by omega)]; omega), eT, if_neg (fun w => z (cm.mp w)), e4, bV_s, et]
      rw [e0]
      by_cases w : 0 ≤ pxz r X j t ∧ pxz r X j t ≤ 20 ∧ 0 ≤ pyz r Y j t ∧ pyz r Y j t ≤ 20
      · obtain ⟨x, hx⟩ : ∃ x : Nat, pxz r X j t = (x : Int) := ⟨(pxz r X j t).toNat, by omega⟩
        obtain ⟨y, hy⟩ : ∃ y : Nat, pyz r Y j t = (y : Int) := ⟨(pyz r Y j t).toNat, by omega⟩
        have ef : f2n b N n r lw ed X Y i j p t = oneI (ok2n b N n lw ed X Y i j p (x, y)) 1 [i, p.1, p.2, j, x, y] := by unfold f2n; rw [plc_no z, if_pos w, hx, hy]; rfl
        rw [hx, hy] at P4
        rw [decide_eq_true w, if_neg (show ¬ b2i true = 0 by decide), unlike_eq P4, bI_s]
        cases hu : unlB n (upw X i p.1 j x) (upw Y i p.2 j y) with
        | false =>
          have ef2 : f2n b N n r lw ed X Y i j p t = ac0 := by rw [ef]; unfold ok2n oneI; simp only [hu, Bool.false_and]; rfl
          rw [ef2, ac_0] at hb ⊢
          obtain ⟨m', e, S, F⟩ := l256_loop (kx := kx) (x6 := x6) H hk3 hr hi hj hij o1 o2 hT d (t + 1) f m4 s x y (by omega) (by omega) R4 P4 S4 hk hb
          exact ⟨m', by rw [if_pos (show b2i false = 0 from rfl)]; exact e, S, (G4.mo (wL_sub rfl)).tr F⟩
        | true =>
          obtain ⟨m9, e9, F9⟩ := so_eq H R4 P4
          have G9 : Frm Lsk [] m m9 := G4.tr (F9.mo (wL_sub rfl))
          have R9 := hR.fr (G9.mo (wL_sub rfl))
          have S9 := hS.fr G9
          have P9 : Pz m9 n (upw X i p.1 j x) (upw Y i p.2 j y) := P4.fr F9 rfl (fun _ => rfl) (fun _ => rfl)
          rw [if_neg (show ¬ b2i true = 0 by decide), e9, bV_s]
          cases hs : soP b N lw ed n (upw X i p.1 j x) (upw Y i p.2 j y) with
          | false =>
            have ef2 : f2n b N n r lw ed X Y i j p t = ac0 := by rw [ef]; unfold ok2n oneI; simp only [hs, Bool.and_false]; rfl
            rw [ef2, ac_0] at hb ⊢
            obtain ⟨m', e, S, F⟩ := l256_loop (kx := kx) (x6 := x6) H hk3 hr hi hj hij o1 o2 hT d (t + 1) f m9 s x y (by omega) (by omega) R9 P9 S9 hk hb
            exact ⟨m', by rw [if_pos (show b2i false = 0 from rfl)]; exact e, S, (G9.mo (wL_sub rfl)).tr F⟩
          | true =>
            have ef2 : f2n b N n r lw ed X Y i j p t = (1, some [i, p.1, p.2, j, x, y]) := by rw [ef]; unfold ok2n oneI; simp only [hs, hu, Bool.and_true]; rfl
            rw [ef2] at hb ⊢
            obtain ⟨p1, p2, -, -⟩ := P9.2.2 i (by omega)
            obtain ⟨p3, p4, -, -⟩ := P9.2.2 j (by omega)
            simp only [clz_lt (X := upw X i (p.1 : Int) j (x : Int)) hi, clz_lt (X := upw Y i (p.2 : Int) j (y : Int)) hi, upw_i hij] at p1 p2
            simp only [clz_lt (X := upw X i (p.1 : Int) j (x : Int)) hj, clz_lt (X := upw Y i (p.2 : Int) j (y : Int)) hj, upw_j] at p3 p4
            obtain ⟨m11, e11, S11, F11⟩ := found2 (p := p) (q := (x, y)) S9 hk hb0 (show i < 13 by omega) (show j < 13 by omega) o1 o2 (by simp only; omega) (by simp only; omega) p1 p2 p3 p4
            obtain ⟨m', e, S, F⟩ := l256_loop (kx := kx) (x6 := x6) H hk3 hr hi hj hij o1 o2 hT d (t + 1) f m11 _ x y (by omega) (by omega) (R9.fr (F11.mo (wL_sub rfl))) (P9.fr F11 rfl (fun _ => rfl) (fun _ => rfl)) S11 (hk.ac (by unfold okA; simp)) hb
            exact ⟨m', by rw [if_neg (show ¬ b2i true = 0 by decide), e11, bM_s]; exact e, S, (G9.mo (wL_sub rfl)).tr ((F11.mo (wL_sub rfl)).tr F)⟩
      · have ef : f2n b N n r lw ed X Y i j p t = ac0 := by unfold f2n; rw [plc_no z, if_neg w]
        rw [ef, ac_0] at hb ⊢
        obtain ⟨m', e, S, F⟩ := l256_loop (kx := kx) (x6 := x6) H hk3 hr hi hj hij o1 o2 hT d (t + 1) f m4 s _ _ (by omega) (by omega) R4 P4 S4 hk hb
        exact ⟨m', by rw [decide_eq_false w, if_pos (show b2i false = 0 from rfl)]; exact e, S, (G4.mo (wL_sub rfl)).tr F⟩
abbrev f3n (b : Nat → Nat) (N n r : Nat) (lw ed : Int32) (X Y : Nat → Int) (i j : Nat) (t : Nat) : Ac := mtc (plc r X Y i t) (fun p => acL (f2n b N n r lw ed X Y i j p) (List.range' 0 ((2 * r + 1) * (2 * r + 1))))
theorem l218_loop {k N n r i j T : Nat} {b : Nat → Nat} {lw ed : Int32} {X Y : Nat → Int} {m0 : Mem} {kx : Mem → Option (Int32 × Mem)} (H : NXc N n b ed X Y) (hk3 : k < 3) (hr : 1 ≤ r ∧ r ≤ 3) (hi : i < n) (hj : j < n) (hij : i ≠ j) (hT : T = (2 * r + 1) * (2 * r + 1)) : ∀ (d t fu : Nat) (m : Mem) (s : Ac), t + d = T → d < fu → RXn m k N n b lw ed X Y → SRn m0 m s → okA s → (ac s (acL (f3n b N n r lw ed X Y i j) (List.range' t d))).1 < 2147483648 → ∃ m', RM_byNight_L218 (nI k) (nI r) (nI T) (nI i) (nI j) kx fu m (nI t) = kx m' ∧ SRn m0 m' (ac s (acL (f3n b N n r lw ed X Y i j) (List.range' t d))) ∧ Frm Lrf [] m m'
  | 0, t, fu, m, s, hd, hf, hR, hS, hk, hb => by
    obtain ⟨f, rfl⟩ : ∃ f, fu = f + 1 := ⟨fu - 1, by omega⟩
    have := big hr
    exact ⟨m, by rw [RM_byNight_L218, if_pos (by rw [n_le (by omega) (by omega)]; omega)], by rw [show List.range' t 0 = [] from rfl, acL, ac_0]; exact hS, Frm.rf⟩
  | d + 1, t, fu, m, s, hd, hf, hR, hS, hk, hb => by
    obtain ⟨f, rfl⟩ : ∃ f, fu = f + 1 := ⟨fu - 1, by omega⟩
    have hB := big hr
    have hn := H.2.2.1
    have et : nI t + 1 = nI (t + 1) := by rw [k1, n_add]
    have eT : nI T / 2 = nI (T / 2) := by rw [k2, div_n (by omega) (by omega) (by omega)]
    have cm : (nI t = nI (T / 2)) ↔ t = (2 * r + 1) * (2 * r + 1) / 2 := by rw [n_eq (by omega) (by omega), hT]
    rw [List.range'_succ, acL, ← ac_as] at hb ⊢
    obtain ⟨m1, e1, P1, F1⟩ := hR.look H hk3
    have R1 := hR.fr (F1.mo (wL_sub rfl))
    have S1 := hS.fr F1
    by_cases z : t = (2 * r + 1) * (2 * r + 1) / 2
    · have ef : f3n b N n r lw ed X Y i j t = ac0 := by unfold f3n; rw [plc_mid z]
      rw [ef, ac_0] at hb ⊢
      obtain ⟨m', e, S, F⟩ := l218_loop (kx := kx) H hk3 hr hi hj hij hT d (t + 1) f m1 s (by omega) (by omega) R1 S1 hk hb
      exact ⟨m', by rw [RM_byNight_L218, if_neg (by rw [n_le (by omega) (by omega)]; omega), e1, bM_s, eT, if_pos (cm.mpr z), et]; exact e, S, (F1.mo (wL_sub rfl)).tr F⟩
    · obtain ⟨m4, e4, P4, F4⟩ := tries_eq (t := t) H hk3 hr hi (by omega) R1 P1
      have G4 : Frm Lsk [] m m4 := F1.tr (F4.mo (wL_sub rfl))
      have R4 := hR.fr (G4.mo (wL_sub rfl))
      have S4 := hS.fr G4
      have e0 : RM_byNight_L218 (nI k) (nI r) (nI T) (nI i) (nI j) kx (f + 1) m (nI t) = if b2i (decide (0 ≤ pxz r X i t ∧ pxz r X i t ≤ 20 ∧ 0 ≤ pyz r Y i t ∧ pyz r Y i t ≤ 20)) = 0 then RM_byNight_L218 (nI k) (nI r) (nI T) (nI i) (nI j) kx f m4 (nI (t + 1)) else RM_byNight_L256 (nI k) (nI r) (nI T) (nI i) (nI j) (nI t) (fun m6 => RM_byNight_L218 (nI k) (nI r) (nI T) (nI i) (nI j) kx f m6 (nI (t + 1))) FU m4 0 := by
        rw [RM_byNight_L218, if_neg (by rw [n_le (by omega) (by omega)]; omega), e1, bM_s, eT, if_neg (fun w => z (cm.mp w)), e4, bV_s, et]
      rw [e0]
      by_cases w : 0 ≤ pxz r X i t ∧ pxz r X i t ≤ 20 ∧ 0 ≤ pyz r Y i t ∧ pyz r Y i t ≤ 20
      · obtain ⟨x, hx⟩ : ∃ x : Nat, pxz r X i t = (x : Int) := ⟨(pxz r X i t).toNat, by omega⟩
        obtain ⟨y, hy⟩ : ∃ y : Nat, pyz r Y i t = (y : Int) := ⟨(pyz r Y i t).toNat, by omega⟩
        have ef : f3n b N n r lw ed X Y i j t = acL (f2n b N n r lw ed X Y i j (x, y)) (List.range' 0 T) := by unfold f3n; rw [plc_no z, if_pos w, hx, hy, hT]; rfl
        rw [hx, hy] at P4
        have eW : upz X i (x : Int) = upw X i (x : Int) j (X j) ∧ upz Y i (y : Int) = upw Y i (y : Int) j (Y j) := by
          unfold upw
          have g1 : X j = upz X i (x : Int) j := by rw [upz_nn (fun z => hij z.symm)]
          have g2 : Y j = upz Y i (y : Int) j := by rw [upz_nn (fun z => hij z.symm)]
          constructor
          · conv => rhs; rw [g1]
            rw [upz_self]
          · conv => rhs; rw [g2]
            rw [upz_self]
        rw [eW.1, eW.2] at P4
        rw [ef] at hb ⊢
        have hb0 : (ac s (acL (f2n b N n r lw ed X Y i j (x, y)) (List.range' 0 T))).1 < 2147483648 := by simp only [ac] at hb ⊢; omega
        obtain ⟨m6, e6, S6, F6⟩ := l256_loop (m0 := m0) (x6 := nI t) (p := (x, y)) (kx := fun m6 => RM_byNight_L218 (nI k) (nI r) (nI T) (nI i) (nI j) kx f m6 (nI (t + 1))) H hk3 hr hi hj hij (by simp only; omega) (by simp only; omega) hT T 0 FU m4 s _ _ (by omega) (by unfold FU; omega) R4 P4 S4 hk hb0
        obtain ⟨m', e, S, F⟩ := l218_loop (kx := kx) H hk3 hr hi hj hij hT d (t + 1) f m6 _ (by omega) (by omega) (R4.fr F6) S6 (hk.ac (okA_L _ (fun t' _ => by
          unfold f2n mtc
          cases plc r X Y j t' with
          | none => exact okA_0
          | some q => exact okA_one (Nat.le_refl 1)))) hb
        rw [show nI 0 = 0 from rfl] at e6
        exact ⟨m', by rw [decide_eq_true w, if_neg (show ¬ b2i true = 0 by decide), e6]; exact e, S, (G4.mo (wL_sub rfl)).tr (F6.tr F)⟩
      · have ef : f3n b N n r lw ed X Y i j t = ac0 := by unfold f3n; rw [plc_no z, if_neg w]
        rw [ef, ac_0] at hb ⊢
        obtain ⟨m', e, S, F⟩ := l218_loop (kx := kx) H hk3 hr hi hj hij hT d (t + 1) f m4 s (by omega) (by omega) R4 S4 hk hb
        exact ⟨m', by rw [decide_eq_false w, if_pos (show b2i false = 0 from rfl)]; exact e, S, (G4.mo (wL_sub rfl)).tr F⟩
theorem R2_f3 (b : Nat → Nat) (N n r : Nat) (lw ed : Int32) (X Y : Nat → Int) (i j : Nat) : acL (f3n b N n r lw ed X Y i j) (List.range' 0 ((2 * r + 1) * (2 * r + 1))) = R2n b N n r lw ed X Y i j := by
  unfold R2n
  show _ = acL _ (pls r X Y i ((2 * r + 1) * (2 * r + 1)))
  conv => rhs; unfold pls
  rw [acL_fm, List.range_eq_range']
  refine acL_cong _ (fun t _ => ?_)
  unfold f3n mtc
  cases plc r X Y i t with
  | none => rfl
  | some p =>
    show acL _ _ = acL _ (pls r X Y j ((2 * r + 1) * (2 * r + 1)))
    unfold pls
    rw [acL_fm, List.range_eq_range']
    refine acL_cong _ (fun t _ => ?_)
    unfold f2n mtc
    cases plc r X Y j t <;> rfl
theorem l201_loop {k N n r i T : Nat} {b : Nat → Nat} {lw ed : Int32} {X Y : Nat → Int} {m0 : Mem} {kx : Mem → Option (Int32 × Mem)} (H : NXc N n b ed X Y) (hk3 : k < 3) (hr : 1 ≤ r ∧ r ≤ 3) (hi : i < n) (hT : T = (2 * r + 1) * (2 * r + 1)) : ∀ (d j fu : Nat) (m : Mem) (s : Ac), j + d = n → i < j → d < fu → RXn m k N n b lw ed X Y → SRn m0 m s → okA s → (ac s (acL (R2n b N n r lw ed X Y i) (List.range' j d))).1 < 2147483648 → ∃ m', RM_byNight_L201 (nI k) (nI r) (nI T) (nI i) kx fu m (nI j) = kx m' ∧ SRn m0 m' (ac s (acL (R2n b N n r lw ed X Y i) (List.range' j d))) ∧ Frm Lrf [] m m'
  | 0, j, fu, m, s, hd, hij, hf, hR, hS, hk, hb => by
    obtain ⟨f, rfl⟩ : ∃ f, fu = f + 1 := ⟨fu - 1, by omega⟩
    have hn := H.2.2.1
    have e11 : 11 + nI k = nI (11 + k) := by rw [k11, n_add]
    exact ⟨m, by rw [RM_byNight_L201, e11, if_pos (n_in (show 11 + k < 116 by omega) (by omega)), n_ixn (by omega), hR.1, if_pos (by rw [n_le (by omega) (by omega)]; omega)], by rw [show List.range' j 0 = [] from rfl, acL, ac_0]; exact hS, Frm.rf⟩
  | d + 1, j, fu, m, s, hd, hij, hf, hR, hS, hk, hb => by
    obtain ⟨f, rfl⟩ : ∃ f, fu = f + 1 := ⟨fu - 1, by omega⟩
    have hn := H.2.2.1
    have hj : j < n := by omega
    have hB := big hr
    have e11 : 11 + nI k = nI (11 + k) := by rw [k11, n_add]
    have ec : nI j + 1 = nI (j + 1) := by rw [k1, n_add]
    rw [List.range'_succ, acL, ← ac_as] at hb ⊢
    have hb0 : (ac s (R2n b N n r lw ed X Y i j)).1 < 2147483648 := by simp only [ac] at hb ⊢; omega
    rw [← R2_f3, ← hT] at hb0
    obtain ⟨m1, e1, S1, F1⟩ := l218_loop (kx := fun m2 => RM_byNight_L201 (nI k) (nI r) (nI T) (nI i) kx f m2 (nI j + 1)) H hk3 hr hi hj (by omega) hT T 0 FU m s (by omega) (by unfold FU; omega) hR hS hk hb0
    rw [hT, R2_f3] at S1
    obtain ⟨m', e, S, F⟩ := l201_loop (kx := kx) H hk3 hr hi hT d (j + 1) f m1 _ (by omega) (by omega) (by omega) (hR.fr F1) S1 (hk.ac (R2_ok ..)) hb
    refine ⟨m', ?_, S, F1.tr F⟩
    rw [show nI 0 = 0 from rfl] at e1
    rw [RM_byNight_L201, e11, if_pos (n_in (show 11 + k < 116 by omega) (by omega)), n_ixn (by omega), hR.1, if_neg (by rw [n_le (by omega) (by omega)]; omega), e1, ec]
    exact e
theorem l181_loop {k N n r T : Nat} {b : Nat → Nat} {lw ed : Int32} {X Y : Nat → Int} {m0 : Mem} {kx : Mem → Option (Int32 × Mem)} (H : NXc N n b ed X Y) (hk3 : k < 3) (hr : 1 ≤ r ∧ r ≤ 3) (hT : T = (2 * r + 1) * (2 * r + 1)) : ∀ (d i fu : Nat) (m : Mem) (s : Ac), i + d = n → d < fu → RXn m k N n b lw ed X Y → SRn m0 m s → okA s → (ac s (acL (Jn b N n r lw ed X Y) (List.range' i d))).1 < 2147483648 → ∃ m', RM_byNight_L181 (nI k) (nI r) (nI T) kx fu m (nI i) = kx m' ∧ SRn m0 m' (ac s (acL (Jn b N n r lw ed X Y) (List.range' i d))) ∧ Frm Lrf [] m m'
  | 0, i, fu, m, s, hd, hf, hR, hS, hk, hb => by
    obtain ⟨f, rfl⟩ : ∃ f, fu = f + 1 := ⟨fu - 1, by omega⟩
    have hn := H.2.2.1
    have e11 : 11 + nI k = nI (11 + k) := by rw [k11, n_add]
    exact ⟨m, by rw [RM_byNight_L181, e11, if_pos (n_in (show 11 + k < 116 by omega) (by omega)), n_ixn (by omega), hR.1, if_pos (by rw [n_le (by omega) (by omega)]; omega)], by rw [show List.range' i 0 = [] from rfl, acL, ac_0]; exact hS, Frm.rf⟩
  | d + 1, i, fu, m, s, hd, hf, hR, hS, hk, hb => by
    obtain ⟨f, rfl⟩ : ∃ f, fu = f + 1 := ⟨fu - 1, by omega⟩
    have hn := H.2.2.1
    have hi : i < n := by omega
    have e11 : 11 + nI k = nI (11 + k) := by rw [k11, n_add]
    have ec : nI i + 1 = nI (i + 1) := by rw [k1, n_add]
    rw [List.range'_succ, acL, ← ac_as] at hb ⊢
    have hb0 : (ac s (Jn b N n r lw ed X Y i)).1 < 2147483648 := by simp only [ac] at hb ⊢; omega
    obtain ⟨m1, e1, S1, F1⟩ := l201_loop (kx := fun m2 => RM_byNight_L181 (nI k) (nI r) (nI T) kx f m2 (nI i + 1)) H hk3 hr hi hT (n - (i + 1)) (i + 1) FU m s (by omega) (by omega) (by unfold FU; omega) hR hS hk hb0
    obtain ⟨m', e, S, F⟩ := l181_loop (kx := kx) H hk3 hr hT d (i + 1) f m1 _ (by omega) (by omega) (hR.fr F1) S1 (hk.ac (okA_L _ (fun j _ => R2_ok ..))) hb
    rw [ec] at e1
    refine ⟨m', ?_, S, F1.tr F⟩
    rw [RM_byNight_L181, e11, if_pos (n_in (show 11 + k < 116 by omega) (by omega)), n_ixn (by omega), hR.1, if_neg (by rw [n_le (by omega) (by omega)]; omega), letV_p, ec, e1]
    exact e

/-! by night: the reference -/
def RXn (m : Mem) (k N n : Nat) (b : Nat → Nat) (lw ed : Int32) (X Y : Nat → Int) : Prop := gI m 135 (11 + k) = nI n ∧ (∀ i, i < n → gI m 135 (14 + 24 * k + 2 * i) = iz (X i) ∧ gI m 135 (14 + 24 * k + 2 * i + 1) = iz (Y i)) ∧ gI m 133 43 = nI N ∧ (∀ t, t < 3 * N → gI m 152 t = nI (b t)) ∧ gI m 135 4 = lw ∧ gI m 135 5 = ed
abbrev Lrf : List (Nat × Nat) := [(133, 22), (133, 23), (133, 24), (133, 46), (133, 47), (139, 999999), (140, 999999), (153, 999999)]
theorem RXn.fr {m m' : Mem} {k N n : Nat} {b : Nat → Nat} {lw ed : Int32} {X Y : Nat → Int} (h : RXn m k N n b lw ed X Y) (F : Frm Lrf [] m m') : RXn m' k N n b lw ed X Y := by
  unfold RXn at *
  rw [F.I 135 (11 + k) rfl, F.I 133 43 rfl, F.I 135 4 rfl, F.I 135 5 rfl]
  simp only [fun j => F.I 135 j rfl, fun j => F.I 152 j rfl]
  exact h
abbrev Pz (m : Mem) (n : Nat) (X Y : Nat → Int) : Prop := PolyR m n (fun i => 2 * clz n X i) (fun i => 2 * clz n Y i)
def pxz (r : Nat) (X : Nat → Int) (c t : Nat) : Int := X c + ((t / (2 * r + 1) : Nat) : Int) - r
def pyz (r : Nat) (Y : Nat → Int) (c t : Nat) : Int := Y c + ((t % (2 * r + 1) : Nat) : Int) - r
theorem R_isP (x y : Int32) : RM_isPoint x y = OH_isPoint x y := by
  rcases isPoint_eq x y with ⟨h1, h2⟩ | ⟨a, b, _, _, _, _, h1, h2⟩
  · rw [h1, h2]
  · rw [h1, h2]
theorem clz_upz {n c i : Nat} {X : Nat → Int} {v : Int} (hn : 0 < n) (hi : i ≤ n) : clz n (upz X c v) i = if i = c ∧ i < n ∨ i = n ∧ c = 0 then v else clz n X i := by
  unfold clz upz
  by_cases q : i < n
  · rw [if_pos q, if_pos q]
    by_cases z : i = c
    · rw [if_pos z, if_pos (Or.inl ⟨z, q⟩)]
    · rw [if_neg z, if_neg (by omega)]
  · rw [if_neg q, if_neg q]
    by_cases z : 0 = c
    · rw [if_pos z, if_pos (Or.inr ⟨by omega, z.symm⟩)]
    · rw [if_neg z, if_neg (by omega)]
theorem tries_eq {m : Mem} {k N n r c t : Nat} {b : Nat → Nat} {lw ed : Int32} {X Y X' Y' : Nat → Int} (H : NXc N n b ed X Y) (hk : k < 3) (hr : 1 ≤ r ∧ r ≤ 3) (hc : c < n) (ht : t < (2 * r + 1) * (2 * r + 1)) (hR : RXn m k N n b lw ed X Y) (hP : Pz m n X' Y') : ∃ m', RM_tries m (nI k) (nI c) (nI t) (nI r) = some (b2i (decide (0 ≤ pxz r X c t ∧ pxz r X c t ≤ 20 ∧ 0 ≤ pyz r Y c t ∧ pyz r Y c t ≤ 20)), m') ∧ Pz m' n (upz X' c (pxz r X c t)) (upz Y' c (pyz r Y c t)) ∧ Frm [(139, 999999), (140, 999999)] [] m m' := by
  have hn := H.2.2.1
  have hn3 := H.2.1
  obtain ⟨q1, q2⟩ := H.2.2.2.2.2 c hc
  obtain ⟨a1, a2⟩ := hR.2.1 c hc
  have ht49 : t < 49 := by rcases (show r = 1 ∨ r = 2 ∨ r = 3 by omega) with rfl | rfl | rfl <;> omega
  have hd : t / (2 * r + 1) ≤ 2 * r := by
    have : t / (2 * r + 1) < 2 * r + 1 := Nat.div_lt_of_lt_mul ht
    omega
  have hm : t % (2 * r + 1) < 2 * r + 1 := Nat.mod_lt _ (by omega)
  have bx : bd 30 (pxz r X c t) := by unfold pxz; generalize t / (2 * r + 1) = u at hd ⊢; omega
  have bY : bd 30 (pyz r Y c t) := by unfold pyz; generalize t % (2 * r + 1) = u at hm ⊢; omega
  have e1 : (14 + (24 * nI k)) + (2 * nI c) = nI (14 + 24 * k + 2 * c) := by rw [k14, k24, k2, n_mul, n_mul, n_add, n_add]
  have e2 : nI (14 + 24 * k + 2 * c) + 1 = nI (14 + 24 * k + 2 * c + 1) := by rw [k1, n_add]
  have eR : 2 * nI r + 1 = nI (2 * r + 1) := by rw [k2, n_mul, k1, n_add]
  have ex : iz (X c) + nI (t / (2 * r + 1)) - nI r = iz (pxz r X c t) := by rw [nI_iz, nI_iz, iz_add, iz_sub]; rfl
  have ey : iz (Y c) + nI (t % (2 * r + 1)) - nI r = iz (pyz r Y c t) := by rw [nI_iz, nI_iz, iz_add, iz_sub]; rfl
  have c1 : inb (nI n) 13 := n_in (by omega) (by omega)
  let m8 := sI m 139 c (iz (2 * pxz r X c t))
  let m9 := sI m8 140 c (iz (2 * pyz r Y c t))
  have h9 : m9 = sI (sI m 139 c (iz (2 * pxz r X c t))) 140 c (iz (2 * pyz r Y c t)) := rfl
  let m10 := sI (sI m9 139 n (gI m9 139 0)) 140 n (gI m9 140 0)
  have h10 : m10 = sI (sI m9 139 n (gI m9 139 0)) 140 n (gI m9 140 0) := rfl
  have g22 : gI m9 133 22 = nI n := by rw [h9, gI_sI, if_neg (by omega), gI_sI, if_neg (by omega)]; exact hP.1
  have eC : RM_closes m9 = some m10 := by
    have g22' : gI (sI m9 139 n (gI m9 139 0)) 133 22 = nI n := by rw [gI_sI, if_neg (by omega), g22]
    have g0 : gI (sI m9 139 n (gI m9 139 0)) 140 0 = gI m9 140 0 := by rw [gI_sI, if_neg (by omega)]
    rw [RM_closes, if_pos (show inb 0 13 by decide), g22, if_pos c1, n_ixn (by omega), show ixn 0 = 0 from rfl, letM_o, g22', if_pos c1, n_ixn (by omega), g0, letM_o]
  refine ⟨m10, ?_, ⟨?_, hn, fun i hi => ?_⟩, (Frm.sI rfl rfl).tr ((Frm.sI rfl rfl).tr ((Frm.sI rfl rfl).tr (Frm.sI rfl rfl)))⟩
  · rw [RM_tries, letV_p, eR, e1, if_pos (n_in (show 14 + 24 * k + 2 * c < 116 by omega) (by omega)), if_pos (show ¬ nI (2 * r + 1) = 0 by rw [k0, n_eq (by omega) (by omega)]; omega), n_ixn (show 14 + 24 * k + 2 * c < 2147483648 by omega), a1, div_n (by omega) (by omega) (by omega), ex, letV_p, e2, if_pos (n_in (show 14 + 24 * k + 2 * c + 1 < 116 by omega) (by omega)), n_ixn (show 14 + 24 * k + 2 * c + 1 < 2147483648 by omega), a2, irm_n (by omega) (by omega) (by omega), ey, letV_p, if_pos (n_in (show c < 13 by omega) (by omega)), n_ixn (show c < 2147483648 by omega), i2, iz_mul, iz_mul, letM_p, letM_p]
    show bM (RM_closes m9) _ = _
    rw [eC, bM_s, R_isP, isP_iz (by omega) (by omega), if_pos b2i_z]
  · rw [h10, gI_sI, if_neg (by omega), gI_sI, if_neg (by omega), g22]
  · obtain ⟨p1, p2, p3, p4⟩ := hP.2.2 i hi
    obtain ⟨z1, z2, z3, z4⟩ := hP.2.2 0 (by omega)
    obtain ⟨w1, w2, w3, w4⟩ := hP.2.2 n (by omega)
    have cz : clz n X' n = clz n X' 0 ∧ clz n Y' n = clz n Y' 0 := by unfold clz; rw [if_neg (by omega), if_pos (by omega), if_neg (by omega), if_pos (by omega)]; exact ⟨rfl, rfl⟩
    have g9 : ∀ i, gI m9 139 i = (if i = c then iz (2 * pxz r X c t) else gI m 139 i) ∧ gI m9 140 i = if i = c then iz (2 * pyz r Y c t) else gI m 140 i := fun i => by
      constructor
      · rw [h9, gI_sI, if_neg (by omega), gI_sI]
        by_cases z : i = c
        · rw [if_pos ⟨rfl, z⟩, if_pos z]
        · rw [if_neg (fun y => z y.2), if_neg z]
      · rw [h9, gI_sI]
        by_cases z : i = c
        · rw [if_pos ⟨rfl, z⟩, if_pos z]
        · rw [if_neg (fun y => z y.2), if_neg z, gI_sI, if_neg (by omega)]
    have g10 : gI m10 139 i = (if i = n then gI m9 139 0 else gI m9 139 i) ∧ gI m10 140 i = if i = n then gI m9 140 0 else gI m9 140 i := by
      constructor
      · rw [h10, gI_sI, if_neg (by omega), gI_sI]
        by_cases z : i = n
        · rw [if_pos ⟨rfl, z⟩, if_pos z]
        · rw [if_neg (fun y => z y.2), if_neg z]
      · rw [h10, gI_sI]
        by_cases z : i = n
        · rw [if_pos ⟨rfl, z⟩, if_pos z]
        · rw [if_neg (fun y => z y.2), if_neg z, gI_sI, if_neg (by omega)]
    simp only [clz_upz (X := X') (v := pxz r X c t) (c := c) (show 0 < n by omega) hi, clz_upz (X := Y') (v := pyz r Y c t) (c := c) (show 0 < n by omega) hi]
    rw [g10.1, g10.2, (g9 0).1, (g9 0).2, (g9 i).1, (g9 i).2]
    simp only at p1 p2 p3 p4 z1 z2 z3 z4
    by_cases q : i = n
    · subst q
      rw [if_pos rfl, if_pos rfl]
      by_cases z : 0 = c
      · rw [if_pos z, if_pos z, if_pos (Or.inr ⟨rfl, z.symm⟩), if_pos (Or.inr ⟨rfl, z.symm⟩)]
        exact ⟨rfl, rfl, by omega, by omega⟩
      · rw [if_neg z, if_neg z, if_neg (by omega), if_neg (by omega), cz.1, cz.2]
        exact ⟨z1, z2, z3, z4⟩
    · rw [if_neg q, if_neg q]
      by_cases z : i = c
      · rw [if_pos z, if_pos z, if_pos (Or.inl ⟨z, by omega⟩), if_pos (Or.inl ⟨z, by omega⟩)]
        exact ⟨rfl, rfl, by omega, by omega⟩
      · rw [if_neg z, if_neg z, if_neg (by omega), if_neg (by omega)]
        exact ⟨p1, p2, p3, p4⟩
theorem un_loop {m : Mem} {n : Nat} {X' Y' : Nat → Int} (hP : Pz m n X' Y') : ∀ (d i fu : Nat), i + d = n → d < fu → RM_areUnlikeCorners_L2 m (some 1) fu (nI i) = some (b2i (alN (fun e => !(decide (X' e = X' (nx n e) ∧ Y' e = Y' (nx n e)))) d i))
  | 0, i, fu, hd, hf => by
    obtain ⟨f, rfl⟩ : ∃ f, fu = f + 1 := ⟨fu - 1, by omega⟩
    have hn := hP.2.1
    rw [RM_areUnlikeCorners_L2, hP.1, if_pos (by rw [n_le (by omega) (by omega)]; omega)]; rfl
  | d + 1, i, fu, hd, hf => by
    obtain ⟨f, rfl⟩ : ∃ f, fu = f + 1 := ⟨fu - 1, by omega⟩
    have hn := hP.2.1
    obtain ⟨p1, p2, p3, p4⟩ := hP.2.2 i (by omega)
    obtain ⟨z1, z2, z3, z4⟩ := hP.2.2 (i + 1) (by omega)
    have ih := un_loop hP d (i + 1) f (by omega) (by omega)
    have ei : nI i + 1 = nI (i + 1) := by rw [k1, n_add]
    simp only [clz_lt (X := X') (show i < n by omega), clz_lt (X := Y') (show i < n by omega), clz_nx (X := X') (show i < n by omega), clz_nx (X := Y') (show i < n by omega)] at p1 p2 p3 p4 z1 z2 z3 z4
    rw [RM_areUnlikeCorners_L2, hP.1, if_neg (by rw [n_le (by omega) (by omega)]; omega), if_pos (n_in (by omega) (by omega)), ei, if_pos (n_in (by omega) (by omega)), n_ixn (by omega), n_ixn (by omega), p1, p2, z1, z2, ih]
    simp only [alN]
    have q1 : (iz (2 * X' i) = iz (2 * X' (nx n i))) ↔ X' i = X' (nx n i) := by rw [iz_eq (by omega) (by omega)]; omega
    have q2 : (iz (2 * Y' i) = iz (2 * Y' (nx n i))) ↔ Y' i = Y' (nx n i) := by rw [iz_eq (by omega) (by omega)]; omega
    by_cases a : X' i = X' (nx n i)
    · by_cases c : Y' i = Y' (nx n i)
      · rw [if_pos (q1.mpr a), if_pos (q2.mpr c), decide_eq_true ⟨a, c⟩]; rfl
      · rw [if_pos (q1.mpr a), if_neg (fun z => c (q2.mp z)), decide_eq_false (fun z => c z.2), Bool.not_false, Bool.true_and]
    · rw [if_neg (fun z => a (q1.mp z)), decide_eq_false (fun z => a z.1), Bool.not_false, Bool.true_and]
theorem unlike_eq {m : Mem} {n : Nat} {X' Y' : Nat → Int} (hP : Pz m n X' Y') : RM_areUnlikeCorners m = some (b2i (unlB n X' Y')) := un_loop hP n 0 FU (by omega) (by have := hP.2.1; unfold FU; omega)
theorem so_eq {m : Mem} {k N n : Nat} {b : Nat → Nat} {lw ed : Int32} {X Y X' Y' : Nat → Int} (H : NXc N n b ed X Y) (hR : RXn m k N n b lw ed X Y) (hP : Pz m n X' Y') : ∃ m', RM_areSo m = some (b2i (soP b N lw ed n X' Y'), m') ∧ Frm Lrd [] m m' := by
  obtain ⟨m', e, F⟩ := areSo_eq H.2.2.2.1 H.1 hP hR.2.2.1 hR.2.2.2.1
  refine ⟨m', ?_, F⟩
  rw [e, hR.2.2.2.2.1, hR.2.2.2.2.2]
  unfold soP
  rw [soB_cong (g := fun x y => hisP lw ed (clz n X') (clz n Y') x y n) N 0 (fun i _ _ => hisP_two ..)]
/-- what the reference has found -/
def SRn (m0 m : Mem) (s : Ac) : Prop := gI m 133 47 = nI s.1 ∧ (s.2 = none → gI m 133 46 = gI m0 133 46 ∧ ∀ i, gI m 153 i = gI m0 153 i) ∧ ∀ w, s.2 = some w → gI m 133 46 = nI (w.length / 3) ∧ ∀ i x, w[i]? = some x → gI m 153 i = nI x
abbrev Lfr : List (Nat × Nat) := [(133, 46), (133, 47), (153, 999999)]
theorem half {a : Nat} (h : a ≤ 20) : iz (2 * (a : Int)) / 2 = nI a := by
  rw [show iz (2 * (a : Int)) = nI (2 * a) by rw [nI_iz]; congr 1, k2, div_n (by omega) (by omega) (by omega)]
  congr 1; omega
theorem SRn.more {m0 m : Mem} {s : Ac} (h : SRn m0 m s) (hk : okA s) {w : List Nat} (q : s.1 ≠ 0) : SRn m0 (sI m 133 47 (nI (s.1 + 1))) (ac s (1, some w)) := by
  obtain ⟨w0, hw0⟩ : ∃ w, s.2 = some w := by
    cases z : s.2 with
    | none => exact absurd (hk.mpr z) q
    | some w => exact ⟨w, rfl⟩
  refine ⟨?_, fun z => ?_, fun w' hw => ?_⟩
  · rw [gI_sI, if_pos ⟨rfl, rfl⟩]; rfl
  · simp [ac, hw0] at z
  · have e : w0 = w' := by simp [ac, hw0] at hw; exact hw
    subst e
    rw [gI_sI, if_neg (by omega)]
    refine ⟨(h.2.2 _ hw0).1, fun i x hx => ?_⟩
    rw [gI_sI, if_neg (by omega)]
    exact (h.2.2 _ hw0).2 i x hx
theorem found1 {m0 m : Mem} {s : Ac} {c : Nat} {p : Pl} (h : SRn m0 m s) (hk : okA s) (hb : s.1 < 2147483648) (hc : c < 13) (h1 : p.1 ≤ 20) (h2 : p.2 ≤ 20) (g1 : gI m 139 c = iz (2 * (p.1 : Int))) (g2 : gI m 140 c = iz (2 * (p.2 : Int))) : ∃ m', RM_found m (nI c) (-1) = some m' ∧ SRn m0 m' (ac s (1, some [c, p.1, p.2])) ∧ Frm Lfr [] m m' := by
  have e0 : (gI m 133 47 = 0) ↔ s.1 = 0 := by rw [h.1, k0, n_eq hb (by omega)]
  by_cases q : s.1 = 0
  · have hn := hk.mp q
    let m3 := sI (sI m 133 46 1) 153 0 (nI c)
    have h3 : m3 = sI (sI m 133 46 1) 153 0 (nI c) := rfl
    let m6 := sI m3 153 1 (nI p.1)
    have h6 : m6 = sI m3 153 1 (nI p.1) := rfl
    let m8 := sI m6 153 2 (nI p.2)
    have h8 : m8 = sI m6 153 2 (nI p.2) := rfl
    have x1 : gI m3 139 c = iz (2 * (p.1 : Int)) := by rw [h3, gI_sI, if_neg (by omega), gI_sI, if_neg (by omega), g1]
    have x2 : gI m6 140 c = iz (2 * (p.2 : Int)) := by rw [h6, gI_sI, if_neg (by omega), h3, gI_sI, if_neg (by omega), gI_sI, if_neg (by omega), g2]
    have x3 : gI m8 133 47 = nI 0 := by rw [h8, gI_sI, if_neg (by omega), h6, gI_sI, if_neg (by omega), h3, gI_sI, if_neg (by omega), gI_sI, if_neg (by omega), h.1, q]
    refine ⟨sI m8 133 47 (nI 1), ?_, ⟨?_, fun z => ?_, fun w hw => ?_⟩, (Frm.sI rfl rfl).tr ((Frm.sI rfl rfl).tr ((Frm.sI rfl rfl).tr ((Frm.sI rfl rfl).tr (Frm.sI rfl rfl))))⟩
    · rw [RM_found, if_pos (e0.mpr q), if_neg (show ¬ (0 : Int32) ≤ -1 by decide), RM_found_J17, letM_o, if_pos (show inb 0 6 by decide), show ixn 0 = 0 from rfl, letM_o, if_pos (n_in hc (by omega)), if_pos (show inb 1 6 by decide), show ixn 1 = 1 from rfl, n_ixn (by omega)]
      show letM (sI m3 153 1 (gI m3 139 c / 2)) _ = _
      rw [x1, half h1, letM_o, if_pos (show inb 2 6 by decide), show ixn 2 = 2 from rfl]
      show letM (sI m6 153 2 (gI m6 140 c / 2)) _ = _
      rw [x2, half h2, letM_o, if_pos (show (-1 : Int32) < 0 by decide)]
      show letM (sI m8 133 47 (gI m8 133 47 + 1)) _ = _
      rw [x3, k1, n_add, letM_o]
    · rw [gI_sI, if_pos ⟨rfl, rfl⟩]; simp [ac, q]
    · simp [ac] at z
    · have e : w = [c, p.1, p.2] := by simp [ac, hn] at hw; exact hw.symm
      subst e
      constructor
      · rw [gI_sI, if_neg (by omega), h8, gI_sI, if_neg (by omega), h6, gI_sI, if_neg (by omega), h3, gI_sI, if_neg (by omega), gI_sI, if_pos ⟨rfl, rfl⟩, show [c, p.1, p.2].length / 3 = 1 by simp]; rfl
      · intro i x hx
        rw [gI_sI, if_neg (by omega), h8, gI_sI, h6, gI_sI, h3, gI_sI]
        match i, hx with
        | 0, hx => cases hx; rfl
        | 1, hx => cases hx; rfl
        | 2, hx => cases hx; rfl
  · refine ⟨sI m 133 47 (nI (s.1 + 1)), ?_, h.more hk q, Frm.sI rfl rfl⟩
    rw [RM_found, if_neg (fun z => q (e0.mp z)), h.1, k1, n_add, letM_o]
theorem found2 {m0 m : Mem} {s : Ac} {i j : Nat} {p q : Pl} (h : SRn m0 m s) (hk : okA s) (hb : s.1 < 2147483648) (hi : i < 13) (hj : j < 13) (h1 : p.1 ≤ 20) (h2 : p.2 ≤ 20) (h3 : q.1 ≤ 20) (h4 : q.2 ≤ 20) (g1 : gI m 139 i = iz (2 * (p.1 : Int))) (g2 : gI m 140 i = iz (2 * (p.2 : Int))) (g3 : gI m 139 j = iz (2 * (q.1 : Int))) (g4 : gI m 140 j = iz (2 * (q.2 : Int))) : ∃ m', RM_found m (nI i) (nI j) = some m' ∧ SRn m0 m' (ac s (1, some [i, p.1, p.2, j, q.1, q.2])) ∧ Frm Lfr [] m m' := by
  have e0 : (gI m 133 47 = 0) ↔ s.1 = 0 := by rw [h.1, k0, n_eq hb (by omega)]
  by_cases qq : s.1 = 0
  · have hn := hk.mp qq
    let m3 := sI (sI m 133 46 2) 153 0 (nI i)
    have h3' : m3 = sI (sI m 133 46 2) 153 0 (nI i) := rfl
    let m6 := sI m3 153 1 (nI p.1)
    have h6 : m6 = sI m3 153 1 (nI p.1) := rfl
    let m8 := sI m6 153 2 (nI p.2)
    have h8 : m8 = sI m6 153 2 (nI p.2) := rfl
    let m11 := sI m8 153 3 (nI j)
    have h11 : m11 = sI m8 153 3 (nI j) := rfl
    let m14 := sI m11 153 4 (nI q.1)
    have h14 : m14 = sI m11 153 4 (nI q.1) := rfl
    let m16 := sI m14 153 5 (nI q.2)
    have h16 : m16 = sI m14 153 5 (nI q.2) := rfl
    have F3 : Frm Lfr [] m m3 := (Frm.sI rfl rfl).tr (Frm.sI rfl rfl)
    have F6 : Frm Lfr [] m m6 := F3.tr (Frm.sI rfl rfl)
    have F8 : Frm Lfr [] m m8 := F6.tr (Frm.sI rfl rfl)
    have F11 : Frm Lfr [] m m11 := F8.tr (Frm.sI rfl rfl)
    have F14 : Frm Lfr [] m m14 := F11.tr (Frm.sI rfl rfl)
    have F16 : Frm Lfr [] m m16 := F14.tr (Frm.sI rfl rfl)
    have x1 : gI m3 139 i = iz (2 * (p.1 : Int)) := by rw [F3.I 139 _ rfl, g1]
    have x2 : gI m6 140 i = iz (2 * (p.2 : Int)) := by rw [F6.I 140 _ rfl, g2]
    have x4 : gI m11 139 j = iz (2 * (q.1 : Int)) := by rw [F11.I 139 _ rfl, g3]
    have x5 : gI m14 140 j = iz (2 * (q.2 : Int)) := by rw [F14.I 140 _ rfl, g4]
    have x3 : gI m16 133 47 = nI 0 := by
      rw [h16, gI_sI, if_neg (by omega), h14, gI_sI, if_neg (by omega), h11, gI_sI, if_neg (by omega), h8, gI_sI, if_neg (by omega), h6, gI_sI, if_neg (by omega), h3', gI_sI, if_neg (by omega), gI_sI, if_neg (by omega), h.1, qq]
    refine ⟨sI m16 133 47 (nI 1), ?_, ⟨?_, fun z => ?_, fun w hw => ?_⟩, F16.tr (Frm.sI rfl rfl)⟩
    · rw [RM_found, if_pos (e0.mpr qq), if_pos (show (0 : Int32) ≤ nI j by rw [k0, n_le (by omega) (by omega)]; omega), RM_found_J17, letM_o, if_pos (show inb 0 6 by decide), show ixn 0 = 0 from rfl, letM_o, if_pos (n_in hi (by omega)), if_pos (show inb 1 6 by decide), show ixn 1 = 1 from rfl, n_ixn (by omega)]
      show letM (sI m3 153 1 (gI m3 139 i / 2)) _ = _
      rw [x1, half h1, letM_o, if_pos (show inb 2 6 by decide), show ixn 2 = 2 from rfl]
      show letM (sI m6 153 2 (gI m6 140 i / 2)) _ = _
      rw [x2, half h2, letM_o, if_neg (show ¬ nI j < 0 by rw [k0, n_lt (by omega) (by omega)]; omega), if_pos (show inb 3 6 by decide), show ixn 3 = 3 from rfl, letM_o, if_pos (n_in hj (by omega)), if_pos (show inb 4 6 by decide), show ixn 4 = 4 from rfl, n_ixn (by omega)]
      show letM (sI m11 153 4 (gI m11 139 j / 2)) _ = _
      rw [x4, half h3, letM_o, if_pos (show inb 5 6 by decide), show ixn 5 = 5 from rfl]
      show letM (sI m14 153 5 (gI m14 140 j / 2)) _ = _
      rw [x5, half h4, letM_o]
      show letM (sI m16 133 47 (gI m16 133 47 + 1)) _ = _
      rw [x3, k1, n_add, letM_o]
    · rw [gI_sI, if_pos ⟨rfl, rfl⟩]; simp [ac, qq]
    · simp [ac] at z
    · have e : w = [i, p.1, p.2, j, q.1, q.2] := by simp [ac, hn] at hw; exact hw.symm
      subst e
      constructor
      · rw [gI_sI, if_neg (by omega), h16, gI_sI, if_neg (by omega), h14, gI_sI, if_neg (by omega), h11, gI_sI, if_neg (by omega), h8, gI_sI, if_neg (by omega), h6, gI_sI, if_neg (by omega), h3', gI_sI, if_neg (by omega), gI_sI, if_pos ⟨rfl, rfl⟩, show [i, p.1, p.2, j, q.1, q.2].length / 3 = 2 by simp]; rfl
      · intro i' x hx
        rw [gI_sI, if_neg (by omega), h16, gI_sI, h14, gI_sI, h11, gI_sI, h8, gI_sI, h6, gI_sI, h3', gI_sI]
        match i', hx with
        | 0, hx => cases hx; rfl
        | 1, hx => cases hx; rfl
        | 2, hx => cases hx; rfl
        | 3, hx => cases hx; rfl
        | 4, hx => cases hx; rfl
        | 5, hx => cases hx; rfl
  · refine ⟨sI m 133 47 (nI (s.1 + 1)), ?_, h.more hk qq, Frm.sI rfl rfl⟩
    rw [RM_found, if_neg (fun z => qq (e0.mp z)), h.1, k1, n_add, letM_o]

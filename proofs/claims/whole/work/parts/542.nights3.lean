/-- a change of the corners of all lines, with one act more that can be undone -/
theorem inv_changes {m M : Mem} {u : Nat} {N : Nat → Nat} {X' Y' : Nat → Nat → Int} (h : Inv m) (hu : u ≤ 8) (h40 : gI m 133 40 = nI u)
    (hNk : ∀ k, k < ixn (gI m 135 0) → gI m 135 (11 + k) = nI (N k) ∧ N k ≤ 12)
    (K : Kept m M u (gN m 13)) (hN : M.2.2 = m.2.2)
    (hO : ∀ c j, wL Lsc c j = false → c ≠ 4 → c ≠ 151 → c ≠ 135 → ¬ (c = 3 ∧ j = 1) → ¬ (c = 133 ∧ j = 40) → ¬ (c = gN m 13 ∧ (j = 12 ∨ j = 14)) → (∀ k, k < 3 → c ≠ gN m 13 + 2 + 3 * k + 1 ∧ c ≠ gN m 13 + 2 + 3 * k + 2) → gI M c j = gI m c j)
    (hJ : ∀ c j, wL Lsc c j = false → c ≠ 4 → c ≠ 151 → c ≠ 3 → c ≠ 133 → gJ M c j = gJ m c j)
    (h12 : gI M (gN m 13) 12 = gI M 135 6)
    (hR : ∀ j, j ≠ 6 → (j < 14 ∨ 86 ≤ j) → gI M 135 j = gI m 135 j)
    (hX : ∀ k, k < ixn (gI m 135 0) → ∀ i, i < N k → gI M 135 (14 + 24 * k + 2 * i) = iz (X' k i) ∧ gI M 135 (14 + 24 * k + 2 * i + 1) = iz (Y' k i) ∧ gI M (gN m 13 + 2 + 3 * k + 1) i = iz (X' k i) ∧ gI M (gN m 13 + 2 + 3 * k + 2) i = iz (Y' k i))
    (hB : ∀ k, k < ixn (gI m 135 0) → ∀ i, i < N k → (0 ≤ X' k i ∧ X' k i ≤ 20) ∧ (0 ≤ Y' k i ∧ Y' k i ≤ 20)) (hA : ∀ k, k < ixn (gI m 135 0) → ∀ i, i < N k → ¬ (X' k i = X' k (nx (N k) i) ∧ Y' k i = Y' k (nx (N k) i))) : Inv M := by
  have hUn := undo_keep h hu h40 K (fun j a b => hR j a (by omega))
  obtain ⟨hw, hT, hP, hW, hU, hI, hQ, hS⟩ := h
  have gNe : ∀ j, gN M j = gN m j := fun j => by unfold gN; rw [hN]
  have hp : gN m 13 = 101 ∨ gN m 13 = 117 := by rcases hw with q | q <;> omega
  have hp4 : gN m 13 = 68 ∨ gN m 13 = 84 ∨ gN m 13 = 101 ∨ gN m 13 = 117 := by omega
  have l3 : ixn (gI m 135 0) ≤ 3 := hW.1.le
  have eA : gI M 135 0 = gI m 135 0 := hR 0 (by omega) (by omega)
  have eB : gI M 135 1 = gI m 135 1 := hR 1 (by omega) (by omega)
  have l10 : ixn (gI m 135 1) ≤ 10 := hW.2.1.le
  have eC : ∀ k', k' < 3 → gI M 135 (11 + k') = gI m 135 (11 + k') := fun k' hk' => hR _ (by omega) (by omega)
  have nn : ∀ k, k < ixn (gI m 135 0) → ixn (gI m 135 (11 + k)) = N k := fun k hk => by rw [(hNk k hk).1, n_ixn (by have := (hNk k hk).2; omega)]
  have hO' : ∀ c j, c < 101 ∨ 133 ≤ c → wL Lsc c j = false → c ≠ 4 → c ≠ 151 → c ≠ 135 → ¬ (c = 3 ∧ j = 1) → ¬ (c = 133 ∧ j = 40) → gI M c j = gI m c j := fun c j b1 b2 b3 b4 b5 b6 b7 => hO c j b2 b3 b4 b5 b6 b7 (by omega) (fun k hk => by omega)
  refine ⟨?_, ?_, ?_, ?_, hUn, ?_, ?_, ?_⟩
  · unfold iNow; rw [gNe, gNe]; exact hw
  · unfold iTape
    have e2 : gI M 133 2 = gI m 133 2 := hO' 133 2 (by omega) rfl (by omega) (by omega) (by omega) (by omega) (by omega)
    rw [e2, hO' 1 1 (by omega) rfl (by omega) (by omega) (by omega) (by omega) (by omega)]
    refine ⟨hT.1, hT.2.1, fun i hi => ?_⟩
    rw [hO' 2 i (by omega) rfl (by omega) (by omega) (by omega) (by omega) (by omega), hO' 134 i (by omega) rfl (by omega) (by omega) (by omega) (by omega) (by omega)]
    exact hT.2.2 i hi
  · rw [gNe]
    obtain ⟨h1, h2, h3, h4, h5, h6, h7, h8, h9, h10⟩ := hP
    have pl : ∀ d j, gN m 13 ≤ d → d < gN m 13 + 16 → ¬ (d = gN m 13 ∧ (j = 12 ∨ j = 14)) → (∀ k, k < 3 → d ≠ gN m 13 + 2 + 3 * k + 1 ∧ d ≠ gN m 13 + 2 + 3 * k + 2) → gI M d j = gI m d j := fun d j a b c1 c2 => hO d j (lsc_par hp4 a b) (by omega) (by omega) (by omega) (by omega) (by omega) c1 c2
    have p0 : ∀ j, j < 12 → gI M (gN m 13) j = gI m (gN m 13) j := fun j hj => pl _ j (by omega) (by omega) (by omega) (fun k hk => by omega)
    have p1 : ∀ d j, 11 ≤ d → d < 16 → gI M (gN m 13 + d) j = gI m (gN m 13 + d) j := fun d j b1 b2 => pl _ j (by omega) (by omega) (by omega) (fun k hk => by omega)
    have r0 : ∀ j, j < 6 → gI M 135 j = gI m 135 j := fun j hj => hR j (by omega) (by omega)
    simp only [Nat.zero_add] at h2 h3 h4 h5 h6 h8 h9 h10
    unfold PRel
    simp only [Nat.zero_add]
    refine ⟨by rw [p0 _ (by omega), r0 _ (by omega)]; exact h1, by rw [p0 _ (by omega), r0 _ (by omega)]; exact h2, by rw [p0 _ (by omega), r0 _ (by omega)]; exact h3, by rw [p0 _ (by omega), r0 _ (by omega)]; exact h4, by rw [p0 _ (by omega), r0 _ (by omega)]; exact h5, by rw [p0 _ (by omega), r0 _ (by omega)]; exact h6, h12, fun t ht => ?_, fun t ht => ?_, fun t ht => ?_⟩
    · rw [p1 _ _ (by omega) (by omega), hR _ (by omega) (by omega)]; exact h8 t ht
    · rw [eA] at ht
      obtain ⟨a1, a2, a3⟩ := h9 t ht
      refine ⟨?_, ?_, fun i hi => ?_⟩
      · rw [pl _ _ (by omega) (by omega) (by omega) (fun k hk => by omega), eC t (by omega)]; exact a1
      · rw [hJ _ _ (lsc_par hp4 (by omega) (by omega)) (by omega) (by omega) (by omega) (by omega), hJ _ _ rfl (by omega) (by omega) (by omega) (by omega)]; exact a2
      · rw [eC t (by omega), nn t ht] at hi
        obtain ⟨x1, x2, x3, x4⟩ := hX t ht i (by omega)
        rw [x1, x2, x3, x4]; exact ⟨rfl, rfl⟩
    · rw [eB] at ht
      obtain ⟨a1, a2, a3, a4⟩ := h10 t ht
      refine ⟨?_, ?_, ?_, ?_⟩
      · rw [p1 _ _ (by omega) (by omega), hR _ (by omega) (by omega)]; exact a1
      · rw [p1 _ _ (by omega) (by omega), hR _ (by omega) (by omega)]; exact a2
      · rw [p1 _ _ (by omega) (by omega), hR _ (by omega) (by omega)]; exact a3
      · rw [hJ _ _ (lsc_par hp4 (by omega) (by omega)) (by omega) (by omega) (by omega) (by omega), hJ _ _ rfl (by omega) (by omega) (by omega) (by omega)]; exact a4
  · obtain ⟨w1, w2, w3, w4, w5, w6, w7, w8, w9⟩ := hW
    have r0 : ∀ j, j < 6 → gI M 135 j = gI m 135 j := fun j hj => hR j (by omega) (by omega)
    unfold WFs WFc at *
    simp only [Nat.zero_add] at w2 w3 w4 w5 w6 w7 w8 w9 ⊢
    refine ⟨by rw [r0 _ (by omega)]; exact w1, by rw [r0 _ (by omega)]; exact w2, by rw [r0 _ (by omega)]; exact w3, by rw [r0 _ (by omega)]; exact w4, by rw [r0 _ (by omega)]; exact w5, by rw [r0 _ (by omega)]; exact w6, fun t ht => ?_, fun t ht => ?_, fun t ht => ?_⟩
    · rw [hR _ (by omega) (by omega)]; exact w7 t ht
    · rw [eA] at ht
      obtain ⟨a1, a2, a3, a4⟩ := w8 t ht
      rw [eC t (by omega)]
      refine ⟨a1, a2, fun i hi => ?_, fun i hi => ?_⟩
      · rw [nn t ht] at hi
        obtain ⟨x1, x2, x3, x4⟩ := hX t ht i (by omega)
        have := hB t ht i (by omega)
        rw [x1, x2]; exact ⟨isN_iz this.1.1 this.1.2 (by omega), isN_iz this.2.1 this.2.2 (by omega)⟩
      · have lx := nx_lt hi
        rw [nn t ht] at hi lx ⊢
        obtain ⟨x1, x2, x3, x4⟩ := hX t ht i (by omega)
        obtain ⟨y1, y2, y3, y4⟩ := hX t ht (nx (N t) i) (by omega)
        have b1 := hB t ht i hi
        have b2 := hB t ht _ lx
        rw [x1, x2, y1, y2, iz_eq (by omega) (by omega), iz_eq (by omega) (by omega)]
        exact hA t ht i hi
    · rw [eB] at ht
      rw [hR _ (by omega) (by omega), hR _ (by omega) (by omega), hR _ (by omega) (by omega)]
      exact w9 t ht
  · have a159 : ∀ j, gI M 159 j = gI m 159 j := fun j => hO' 159 j (by omega) rfl (by omega) (by omega) (by omega) (by omega) (by omega)
    intro t ht
    obtain ⟨a1, a2, a3⟩ := hI t ht
    rw [hO' 100 t (by omega) rfl (by omega) (by omega) (by omega) (by omega) (by omega), hO' 161 t (by omega) rfl (by omega) (by omega) (by omega) (by omega) (by omega)]
    refine ⟨a1, a2, fun q => ⟨?_, (a3 q).2.cong a159⟩⟩
    refine (a3 q).1.cong a159 (fun j => hJ 160 j rfl (by omega) (by omega) (by omega) (by omega)) (fun d j d1 d2 => ⟨?_, ?_⟩) ?_
    · exact hO' d j (by omega) (lsc_par (p := 68 + 16 * t) (by omega) d1 d2) (by omega) (by omega) (by omega) (by omega) (by omega)
    · exact hJ d j (lsc_par (p := 68 + 16 * t) (by omega) d1 d2) (by omega) (by omega) (by omega) (by omega)
    · exact (a3 q).2.1.le
  · have o : ∀ c j, wL Lsc c j = false → c < 68 ∧ 4 < c ∨ c = 0 ∨ c = 133 ∧ j ≠ 40 ∨ 152 ≤ c ∨ c = 148 → gI M c j = gI m c j := fun c j a b => hO' c j (by omega) a (by omega) (by omega) (by omega) (by omega) (by omega)
    have o133 : ∀ j, wL Lsc 133 j = false → j ≠ 40 → gI M 133 j = gI m 133 j := fun j a b => o 133 j a (by omega)
    have oc : ∀ c, (∀ j, wL Lsc c j = false) → c < 68 ∧ 4 < c ∨ c = 0 ∨ 152 ≤ c ∨ c = 148 → ∀ j, gI M c j = gI m c j := fun c a b j => o c j (a j) (by omega)
    unfold iTold at hQ ⊢
    rw [o 0 15 rfl (by omega), o 0 16 rfl (by omega), o133 14 rfl (by omega), o133 27 rfl (by omega), o133 36 rfl (by omega), o133 52 rfl (by omega), o133 49 rfl (by omega), o133 45 rfl (by omega), o133 46 rfl (by omega), o 40 0 rfl (by omega), o 40 1 rfl (by omega)]
    simp only [oc 27 (fun _ => rfl) (by omega), oc 148 (fun _ => rfl) (by omega), oc 32 (fun _ => rfl) (by omega), oc 155 (fun _ => rfl) (by omega), oc 66 (fun _ => rfl) (by omega), oc 154 (fun _ => rfl) (by omega), oc 41 (fun _ => rfl) (by omega), oc 153 (fun _ => rfl) (by omega)]
    exact hQ
  · intro t ht
    rw [hJ 138 t rfl (by omega) (by omega) (by omega) (by omega)]
    exact hS t ht
theorem op_nights {m : Mem} (h : Inv m) (x y : Int32) : ∃ v m1 m2, OH_nights m x y = some (v, m1) ∧ RM_nights m1 x y = some (v, m2) ∧ Inv m2 := by
  have hI : Inv (sI m 133 0 0) := inv_frame fr0 h
  have out : (x < 1 ∨ ¬ x < 1 ∧ 200 < x) → RM_isIn x 1 200 = 0 → ∃ v m1 m2, OH_nights m x y = some (v, m1) ∧ RM_nights m1 x y = some (v, m2) ∧ Inv m2 := by
    intro q e
    refine ⟨-1, m, sI m 133 0 0, ?_, ?_, hI⟩
    · rw [OH_nights]
      rcases q with q | ⟨q, q'⟩
      · rw [if_pos q]
      · rw [if_neg q, if_pos q']
    · rw [RM_nights, letM_p, e, if_pos rfl]
  rcases spl x 201 (by omega) with hx | ⟨hx, hx2⟩ | ⟨T, hT, rfl⟩
  · have : x < 1 := by
      rw [Int32.lt_iff_toInt_lt] at hx ⊢
      have t0 : (0 : Int32).toInt = 0 := rfl
      have t1 : (1 : Int32).toInt = 1 := rfl
      omega
    exact out (Or.inl this) (isIn_lo this)
  · have q : ¬ x < 1 ∧ 200 < x := by
      rw [Int32.le_iff_toInt_le] at hx2
      rw [Int32.lt_iff_toInt_lt, Int32.lt_iff_toInt_lt]
      have t1 : (1 : Int32).toInt = 1 := rfl
      have t2 : (200 : Int32).toInt = 200 := rfl
      have t3 : (nI 201).toInt = 201 := rfl
      omega
    exact out (Or.inr q) (isIn_hi (n := 200) (by omega) hx2)
  · by_cases hT0 : T = 0
    · subst hT0
      exact out (Or.inl (by decide)) (isIn_lo (by decide))
    obtain ⟨L, hL3, eL⟩ := h.2.2.2.1.1.ex
    have hp : gN m 13 = 101 ∨ gN m 13 = 117 := by rcases h.1 with q | q <;> omega
    have e6 : gI m (gN m 13) 6 = nI L := by rw [h.2.2.1.1, eL]
    have c1 : ¬ nI T < 1 := by rw [k1, n_lt (by omega) (by omega)]; omega
    have c2 : ¬ (200 : Int32) < nI T := by rw [show (200 : Int32) = nI 200 from rfl, n_lt (by omega) (by omega)]; omega
    have eIn : RM_isIn (nI T) 1 200 = 1 := isIn_in (a := 1) (b := 200) (by omega) (by omega) (by omega)
    by_cases hL0 : L = 0
    · subst hL0
      refine ⟨-1, m, sI m 133 0 0, ?_, ?_, hI⟩
      · rw [OH_nights, if_neg c1, if_neg c2, e6, if_neg (by decide)]
      · have s0 : gI (sI m 133 0 0) 135 0 = nI 0 := by rw [gI_sI, if_neg (by omega), eL]
        rw [RM_nights, letM_p, eIn, if_neg (by decide), if_pos (by decide), show ixn 0 = 0 from rfl, s0, if_pos (by decide)]
    · obtain ⟨u, hu, u40, u31⟩ := undo_n h
      obtain ⟨mc, ec, k1', k2', k3', k4', Fc⟩ := keepC hu (show 68 ≤ gN m 13 by omega) u31
      have Nc : gN mc 13 = gN m 13 := Fc.N 13
      have Fc0 : ∀ d j, d ≠ 4 → ¬ (d = 3 ∧ j = 1) → gI mc d j = gI m d j ∧ gJ mc d j = gJ m d j := fun d j a1 a2 => by
        apply Fc.1 d j _ (fun _ q => by cases q)
        unfold wL
        simp
        omega
      have hD : ∀ k, ∃ r : Nat × (Nat → Int) × (Nat → Int), k < L → LineD m k r.1 r.2.1 r.2.2 := fun k => by
        by_cases q : k < L
        · obtain ⟨n, X, Y, D⟩ := lineD h (k := k) (by rw [eL, n_ixn (by omega)]; exact q)
          exact ⟨(n, X, Y), fun _ => D⟩
        · exact ⟨(0, fun _ => 0, fun _ => 0), fun z => absurd z q⟩
      obtain ⟨F, hF⟩ := Classical.axiomOfChoice hD
      obtain ⟨N, eN⟩ : ∃ N : Nat → Nat, N = fun k => (F k).1 := ⟨_, rfl⟩
      obtain ⟨X, eX⟩ : ∃ N : Nat → Nat → Int, N = fun k => (F k).2.1 := ⟨_, rfl⟩
      obtain ⟨Y, eY⟩ : ∃ N : Nat → Nat → Int, N = fun k => (F k).2.2 := ⟨_, rfl⟩
      have hL : ∀ k, k < L → LineD m k (N k) (X k) (Y k) := fun k hk => by rw [eN, eX, eY]; exact hF k hk
      clear hF eN eX eY F hD
      have ok : NOk L N X Y := ⟨by omega, hL3, fun k hk => by
        have D := hL k hk
        exact ⟨D.1, D.2.1, fun i hi => ⟨(D.2.2.2.1 i hi).2.2.1, (D.2.2.2.1 i hi).2.2.2⟩, D.2.2.2.2.2⟩⟩
      have RA : NA (sI mc (gN m 13) 14 y) (gN m 13) L N y (gI m 135 6) X Y := by
        refine ⟨by rw [gI_sI, if_pos ⟨rfl, rfl⟩], by rw [gI_sI, if_neg (by omega), (Fc0 _ _ (by omega) (by omega)).1]; exact h.2.2.1.2.2.2.2.2.2.1, by rw [gI_sI, if_neg (by omega), (Fc0 _ _ (by omega) (by omega)).1, e6], fun k hk => ?_⟩
        obtain ⟨-, -, -, -, ⟨d1, d2, d3⟩, -⟩ := hL k hk
        refine ⟨by rw [gI_sI, if_neg (by omega), (Fc0 _ _ (by omega) (by omega)).1]; exact d1, d2, fun i hi => ?_⟩
        rw [gI_sI, if_neg (by omega), (Fc0 _ _ (by omega) (by omega)).1, gI_sI, if_neg (by omega), (Fc0 _ _ (by omega) (by omega)).1]
        exact d3 i hi
      have RB : ∀ mB, gI mB 133 41 = y → (∀ j, gI mB 135 j = gI m 135 j) → NB mB L N y (gI m 135 6) X Y := by
        intro mB q1 q2
        refine ⟨q1, q2 6, by rw [q2, eL], fun k hk => ?_⟩
        obtain ⟨-, -, d1, d2, -, -⟩ := hL k hk
        refine ⟨by rw [q2, d1], fun i hi => ?_⟩
        rw [q2, q2]
        exact ⟨(d2 i hi).1, (d2 i hi).2.1⟩
      obtain ⟨mp, mB0, s0, q0, X0, Y0, ep, -, -, -, -, FAp, -⟩ := nights_loop (p := gN m 13) (v := gI mc (gN m 13) 12) (v' := gI m 135 6) (kx := fun m3 => some (((gI m3 (gN m 13) 12) - gI mc (gN m 13) 12), m3)) (kx' := fun m8 => some (0, m8)) (show T ≤ 200 by omega) T 0 FU (sI mc (gN m 13) 14 y) (sI m 133 41 y) y (gI m 135 6) X Y (by omega) (by unfold FU; omega) RA (RB _ (by rw [gI_sI, if_pos ⟨rfl, rfl⟩]) (fun j => by rw [gI_sI, if_neg (by omega)])) ok
      have mpI : ∀ c j, c ≠ 4 → ¬ (c = 3 ∧ j = 1) → ¬ (c = gN m 13 ∧ (j = 12 ∨ j = 14)) → (∀ k, k < 3 → c ≠ gN m 13 + 2 + 3 * k + 1 ∧ c ≠ gN m 13 + 2 + 3 * k + 2) → gI mp c j = gI m c j := fun c j a1 a2 a3 a4 => by
        rw [FAp.1 c j a3 a4, gI_sI, if_neg (by omega), (Fc0 c j a1 a2).1]
      have f1 : ∀ j, gI (sI mp 133 0 0) 135 j = gI m 135 j := fun j => by rw [gI_sI, if_neg (by omega), mpI _ _ (by omega) (by omega) (by omega) (fun k hk => by omega)]
      have f2 : ∀ j, gI (sI mp 133 0 0) 151 j = gI m 151 j := fun j => by rw [gI_sI, if_neg (by omega), mpI _ _ (by omega) (by omega) (by omega) (fun k hk => by omega)]
      have f3 : gI (sI mp 133 0 0) 133 40 = nI u := by rw [gI_sI, if_neg (by omega), mpI _ _ (by omega) (by omega) (by omega) (fun k hk => by omega), u40]
      obtain ⟨mr, er, r1', r2', r3', Fr⟩ := keepR hu f3
      have Fr0 : ∀ d j, d ≠ 151 → ¬ (d = 133 ∧ j = 40) → gI mr d j = gI (sI mp 133 0 0) d j ∧ gJ mr d j = gJ (sI mp 133 0 0) d j := fun d j a1 a2 => by
        apply Fr.1 d j _ (fun _ q => by cases q)
        unfold wL
        simp
        omega
      have g6 : gI (sI mr 133 41 y) 135 6 = gI m 135 6 := by rw [gI_sI, if_neg (by omega), (Fr0 _ _ (by omega) (by omega)).1, f1]
      obtain ⟨mp', M, s', q', X', Y', ep', eM, RA', RB', ok', FA', FB'⟩ := nights_loop (p := gN m 13) (v := gI mc (gN m 13) 12) (v' := gI m 135 6) (kx := fun m3 => some (((gI m3 (gN m 13) 12) - gI mc (gN m 13) 12), m3)) (kx' := fun m8 => if inb 6 116 then (some (((gI m8 135 (ixn 6)) - gI m 135 6), m8)) else none) (show T ≤ 200 by omega) T 0 FU (sI mc (gN m 13) 14 y) (sI mr 133 41 y) y (gI m 135 6) X Y (by omega) (by unfold FU; omega) RA (RB _ (by rw [gI_sI, if_pos ⟨rfl, rfl⟩]) (fun j => by rw [gI_sI, if_neg (by omega), (Fr0 _ _ (by omega) (by omega)).1, f1])) ok
      rw [ep] at ep'
      obtain rfl := (Prod.mk.inj (Option.some.inj ep')).2
      rw [show nI 0 = 0 from k0.symm] at ep eM
      have c12 : gI mc (gN m 13) 12 = gI m 135 6 := by rw [(Fc0 _ _ (by omega) (by omega)).1]; exact h.2.2.1.2.2.2.2.2.2.1
      have eO : OH_nights m (nI T) y = some (q' - gI m 135 6, mp) := by
        rw [OH_nights, if_neg c1, if_neg c2, e6, if_pos (by rw [k1, n_le (by omega) (by omega)]; omega), ec]
        rw [bM_s]
        rw [Nc, PH_passNights, letV_p, letM_p, ep, RA'.2.1, c12]
        rfl
      have eR : RM_nights mp (nI T) y = some (q' - gI m 135 6, M) := by
        rw [RM_nights, letM_p, eIn, if_neg (by decide), if_pos (by decide), show ixn 0 = 0 from rfl, f1, eL, if_neg (by rw [k0, n_eq (by omega) (by omega)]; omega), er]
        rw [bM_s]
        rw [letM_p, if_pos (by decide), letV_p, show ixn 6 = 6 from rfl, g6]
        rw [show ixn 6 = 6 from rfl] at eM
        rw [eM, if_pos (by decide), RB'.2.1]
      have MI : ∀ c j, ¬ (c = 133 ∧ (j = 41 ∨ j = 40 ∨ j = 0)) → c ≠ 151 → ¬ (c = 135 ∧ (j = 6 ∨ 14 ≤ j ∧ j < 86)) → gI M c j = gI mp c j := fun c j a1 a2 a3 => by
        rw [FB'.1 c j (by omega) a3, gI_sI, if_neg (by omega), (Fr0 c j a2 (by omega)).1, gI_sI, if_neg (by omega)]
      have MR : ∀ c j, ¬ (c = 133 ∧ j = 41) → c ≠ 135 → gI M c j = gI mr c j := fun c j a1 a3 => by
        rw [FB'.1 c j a1 (by omega), gI_sI, if_neg a1]
      have MC : ∀ c j, c < 68 → gI M c j = gI mc c j := fun c j a => by
        rw [MI c j (by omega) (by omega) (by omega), FAp.1 c j (by omega) (fun k hk => by omega), gI_sI, if_neg (by omega)]
      have eLL : ixn (gI m 135 0) = L := by rw [eL, n_ixn (by omega)]
      refine ⟨_, mp, M, eO, eR, inv_changes (N := N) (X' := X') (Y' := Y') h hu u40 ?_ ?_ ?_ ?_ ?_ ?_ ?_ ?_ ?_ ?_⟩
      · intro k hk
        rw [eLL] at hk
        exact ⟨(hL k hk).2.2.1, (hL k hk).2.1⟩
      · refine ⟨by rw [MC _ _ (by omega)]; exact k1', fun v hv s hs => by rw [MC _ _ (by omega)]; exact k2' v hv s hs, by rw [MC _ _ (by omega)]; exact k3', fun t ht j hj => by rw [MC _ _ (by omega), MC _ _ (by omega)]; exact k4' t ht j hj, by rw [MR _ _ (by omega) (by omega)]; exact r1', fun v hv s hs => by rw [MR _ _ (by omega) (by omega), r2' v hv s hs, f2], fun s hs => by rw [MR _ _ (by omega) (by omega), r3' s hs, f1]⟩
      · have z1 : M.2.2 = mr.2.2 := by rw [FB'.2]; rfl
        have z2 : mr.2.2 = mp.2.2 := Fr.2
        have z3 : mp.2.2 = mc.2.2 := by rw [FAp.2]; rfl
        rw [z1, z2, z3]
        exact Fc.2
      · intro c j a1 a2 a3 a4 a5 a6 a7 a8
        have a0 : ¬ (c = 133 ∧ j = 0) := by rintro ⟨rfl, rfl⟩; exact absurd a1 (by decide)
        have a41 : ¬ (c = 133 ∧ j = 41) := by rintro ⟨rfl, rfl⟩; exact absurd a1 (by decide)
        rw [MI c j (by omega) a3 (by omega), mpI c j a2 a5 a7 a8]
      · intro c j a1 a2 a3 a4 a5
        have z1 : gJ M c j = gJ mr c j := by unfold gJ; rw [FB'.2]; rfl
        have z3 : gJ mp c j = gJ mc c j := by unfold gJ; rw [FAp.2]; rfl
        rw [z1, (Fr0 c j a3 (by omega)).2, gJ_sI, z3, (Fc0 c j a2 (by omega)).2]
      · rw [MI _ _ (by omega) (by omega) (by omega), RA'.2.1, RB'.2.1]
      · intro j a1 a2
        rw [MI _ _ (by omega) (by omega) (by omega), mpI _ _ (by omega) (by omega) (by omega) (fun k hk => by omega)]
      · intro k hk i hi
        rw [eLL] at hk
        obtain ⟨-, -, p3⟩ := RA'.2.2.2 k hk
        obtain ⟨-, q3⟩ := RB'.2.2.2 k hk
        rw [MI (gN m 13 + 2 + 3 * k + 1) i (by omega) (by omega) (by omega), MI (gN m 13 + 2 + 3 * k + 2) i (by omega) (by omega) (by omega)]
        exact ⟨(q3 i hi).1, (q3 i hi).2, (p3 i hi).1, (p3 i hi).2.1⟩
      · intro k hk
        rw [eLL] at hk
        exact (ok'.2.2 k hk).2.2.1
      · intro k hk
        rw [eLL] at hk
        exact (ok'.2.2 k hk).2.2.2

/-! what a change of corners keeps -/
theorem isN_iz {z : Int} {n : Nat} (h0 : 0 ≤ z) (h1 : z ≤ n) (hn : n < 2147483648) : isN (iz z) n := by
  unfold isN
  rw [iz_toInt (by omega)]
  omega
theorem WFs.mv {m M : Mem} {c o c' o' : Nat} (hc : ∀ s, s < 116 → gI M c' (o' + s) = gI m c (o + s)) (h : WFs m c o) : WFs M c' o' := by
  obtain ⟨h1, h2, h3, h4, h5, h6, h7, h8, h9⟩ := h
  have e0 : gI M c' o' = gI m c o := hc 0 (by omega)
  have l3 : ixn (gI m c o) ≤ 3 := by obtain ⟨v, hv, ev⟩ := h1.ex; rw [ev, n_ixn (by omega)]; exact hv
  have l10 : ixn (gI m c (o + 1)) ≤ 10 := by obtain ⟨v, hv, ev⟩ := h2.ex; rw [ev, n_ixn (by omega)]; exact hv
  refine ⟨by rw [e0]; exact h1, by rw [hc 1 (by omega)]; exact h2, by rw [hc 2 (by omega)]; exact h3, by rw [hc 3 (by omega)]; exact h4, by rw [hc 4 (by omega)]; exact h5, by rw [hc 5 (by omega)]; exact h6, fun k hk => ?_, fun k hk => ?_, fun t ht => ?_⟩
  · rw [Nat.add_assoc, hc (7 + k) (by omega), ← Nat.add_assoc]; exact h7 k hk
  · rw [e0] at hk
    obtain ⟨a1, a2, a3, a4⟩ := h8 k hk
    have l12 : ixn (gI m c (o + 11 + k)) ≤ 12 := by obtain ⟨v, hv, ev⟩ := a2.ex; rw [ev, n_ixn (by omega)]; exact hv
    have en : gI M c' (o' + 11 + k) = gI m c (o + 11 + k) := by rw [Nat.add_assoc, hc (11 + k) (by omega), ← Nat.add_assoc]
    have ex : ∀ i, i < 12 → gI M c' (o' + 14 + 24 * k + 2 * i) = gI m c (o + 14 + 24 * k + 2 * i) ∧ gI M c' (o' + 14 + 24 * k + 2 * i + 1) = gI m c (o + 14 + 24 * k + 2 * i + 1) := by
      intro i hi
      refine ⟨?_, ?_⟩
      · rw [show o' + 14 + 24 * k + 2 * i = o' + (14 + 24 * k + 2 * i) by omega, hc _ (by omega), show o + 14 + 24 * k + 2 * i = o + (14 + 24 * k + 2 * i) by omega]
      · rw [show o' + 14 + 24 * k + 2 * i + 1 = o' + (14 + 24 * k + 2 * i + 1) by omega, hc _ (by omega), show o + 14 + 24 * k + 2 * i + 1 = o + (14 + 24 * k + 2 * i + 1) by omega]
    refine ⟨by rw [en]; exact a1, by rw [en]; exact a2, fun i hi => ?_, fun i hi => ?_⟩
    · rw [en] at hi
      rw [(ex i (by omega)).1, (ex i (by omega)).2]; exact a3 i hi
    · rw [en] at hi ⊢
      have := nx_lt hi
      rw [(ex i (by omega)).1, (ex i (by omega)).2, (ex _ (show nx (ixn (gI m c (o + 11 + k))) i < 12 by omega)).1, (ex _ (show nx (ixn (gI m c (o + 11 + k))) i < 12 by omega)).2]; exact a4 i hi
  · rw [hc 1 (by omega)] at ht
    have := h9 t ht
    rw [show o' + 86 + 3 * t = o' + (86 + 3 * t) by omega, hc _ (by omega), show o' + (86 + 3 * t) + 1 = o' + (86 + 3 * t + 1) by omega, hc _ (by omega), show o' + (86 + 3 * t) + 2 = o' + (86 + 3 * t + 2) by omega, hc _ (by omega)]
    rw [show o + 86 + 3 * t = o + (86 + 3 * t) by omega, show o + (86 + 3 * t) + 1 = o + (86 + 3 * t + 1) by omega, show o + (86 + 3 * t) + 2 = o + (86 + 3 * t + 2) by omega] at this
    exact this
/-- M is m with one act more that can be undone -/
def Kept (m M : Mem) (u p : Nat) : Prop :=
  gI M 3 1 = nI (u7 u + 1) ∧ (∀ v, v < u7 u → ∀ s, s < 73 → gI M 4 (73 * v + s) = gI m 4 (73 * (v + (u - u7 u)) + s)) ∧ gI M 4 (73 * u7 u) = gI m p 12 ∧ (∀ k, k < 3 → ∀ i, i < 12 → gI M 4 (73 * u7 u + 1 + 24 * k + i) = gI m (p + 2 + 3 * k + 1) i ∧ gI M 4 (73 * u7 u + 1 + 24 * k + 12 + i) = gI m (p + 2 + 3 * k + 2) i) ∧
  gI M 133 40 = nI (u7 u + 1) ∧ (∀ v, v < u7 u → ∀ s, s < 116 → gI M 151 (116 * v + s) = gI m 151 (116 * (v + (u - u7 u)) + s)) ∧ (∀ s, s < 116 → gI M 151 (116 * u7 u + s) = gI m 135 s)
theorem undo_keep {m M : Mem} {u : Nat} (h : Inv m) (hu : u ≤ 8) (h40 : gI m 133 40 = nI u) (K : Kept m M u (gN m 13)) (h135 : ∀ j, j ≠ 6 → (j < 14 ∨ 86 ≤ j) → gI M 135 j = gI m 135 j) : iUndo M := by
  obtain ⟨-, -, hP, hW, hU, -⟩ := h
  obtain ⟨k1', k2', k3', k4', k5', k6', k7'⟩ := K
  have l3 : ixn (gI m 135 0) ≤ 3 := by obtain ⟨v, hv, ev⟩ := hW.1.ex; rw [ev, n_ixn (by omega)]; exact hv
  have hu7 : u7 u ≤ 7 ∧ u - u7 u + u7 u = u := by unfold u7; split <;> omega
  have l12 : ∀ k, k < ixn (gI m 135 0) → ixn (gI m 135 (11 + k)) ≤ 12 := fun k hk => by
    obtain ⟨-, a2, -⟩ := hW.2.2.2.2.2.2.2.1 k hk
    rw [Nat.zero_add] at a2
    obtain ⟨v, hv, ev⟩ := a2.ex; rw [ev, n_ixn (by omega)]; exact hv
  refine ⟨by rw [k1', k5'], ?_, fun v hv => ?_⟩
  · rw [k5']; unfold isN; rw [n_toInt (by omega)]; omega
  · rw [k5', n_ixn (by omega)] at hv
    rw [h135 0 (by omega) (by omega)]
    by_cases q : v < u7 u
    · obtain ⟨a1, a2, a3, a4⟩ := hU.2.2 (v + (u - u7 u)) (by rw [h40, n_ixn (by omega)]; omega)
      have r4 := k2' v q
      have r151 := k6' v q
      refine ⟨?_, fun k hk i hi => ?_, fun j hj hj6 hjr => ?_, a4.mv r151⟩
      · have := r4 0 (by omega)
        rw [Nat.add_zero, Nat.add_zero] at this
        rw [this, r151 6 (by omega)]; exact a1
      · rw [h135 _ (by omega) (by omega)] at hi
        have l := l12 k hk
        rw [show 73 * v + 1 + 24 * k + i = 73 * v + (1 + 24 * k + i) by omega, r4 _ (by omega), show 73 * v + 1 + 24 * k + 12 + i = 73 * v + (1 + 24 * k + 12 + i) by omega, r4 _ (by omega), show 116 * v + 14 + 24 * k + 2 * i = 116 * v + (14 + 24 * k + 2 * i) by omega, r151 _ (by omega), show 116 * v + (14 + 24 * k + 2 * i) + 1 = 116 * v + (14 + 24 * k + 2 * i + 1) by omega, r151 _ (by omega)]
        have := a2 k hk i hi
        rw [show 73 * (v + (u - u7 u)) + 1 + 24 * k + i = 73 * (v + (u - u7 u)) + (1 + 24 * k + i) by omega, show 73 * (v + (u - u7 u)) + 1 + 24 * k + 12 + i = 73 * (v + (u - u7 u)) + (1 + 24 * k + 12 + i) by omega, show 116 * (v + (u - u7 u)) + 14 + 24 * k + 2 * i = 116 * (v + (u - u7 u)) + (14 + 24 * k + 2 * i) by omega, show 116 * (v + (u - u7 u)) + (14 + 24 * k + 2 * i) + 1 = 116 * (v + (u - u7 u)) + (14 + 24 * k + 2 * i + 1) by omega] at this
        exact this
      · rw [r151 j hj, h135 j hj6 hjr]; exact a3 j hj hj6 hjr
    · obtain rfl : v = u7 u := by omega
      refine ⟨?_, fun k hk i hi => ?_, fun j hj hj6 hjr => ?_, hW.mv (fun s hs => by rw [k7' s hs, Nat.zero_add])⟩
      · rw [k3', k7' 6 (by omega)]
        exact hP.2.2.2.2.2.2.1
      · rw [h135 _ (by omega) (by omega)] at hi
        have l := l12 k hk
        obtain ⟨p1, p2, p3⟩ := hP.2.2.2.2.2.2.2.2.1 k hk
        have := p3 i (by rw [Nat.zero_add]; exact hi)
        rw [(k4' k (by omega) i (by omega)).1, (k4' k (by omega) i (by omega)).2, show 116 * u7 u + 14 + 24 * k + 2 * i = 116 * u7 u + (14 + 24 * k + 2 * i) by omega, k7' _ (by omega), show 116 * u7 u + (14 + 24 * k + 2 * i) + 1 = 116 * u7 u + (14 + 24 * k + 2 * i + 1) by omega, k7' _ (by omega)]
        simp only [Nat.zero_add] at this
        exact this
      · rw [k7' j hj, h135 j hj6 hjr]
/-- a change of the corners of line k, with one act more that can be undone -/
theorem inv_change {m M : Mem} {u k n : Nat} {X Y X' Y' : Nat → Int} (h : Inv m) (hu : u ≤ 8) (h40 : gI m 133 40 = nI u) (hk : k < 3) (hk2 : k < ixn (gI m 135 0)) (D : LineD m k n X Y)
    (K : Kept m M u (gN m 13)) (hN : M.2.2 = m.2.2)
    (hO : ∀ c j, wL Lsc c j = false → c ≠ 4 → c ≠ 151 → c ≠ 135 → ¬ (c = 3 ∧ j = 1) → ¬ (c = 133 ∧ j = 40) → ¬ (c = gN m 13 ∧ j = 12) → c ≠ gN m 13 + 2 + 3 * k + 1 → c ≠ gN m 13 + 2 + 3 * k + 2 → gI M c j = gI m c j)
    (hJ : ∀ c j, wL Lsc c j = false → c ≠ 4 → c ≠ 151 → c ≠ 3 → c ≠ 133 → gJ M c j = gJ m c j)
    (h12 : gI M (gN m 13) 12 = gI M 135 6)
    (hR : ∀ j, j ≠ 6 → (j < 14 + 24 * k ∨ 14 + 24 * k + 2 * n ≤ j) → gI M 135 j = gI m 135 j)
    (hX : ∀ i, i < n → gI M 135 (14 + 24 * k + 2 * i) = iz (X' i) ∧ gI M 135 (14 + 24 * k + 2 * i + 1) = iz (Y' i) ∧ gI M (gN m 13 + 2 + 3 * k + 1) i = iz (X' i) ∧ gI M (gN m 13 + 2 + 3 * k + 2) i = iz (Y' i))
    (hB : ∀ i, i < n → (0 ≤ X' i ∧ X' i ≤ 20) ∧ (0 ≤ Y' i ∧ Y' i ≤ 20)) (hA : ∀ i, i < n → ¬ (X' i = X' (nx n i) ∧ Y' i = Y' (nx n i))) : Inv M := by
  have hn := D.2.1
  have hUn := undo_keep h hu h40 K (fun j a b => hR j a (by omega))
  obtain ⟨hw, hT, hP, hW, hU, hI, hQ, hS⟩ := h
  have gNe : ∀ j, gN M j = gN m j := fun j => by unfold gN; rw [hN]
  have hp : gN m 13 = 101 ∨ gN m 13 = 117 := by rcases hw with q | q <;> omega
  have hp4 : gN m 13 = 68 ∨ gN m 13 = 84 ∨ gN m 13 = 101 ∨ gN m 13 = 117 := by omega
  have l3 : ixn (gI m 135 0) ≤ 3 := hW.1.le
  have eA : gI M 135 0 = gI m 135 0 := hR 0 (by omega) (by omega)
  have eB : gI M 135 1 = gI m 135 1 := hR 1 (by omega) (by omega)
  have l10 : ixn (gI m 135 1) ≤ 10 := hW.2.1.le
  have eC : ∀ k', k' < 3 → gI M 135 (11 + k') = gI m 135 (11 + k') := fun k' hk' => hR _ (by omega) (by omega)
  have nn : ixn (gI m 135 (11 + k)) = n := by rw [D.2.2.1, n_ixn (by omega)]
  have l12 : ∀ k', k' < ixn (gI m 135 0) → ixn (gI m 135 (11 + k')) ≤ 12 := fun k' hk' => by
    obtain ⟨-, a2, -⟩ := hW.2.2.2.2.2.2.2.1 k' hk'
    rw [Nat.zero_add] at a2
    exact a2.le
  refine ⟨?_, ?_, ?_, ?_, hUn, ?_, ?_, ?_⟩
  · unfold iNow; rw [gNe, gNe]; exact hw
  · unfold iTape
    have e2 : gI M 133 2 = gI m 133 2 := hO 133 2 rfl (by omega) (by omega) (by omega) (by omega) (by omega) (by omega) (by omega) (by omega)
    rw [e2, hO 1 1 rfl (by omega) (by omega) (by omega) (by omega) (by omega) (by omega) (by omega) (by omega)]
    refine ⟨hT.1, hT.2.1, fun i hi => ?_⟩
    rw [hO 2 i rfl (by omega) (by omega) (by omega) (by omega) (by omega) (by omega) (by omega) (by omega), hO 134 i rfl (by omega) (by omega) (by omega) (by omega) (by omega) (by omega) (by omega) (by omega)]
    exact hT.2.2 i hi
  · rw [gNe]
    obtain ⟨h1, h2, h3, h4, h5, h6, h7, h8, h9, h10⟩ := hP
    have pl : ∀ d j, gN m 13 ≤ d → d < gN m 13 + 16 → ¬ (d = gN m 13 ∧ j = 12) → d ≠ gN m 13 + 2 + 3 * k + 1 → d ≠ gN m 13 + 2 + 3 * k + 2 → gI M d j = gI m d j := fun d j a b c1 c2 c3 => hO d j (lsc_par hp4 a b) (by omega) (by omega) (by omega) (by omega) (by omega) c1 c2 c3
    have r0 : ∀ j, j < 6 → gI M 135 j = gI m 135 j := fun j hj => hR j (by omega) (by omega)
    simp only [Nat.zero_add] at h2 h3 h4 h5 h6 h8 h9 h10
    unfold PRel
    simp only [Nat.zero_add]
    refine ⟨?_, ?_, ?_, ?_, ?_, ?_, h12, fun t ht => ?_, fun t ht => ?_, fun t ht => ?_⟩
    · rw [pl _ _ (by omega) (by omega) (by omega) (by omega) (by omega), r0 _ (by omega)]; exact h1
    · rw [pl _ _ (by omega) (by omega) (by omega) (by omega) (by omega), r0 _ (by omega)]; exact h2
    · rw [pl _ _ (by omega) (by omega) (by omega) (by omega) (by omega), r0 _ (by omega)]; exact h3
    · rw [pl _ _ (by omega) (by omega) (by omega) (by omega) (by omega), r0 _ (by omega)]; exact h4
    · rw [pl _ _ (by omega) (by omega) (by omega) (by omega) (by omega), r0 _ (by omega)]; exact h5
    · rw [pl _ _ (by omega) (by omega) (by omega) (by omega) (by omega), r0 _ (by omega)]; exact h6
    · rw [pl _ _ (by omega) (by omega) (by omega) (by omega) (by omega), hR _ (by omega) (by omega)]; exact h8 t ht
    · rw [eA] at ht
      obtain ⟨a1, a2, a3⟩ := h9 t ht
      have lt := l12 t ht
      refine ⟨?_, ?_, fun i hi => ?_⟩
      · rw [pl _ _ (by omega) (by omega) (by omega) (by omega) (by omega), eC t (by omega)]; exact a1
      · rw [hJ _ _ (lsc_par hp4 (by omega) (by omega)) (by omega) (by omega) (by omega) (by omega), hJ _ _ rfl (by omega) (by omega) (by omega) (by omega)]; exact a2
      · rw [eC t (by omega)] at hi
        by_cases q : t = k
        · subst q
          obtain ⟨x1, x2, x3, x4⟩ := hX i (by omega)
          rw [x1, x2, x3, x4]; exact ⟨rfl, rfl⟩
        · rw [pl (gN m 13 + 2 + 3 * t + 1) i (by omega) (by omega) (by omega) (by omega) (by omega), pl (gN m 13 + 2 + 3 * t + 2) i (by omega) (by omega) (by omega) (by omega) (by omega), hR _ (by omega) (by omega), hR _ (by omega) (by omega)]
          exact a3 i hi
    · rw [eB] at ht
      obtain ⟨a1, a2, a3, a4⟩ := h10 t ht
      refine ⟨?_, ?_, ?_, ?_⟩
      · rw [pl _ _ (by omega) (by omega) (by omega) (by omega) (by omega), hR _ (by omega) (by omega)]; exact a1
      · rw [pl _ _ (by omega) (by omega) (by omega) (by omega) (by omega), hR _ (by omega) (by omega)]; exact a2
      · rw [pl _ _ (by omega) (by omega) (by omega) (by omega) (by omega), hR _ (by omega) (by omega)]; exact a3
      · rw [hJ _ _ (lsc_par hp4 (by omega) (by omega)) (by omega) (by omega) (by omega) (by omega), hJ _ _ rfl (by omega) (by omega) (by omega) (by omega)]; exact a4
  · obtain ⟨w1, w2, w3, w4, w5, w6, w7, w8, w9⟩ := hW
    have r0 : ∀ j, j < 6 → gI M 135 j = gI m 135 j := fun j hj => hR j (by omega) (by omega)
    unfold WFs WFc at *
    simp only [Nat.zero_add] at w2 w3 w4 w5 w6 w7 w8 w9 ⊢
    refine ⟨by rw [r0 _ (by omega)]; exact w1, by rw [r0 _ (by omega)]; exact w2, by rw [r0 _ (by omega)]; exact w3, by rw [r0 _ (by omega)]; exact w4, by rw [r0 _ (by omega)]; exact w5, by rw [r0 _ (by omega)]; exact w6, fun t ht => ?_, fun t ht => ?_, fun t ht => ?_⟩
    · rw [hR _ (by omega) (by omega)]; exact w7 t ht
    · rw [eA] at ht
      obtain ⟨a1, a2, a3, a4⟩ := w8 t ht
      have lt := l12 t ht
      rw [eC t (by omega)]
      refine ⟨a1, a2, fun i hi => ?_, fun i hi => ?_⟩
      · by_cases q : t = k
        · subst q
          obtain ⟨x1, x2, x3, x4⟩ := hX i (by omega)
          have := hB i (by omega)
          rw [x1, x2]; exact ⟨isN_iz this.1.1 this.1.2 (by omega), isN_iz this.2.1 this.2.2 (by omega)⟩
        · rw [hR _ (by omega) (by omega), hR _ (by omega) (by omega)]
          exact a3 i hi
      · have lx := nx_lt hi
        by_cases q : t = k
        · subst q
          rw [nn] at hi lx ⊢
          obtain ⟨x1, x2, x3, x4⟩ := hX i (by omega)
          obtain ⟨y1, y2, y3, y4⟩ := hX (nx n i) (by omega)
          have b1 := hB i hi
          have b2 := hB _ lx
          rw [x1, x2, y1, y2, iz_eq (by omega) (by omega), iz_eq (by omega) (by omega)]
          exact hA i hi
        · rw [hR _ (by omega) (by omega), hR _ (by omega) (by omega), hR _ (by omega) (by omega), hR _ (by omega) (by omega)]
          exact a4 i hi
    · rw [eB] at ht
      rw [hR _ (by omega) (by omega), hR _ (by omega) (by omega), hR _ (by omega) (by omega)]
      exact w9 t ht
  · have a159 : ∀ j, gI M 159 j = gI m 159 j := fun j => hO 159 j rfl (by omega) (by omega) (by omega) (by omega) (by omega) (by omega) (by omega) (by omega)
    intro t ht
    obtain ⟨a1, a2, a3⟩ := hI t ht
    rw [hO 100 t rfl (by omega) (by omega) (by omega) (by omega) (by omega) (by omega) (by omega) (by omega), hO 161 t rfl (by omega) (by omega) (by omega) (by omega) (by omega) (by omega) (by omega) (by omega)]
    refine ⟨a1, a2, fun q => ⟨?_, (a3 q).2.cong a159⟩⟩
    refine (a3 q).1.cong a159 (fun j => hJ 160 j rfl (by omega) (by omega) (by omega) (by omega)) (fun d j d1 d2 => ⟨?_, ?_⟩) ?_
    · exact hO d j (lsc_par (p := 68 + 16 * t) (by omega) d1 d2) (by omega) (by omega) (by omega) (by omega) (by omega) (by omega) (by omega) (by omega)
    · exact hJ d j (lsc_par (p := 68 + 16 * t) (by omega) d1 d2) (by omega) (by omega) (by omega) (by omega)
    · exact (a3 q).2.1.le
  · have o : ∀ c j, wL Lsc c j = false → c < 68 ∧ 4 < c ∨ c = 0 ∨ c = 133 ∧ j ≠ 40 ∨ 152 ≤ c ∨ c = 148 → gI M c j = gI m c j := fun c j a b => hO c j a (by omega) (by omega) (by omega) (by omega) (by omega) (by omega) (by omega) (by omega)
    have o133 : ∀ j, wL Lsc 133 j = false → j ≠ 40 → gI M 133 j = gI m 133 j := fun j a b => o 133 j a (by omega)
    have oc : ∀ c, (∀ j, wL Lsc c j = false) → c < 68 ∧ 4 < c ∨ c = 0 ∨ 152 ≤ c ∨ c = 148 → ∀ j, gI M c j = gI m c j := fun c a b j => o c j (a j) (by omega)
    unfold iTold at hQ ⊢
    rw [o 0 15 rfl (by omega), o 0 16 rfl (by omega), o133 14 rfl (by omega), o133 27 rfl (by omega), o133 36 rfl (by omega), o133 52 rfl (by omega), o133 49 rfl (by omega), o133 45 rfl (by omega), o133 46 rfl (by omega), o 40 0 rfl (by omega), o 40 1 rfl (by omega)]
    simp only [oc 27 (fun _ => rfl) (by omega), oc 148 (fun _ => rfl) (by omega), oc 32 (fun _ => rfl) (by omega), oc 155 (fun _ => rfl) (by omega), oc 66 (fun _ => rfl) (by omega), oc 154 (fun _ => rfl) (by omega), oc 41 (fun _ => rfl) (by omega), oc 153 (fun _ => rfl) (by omega)]
    exact hQ
  · intro t ht
    rw [hJ 138 t rfl (by omega) (by omega) (by omega) (by omega)]
    exact hS t ht

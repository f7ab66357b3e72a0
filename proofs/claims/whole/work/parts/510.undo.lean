/-! undo -/
theorem cpok_b {v : Nat} (h : v + 12 ≤ 584) : cpok (nI v) 0 12 584 12 := by
  refine ⟨by rw [k0, n_lt (by omega) (by omega)]; omega, by decide, by decide, ?_, by decide⟩
  rw [n_ixn (by omega), show ixn 12 = 12 from rfl]; exact h
theorem tb_step {m : Mem} {p k b : Nat} {kx : Mem → Option (Int32 × Mem)} {f : Nat} (hk : k < 3) (hb : b + 73 ≤ 584) (hp : 68 ≤ p) :
    ∃ m', AC_takeBack_L40 p (nI b) kx (f + 1) m (nI k) = AC_takeBack_L40 p (nI b) kx f m' (nI (k + 1)) ∧ (∀ i, i < 12 → gI m' (p + 2 + 3 * k + 1) i = gI m 4 (b + 1 + 24 * k + i) ∧ gI m' (p + 2 + 3 * k + 2) i = gI m 4 (b + 1 + 24 * k + 12 + i)) ∧ (∀ c j, c ≠ p + 2 + 3 * k + 1 → c ≠ p + 2 + 3 * k + 2 → gI m' c j = gI m c j) ∧ m'.2 = m.2 := by
  have e1 : nI b + 1 + nI k * 24 = nI (b + 1 + k * 24) := by rw [k1, k24, n_add, n_mul, n_add]
  have e2 : nI (b + 1 + k * 24) + 12 = nI (b + 1 + k * 24 + 12) := by rw [k12, n_add]
  have t : ixn 12 = 12 := rfl
  have t0 : ixn 0 = 0 := rfl
  refine ⟨cpI (cpI m 4 (b + 1 + k * 24) (p + 2 + 3 * k + 1) 0 12) 4 (b + 1 + k * 24 + 12) (p + 2 + 3 * k + 2) 0 12, ?_, fun i hi => ⟨?_, ?_⟩, fun c j q1 q2 => ?_, rfl⟩
  · rw [AC_takeBack_L40, if_neg (by rw [k3, n_le (by omega) (by omega)]; omega)]
    simp only [letV, letM]
    rw [e1, e2, if_pos (n_in hk (by omega)), if_pos (cpok_b (by omega)), if_pos (cpok_b (by omega)), n_ixn (by omega), n_ixn (by omega), n_ixn (by omega), t, t0, show nI k + 1 = nI (k + 1) by rw [k1, n_add]]
  · rw [gI_cpI, if_neg (by omega), gI_cpI, if_pos (by omega), show b + 1 + k * 24 + (i - 0) = b + 1 + 24 * k + i by omega]
  · rw [gI_cpI, if_pos (by omega), gI_cpI, if_neg (by omega), show b + 1 + k * 24 + 12 + (i - 0) = b + 1 + 24 * k + 12 + i by omega]
  · rw [gI_cpI, if_neg (fun z => q2 z.1), gI_cpI, if_neg (fun z => q1 z.1)]
theorem letM_p (a : Mem) (f : Mem → Option (Int32 × Mem)) : letM a f = f a := rfl
theorem letV_p (a : Int32) (f : Int32 → Option (Int32 × Mem)) : letV a f = f a := rfl
theorem takeBack {m : Mem} {u p : Nat} (hu : u < 8) (hp : 68 ≤ p) (h1 : gI m 3 1 = nI (u + 1)) : ∃ m', AC_takeBack m p = some (nI u, m') ∧ gI m' 3 1 = nI u ∧ gI m' p 12 = gI m 4 (73 * u) ∧ (∀ k, k < 3 → ∀ i, i < 12 → gI m' (p + 2 + 3 * k + 1) i = gI m 4 (73 * u + 1 + 24 * k + i) ∧ gI m' (p + 2 + 3 * k + 2) i = gI m 4 (73 * u + 1 + 24 * k + 12 + i)) ∧ (∀ c j, ¬ (c = 3 ∧ j = 1) → ¬ (c = p ∧ j = 12) → (∀ k, k < 3 → c ≠ p + 2 + 3 * k + 1 ∧ c ≠ p + 2 + 3 * k + 2) → gI m' c j = gI m c j) ∧ m'.2 = m.2 := by
  obtain ⟨f, hf⟩ : ∃ f, FU = f + 1 + 1 + 1 + 1 := ⟨FU - 4, by unfold FU; omega⟩
  have o : ∀ c j, ¬ (c = 3 ∧ j = 1) → ¬ (c = p ∧ j = 12) → gI (sI (sI m 3 1 (nI u)) p 12 (gI m 4 (73 * u))) c j = gI m c j := fun c j a b => by rw [gI_sI, if_neg b, gI_sI, if_neg a]
  obtain ⟨m1, e1, a1, b1, F1⟩ := tb_step (m := sI (sI m 3 1 (nI u)) p 12 (gI m 4 (73 * u))) (kx := fun m5 => some ((gI m5 3 1), m5)) (f := f + 1 + 1 + 1) (k := 0) (by omega) (show 73 * u + 73 ≤ 584 by omega) hp
  obtain ⟨m2, e2, a2, b2, F2⟩ := tb_step (m := m1) (kx := fun m5 => some ((gI m5 3 1), m5)) (f := f + 1 + 1) (k := 1) (by omega) (show 73 * u + 73 ≤ 584 by omega) hp
  obtain ⟨m3, e3, a3, b3, F3⟩ := tb_step (m := m2) (kx := fun m5 => some ((gI m5 3 1), m5)) (f := f + 1) (k := 2) (by omega) (show 73 * u + 73 ≤ 584 by omega) hp
  have r31 : gI m3 3 1 = nI u := by rw [b3 _ _ (by omega) (by omega), b2 _ _ (by omega) (by omega), b1 _ _ (by omega) (by omega), gI_sI, if_neg (by omega), gI_sI, if_pos ⟨rfl, rfl⟩]
  have g31 : gI (sI m 3 1 (nI u)) 3 1 = nI u := by rw [gI_sI, if_pos ⟨rfl, rfl⟩]
  have g4 : gI (sI m 3 1 (nI u)) 4 (73 * u) = gI m 4 (73 * u) := by rw [gI_sI, if_neg (by omega)]
  refine ⟨m3, ?_, r31, ?_, fun k hk i hi => ?_, fun c j q1 q2 q3 => ?_, F3.trans (F2.trans F1)⟩
  · rw [AC_takeBack, h1, if_pos (by rw [k1, n_le (by omega) (by omega)]; omega), letM_p, letV_p, k1, n_sub (by omega), show u + 1 - 1 = u by omega, g31, k73, n_mul, Nat.mul_comm, if_pos (n_in (by omega) (by omega)), n_ixn (by omega), letM_p, g4, hf, show (0 : Int32) = nI 0 from k0, e1, e2, e3, AC_takeBack_L40, if_pos (by decide), r31]
  · rw [b3 _ _ (by omega) (by omega), b2 _ _ (by omega) (by omega), b1 _ _ (by omega) (by omega), gI_sI, if_pos ⟨rfl, rfl⟩]
  · rcases (show k = 0 ∨ k = 1 ∨ k = 2 by omega) with rfl | rfl | rfl
    · rw [b3 _ _ (by omega) (by omega), b2 _ _ (by omega) (by omega), b3 _ _ (by omega) (by omega), b2 _ _ (by omega) (by omega), (a1 i hi).1, (a1 i hi).2, o _ _ (by omega) (by omega), o _ _ (by omega) (by omega)]
      exact ⟨rfl, rfl⟩
    · rw [b3 _ _ (by omega) (by omega), b3 _ _ (by omega) (by omega), (a2 i hi).1, (a2 i hi).2, b1 _ _ (by omega) (by omega), b1 _ _ (by omega) (by omega), o _ _ (by omega) (by omega), o _ _ (by omega) (by omega)]
      exact ⟨rfl, rfl⟩
    · rw [(a3 i hi).1, (a3 i hi).2, b2 _ _ (by omega) (by omega), b1 _ _ (by omega) (by omega), b2 _ _ (by omega) (by omega), b1 _ _ (by omega) (by omega), o _ _ (by omega) (by omega), o _ _ (by omega) (by omega)]
      exact ⟨rfl, rfl⟩
  · rw [b3 _ _ (q3 2 (by omega)).1 (q3 2 (by omega)).2, b2 _ _ (q3 1 (by omega)).1 (q3 1 (by omega)).2, b1 _ _ (q3 0 (by omega)).1 (q3 0 (by omega)).2, o _ _ q1 q2]
theorem ru_loop {u : Nat} (hu : u < 8) {kx : Mem → Option (Int32 × Mem)} : ∀ (d i fu : Nat) (m : Mem), i + d = 116 → d < fu → gI m 133 40 = nI u → ∃ m', RM_undo_L26 kx fu m (nI i) = kx m' ∧ (∀ s, i ≤ s → s < 116 → gI m' 135 s = gI m 151 (116 * u + s)) ∧ (∀ s, s < i → gI m' 135 s = gI m 135 s) ∧ (∀ c j, c ≠ 135 → gI m' c j = gI m c j) ∧ m'.2 = m.2
  | 0, i, fu, m, hd, hf, h40 => by
    obtain ⟨f, rfl⟩ : ∃ f, fu = f + 1 := ⟨fu - 1, by omega⟩
    obtain rfl : i = 116 := by omega
    exact ⟨m, by rw [RM_undo_L26, if_pos (by decide)], fun s a b => by omega, fun s _ => rfl, fun _ _ _ => rfl, rfl⟩
  | d + 1, i, fu, m, hd, hf, h40 => by
    obtain ⟨f, rfl⟩ : ∃ f, fu = f + 1 := ⟨fu - 1, by omega⟩
    obtain ⟨m', e, a, b, c, F⟩ := ru_loop hu (kx := kx) d (i + 1) f (sI m 135 i (gI m 151 (116 * u + i))) (by omega) (by omega) (by rw [gI_sI, if_neg (by omega)]; exact h40)
    refine ⟨m', ?_, fun s h1 h2 => ?_, fun s h => ?_, fun c' j q => ?_, F⟩
    · rw [RM_undo_L26, if_neg (by rw [k116, n_le (by omega) (by omega)]; omega), h40, k116, n_mul, n_add, if_pos (n_in (by omega) (by omega)), if_pos (n_in (by omega) (by omega)), n_ixn (by omega), n_ixn (by omega), show nI i + 1 = nI (i + 1) by rw [k1, n_add]]
      exact e
    · by_cases q : s = i
      · rw [b _ (by omega), gI_sI, if_pos ⟨rfl, q⟩, q]
      · rw [a s (by omega) h2, gI_sI, if_neg (by omega)]
    · rw [b s (by omega), gI_sI, if_neg (by omega)]
    · rw [c c' j q, gI_sI, if_neg (fun z => q z.1)]
theorem op_undo {m : Mem} (h : Inv m) : ∃ v m1 m2, OH_undo m = some (v, m1) ∧ RM_undo m1 = some (v, m2) ∧ Inv m2 := by
  have hI : Inv (sI m 133 0 0) := inv_frame fr0 h
  obtain ⟨u, hu, u40, u31⟩ := undo_n h
  have hp : gN m 13 = 101 ∨ gN m 13 = 117 := by rcases h.1 with q | q <;> omega
  have hp4 : gN m 13 = 68 ∨ gN m 13 = 84 ∨ gN m 13 = 101 ∨ gN m 13 = 117 := by omega
  by_cases hz : u = 0
  · subst hz
    refine ⟨-1, m, sI m 133 0 0, ?_, ?_, hI⟩
    · rw [OH_undo, AC_takeBack, u31, if_neg (by decide)]; rfl
    · have s40 : gI (sI m 133 0 0) 133 40 = nI 0 := by rw [gI_sI, if_neg (by omega), u40]
      rw [RM_undo, letM_p, s40, if_pos (by decide)]
  · obtain ⟨w, rfl⟩ : ∃ w, u = w + 1 := ⟨u - 1, by omega⟩
    obtain ⟨mp, e1, t1, t2, t3, t4, t5⟩ := takeBack (p := gN m 13) (show w < 8 by omega) (by omega) u31
    have eO : OH_undo m = some (nI w, mp) := by rw [OH_undo, e1]; rfl
    have s40 : gI (sI mp 133 0 0) 133 40 = nI (w + 1) := by rw [gI_sI, if_neg (by omega), t4 _ _ (by omega) (by omega) (fun k hk => by omega), u40]
    obtain ⟨M, e2, r1', -, r3', r4'⟩ := ru_loop (show w < 8 by omega) (kx := fun m3 => some ((gI m3 133 40), m3)) 116 0 FU (sI (sI mp 133 0 0) 133 40 (nI w)) (by omega) (by unfold FU; omega) (by rw [gI_sI, if_pos ⟨rfl, rfl⟩])
    rw [show nI 0 = 0 from k0.symm] at e2
    have M40 : gI M 133 40 = nI w := by rw [r3' _ _ (by omega), gI_sI, if_pos ⟨rfl, rfl⟩]
    have eR : RM_undo mp = some (nI w, M) := by
      rw [RM_undo, letM_p, s40, if_neg (by rw [k0, n_eq (by omega) (by omega)]; omega), letM_p, k1, n_sub (by omega), show w + 1 - 1 = w by omega, e2, M40]
    have hO : ∀ c j, ¬ (c = 133 ∧ j = 0) → ¬ (c = 133 ∧ j = 40) → c ≠ 135 → ¬ (c = 3 ∧ j = 1) → ¬ (c = gN m 13 ∧ j = 12) → (∀ k, k < 3 → c ≠ gN m 13 + 2 + 3 * k + 1 ∧ c ≠ gN m 13 + 2 + 3 * k + 2) → gI M c j = gI m c j := fun c j a1 a2 a3 a4 a5 a6 => by
      rw [r3' c j a3, gI_sI, if_neg a2, gI_sI, if_neg a1, t4 c j a4 a5 a6]
    have hJ : ∀ c j, gJ M c j = gJ m c j := fun c j => by
      have z1 : gJ M c j = gJ mp c j := by unfold gJ; rw [r4']; rfl
      have z2 : gJ mp c j = gJ m c j := by unfold gJ; rw [t5]
      rw [z1, z2]
    have hNN : M.2.2 = m.2.2 := by
      have z1 : M.2.2 = mp.2.2 := by rw [r4']; rfl
      rw [z1, t5]
    have gNe : ∀ j, gN M j = gN m j := fun j => by unfold gN; rw [hNN]
    have v135 : ∀ s, s < 116 → gI M 135 s = gI m 151 (116 * w + s) := fun s hs => by
      rw [r1' s (by omega) hs, gI_sI, if_neg (by omega), gI_sI, if_neg (by omega), t4 _ _ (by omega) (by omega) (fun k hk => by omega)]
    obtain ⟨hw, hT, hP, hW, hU, hI', hQ, hS⟩ := h
    obtain ⟨a1, a2, a3, a4⟩ := hU.2.2 w (by rw [u40, n_ixn (by omega)]; omega)
    have hR : ∀ j, j < 116 → j ≠ 6 → (j < 14 ∨ 86 ≤ j) → gI M 135 j = gI m 135 j := fun j hj h6 hr => by rw [v135 j hj]; exact a3 j hj h6 hr
    have l3 : ixn (gI m 135 0) ≤ 3 := hW.1.le
    have l10 : ixn (gI m 135 1) ≤ 10 := hW.2.1.le
    have l12 : ∀ k', k' < ixn (gI m 135 0) → ixn (gI m 135 (11 + k')) ≤ 12 := fun k' hk' => by
      obtain ⟨-, b2, -⟩ := hW.2.2.2.2.2.2.2.1 k' hk'
      rw [Nat.zero_add] at b2
      exact b2.le
    have eA : gI M 135 0 = gI m 135 0 := hR 0 (by omega) (by omega) (by omega)
    have eB : gI M 135 1 = gI m 135 1 := hR 1 (by omega) (by omega) (by omega)
    have eC : ∀ k', k' < 3 → gI M 135 (11 + k') = gI m 135 (11 + k') := fun k' hk' => hR _ (by omega) (by omega) (by omega)
    have MI : ∀ c j, c < 101 ∨ 133 ≤ c → ¬ (c = 133 ∧ j = 0) → ¬ (c = 133 ∧ j = 40) → c ≠ 135 → ¬ (c = 3 ∧ j = 1) → gI M c j = gI m c j := fun c j b1 b2 b3 b4 b5 => hO c j b2 b3 b4 b5 (by omega) (fun k hk => by omega)
    refine ⟨_, mp, M, eO, eR, ?_, ?_, ?_, a4.mv (fun s hs => by rw [Nat.zero_add]; exact v135 s hs), ?_, ?_, ?_, ?_⟩
    · unfold iNow; rw [gNe, gNe]; exact hw
    · unfold iTape
      rw [MI 133 2 (by omega) (by omega) (by omega) (by omega) (by omega), MI 1 1 (by omega) (by omega) (by omega) (by omega) (by omega)]
      refine ⟨hT.1, hT.2.1, fun i hi => ?_⟩
      rw [MI 2 i (by omega) (by omega) (by omega) (by omega) (by omega), MI 134 i (by omega) (by omega) (by omega) (by omega) (by omega)]
      exact hT.2.2 i hi
    · rw [gNe]
      obtain ⟨h1, h2, h3, h4, h5, h6, h7, h8, h9, h10⟩ := hP
      simp only [Nat.zero_add] at h2 h3 h4 h5 h6 h8 h9 h10
      unfold PRel
      simp only [Nat.zero_add]
      have r0 : ∀ j, j < 6 → gI M 135 j = gI m 135 j := fun j hj => hR j (by omega) (by omega) (by omega)
      have pl : ∀ j, j ≠ 12 → gI M (gN m 13) j = gI m (gN m 13) j := fun j hj => hO _ j (by omega) (by omega) (by omega) (by omega) (by omega) (fun k hk => by omega)
      have pq : ∀ d j, 11 ≤ d → d < 16 → gI M (gN m 13 + d) j = gI m (gN m 13 + d) j := fun d j q1 q2 => hO _ j (by omega) (by omega) (by omega) (by omega) (by omega) (fun k hk => by omega)
      refine ⟨by rw [pl _ (by omega), eA]; exact h1, by rw [pl _ (by omega), eB]; exact h2, by rw [pl _ (by omega), r0 _ (by omega)]; exact h3, by rw [pl _ (by omega), r0 _ (by omega)]; exact h4, by rw [pl _ (by omega), r0 _ (by omega)]; exact h5, by rw [pl _ (by omega), r0 _ (by omega)]; exact h6, ?_, fun t ht => ?_, fun t ht => ?_, fun t ht => ?_⟩
      · rw [r3' _ _ (by omega), gI_sI, if_neg (by omega), gI_sI, if_neg (by omega), t2, v135 6 (by omega)]; exact a1
      · rw [pq 15 _ (by omega) (by omega), hR _ (by omega) (by omega) (by omega)]; exact h8 t ht
      · rw [eA] at ht
        obtain ⟨b1, b2, b3⟩ := h9 t ht
        have lt := l12 t ht
        refine ⟨?_, by rw [hJ, hJ]; exact b2, fun i hi => ?_⟩
        · rw [hO _ _ (by omega) (by omega) (by omega) (by omega) (by omega) (fun k hk => by omega), eC t (by omega)]; exact b1
        · rw [eC t (by omega)] at hi
          have q := a2 t ht i hi
          rw [r3' (gN m 13 + 2 + 3 * t + 1) i (by omega), gI_sI, if_neg (by omega), gI_sI, if_neg (by omega), r3' (gN m 13 + 2 + 3 * t + 2) i (by omega), gI_sI, if_neg (by omega), gI_sI, if_neg (by omega), (t3 t (by omega) i (by omega)).1, (t3 t (by omega) i (by omega)).2, v135 _ (by omega), v135 _ (by omega), q.1, q.2]
          exact ⟨by rw [show 116 * w + 14 + 24 * t + 2 * i = 116 * w + (14 + 24 * t + 2 * i) by omega], by rw [show 116 * w + 14 + 24 * t + 2 * i + 1 = 116 * w + (14 + 24 * t + 2 * i + 1) by omega]⟩
      · rw [eB] at ht
        obtain ⟨b1, b2, b3, b4⟩ := h10 t ht
        rw [pq 11 _ (by omega) (by omega), pq 12 _ (by omega) (by omega), pq 13 _ (by omega) (by omega), hJ, hJ, hR _ (by omega) (by omega) (by omega), hR _ (by omega) (by omega) (by omega), hR _ (by omega) (by omega) (by omega)]
        exact ⟨b1, b2, b3, b4⟩
    · have o151 : ∀ j, gI M 151 j = gI m 151 j := fun j => MI 151 j (by omega) (by omega) (by omega) (by omega) (by omega)
      have o4 : ∀ j, gI M 4 j = gI m 4 j := fun j => MI 4 j (by omega) (by omega) (by omega) (by omega) (by omega)
      have M31 : gI M 3 1 = nI w := by rw [r3' _ _ (by omega), gI_sI, if_neg (by omega), gI_sI, if_neg (by omega), t1]
      refine ⟨by rw [M31, M40], by rw [M40]; exact isN.of (by omega) (by omega), fun v hv => ?_⟩
      rw [M40, n_ixn (by omega)] at hv
      obtain ⟨b1, b2, b3, b4⟩ := hU.2.2 v (by rw [u40, n_ixn (by omega)]; omega)
      refine ⟨by rw [o4, o151]; exact b1, fun t ht i hi => ?_, fun j hj h6 hr => by rw [o151, hR j hj h6 hr]; exact b3 j hj h6 hr, b4.cong o151⟩
      rw [eA] at ht
      rw [eC t (by omega)] at hi
      rw [o4, o4, o151, o151]; exact b2 t ht i hi
    · have a159 : ∀ j, gI M 159 j = gI m 159 j := fun j => MI 159 j (by omega) (by omega) (by omega) (by omega) (by omega)
      intro t ht
      obtain ⟨b1, b2, b3⟩ := hI' t ht
      rw [MI 100 t (by omega) (by omega) (by omega) (by omega) (by omega), MI 161 t (by omega) (by omega) (by omega) (by omega) (by omega)]
      exact ⟨b1, b2, fun q => ⟨(b3 q).1.cong a159 (fun j => hJ 160 j) (fun d j d1 d2 => ⟨MI d j (by omega) (by omega) (by omega) (by omega) (by omega), hJ d j⟩) (b3 q).2.1.le, (b3 q).2.cong a159⟩⟩
    · have o : ∀ c j, c < 68 ∧ 4 < c ∨ c = 0 ∨ c = 133 ∧ j ≠ 40 ∧ j ≠ 0 ∨ 148 ≤ c → gI M c j = gI m c j := fun c j b => MI c j (by omega) (by omega) (by omega) (by omega) (by omega)
      unfold iTold at hQ ⊢
      rw [o 0 15 (by omega), o 0 16 (by omega), o 133 14 (by omega), o 133 27 (by omega), o 133 36 (by omega), o 133 52 (by omega), o 133 49 (by omega), o 133 45 (by omega), o 133 46 (by omega), o 40 0 (by omega), o 40 1 (by omega)]
      have oc : ∀ c, c < 68 ∧ 4 < c ∨ 148 ≤ c → ∀ j, gI M c j = gI m c j := fun c b j => o c j (by omega)
      simp only [oc 27 (by omega), oc 148 (by omega), oc 32 (by omega), oc 155 (by omega), oc 66 (by omega), oc 154 (by omega), oc 41 (by omega), oc 153 (by omega)]
      exact hQ
    · intro t ht
      rw [hJ]
      exact hS t ht

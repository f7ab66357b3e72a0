theorem gI_sN (m : Mem) (k x c j : Nat) : gI (sN m k x) c j = gI m c j := rfl
theorem gJ_sN (m : Mem) (k x c j : Nat) : gJ (sN m k x) c j = gJ m c j := rfl
theorem gN_sN (m : Mem) (k x j : Nat) : gN (sN m k x) j = if j = k then x else gN m j := rfl
theorem op_parish {m : Mem} (h : Inv m) : ∃ v m1 m2, OH_parish m = some (v, m1) ∧ RM_parish m1 = some (v, m2) ∧ Inv m2 := by
  obtain ⟨L, hL, b, e1, e2, hb, hb'⟩ := tape_b h
  obtain ⟨p, hpm⟩ : ∃ p, p = gN m 13 := ⟨_, rfl⟩
  obtain ⟨q, hqm⟩ : ∃ q, q = gN m 14 := ⟨_, rfl⟩
  have pq : p = 101 ∧ q = 117 ∨ p = 117 ∧ q = 101 := by rw [hpm, hqm]; exact h.1
  have hq : 11 ≤ q := by omega
  obtain ⟨hNow, hT, hP, hW, hU, hI, hQ, hR⟩ := h
  rw [← hpm] at hP
  -- the class
  obtain ⟨m1, b1, b2, b3, b4, b5, F1⟩ := begin_eq m 900
  obtain ⟨mc, k1', k2', k3', k4'⟩ := clear_eq (m := m1) (q := q)
  have Tc : TA mc b L 900 := ⟨hL, by omega, by rw [(k4' 1 1 (by omega)).1, F1.I 1 1 rfl]; exact e1, by rw [(k4' 1 9 (by omega)).1, b2]; rfl, fun i hi => by rw [(k4' 2 i (by omega)).1, F1.I 2 i rfl]; exact hb i hi⟩
  have lock : ∀ mm : Mem, gI mm 133 2 = nI L → (∀ i, i < L → gI mm 134 i &&& 255 = nI (b i)) → (∀ k, k < 17 → gJ mm 138 k = resW.getD k 0) → (∀ j, j < 13 → gJ mm 137 j = gJ m 137 j) → ∃ mB, RM_parish mm = RM_parish_L35 prK FU mB ∧ gI mB 133 2 = 0 ∧ Frm Lsp [] mm mB ∧ TL mc mB q (fun j => gJ m 137 j) (PH_tell_L6 q (fun m3 => some ((-1), m3)) FU mc (nI 0)) (RM_parish_L35 prK FU mB) prK := by
    intro mm x1 x2 x3 x4
    obtain ⟨mB, y1, y2, y3, y4, y5, y6, y7, y8, y9⟩ := pr_start (b := b) hL x1 (fun i hi => ⟨(hb i hi).1, x2 i hi⟩)
    have S := ST0 (N := fun j => gJ m 137 j) hq Tc (by rw [(k4' 1 10 (by omega)).1, b3]) (by rw [(k4' 1 2 (by omega)).1, b4]) k2' k3' y2 y3 y4 y6 y8 (fun k hk => by rw [y9.J 138 k rfl]; exact x3 k hk) (fun j hj => by rw [y9.J 137 j rfl]; exact x4 j hj)
    exact ⟨mB, y1, y7, y9, tell_loop hq 940 0 0 FU FU mc mB (by omega) (by omega) (by omega) (by unfold FU; omega) (by unfold FU; omega) S y5⟩
  have eT : ∀ r, PH_tell_L6 q (fun m3 => some ((-1), m3)) FU mc (nI 0) = some r → PH_tell m1 q = some r := fun r hr => by
    rw [PH_tell, k1', bM_s]; exact hr
  have N1 : ∀ k, gN m1 k = gN m k := fun k => F1.N k
  obtain ⟨mB0, -, -, -, TL0⟩ := lock m e2 hb' hR (fun j _ => rfl)
  -- what the class leaves
  have fr : ∀ r : Int32 × Mem, PH_tell m1 q = some r → (∀ c j, c ≠ 1 → (c < q ∨ q + 16 ≤ c) → gI r.2 c j = gI m c j ∧ gJ r.2 c j = gJ m c j) ∧ (∀ k, gN r.2 k = gN m k) := fun r hr => by
    have F := PH_tell_fr (L := W_PH_tell) (R := [(q, 16)]) (wL_sub rfl) m1 q ⟨(q, 16), List.mem_singleton.mpr rfl, by omega, by omega⟩ r hr
    refine ⟨fun c j h1 h2 => ?_, fun k => by rw [F.N, N1]⟩
    have w : wL W_PH_tell c j = false := by unfold wL W_PH_tell; simp; omega
    have := F.1 c j w (fun t ht => by rw [List.mem_singleton.mp ht]; exact h2)
    rw [this.1, this.2, F1.I c j (by unfold wL; simp; omega), F1.J c j (by unfold wL; simp; omega)]
    exact ⟨rfl, rfl⟩
  rcases TL0 with ⟨v, m5, -, t1, -, v900, -, t5, -, -, -, -, -⟩ | ⟨m5, n0, t1, -, B0, -⟩
  · -- told
    obtain ⟨f1, f2⟩ := fr _ (eT _ t1)
    let ma := sI (sN (sN m5 13 q) 14 p) 3 1 0
    have hma : ma = sI (sN (sN m5 13 q) 14 p) 3 1 0 := rfl
    have oa : ∀ c j, ¬ (c = 3 ∧ j = 1) → gI ma c j = gI m5 c j := fun c j z => by rw [hma, gI_sI, if_neg z, gI_sN, gI_sN]
    have ja : ∀ c j, gJ ma c j = gJ m5 c j := fun c j => rfl
    obtain ⟨m7, c1, c2, c3, F7⟩ := closeText_eq ma (nI v)
    have g12 : gI ma 1 2 = 0 := by rw [oa _ _ (by omega), t5]
    rw [if_pos g12] at c1
    have eO : OH_parish m = some (nI v, m7) := by
      have n14 : gN m5 14 = q := by rw [f2, hqm]
      have n13 : gN m5 13 = p := by rw [f2, hpm]
      have q14 : gN m1 14 = q := by rw [N1, hqm]
      rw [OH_parish, b1, bM_s, q14, eT _ t1, bV_s, if_neg (by rw [k0, n_lt (by omega) (by omega)]; omega), n14, n13, letM_p, letM_p, AC_forget, letM_o, bM_s, OH_parish_J51, ← hma, c1, bV_s]
    -- the reference
    have f7 : ∀ c j, c ≠ 1 → c ≠ 0 → ¬ (c = 3 ∧ j = 1) → gI m7 c j = gI m5 c j := fun c j z1 z2 z3 => by rw [F7.I c j (by unfold wL; simp; omega), oa c j z3]
    have j7 : ∀ c j, c ≠ 1 → c ≠ 0 → gJ m7 c j = gJ m5 c j := fun c j z1 z2 => by rw [F7.J c j (by unfold wL; simp; omega), ja]
    have o7 : ∀ c j, c ≠ 1 → c ≠ 0 → ¬ (c = 3 ∧ j = 1) → (c < q ∨ q + 16 ≤ c) → gI m7 c j = gI m c j := fun c j z1 z2 z3 z4 => by rw [f7 c j z1 z2 z3, (f1 c j z1 z4).1]
    have p7 : ∀ c j, c ≠ 1 → c ≠ 0 → (c < q ∨ q + 16 ≤ c) → gJ m7 c j = gJ m c j := fun c j z1 z2 z4 => by rw [j7 c j z1 z2, (f1 c j z1 z4).2]
    obtain ⟨mB, r1, r2, FB, TLr⟩ := lock m7 (by rw [o7 _ _ (by omega) (by omega) (by omega) (by omega)]; exact e2) (fun i hi => by rw [o7 _ _ (by omega) (by omega) (by omega) (by omega)]; exact hb' i hi) (fun k hk => by rw [p7 _ _ (by omega) (by omega) (by omega)]; exact hR k hk) (fun j _ => p7 _ _ (by omega) (by omega) (by omega))
    rcases TLr with ⟨v', m5', mB', s1, s2, -, s4, s5, s6, PR, WF, s9, s10⟩ | ⟨m5', mB', s1, -, -, -⟩
    · rw [t1] at s1
      have ev : nI v = nI v' := congrArg Prod.fst (Option.some.inj s1)
      have em : m5 = m5' := congrArg Prod.snd (Option.some.inj s1)
      rw [← em] at PR
      obtain ⟨mF, z1, z2, z3, z4, z5, z6, z7⟩ := prK_eq mB'
      have eR : RM_parish m7 = some (nI v, mF) := by rw [r1, s2, z1, s4, ev]
      refine ⟨nI v, m7, mF, eO, eR, ?_⟩
      -- what stands in the end
      have uI : ∀ c j, (c < 133 ∨ c = 134 ∨ 138 ≤ c) → gI mF c j = gI m7 c j := fun c j w1 => by
        rw [z5 c j (by omega) (by omega), s10.I c j (by unfold wL Lpr W_RM_row; simp; omega), FB.I c j (by unfold wL; simp; omega)]
      have uJ : ∀ c j, (c < 133 ∨ c = 134 ∨ 138 ≤ c) → gJ mF c j = gJ m7 c j := fun c j w1 => by
        rw [z6 c j (by omega), s10.J c j (by unfold wL Lpr W_RM_row; simp; omega), FB.J c j (by unfold wL; simp; omega)]
      have u133 : ∀ j, j ≠ 40 → wL Lpr 133 j = false → wL Lsp 133 j = false → gI mF 133 j = gI m7 133 j := fun j w1 w2 w3 => by
        rw [z5 133 j (by omega) (by omega), s10.I 133 j w2, FB.I 133 j w3]
      have nF : ∀ k, gN mF k = gN m7 k := fun k => by
        have a : gN mF k = gN mB' k := by unfold gN; rw [z7]
        rw [a, s10.N, FB.N]
      have n13 : gN mF 13 = q := by rw [nF, F7.N, hma]; rfl
      have n14 : gN mF 14 = p := by rw [nF, F7.N, hma]; rfl
      have inQ : ∀ c j, q ≤ c → c < q + 16 → gI mF c j = gI m5 c j ∧ gJ mF c j = gJ m5 c j := fun c j w1 w2 => ⟨by rw [uI c j (by omega), f7 c j (by omega) (by omega) (by omega)], by rw [uJ c j (by omega), j7 c j (by omega) (by omega)]⟩
      have out : ∀ c j, (c ≠ 1 ∧ c ≠ 0 ∧ ¬ (c = 3 ∧ j = 1) ∧ (c < q ∨ q + 16 ≤ c) ∧ (c < 133 ∨ c = 134 ∨ 138 ≤ c)) → gI mF c j = gI m c j := fun c j w => by rw [uI c j w.2.2.2.2, o7 c j w.1 w.2.1 w.2.2.1 w.2.2.2.1]
      have outJ : ∀ c j, (c ≠ 1 ∧ c ≠ 0 ∧ (c < q ∨ q + 16 ≤ c) ∧ (c < 133 ∨ c = 134 ∨ 138 ≤ c)) → gJ mF c j = gJ m c j := fun c j w => by rw [uJ c j w.2.2.2, p7 c j w.1 w.2.1 w.2.2.1]
      have WF' : WFs mF 135 0 := WF.mv (fun s hs => by rw [Nat.zero_add]; exact z2 s hs)
      refine ⟨?_, ?_, ?_, WF', ?_, ?_, ?_, ?_⟩
      · unfold iNow; rw [n13, n14]; omega
      · exact iTape0 (by rw [uI _ _ (by omega)]; exact c3) (by rw [z5 _ _ (by omega) (by omega), s10.I 133 2 rfl, r2])
      · rw [n13]
        obtain ⟨w0, w1, w2, w3, w4, w5, w6, w7, w8, w9, -, -⟩ := PR
        have l3 : ixn (gI mB' 136 0) ≤ 3 := WF.1.le
        have l10 : ixn (gI mB' 136 1) ≤ 10 := (show isN (gI mB' 136 1) 10 from WF.2.1).le
        refine ⟨?_, ?_, ?_, ?_, ?_, ?_, ?_, fun k hk => ?_, fun k hk => ?_, fun t ht => ?_⟩
        · rw [(inQ _ _ (by omega) (by omega)).1, z2 _ (by omega)]; exact w0
        · rw [(inQ _ _ (by omega) (by omega)).1, z2 _ (by omega)]; exact w1
        · rw [(inQ _ _ (by omega) (by omega)).1, z2 _ (by omega)]; exact w2
        · rw [(inQ _ _ (by omega) (by omega)).1, z2 _ (by omega)]; exact w3
        · rw [(inQ _ _ (by omega) (by omega)).1, z2 _ (by omega)]; exact w4
        · rw [(inQ _ _ (by omega) (by omega)).1, z2 _ (by omega)]; exact w5
        · rw [(inQ _ _ (by omega) (by omega)).1, z2 _ (by omega)]; exact w6
        · rw [(inQ _ _ (by omega) (by omega)).1, z2 _ (by omega), show 0 + 7 + k = 7 + k by omega]; exact w7 k hk
        · rw [z2 _ (by omega)] at hk
          obtain ⟨x1, x2, x3⟩ := w8 k hk
          have l12 := (WF.2.2.2.2.2.2.2.1 k hk).2.1.le
          rw [show 0 + 11 + k = 11 + k by omega] at l12
          refine ⟨by rw [(inQ _ _ (by omega) (by omega)).1, z2 _ (by omega), show 0 + 11 + k = 11 + k by omega]; exact x1, by rw [(inQ _ _ (by omega) (by omega)).2, Nat.zero_add, z3 _ (by omega)]; exact x2, fun i hi => ?_⟩
          rw [z2 _ (by omega), show 0 + 11 + k = 11 + k by omega] at hi
          obtain ⟨y1, y2⟩ := x3 i hi
          exact ⟨by rw [(inQ (q + 2 + 3 * k + 1) i (by omega) (by omega)).1, z2 _ (by omega), show 0 + 14 + 24 * k + 2 * i = 14 + 24 * k + 2 * i by omega]; exact y1, by rw [(inQ (q + 2 + 3 * k + 2) i (by omega) (by omega)).1, z2 _ (by omega), show 0 + 14 + 24 * k + 2 * i = 14 + 24 * k + 2 * i by omega]; exact y2⟩
        · rw [show 0 + 1 = 1 from rfl, z2 _ (by omega)] at ht
          obtain ⟨x1, x2, x3, x4⟩ := w9 t ht
          exact ⟨by rw [(inQ (q + 11) t (by omega) (by omega)).1, z2 _ (by omega), show 0 + 86 + 3 * t = 86 + 3 * t by omega]; exact x1, by rw [(inQ (q + 12) t (by omega) (by omega)).1, z2 _ (by omega), show 0 + 86 + 3 * t = 86 + 3 * t by omega]; exact x2, by rw [(inQ (q + 13) t (by omega) (by omega)).1, z2 _ (by omega), show 0 + 86 + 3 * t = 86 + 3 * t by omega]; exact x3, by rw [(inQ (q + 14) t (by omega) (by omega)).2, z3 _ (by omega), show 13 + (0 + 3 + t) = 16 + t by omega]; exact x4⟩
      · have v31 : gI mF 3 1 = 0 := by rw [uI _ _ (by omega), F7.I 3 1 rfl, hma, gI_sI, if_pos ⟨rfl, rfl⟩]
        unfold iUndo
        rw [v31, z4]
        exact ⟨rfl, isN.of (n := 0) (by omega) (by omega), fun u hu => by rw [show ixn 0 = 0 from rfl] at hu; omega⟩
      · intro k hk
        obtain ⟨b1, b2, b3⟩ := hI k hk
        rw [out 100 k (by omega), out 161 k (by omega)]
        refine ⟨b1, b2, fun h1 => ?_⟩
        obtain ⟨d1, d2⟩ := b3 h1
        have a159 : ∀ j, gI mF 159 j = gI m 159 j := fun j => out _ _ (by omega)
        exact ⟨d1.cong a159 (fun j => outJ _ _ (by omega)) (fun d j w1 w2 => ⟨out _ _ (by omega), outJ _ _ (by omega)⟩) d2.1.le, d2.cong a159⟩
      · have x15 : gI mF 0 15 = 0 := by rw [uI _ _ (by omega), c2, g12]
        have x14 : gI mF 133 14 = 0 := by rw [z5 _ _ (by omega) (by omega), s6]
        have x16 : gI mF 0 16 = gI m 0 16 := by rw [uI _ _ (by omega), F7.I 0 16 rfl, oa _ _ (by omega), (f1 0 16 (by omega) (by omega)).1]
        have c133 : ∀ j, j ≠ 40 → wL Lpr 133 j = false → wL Lsp 133 j = false → gI mF 133 j = gI m 133 j := fun j w1 w2 w3 => by rw [u133 j w1 w2 w3, o7 _ _ (by omega) (by omega) (by omega) (by omega)]
        have oc : ∀ c, 4 < c ∧ c < 68 ∨ 148 ≤ c → ∀ j, gI mF c j = gI m c j := fun c w j => out c j (by omega)
        unfold iTold at hQ ⊢
        rw [x15, x14, x16, c133 27 (by omega) rfl rfl, c133 36 (by omega) rfl rfl, c133 52 (by omega) rfl rfl, c133 49 (by omega) rfl rfl, c133 45 (by omega) rfl rfl, c133 46 (by omega) rfl rfl, oc 40 (by omega), oc 40 (by omega)]
        simp only [oc 27 (by omega), oc 148 (by omega), oc 32 (by omega), oc 155 (by omega), oc 66 (by omega), oc 154 (by omega), oc 41 (by omega), oc 153 (by omega)]
        exact ⟨trivial, hQ.2⟩
      · intro k hk
        rw [outJ _ _ (by omega)]; exact hR k hk
    · rw [t1] at s1
      have ev : nI v = -1 := congrArg Prod.fst (Option.some.inj s1)
      rw [show (-1 : Int32) = iz (-1) from rfl, nI_iz, iz_eq ⟨by omega, by omega⟩ ⟨by omega, by omega⟩] at ev
      omega
  · -- refused
    obtain ⟨f1, f2⟩ := fr _ (eT _ t1)
    obtain ⟨⟨e, s, e0, e6, g2, g3, -, -⟩, -⟩ := B0
    obtain ⟨m7, c1, c2, c3, F7⟩ := closeText_eq m5 (-1)
    have nz : ¬ gI m5 1 2 = 0 := by rw [g2, k0, n_eq (by omega) (by omega)]; omega
    rw [if_neg nz, g3] at c1
    have eO : OH_parish m = some (-1 - nI s, m7) := by
      have q14 : gN m1 14 = q := by rw [N1, hqm]
      rw [OH_parish, b1, bM_s, q14, eT _ t1, bV_s, if_pos (by decide), OH_parish_J51, c1, bV_s]
    have o7 : ∀ c j, c ≠ 1 → c ≠ 0 → (c < q ∨ q + 16 ≤ c) → gI m7 c j = gI m c j := fun c j z1 z2 z4 => by rw [F7.I c j (by unfold wL; simp; omega), (f1 c j z1 z4).1]
    have p7 : ∀ c j, c ≠ 1 → c ≠ 0 → (c < q ∨ q + 16 ≤ c) → gJ m7 c j = gJ m c j := fun c j z1 z2 z4 => by rw [F7.J c j (by unfold wL; simp; omega), (f1 c j z1 z4).2]
    obtain ⟨mB, r1, r2, FB, TLr⟩ := lock m7 (by rw [o7 _ _ (by omega) (by omega) (by omega)]; exact e2) (fun i hi => by rw [o7 _ _ (by omega) (by omega) (by omega)]; exact hb' i hi) (fun k hk => by rw [p7 _ _ (by omega) (by omega) (by omega)]; exact hR k hk) (fun j _ => p7 _ _ (by omega) (by omega) (by omega))
    rcases TLr with ⟨v', m5', mB', s1, -, v9, -⟩ | ⟨m5', mF, s1, s2, B, s10⟩
    · rw [t1] at s1
      have ev : -1 = nI v' := congrArg Prod.fst (Option.some.inj s1)
      rw [show (-1 : Int32) = iz (-1) from rfl, nI_iz, iz_eq ⟨by omega, by omega⟩ ⟨by omega, by omega⟩] at ev
      omega
    · rw [t1] at s1
      have em : m5 = m5' := congrArg Prod.snd (Option.some.inj s1)
      obtain ⟨⟨e', s', -, e6', g2', g3', g4', g5'⟩, hNm⟩ := B
      rw [← em] at g2' g3'
      have es : nI s' = nI s := by rw [← g3', g3]
      have eR : RM_parish m7 = some (-1 - nI s, mF) := by rw [r1, s2, g5', es]
      refine ⟨_, m7, mF, eO, eR, ?_⟩
      have uI : ∀ c j, (c < 133 ∨ c = 134 ∨ c = 135 ∨ 138 ≤ c) → gI mF c j = gI m7 c j := fun c j w => by
        rw [s10.I c j (by unfold wL Lpr W_RM_row; simp; omega), FB.I c j (by unfold wL; simp; omega)]
      have uJ : ∀ c j, (c < 133 ∨ c = 134 ∨ c = 135 ∨ 138 ≤ c) → gJ mF c j = gJ m7 c j := fun c j w => by
        rw [s10.J c j (by unfold wL Lpr W_RM_row; simp; omega), FB.J c j (by unfold wL; simp; omega)]
      have u133 : ∀ j, wL Lpr 133 j = false → wL Lsp 133 j = false → gI mF 133 j = gI m7 133 j := fun j w2 w3 => by rw [s10.I 133 j w2, FB.I 133 j w3]
      have nF : ∀ k, gN mF k = gN m k := fun k => by rw [s10.N, FB.N, F7.N, f2]
      have out : ∀ c j, (c ≠ 1 ∧ c ≠ 0 ∧ (c < q ∨ q + 16 ≤ c) ∧ (c < 133 ∨ c = 134 ∨ c = 135 ∨ 138 ≤ c)) → gI mF c j = gI m c j := fun c j w => by rw [uI c j w.2.2.2, o7 c j w.1 w.2.1 w.2.2.1]
      have outJ : ∀ c j, (c ≠ 1 ∧ c ≠ 0 ∧ (c < q ∨ q + 16 ≤ c) ∧ (c < 133 ∨ c = 134 ∨ c = 135 ∨ 138 ≤ c)) → gJ mF c j = gJ m c j := fun c j w => by rw [uJ c j w.2.2.2, p7 c j w.1 w.2.1 w.2.2.1]
      have c133 : ∀ j, wL Lpr 133 j = false → wL Lsp 133 j = false → gI mF 133 j = gI m 133 j := fun j w2 w3 => by rw [u133 j w2 w3, o7 _ _ (by omega) (by omega) (by omega)]
      refine ⟨?_, ?_, ?_, ?_, ?_, ?_, ?_, ?_⟩
      · unfold iNow; rw [nF, nF]; exact hNow
      · exact iTape0 (by rw [uI _ _ (by omega)]; exact c3) (by rw [s10.I 133 2 rfl, r2])
      · rw [nF, ← hpm]
        refine PRel.mv (m := m) (b := p) (c := 135) (o := 0) (n := 137) (q := 0) ⟨fun j _ _ => out _ _ (by omega), fun j _ => out _ _ (by omega), fun t ht => ⟨out _ _ (by omega), outJ _ _ (by omega), fun j _ => ⟨out _ _ (by omega), out _ _ (by omega)⟩⟩, fun j _ => ⟨out _ _ (by omega), out _ _ (by omega), out _ _ (by omega), outJ _ _ (by omega)⟩⟩ (fun s _ => out _ _ (by omega)) (fun s hs => ?_) hW hP
        rw [Nat.zero_add]; exact hNm s hs
      · exact hW.cong (fun j => out _ _ (by omega))
      · refine iUndo.cong (fun c j w => ?_) hU
        by_cases w' : c = 133
        · rw [w', show j = 40 by omega]; exact c133 40 rfl rfl
        · exact out _ _ (by omega)
      · intro k hk
        obtain ⟨b1, b2, b3⟩ := hI k hk
        rw [out 100 k (by omega), out 161 k (by omega)]
        refine ⟨b1, b2, fun h1 => ?_⟩
        obtain ⟨d1, d2⟩ := b3 h1
        have a159 : ∀ j, gI mF 159 j = gI m 159 j := fun j => out _ _ (by omega)
        exact ⟨d1.cong a159 (fun j => outJ _ _ (by omega)) (fun d j w1 w2 => ⟨out _ _ (by omega), outJ _ _ (by omega)⟩) d2.1.le, d2.cong a159⟩
      · have x15 : gI mF 0 15 = gI mF 133 14 := by rw [uI _ _ (by omega), c2, g2', g4']
        have x16 : gI mF 0 16 = gI m 0 16 := by rw [uI _ _ (by omega), F7.I 0 16 rfl, (f1 0 16 (by omega) (by omega)).1]
        have oc : ∀ c, 4 < c ∧ c < 68 ∨ 148 ≤ c → ∀ j, gI mF c j = gI m c j := fun c w j => out c j (by omega)
        unfold iTold at hQ ⊢
        rw [x15, x16, c133 27 rfl rfl, c133 36 rfl rfl, c133 52 rfl rfl, c133 49 rfl rfl, c133 45 rfl rfl, c133 46 rfl rfl, oc 40 (by omega), oc 40 (by omega)]
        simp only [oc 27 (by omega), oc 148 (by omega), oc 32 (by omega), oc 155 (by omega), oc 66 (by omega), oc 154 (by omega), oc 41 (by omega), oc 153 (by omega)]
        exact ⟨trivial, hQ.2⟩
      · intro k hk
        rw [outJ _ _ (by omega)]; exact hR k hk

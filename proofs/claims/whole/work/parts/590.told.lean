/-! points told -/
def Lx : List (Nat × Nat) := (0, 15) :: (0, 16) :: (27, 999999) :: (32, 999999) :: (66, 999999) :: (40, 0) :: (40, 1) :: (41, 999999) :: (133, 14) :: (133, 27) :: (133, 36) :: (133, 52) :: (133, 49) :: (133, 45) :: (133, 46) :: (148, 999999) :: (155, 999999) :: (154, 999999) :: (153, 999999) :: (36, 999999) :: (37, 999999) :: (38, 999999) :: (39, 999999) :: Ltp
theorem lx_par {p d k : Nat} (hp : p = 68 ∨ p = 84 ∨ p = 101 ∨ p = 117) (h1 : p ≤ d) (h2 : d < p + 16) : wL Lx d k = false := by
  have key : ∀ d, 67 ≤ d → d < 133 → ∀ k, wL Lx d k = false := by
    intro d h1 h2 k
    unfold wL
    rw [List.any_eq_false]
    have : ∀ q ∈ Lx, q.1 < 67 ∨ 133 ≤ q.1 := by decide +kernel
    intro q hq
    have := this q hq
    simp only [Bool.and_eq_true, beq_iff_eq, not_and]
    intro h; omega
  exact key d (by omega) (by omega) k
/-- Inv from the tape and what was told last -/
theorem inv_told {m m' : Mem} {L : List (Nat × Nat)} (hF : Frm L [] m m') (hL : subM L Lx = true) (hT2 : iTape m') (hQ2 : iTold m') (h : Inv m) : Inv m' := by
  replace hF := hF.mo (wL_subM hL)
  obtain ⟨hN, hT, hP, hW, hU, hI, hQ, hR⟩ := h
  have a135 : ∀ k, gI m' 135 k = gI m 135 k := fun k => hF.I _ _ rfl
  have hpp : ∀ p, (p = 68 ∨ p = 84 ∨ p = 101 ∨ p = 117) → ∀ d k, p ≤ d → d < p + 16 → gI m' d k = gI m d k ∧ gJ m' d k = gJ m d k := fun p hp d k h1 h2 => ⟨hF.I _ _ (lx_par hp h1 h2), hF.J _ _ (lx_par hp h1 h2)⟩
  have hnow : gN m 13 = 68 ∨ gN m 13 = 84 ∨ gN m 13 = 101 ∨ gN m 13 = 117 := by rcases hN with h | h <;> omega
  refine ⟨?_, hT2, ?_, hW.cong a135, ?_, ?_, hQ2, ?_⟩
  · unfold iNow; rw [hF.N, hF.N]; exact hN
  · rw [hF.N]
    exact hP.cong a135 (fun k => hF.J _ _ rfl) (hpp _ hnow) hW.1.le
  · unfold iUndo at *
    rw [hF.I 3 1 rfl, hF.I 133 40 rfl]
    simp only [a135, fun k => hF.I 151 k rfl, fun k => hF.I 4 k rfl]
    refine ⟨hU.1, hU.2.1, fun u hu => ?_⟩
    obtain ⟨b1, b2, b3, b4⟩ := hU.2.2 u hu
    exact ⟨b1, b2, b3, b4.cong (fun k => hF.I 151 k rfl)⟩
  · intro k hk
    obtain ⟨b1, b2, b3⟩ := hI k hk
    rw [hF.I 100 k rfl, hF.I 161 k rfl]
    refine ⟨b1, b2, fun h1 => ?_⟩
    obtain ⟨c1, c2⟩ := b3 h1
    exact ⟨c1.cong (fun k => hF.I 159 k rfl) (fun k => hF.J 160 k rfl) (hpp _ (by omega)) c2.1.le, c2.cong (fun k => hF.I 159 k rfl)⟩
  · intro k hk
    rw [hF.J 138 k rfl]; exact hR k hk
theorem and255 (x : Int32) : ∃ a, a < 256 ∧ x &&& 255 = nI a := by
  have h : (x &&& 255).toBitVec.toNat < 256 := by
    have e : (x &&& 255).toBitVec = x.toBitVec &&& (255 : BitVec 32) := rfl
    rw [e, BitVec.toNat_and]
    have : (255 : BitVec 32).toNat = 255 := rfl
    rw [this]
    have := Nat.and_le_right (n := x.toBitVec.toNat) (m := 255)
    omega
  refine ⟨_, h, ?_⟩
  show x &&& 255 = ⟨⟨BitVec.ofNat 32 (x &&& 255).toBitVec.toNat⟩⟩
  rw [BitVec.ofNat_toNat, BitVec.setWidth_eq]
  rfl
/-- the bytes of the tape -/
theorem tape_b {m : Mem} (h : Inv m) : ∃ L, L ≤ 940 ∧ ∃ b : Nat → Nat, gI m 1 1 = nI L ∧ gI m 133 2 = nI L ∧ (∀ i, i < L → b i < 256 ∧ gI m 2 i = nI (b i)) ∧ ∀ i, i < L → gI m 134 i &&& 255 = nI (b i) := by
  obtain ⟨L, hL, eL⟩ := h.2.1.2.1.ex
  refine ⟨L, hL, fun i => ixn (gI m 134 i &&& 255), by rw [h.2.1.1, eL], eL, fun i hi => ?_, fun i hi => ?_⟩
  · obtain ⟨a, ha, ea⟩ := and255 (gI m 134 i)
    have e : ixn (gI m 134 i &&& 255) = a := by rw [ea, n_ixn (by omega)]
    rw [h.2.1.2.2 i (by rw [eL, n_ixn (by omega)]; exact hi)]
    simp only [e]
    exact ⟨ha, ea⟩
  · obtain ⟨a, ha, ea⟩ := and255 (gI m 134 i)
    have e : ixn (gI m 134 i &&& 255) = a := by rw [ea, n_ixn (by omega)]
    simp only [e]
    exact ea
/-- a byte row of points -/
def okP (b : Nat → Nat) (i : Nat) : Prop := b i ≤ if i % 3 = 2 then 1 else 20
theorem pt_loop {L N : Nat} {b : Nat → Nat} {kx : Mem → Option (Int32 × Mem)} (hL : L = 3 * N) (hN : N ≤ 8) : ∀ (d j fu : Nat) (m : Mem), j + d = N → d < fu → gI m 1 1 = nI L → (∀ i, i < L → b i < 256 ∧ gI m 2 i = nI (b i)) → gI m 36 2 = nI j → (∀ i, i < j → gI m 37 i = nI (b (3 * i)) ∧ gI m 38 i = nI (b (3 * i + 1)) ∧ gI m 39 i = nI (b (3 * i + 2))) →
    ((∀ i, 3 * j ≤ i → i < L → okP b i) ∧ ∃ m', PT_take_L35 kx fu m (nI (3 * j)) = kx m' ∧ gI m' 36 2 = nI N ∧ (∀ i, i < N → gI m' 37 i = nI (b (3 * i)) ∧ gI m' 38 i = nI (b (3 * i + 1)) ∧ gI m' 39 i = nI (b (3 * i + 2))) ∧ Frm [(36, 2), (37, 999999), (38, 999999), (39, 999999)] [] m m') ∨ ((¬ ∀ i, 3 * j ≤ i → i < L → okP b i) ∧ ∃ m', PT_take_L35 kx fu m (nI (3 * j)) = some (0, m') ∧ Frm [(36, 2), (37, 999999), (38, 999999), (39, 999999)] [] m m')
  | 0, j, fu, m, hd, hf, h1, hb, h36, hs => by
    obtain ⟨f, rfl⟩ : ∃ f, fu = f + 1 := ⟨fu - 1, by omega⟩
    obtain rfl : j = N := by omega
    refine Or.inl ⟨fun i a c => by omega, m, ?_, h36, hs, Frm.rf⟩
    rw [PT_take_L35, h1, k2, n_add, if_pos (by rw [n_le (by omega) (by omega)]; omega)]
  | d + 1, j, fu, m, hd, hf, h1, hb, h36, hs => by
    obtain ⟨f, rfl⟩ : ∃ f, fu = f + 1 := ⟨fu - 1, by omega⟩
    obtain ⟨x1, x2⟩ := hb (3 * j) (by omega)
    obtain ⟨y1, y2⟩ := hb (3 * j + 1) (by omega)
    obtain ⟨z1, z2⟩ := hb (3 * j + 2) (by omega)
    have ip : OH_isPoint (nI (b (3 * j))) (nI (b (3 * j + 1))) = if b (3 * j) ≤ 20 ∧ b (3 * j + 1) ≤ 20 then 1 else 0 := by
      unfold OH_isPoint
      rw [if_neg (by rw [k0, n_lt (by omega) (by omega)]; omega), k20]
      by_cases q : b (3 * j) ≤ 20
      · rw [if_neg (by rw [n_lt (by omega) (by omega)]; omega), if_neg (by rw [k0, n_lt (by omega) (by omega)]; omega)]
        by_cases w : b (3 * j + 1) ≤ 20
        · rw [if_neg (by rw [n_lt (by omega) (by omega)]; omega), if_pos ⟨q, w⟩]
        · rw [if_pos (by rw [n_lt (by omega) (by omega)]; omega), if_neg (fun z => w z.2)]
      · rw [if_pos (by rw [n_lt (by omega) (by omega)]; omega), if_neg (fun z => q z.1)]
    have e0 : ∀ r, PT_take_L35 kx (f + 1) m (nI (3 * j)) = r ↔ (if (if b (3 * j) ≤ 20 ∧ b (3 * j + 1) ≤ 20 then (1 : Int32) else 0) = 0 then (some (0, m)) else (if nI (b (3 * j + 2)) ≤ 1 then PT_take_L35 kx f (sI (sI (sI (sI m 37 j (nI (b (3 * j)))) 38 j (nI (b (3 * j + 1)))) 39 j (nI (b (3 * j + 2)))) 36 2 (nI (j + 1))) (nI (3 * j + 3)) else (some (0, m)))) = r := by
      intro r
      have g1 : gI (sI m 37 j (nI (b (3 * j)))) 36 2 = nI j := by rw [gI_sI, if_neg (by omega), h36]
      have g2 : gI (sI m 37 j (nI (b (3 * j)))) 2 (3 * j + 1) = nI (b (3 * j + 1)) := by rw [gI_sI, if_neg (by omega), y2]
      have g3 : gI (sI (sI m 37 j (nI (b (3 * j)))) 38 j (nI (b (3 * j + 1)))) 36 2 = nI j := by rw [gI_sI, if_neg (by omega), g1]
      have g4 : gI (sI (sI m 37 j (nI (b (3 * j)))) 38 j (nI (b (3 * j + 1)))) 2 (3 * j + 2) = nI (b (3 * j + 2)) := by rw [gI_sI, if_neg (by omega), gI_sI, if_neg (by omega), z2]
      have g5 : gI (sI (sI (sI m 37 j (nI (b (3 * j)))) 38 j (nI (b (3 * j + 1)))) 39 j (nI (b (3 * j + 2)))) 36 2 = nI j := by rw [gI_sI, if_neg (by omega), g3]
      rw [PT_take_L35, h1, h36, if_neg (by rw [k2, n_add, n_le (by omega) (by omega)]; omega), if_neg (by rw [show (8 : Int32) = nI 8 from rfl, n_le (by omega) (by omega)]; omega), if_pos (n_in (by omega) (by omega)), show nI (3 * j) + 1 = nI (3 * j + 1) by rw [k1, n_add], show nI (3 * j) + 2 = nI (3 * j + 2) by rw [k2, n_add], show nI (3 * j) + 3 = nI (3 * j + 3) by rw [k3, n_add], if_pos (n_in (by omega) (by omega)), if_pos (n_in (by omega) (by omega)), if_pos (n_in (by omega) (by omega)), n_ixn (by omega), n_ixn (by omega), n_ixn (by omega), n_ixn (by omega), x2, y2, z2, ip, letM_p, g1, if_pos (n_in (by omega) (by omega)), n_ixn (by omega), g2, letM_p, g3, if_pos (n_in (by omega) (by omega)), n_ixn (by omega), g4, letM_p, g5, letM_p, show nI j + 1 = nI (j + 1) by rw [k1, n_add]]
    have m0 : 3 * j % 3 = 0 := by omega
    have m1 : (3 * j + 1) % 3 = 1 := by omega
    have m2 : (3 * j + 2) % 3 = 2 := by omega
    by_cases q : b (3 * j) ≤ 20 ∧ b (3 * j + 1) ≤ 20
    · by_cases w : b (3 * j + 2) ≤ 1
      · have F1 : Frm [(36, 2), (37, 999999), (38, 999999), (39, 999999)] [] m (sI (sI (sI (sI m 37 j (nI (b (3 * j)))) 38 j (nI (b (3 * j + 1)))) 39 j (nI (b (3 * j + 2)))) 36 2 (nI (j + 1))) := (Frm.sI rfl rfl).tr ((Frm.sI rfl rfl).tr ((Frm.sI rfl rfl).tr (Frm.sI rfl rfl)))
        have ok3 : ∀ i, 3 * j ≤ i → i < 3 * (j + 1) → okP b i := fun i a c => by
          unfold okP
          rcases (show i = 3 * j ∨ i = 3 * j + 1 ∨ i = 3 * j + 2 by omega) with rfl | rfl | rfl
          · rw [m0, if_neg (by omega)]; exact q.1
          · rw [m1, if_neg (by omega)]; exact q.2
          · rw [m2, if_pos rfl]; exact w
        have ih := pt_loop (b := b) (kx := kx) hL hN d (j + 1) f _ (by omega) (by omega) (by rw [F1.I 1 1 rfl]; exact h1) (fun i hi => by rw [F1.I 2 i rfl]; exact hb i hi) (by rw [gI_sI, if_pos ⟨rfl, rfl⟩]) (fun i hi => by
          by_cases z : i = j
          · subst z
            refine ⟨?_, ?_, ?_⟩
            · rw [gI_sI, if_neg (by omega), gI_sI, if_neg (by omega), gI_sI, if_neg (by omega), gI_sI, if_pos ⟨rfl, rfl⟩]
            · rw [gI_sI, if_neg (by omega), gI_sI, if_neg (by omega), gI_sI, if_pos ⟨rfl, rfl⟩]
            · rw [gI_sI, if_neg (by omega), gI_sI, if_pos ⟨rfl, rfl⟩]
          · have o : ∀ c, c ≠ 36 → gI (sI (sI (sI (sI m 37 j (nI (b (3 * j)))) 38 j (nI (b (3 * j + 1)))) 39 j (nI (b (3 * j + 2)))) 36 2 (nI (j + 1))) c i = gI m c i := fun c hc => by
              rw [gI_sI, if_neg (fun y => hc y.1), gI_sI, if_neg (fun y => z y.2), gI_sI, if_neg (fun y => z y.2), gI_sI, if_neg (fun y => z y.2)]
            rw [o 37 (by omega), o 38 (by omega), o 39 (by omega)]
            exact hs i (by omega))
        have eS : PT_take_L35 kx (f + 1) m (nI (3 * j)) = PT_take_L35 kx f (sI (sI (sI (sI m 37 j (nI (b (3 * j)))) 38 j (nI (b (3 * j + 1)))) 39 j (nI (b (3 * j + 2)))) 36 2 (nI (j + 1))) (nI (3 * (j + 1))) := by
          rw [e0, if_pos q, if_neg (by decide), if_pos (by rw [k1, n_le (by omega) (by omega)]; exact w), show 3 * j + 3 = 3 * (j + 1) by omega]
        rcases ih with ⟨a1, m', a2, a3, a4, a5⟩ | ⟨a1, m', a2, a5⟩
        · exact Or.inl ⟨fun i x y => by
            by_cases z : i < 3 * (j + 1)
            · exact ok3 i x z
            · exact a1 i (by omega) y, m', by rw [eS, a2], a3, a4, F1.tr a5⟩
        · exact Or.inr ⟨fun z => a1 (fun i x y => z i (by omega) y), m', by rw [eS, a2], F1.tr a5⟩
      · refine Or.inr ⟨fun z => ?_, m, ?_, Frm.rf⟩
        · have := z (3 * j + 2) (by omega) (by omega)
          unfold okP at this
          rw [m2, if_pos rfl] at this
          exact w this
        · rw [e0, if_pos q, if_neg (by decide), if_neg (by rw [k1, n_le (by omega) (by omega)]; exact w)]
    · refine Or.inr ⟨fun z => ?_, m, ?_, Frm.rf⟩
      · have a := z (3 * j) (by omega) (by omega)
        have c := z (3 * j + 1) (by omega) (by omega)
        unfold okP at a c
        rw [m0, if_neg (by omega)] at a
        rw [m1, if_neg (by omega)] at c
        exact q ⟨a, c⟩
      · rw [e0, if_neg q, if_pos rfl]
theorem it_loop {L : Nat} {b : Nat → Nat} {kx : Mem → Option (Int32 × Mem)} (hL : L ≤ 24) : ∀ (d i fu : Nat) (m : Mem), i + d = L → d < fu → gI m 133 3 = nI L → (∀ i, i < L → b i < 256 ∧ gI m 134 i &&& 255 = nI (b i)) → (∀ t, t < i → gI m 152 t = nI (b t)) →
    ((∀ t, i ≤ t → t < L → okP b t) ∧ ∃ m', RM_isTold_L45 kx fu m (nI i) = kx m' ∧ (∀ t, t < L → gI m' 152 t = nI (b t)) ∧ Frm [(152, 999999)] [] m m') ∨ ((¬ ∀ t, i ≤ t → t < L → okP b t) ∧ ∃ m', RM_isTold_L45 kx fu m (nI i) = some (0, m') ∧ Frm [(152, 999999)] [] m m')
  | 0, i, fu, m, hd, hf, h3, hb, hs => by
    obtain ⟨f, rfl⟩ : ∃ f, fu = f + 1 := ⟨fu - 1, by omega⟩
    obtain rfl : i = L := by omega
    exact Or.inl ⟨fun t a c => by omega, m, by rw [RM_isTold_L45, h3, if_pos (by rw [n_le (by omega) (by omega)]; omega)], hs, Frm.rf⟩
  | d + 1, i, fu, m, hd, hf, h3, hb, hs => by
    obtain ⟨f, rfl⟩ : ∃ f, fu = f + 1 := ⟨fu - 1, by omega⟩
    obtain ⟨b1, b2⟩ := hb i (by omega)
    have F1 : Frm [(152, 999999)] [] m (sI m 152 i (nI (b i))) := Frm.sI rfl rfl
    have g1 : gI (sI m 152 i (nI (b i))) 152 i = nI (b i) := by rw [gI_sI, if_pos ⟨rfl, rfl⟩]
    have ei : nI i + 1 = nI (i + 1) := by rw [k1, n_add]
    have e0 : RM_isTold_L45 kx (f + 1) m (nI i) = if nI (b i) ≤ nI (if i % 3 = 2 then 1 else 20) then (RM_isTold_L45 kx f (sI m 152 i (nI (b i))) (nI (i + 1))) else some (0, sI m 152 i (nI (b i))) := by
      rw [RM_isTold_L45, h3, if_neg (by rw [n_le (by omega) (by omega)]; omega), RM_octet, if_pos (n_in (by omega) (by omega)), n_ixn (by omega), b2, bI_s, if_pos (n_in (by omega) (by omega)), letM_p, k3, irm_n (by omega) (by omega) (by omega), g1]
      by_cases q : i % 3 = 2
      · rw [q, if_pos (by decide), RM_isTold_J83, ei, if_pos rfl]; rfl
      · rw [if_neg (by rw [k2, n_eq (by omega) (by omega)]; exact q), RM_isTold_J83, ei, if_neg q]; rfl
    have c1 : (nI (b i) ≤ nI (if i % 3 = 2 then 1 else 20)) ↔ okP b i := by
      unfold okP
      rw [n_le (by omega) (by split <;> omega)]
    by_cases q : okP b i
    · have ih := it_loop (b := b) (kx := kx) hL d (i + 1) f _ (by omega) (by omega) (by rw [F1.I 133 3 rfl]; exact h3) (fun t ht => by rw [F1.I 134 t rfl]; exact hb t ht) (fun t ht => by
        rw [gI_sI]
        by_cases z : t = i
        · rw [if_pos ⟨rfl, z⟩, z]
        · rw [if_neg (fun y => z y.2)]; exact hs t (by omega))
      rcases ih with ⟨a1, m', a2, a3, a4⟩ | ⟨a1, m', a2, a4⟩
      · exact Or.inl ⟨fun t x y => by
          by_cases z : t = i
          · rw [z]; exact q
          · exact a1 t (by omega) y, m', by rw [e0, if_pos (c1.mpr q), a2], a3, F1.tr a4⟩
      · exact Or.inr ⟨fun z => a1 (fun t x y => z t (by omega) y), m', by rw [e0, if_pos (c1.mpr q), a2], F1.tr a4⟩
    · exact Or.inr ⟨fun z => q (z i (Nat.le_refl _) (by omega)), _, by rw [e0, if_neg (fun z => q (c1.mp z))], F1⟩

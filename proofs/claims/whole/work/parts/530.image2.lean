/-! image, restore -/
theorem iTold.cong {m M : Mem} (o : ∀ c j, c < 68 ∧ 4 < c ∨ c = 0 ∨ c = 133 ∧ j ≠ 40 ∧ j ≠ 0 ∨ 148 ≤ c ∧ c < 159 → gI M c j = gI m c j) (hQ : iTold m) : iTold M := by
  unfold iTold at hQ ⊢
  rw [o 0 15 (by omega), o 0 16 (by omega), o 133 14 (by omega), o 133 27 (by omega), o 133 36 (by omega), o 133 52 (by omega), o 133 49 (by omega), o 133 45 (by omega), o 133 46 (by omega), o 40 0 (by omega), o 40 1 (by omega)]
  have oc : ∀ c, c < 68 ∧ 4 < c ∨ 148 ≤ c ∧ c < 159 → ∀ j, gI M c j = gI m c j := fun c b j => o c j (by omega)
  simp only [oc 27 (by omega), oc 148 (by omega), oc 32 (by omega), oc 155 (by omega), oc 66 (by omega), oc 154 (by omega), oc 41 (by omega), oc 153 (by omega)]
  exact hQ
theorem iTape.cong {m M : Mem} (o : ∀ c j, c = 1 ∨ c = 2 ∨ c = 134 ∨ c = 133 ∧ j = 2 → gI M c j = gI m c j) (hT : iTape m) : iTape M := by
  unfold iTape
  rw [o 133 2 (by omega), o 1 1 (by omega)]
  refine ⟨hT.1, hT.2.1, fun i hi => ?_⟩
  rw [o 2 i (by omega), o 134 i (by omega)]
  exact hT.2.2 i hi
theorem iUndo.cong {m M : Mem} (o : ∀ c j, c = 3 ∨ c = 4 ∨ c = 151 ∨ c = 135 ∨ c = 133 ∧ j = 40 → gI M c j = gI m c j) (hU : iUndo m) : iUndo M := by
  have a135 : ∀ j, gI M 135 j = gI m 135 j := fun j => o _ _ (by omega)
  have a151 : ∀ j, gI M 151 j = gI m 151 j := fun j => o _ _ (by omega)
  have a4 : ∀ j, gI M 4 j = gI m 4 j := fun j => o _ _ (by omega)
  unfold iUndo at hU ⊢
  rw [o 133 40 (by omega), o 3 1 (by omega)]
  refine ⟨hU.1, hU.2.1, fun u hu => ?_⟩
  obtain ⟨b1, b2, b3, b4⟩ := hU.2.2 u hu
  simp only [a135, a151, a4]
  exact ⟨b1, b2, b3, b4.cong a151⟩
theorem PRel.mv {m M : Mem} {a b c o n q c' o' n' q' : Nat} (hE : ParEq m M a b) (hc : ∀ s, s < 116 → gI M c' (o' + s) = gI m c (o + s)) (hn : ∀ s, s < 13 → gJ M n' (q' + s) = gJ m n (q + s)) (hW : WFs m c o) (h : PRel m b c o n q) : PRel M a c' o' n' q' := by
  obtain ⟨h1, h2, h3, h4, h5, h6, h7, h8, h9, h10⟩ := h
  obtain ⟨p1, p2, p3, p4⟩ := hE
  have e0 : gI M c' o' = gI m c o := hc 0 (by omega)
  have e1 : gI M c' (o' + 1) = gI m c (o + 1) := hc 1 (by omega)
  have l3 : ixn (gI m c o) ≤ 3 := hW.1.le
  have l10 : ixn (gI m c (o + 1)) ≤ 10 := hW.2.1.le
  refine ⟨by rw [p1 _ (by omega) (by omega), e0]; exact h1, by rw [p1 _ (by omega) (by omega), e1]; exact h2, by rw [p1 _ (by omega) (by omega), hc _ (by omega)]; exact h3, by rw [p1 _ (by omega) (by omega), hc _ (by omega)]; exact h4, by rw [p1 _ (by omega) (by omega), hc _ (by omega)]; exact h5, by rw [p1 _ (by omega) (by omega), hc _ (by omega)]; exact h6, by rw [p1 _ (by omega) (by omega), hc _ (by omega)]; exact h7, fun k hk => ?_, fun k hk => ?_, fun t ht => ?_⟩
  · rw [p2 k hk, Nat.add_assoc, hc (7 + k) (by omega), ← Nat.add_assoc]; exact h8 k hk
  · rw [e0] at hk
    obtain ⟨b1, b2, b3⟩ := h9 k hk
    obtain ⟨c1, c2, c3⟩ := p3 k (by omega)
    have l12 : ixn (gI m c (o + 11 + k)) ≤ 12 := (hW.2.2.2.2.2.2.2.1 k hk).2.1.le
    have e11 : gI M c' (o' + 11 + k) = gI m c (o + 11 + k) := by rw [Nat.add_assoc, hc (11 + k) (by omega), ← Nat.add_assoc]
    refine ⟨by rw [c1, e11]; exact b1, by rw [c2, hn k (by omega)]; exact b2, fun i hi => ?_⟩
    rw [e11] at hi
    have ex : gI M c' (o' + 14 + 24 * k + 2 * i) = gI m c (o + 14 + 24 * k + 2 * i) := by
      rw [show o' + 14 + 24 * k + 2 * i = o' + (14 + 24 * k + 2 * i) by omega, hc _ (by omega)]
      rw [show o + 14 + 24 * k + 2 * i = o + (14 + 24 * k + 2 * i) by omega]
    have ey : gI M c' (o' + 14 + 24 * k + 2 * i + 1) = gI m c (o + 14 + 24 * k + 2 * i + 1) := by
      rw [show o' + 14 + 24 * k + 2 * i + 1 = o' + (14 + 24 * k + 2 * i + 1) by omega, hc _ (by omega)]
      rw [show o + 14 + 24 * k + 2 * i + 1 = o + (14 + 24 * k + 2 * i + 1) by omega]
    rw [(c3 i (by omega)).1, (c3 i (by omega)).2, ex, ey]
    exact b3 i hi
  · rw [e1] at ht
    obtain ⟨b1, b2, b3, b4⟩ := h10 t ht
    obtain ⟨d1, d2, d3, d4⟩ := p4 t (by omega)
    have e : ∀ r, r < 3 → gI M c' (o' + 86 + 3 * t + r) = gI m c (o + 86 + 3 * t + r) := fun r hr => by
      rw [show o' + 86 + 3 * t + r = o' + (86 + 3 * t + r) by omega, hc _ (by omega)]
      rw [show o + 86 + 3 * t + r = o + (86 + 3 * t + r) by omega]
    have en : gJ M n' (q' + 3 + t) = gJ m n (q + 3 + t) := by
      rw [Nat.add_assoc, hn _ (by omega), ← Nat.add_assoc]
    refine ⟨by rw [d1, show o' + 86 + 3 * t = o' + 86 + 3 * t + 0 by omega, e 0 (by omega)]; exact b1, by rw [d2, e 1 (by omega)]; exact b2, by rw [d3, e 2 (by omega)]; exact b3, by rw [d4, en]; exact b4⟩
theorem op_image {m : Mem} (h : Inv m) (x : Int32) : ∃ v m1 m2, OH_image m x = some (v, m1) ∧ RM_image m1 x = some (v, m2) ∧ Inv m2 := by
  have hI : Inv (sI m 133 0 0) := inv_frame fr0 h
  rcases isIn_n (x := x) (n := 1) (by omega) with ⟨e, hx⟩ | ⟨e, k, hk, rfl⟩
  · refine ⟨0, m, sI m 133 0 0, ?_, ?_, hI⟩
    · rw [OH_image]
      rcases hx with q | q
      · rw [if_pos q]
      · by_cases q0 : x < 0
        · rw [if_pos q0]
        · rw [if_neg q0, if_neg (Int32.not_le.mpr (show 1 < x from q))]
    · rw [RM_image, letM_p, show RM_isIn x 0 1 = 0 from e, if_pos rfl]
  · have hp : gN m 13 = 101 ∨ gN m 13 = 117 := by rcases h.1 with q | q <;> omega
    obtain ⟨mp, e1, pe, po, pn⟩ := copyPar (m := m) (a := 68 + 16 * k) (b := gN m 13) (by omega)
    have i1 : ((1 : Int32) &&& 1) = 1 := by decide
    have eO : OH_image m (nI k) = some (1, sI mp 100 k 1) := by
      rw [OH_image, if_neg (by rw [k0, n_lt (by omega) (by omega)]; omega), if_pos (by rw [k1, n_le (by omega) (by omega)]; omega), if_pos (n_in (by omega) (by omega)), n_ixn (by omega), e1, i1]
      rfl
    obtain ⟨ma, ea, a1, a2, a3⟩ := im_row (k := k) (by omega) (kx := fun m2 => RM_image_L49 (nI k) (fun m3 => if inb (nI k) 2 then (letM (sI m3 161 (ixn (nI k)) ((1 : Int32) &&& 1)) fun m5 => some (1, m5)) else none) FU m2 0) 116 0 FU (sI (sI mp 100 k 1) 133 0 0) (by omega) (by unfold FU; omega)
    obtain ⟨mb, eb, b1, b2, b3, b4⟩ := im_nam (k := k) (by omega) (kx := fun m3 => if inb (nI k) 2 then (letM (sI m3 161 (ixn (nI k)) ((1 : Int32) &&& 1)) fun m5 => some (1, m5)) else none) 13 0 FU ma (by omega) (by unfold FU; omega)
    rw [show nI 0 = 0 from k0.symm] at ea eb
    have eR : RM_image (sI mp 100 k 1) (nI k) = some (1, sI mb 161 k 1) := by
      rw [RM_image, letM_p, show RM_isIn (nI k) 0 1 = 1 from e, if_neg (show ¬ (1 : Int32) = 0 by decide), ea, eb, if_pos (n_in (by omega) (by omega)), n_ixn (by omega), i1, letM_p]
    have bI : ∀ c j, gI mb c j = gI ma c j := fun c j => by unfold gI; rw [b3]
    have aJ : ∀ c j, gJ ma c j = gJ mp c j := fun c j => by unfold gJ; rw [a3]; rfl
    generalize hM : sI mb 161 k 1 = M at eR
    have gM : ∀ c j, ¬ (c = 161 ∧ j = k) → gI M c j = gI ma c j := fun c j q => by rw [← hM, gI_sI, if_neg q, bI]
    have gO : ∀ c j, ¬ (c = 161 ∧ j = k) → ¬ (c = 159 ∧ 116 * k ≤ j ∧ j < 116 * k + 116) → ¬ (c = 133 ∧ j = 0) → ¬ (c = 100 ∧ j = k) → (c < 68 + 16 * k ∨ 68 + 16 * k + 16 ≤ c) → gI M c j = gI m c j := fun c j q1 q2 q3 q4 q5 => by
      rw [gM c j q1, a2 c j q2, gI_sI, if_neg q3, gI_sI, if_neg q4, (po c j q5).1]
    have gA : ∀ c j, 68 + 16 * k ≤ c → c < 68 + 16 * k + 16 → gI M c j = gI mp c j := fun c j q1 q2 => by
      rw [gM c j (by omega), a2 c j (by omega), gI_sI, if_neg (by omega), gI_sI, if_neg (by omega)]
    have gB : ∀ s, s < 116 → gI M 159 (116 * k + s) = gI m 135 s := fun s hs => by
      rw [gM _ _ (by omega), a1 s (by omega) hs, gI_sI, if_neg (by omega), gI_sI, if_neg (by omega), (po _ _ (by omega)).1]
    have jM : ∀ c j, gJ M c j = gJ mb c j := fun c j => by rw [← hM, gJ_sI]
    have jB : ∀ s, s < 13 → gJ M 160 (13 * k + s) = gJ m 137 s := fun s hs => by
      rw [jM, b1 s (by omega) hs, aJ, (po _ _ (by omega)).2]
    have jO : ∀ c j, ¬ (c = 160 ∧ 13 * k ≤ j ∧ j < 13 * k + 13) → (c < 68 + 16 * k ∨ 68 + 16 * k + 16 ≤ c) → gJ M c j = gJ m c j := fun c j q1 q2 => by
      rw [jM, b2 c j q1, aJ, (po _ _ q2).2]
    have jA : ∀ c j, 68 + 16 * k ≤ c → c < 68 + 16 * k + 16 → gJ M c j = gJ mp c j := fun c j q1 q2 => by
      rw [jM, b2 c j (by omega), aJ]
    have nM : M.2.2 = m.2.2 := by rw [← hM, ← pn]; show mb.2.2 = _; rw [b4, a3]; rfl
    have gNe : ∀ j, gN M j = gN m j := fun j => by unfold gN; rw [nM]
    have v161 : gI M 161 k = 1 := by rw [← hM, gI_sI, if_pos ⟨rfl, rfl⟩]
    have v100 : gI M 100 k = 1 := by rw [gM _ _ (by omega), a2 _ _ (by omega), gI_sI, if_neg (by omega), gI_sI, if_pos ⟨rfl, rfl⟩]
    have pe' : ParEq m M (68 + 16 * k) (gN m 13) := by
      obtain ⟨p1, p2, p3, p4⟩ := pe
      refine ⟨fun j q1 q2 => by rw [gA _ _ (by omega) (by omega)]; exact p1 j q1 q2, fun j q => by rw [gA _ _ (by omega) (by omega)]; exact p2 j q, fun t ht => ?_, fun j q => ?_⟩
      · rw [gA _ _ (by omega) (by omega), jA _ _ (by omega) (by omega)]
        refine ⟨(p3 t ht).1, (p3 t ht).2.1, fun j hj => ?_⟩
        rw [gA _ _ (by omega) (by omega), gA _ _ (by omega) (by omega)]
        exact (p3 t ht).2.2 j hj
      · rw [gA _ _ (by omega) (by omega), gA _ _ (by omega) (by omega), gA _ _ (by omega) (by omega), jA _ _ (by omega) (by omega)]
        exact p4 j q
    obtain ⟨hw, hT, hP, hW, hU, hG, hQ, hS⟩ := h
    refine ⟨1, _, M, eO, eR, ?_, ?_, ?_, ?_, ?_, ?_, ?_, ?_⟩
    · unfold iNow; rw [gNe, gNe]; exact hw
    · exact hT.cong fun c j q => gO c j (by omega) (by omega) (by omega) (by omega) (by omega)
    · rw [gNe]
      exact hP.cong (fun j => gO _ j (by omega) (by omega) (by omega) (by omega) (by omega)) (fun j => jO _ j (by omega) (by omega)) (fun d j q1 q2 => ⟨gO _ j (by omega) (by omega) (by omega) (by omega) (by omega), jO _ j (by omega) (by omega)⟩) hW.1.le
    · exact hW.cong fun j => gO _ j (by omega) (by omega) (by omega) (by omega) (by omega)
    · exact hU.cong fun c j q => gO c j (by omega) (by omega) (by omega) (by omega) (by omega)
    · intro t ht
      by_cases q : t = k
      · subst q
        rw [v161, v100]
        refine ⟨rfl, isN.of (n := 1) (by omega) (by omega), fun _ => ⟨PRel.mv pe' (fun s hs => by rw [gB s hs, Nat.zero_add]) (fun s hs => by rw [jB s hs, Nat.zero_add]) hW hP, hW.mv fun s hs => by rw [gB s hs, Nat.zero_add]⟩⟩
      · obtain ⟨c1, c2, c3⟩ := hG t ht
        rw [gO 161 t (by omega) (by omega) (by omega) (by omega) (by omega), gO 100 t (by omega) (by omega) (by omega) (by omega) (by omega)]
        refine ⟨c1, c2, fun z => ?_⟩
        obtain ⟨d1, d2⟩ := c3 z
        have pe2 : ParEq m M (68 + 16 * t) (68 + 16 * t) := by
          have g : ∀ d j, d < 16 → gI M (68 + 16 * t + d) j = gI m (68 + 16 * t + d) j := fun d j hd => gO _ j (by omega) (by omega) (by omega) (by omega) (by omega)
          have g' : ∀ d j, d < 16 → gJ M (68 + 16 * t + d) j = gJ m (68 + 16 * t + d) j := fun d j hd => jO _ j (by omega) (by omega)
          refine ⟨fun j _ _ => g 0 j (by omega), fun j _ => g 15 j (by omega), fun u hu => ?_, fun j _ => ⟨g 11 j (by omega), g 12 j (by omega), g 13 j (by omega), g' 14 j (by omega)⟩⟩
          rw [show 68 + 16 * t + 2 + 3 * u = 68 + 16 * t + (2 + 3 * u) by omega]
          exact ⟨g _ _ (by omega), g' _ _ (by omega), fun j _ => ⟨g (2 + 3 * u + 1) j (by omega), g (2 + 3 * u + 2) j (by omega)⟩⟩
        have hc : ∀ s, s < 116 → gI M 159 (116 * t + s) = gI m 159 (116 * t + s) := fun s hs => gO _ _ (by omega) (by omega) (by omega) (by omega) (by omega)
        exact ⟨PRel.mv pe2 hc (fun s hs => jO _ _ (by omega) (by omega)) d2 d1, d2.mv hc⟩
    · exact hQ.cong fun c j q => gO c j (by omega) (by omega) (by omega) (by omega) (by omega)
    · intro t ht
      rw [jO _ _ (by omega) (by omega)]
      exact hS t ht
theorem op_restore {m : Mem} (h : Inv m) (x : Int32) : ∃ v m1 m2, OH_restore m x = some (v, m1) ∧ RM_restore m1 x = some (v, m2) ∧ Inv m2 := by
  have hI : Inv (sI m 133 0 0) := inv_frame fr0 h
  rcases isIn_n (x := x) (n := 1) (by omega) with ⟨e, hx⟩ | ⟨e, k, hk, rfl⟩
  · refine ⟨0, m, sI m 133 0 0, ?_, ?_, hI⟩
    · rw [OH_restore]
      rcases hx with q | q
      · rw [if_pos q]
      · by_cases q0 : x < 0
        · rw [if_pos q0]
        · rw [if_neg q0, if_pos (show 1 < x from q)]
    · rw [RM_restore, letM_p, show RM_isIn x 0 1 = 0 from e, if_pos rfl]
  · have hp : gN m 13 = 101 ∨ gN m 13 = 117 := by rcases h.1 with q | q <;> omega
    obtain ⟨c1, c2, c3⟩ := h.2.2.2.2.2.1 k (by omega)
    by_cases hz : gI m 161 k = 0
    · refine ⟨0, m, sI m 133 0 0, ?_, ?_, hI⟩
      · rw [OH_restore, if_neg (by rw [k0, n_lt (by omega) (by omega)]; omega), if_neg (by rw [k1, n_lt (by omega) (by omega)]; omega), if_pos (n_in (by omega) (by omega)), n_ixn (by omega), c1, if_pos hz]
      · have s161 : gI (sI m 133 0 0) 161 k = gI m 161 k := by rw [gI_sI, if_neg (by omega)]
        rw [RM_restore, letM_p, show RM_isIn (nI k) 0 1 = 1 from e, if_neg (show ¬ (1 : Int32) = 0 by decide), if_pos (n_in (by omega) (by omega)), n_ixn (by omega), s161, if_pos hz]
    · have h1 : gI m 161 k = 1 := by
        obtain ⟨n, hn, en⟩ := c2.ex
        rcases (show n = 0 ∨ n = 1 by omega) with rfl | rfl
        · exact absurd en hz
        · exact en
      obtain ⟨c3, c4⟩ := c3 h1
      obtain ⟨mp, e1, pe, po, pn⟩ := copyPar (m := m) (a := gN m 13) (b := 68 + 16 * k) (by omega)
      have eO : OH_restore m (nI k) = some (1, sI mp 3 1 0) := by
        rw [OH_restore, if_neg (by rw [k0, n_lt (by omega) (by omega)]; omega), if_neg (by rw [k1, n_lt (by omega) (by omega)]; omega), if_pos (n_in (by omega) (by omega)), n_ixn (by omega), c1, if_neg hz, e1]
        rfl
      obtain ⟨ma, ea, a1, a2, a3⟩ := re_row (k := k) (by omega) (kx := fun m3 => RM_restore_L58 (nI k) (fun m4 => letM (sI m4 133 40 0) fun m5 => some (1, m5)) FU m3 0) 116 0 FU (sI (sI mp 3 1 0) 133 0 0) (by omega) (by unfold FU; omega)
      obtain ⟨mb, eb, b1, b2, b3, b4⟩ := re_nam (k := k) (by omega) (kx := fun m4 => letM (sI m4 133 40 0) fun m5 => some (1, m5)) 13 0 FU ma (by omega) (by unfold FU; omega)
      rw [show nI 0 = 0 from k0.symm] at ea eb
      have eR : RM_restore (sI mp 3 1 0) (nI k) = some (1, sI mb 133 40 0) := by
        have s161 : gI (sI (sI mp 3 1 0) 133 0 0) 161 k = gI m 161 k := by rw [gI_sI, if_neg (by omega), gI_sI, if_neg (by omega), (po _ _ (by omega)).1]
        rw [RM_restore, letM_p, show RM_isIn (nI k) 0 1 = 1 from e, if_neg (show ¬ (1 : Int32) = 0 by decide), if_pos (n_in (by omega) (by omega)), n_ixn (by omega), s161, if_neg hz, ea, eb, letM_p]
      have bI : ∀ c j, gI mb c j = gI ma c j := fun c j => by unfold gI; rw [b3]
      have aJ : ∀ c j, gJ ma c j = gJ mp c j := fun c j => by unfold gJ; rw [a3]; rfl
      generalize hM : sI mb 133 40 0 = M at eR
      have gM : ∀ c j, ¬ (c = 133 ∧ j = 40) → gI M c j = gI ma c j := fun c j q => by rw [← hM, gI_sI, if_neg q, bI]
      have gO : ∀ c j, ¬ (c = 133 ∧ j = 40) → ¬ (c = 135 ∧ j < 116) → ¬ (c = 133 ∧ j = 0) → ¬ (c = 3 ∧ j = 1) → (c < gN m 13 ∨ gN m 13 + 16 ≤ c) → gI M c j = gI m c j := fun c j q1 q2 q3 q4 q5 => by
        rw [gM c j q1, a2 c j (by omega), gI_sI, if_neg q3, gI_sI, if_neg q4, (po c j q5).1]
      have gA : ∀ c j, gN m 13 ≤ c → c < gN m 13 + 16 → gI M c j = gI mp c j := fun c j q1 q2 => by
        rw [gM c j (by omega), a2 c j (by omega), gI_sI, if_neg (by omega), gI_sI, if_neg (by omega)]
      have gB : ∀ s, s < 116 → gI M 135 s = gI m 159 (116 * k + s) := fun s hs => by
        rw [gM _ _ (by omega), a1 s (by omega) hs, gI_sI, if_neg (by omega), gI_sI, if_neg (by omega), (po _ _ (by omega)).1]
      have jM : ∀ c j, gJ M c j = gJ mb c j := fun c j => by rw [← hM, gJ_sI]
      have jB : ∀ s, s < 13 → gJ M 137 s = gJ m 160 (13 * k + s) := fun s hs => by
        rw [jM, b1 s (by omega) hs, aJ, (po _ _ (by omega)).2]
      have jO : ∀ c j, ¬ (c = 137 ∧ j < 13) → (c < gN m 13 ∨ gN m 13 + 16 ≤ c) → gJ M c j = gJ m c j := fun c j q1 q2 => by
        rw [jM, b2 c j (by omega), aJ, (po _ _ q2).2]
      have jA : ∀ c j, gN m 13 ≤ c → c < gN m 13 + 16 → gJ M c j = gJ mp c j := fun c j q1 q2 => by
        rw [jM, b2 c j (by omega), aJ]
      have nM : M.2.2 = m.2.2 := by rw [← hM, ← pn]; show mb.2.2 = _; rw [b4, a3]; rfl
      have gNe : ∀ j, gN M j = gN m j := fun j => by unfold gN; rw [nM]
      have v40 : gI M 133 40 = 0 := by rw [← hM, gI_sI, if_pos ⟨rfl, rfl⟩]
      have v31 : gI M 3 1 = 0 := by rw [gM _ _ (by omega), a2 _ _ (by omega), gI_sI, if_neg (by omega), gI_sI, if_pos ⟨rfl, rfl⟩]
      have pe' : ParEq m M (gN m 13) (68 + 16 * k) := by
        obtain ⟨p1, p2, p3, p4⟩ := pe
        refine ⟨fun j q1 q2 => by rw [gA _ _ (by omega) (by omega)]; exact p1 j q1 q2, fun j q => by rw [gA _ _ (by omega) (by omega)]; exact p2 j q, fun t ht => ?_, fun j q => ?_⟩
        · rw [gA _ _ (by omega) (by omega), jA _ _ (by omega) (by omega)]
          refine ⟨(p3 t ht).1, (p3 t ht).2.1, fun j hj => ?_⟩
          rw [gA _ _ (by omega) (by omega), gA _ _ (by omega) (by omega)]
          exact (p3 t ht).2.2 j hj
        · rw [gA _ _ (by omega) (by omega), gA _ _ (by omega) (by omega), gA _ _ (by omega) (by omega), jA _ _ (by omega) (by omega)]
          exact p4 j q
      obtain ⟨hw, hT, hP, hW, hU, hG, hQ, hS⟩ := h
      have hWM : WFs M 135 0 := c4.mv fun s hs => by rw [Nat.zero_add, gB s hs]
      refine ⟨1, _, M, eO, eR, ?_, ?_, ?_, hWM, ?_, ?_, ?_, ?_⟩
      · unfold iNow; rw [gNe, gNe]; exact hw
      · exact hT.cong fun c j q => gO c j (by omega) (by omega) (by omega) (by omega) (by omega)
      · rw [gNe]
        exact PRel.mv pe' (fun s hs => by rw [Nat.zero_add, gB s hs]) (fun s hs => by rw [Nat.zero_add, jB s hs]) c4 c3
      · refine ⟨by rw [v31, v40], by rw [v40]; exact isN.of (n := 0) (by omega) (by omega), fun u hu => ?_⟩
        rw [v40, show ixn 0 = 0 from rfl] at hu
        omega
      · intro t ht
        obtain ⟨b1', b2', b3'⟩ := hG t ht
        have a159 : ∀ j, gI M 159 j = gI m 159 j := fun j => gO 159 j (by omega) (by omega) (by omega) (by omega) (by omega)
        rw [gO 100 t (by omega) (by omega) (by omega) (by omega) (by omega), gO 161 t (by omega) (by omega) (by omega) (by omega) (by omega)]
        exact ⟨b1', b2', fun q => ⟨(b3' q).1.cong a159 (fun j => jO 160 j (by omega) (by omega)) (fun d j d1 d2 => ⟨gO d j (by omega) (by omega) (by omega) (by omega) (by omega), jO d j (by omega) (by omega)⟩) (b3' q).2.1.le, (b3' q).2.cong a159⟩⟩
      · exact hQ.cong fun c j q => gO c j (by omega) (by omega) (by omega) (by omega) (by omega)
      · intro t ht
        rw [jO _ _ (by omega) (by omega)]
        exact hS t ht

/-! stiles -/
theorem ae_loop {m : Mem} {K t : Nat} {te : Nat → Nat} {kx : Mem → Int32 → Option Mem} (hK : K ≤ 6) (ht : t < 400) (hte : ∀ e, e < K → te e < 400) (h8 : gI m 17 8 = nI K) (h24 : ∀ e, e < K → gI m 24 e = nI (te e)) : ∀ (d e fu : Nat) (b : Bool), e + d = K → d < fu →
    ∃ b', PC_addEnd_L24 (nI t) kx fu m (b2i b) (nI e) = kx m (b2i b') ∧ (b' = true ↔ b = true ∨ ∃ i, e ≤ i ∧ i < K ∧ te i = t)
  | 0, e, fu, b, hd, hf => by
    obtain ⟨f, rfl⟩ : ∃ f, fu = f + 1 := ⟨fu - 1, by omega⟩
    exact ⟨b, by rw [PC_addEnd_L24, h8, if_pos (by rw [n_le (by omega) (by omega)]; omega)], ⟨Or.inl, fun z => z.elim id (fun ⟨i, a, c, _⟩ => by omega)⟩⟩
  | d + 1, e, fu, b, hd, hf => by
    obtain ⟨f, rfl⟩ : ∃ f, fu = f + 1 := ⟨fu - 1, by omega⟩
    have ee : nI e + 1 = nI (e + 1) := by rw [k1, n_add]
    have l1 := hte e (by omega)
    cases hb : b with
    | true =>
      obtain ⟨b', e', o⟩ := ae_loop (kx := kx) hK ht hte h8 h24 d (e + 1) f true (by omega) (by omega)
      refine ⟨b', ?_, ⟨fun _ => Or.inl rfl, fun _ => o.mpr (Or.inl rfl)⟩⟩
      rw [PC_addEnd_L24, h8, if_neg (by rw [n_le (by omega) (by omega)]; omega), if_neg (by decide), ee]
      exact e'
    | false =>
      by_cases q : te e = t
      · obtain ⟨b', e', o⟩ := ae_loop (kx := kx) hK ht hte h8 h24 d (e + 1) f true (by omega) (by omega)
        refine ⟨b', ?_, ⟨fun _ => Or.inr ⟨e, Nat.le_refl _, by omega, q⟩, fun _ => o.mpr (Or.inl rfl)⟩⟩
        rw [PC_addEnd_L24, h8, if_neg (by rw [n_le (by omega) (by omega)]; omega), if_pos (by decide), if_pos (n_in (by omega) (by omega)), n_ixn (by omega), h24 e (by omega), if_pos (by rw [q]), ee]
        exact e'
      · obtain ⟨b', e', o⟩ := ae_loop (kx := kx) hK ht hte h8 h24 d (e + 1) f false (by omega) (by omega)
        refine ⟨b', ?_, o.trans ⟨fun z => z.elim (fun y => by simp at y) (fun ⟨i, a, c, g⟩ => Or.inr ⟨i, by omega, c, g⟩), fun z => z.elim (fun y => by simp at y) (fun ⟨i, a, c, g⟩ => Or.inr ⟨i, by
          by_cases w : i = e
          · rw [w] at g; exact absurd g q
          · omega, c, g⟩)⟩⟩
        rw [PC_addEnd_L24, h8, if_neg (by rw [n_le (by omega) (by omega)]; omega), if_pos (by decide), if_pos (n_in (by omega) (by omega)), n_ixn (by omega), h24 e (by omega), if_neg (by rw [n_eq (by omega) (by omega)]; exact q), ee]
        exact e'
/-- the ends as the class has taken them, h hays in -/
def EN (m : Mem) (C : ScF) (r h K : Nat) (tm te : Nat → Nat) (f : Nat → Option Nat) : Prop := gI m 17 8 = nI K ∧ gI m 17 9 = nI r ∧ (∀ e, e < K → gI m 24 e = nI (te e) ∧ te e < C.P) ∧ K ≤ h ∧ (∀ i, i < h → (f i = none ∧ tm i = r) ∨ ∃ e, f i = some e ∧ e < K ∧ tm i = te e) ∧ ∀ e, e < K → ∃ i, i < h ∧ f i = some e
theorem addEnd_eq {m : Mem} {C : ScF} {r h K sq : Nat} {tm te : Nat → Nat} {f : Nat → Option Nat} (hP : C.P ≤ 400) (hr : r < 400) (hh : h < 6) (hs : sq < 400) (hl : tm h < C.P) (h18 : gI m 18 sq = nI (tm h)) (N : EN m C r h K tm te f) :
    ∃ m' K' te' f', PC_addEnd m (nI sq) = some m' ∧ EN m' C r (h + 1) K' tm te' f' ∧ Frm [(17, 8), (24, 999999)] [] m m' := by
  obtain ⟨n1, n2, n3, n4, n5, n6⟩ := N
  obtain ⟨fo, hfo⟩ : ∃ g : Bool → Option Nat → Nat → Option Nat, ∀ b o i, g b o i = if i = h then o else f i := ⟨_, fun _ _ _ => rfl⟩
  have J : ∀ b0 : Bool, ∃ b', PC_addEnd_J20 m (nI (tm h)) (b2i b0) = (if b2i b' = 0 then (if 6 ≤ (gI m 17 8) then (some m)
      else (if inb (gI m 17 8) 6 then (letM (sI m 24 (ixn (gI m 17 8)) (nI (tm h))) fun m4 =>
      letM (sI m4 17 8 ((gI m4 17 8) + 1)) fun m5 => some m5) else none)) else (some m)) ∧ (b' = true ↔ b0 = true ∨ ∃ i, 0 ≤ i ∧ i < K ∧ te i = tm h) := fun b0 => by
    obtain ⟨b', e, o⟩ := ae_loop (kx := fun m2 y1 => if y1 = 0 then (if 6 ≤ (gI m2 17 8) then (some m2)
      else (if inb (gI m2 17 8) 6 then (letM (sI m2 24 (ixn (gI m2 17 8)) (nI (tm h))) fun m4 =>
      letM (sI m4 17 8 ((gI m4 17 8) + 1)) fun m5 => some m5) else none)) else (some m2)) (show K ≤ 6 by omega) (show tm h < 400 by omega) (fun e he => by have := (n3 e he).2; omega) n1 (fun e he => (n3 e he).1) K 0 FU b0 (by omega) (by unfold FU; omega)
    rw [show nI 0 = 0 from k0.symm] at e
    exact ⟨b', e, o⟩
  have same : ∀ o : Option Nat, ((o = none ∧ tm h = r) ∨ ∃ e, o = some e ∧ e < K ∧ tm h = te e) → EN m C r (h + 1) K tm te (fun i => if i = h then o else f i) := fun o ho => by
    refine ⟨n1, n2, n3, by omega, fun i hi => ?_, fun e he => ?_⟩
    · by_cases z : i = h
      · simp only [if_pos z]; rw [z]; exact ho
      · simp only [if_neg z]; exact n5 i (by omega)
    · obtain ⟨i, a, b⟩ := n6 e he
      exact ⟨i, by omega, by simp only [if_neg (show ¬ i = h by omega)]; exact b⟩
  by_cases q : tm h = r
  · obtain ⟨b', e, o⟩ := J true
    have hb : b' = true := o.mpr (Or.inl rfl)
    refine ⟨m, K, te, _, ?_, same none (Or.inl ⟨rfl, q⟩), Frm.rf⟩
    rw [PC_addEnd, if_pos (n_in hs (by omega)), n_ixn (by omega), h18, letV_o, n2, if_pos (by rw [q])]
    rw [hb] at e
    exact e
  · obtain ⟨b', e, o⟩ := J false
    have e0 : PC_addEnd m (nI sq) = PC_addEnd_J20 m (nI (tm h)) (b2i false) := by
      rw [PC_addEnd, if_pos (n_in hs (by omega)), n_ixn (by omega), h18, letV_o, n2, if_neg (by rw [n_eq (by omega) (by omega)]; exact q)]
      rfl
    rw [e0, e]
    by_cases q2 : ∃ i, i < K ∧ te i = tm h
    · obtain ⟨i, i1, i2⟩ := q2
      have hb : b' = true := o.mpr (Or.inr ⟨i, Nat.zero_le _, i1, i2⟩)
      refine ⟨m, K, te, _, by rw [hb, if_neg (by decide)], same (some i) (Or.inr ⟨i, rfl, i1, i2.symm⟩), Frm.rf⟩
    · have hb : b' = false := by
        cases z : b' with
        | false => rfl
        | true =>
          rcases o.mp z with y | ⟨i, -, i1, i2⟩
          · simp at y
          · exact absurd ⟨i, i1, i2⟩ q2
      have g8 : gI (sI m 24 K (nI (tm h))) 17 8 = nI K := by rw [gI_sI, if_neg (by omega), n1]
      refine ⟨sI (sI m 24 K (nI (tm h))) 17 8 (nI (K + 1)), K + 1, upn te K (tm h), fun i => if i = h then some K else f i, ?_, ?_, (Frm.sI rfl rfl).tr (Frm.sI rfl rfl)⟩
      · rw [hb, if_pos (by decide), n1, if_neg (by rw [show (6 : Int32) = nI 6 from rfl, n_le (by omega) (by omega)]; omega), if_pos (n_in (by omega) (by omega)), n_ixn (by omega), letM_o, g8, k1, n_add, letM_o]
      · refine ⟨by rw [gI_sI, if_pos ⟨rfl, rfl⟩], by rw [gI_sI, if_neg (by omega), gI_sI, if_neg (by omega), n2], fun e he => ?_, by omega, fun i hi => ?_, fun e he => ?_⟩
        · rw [gI_sI, if_neg (by omega), gI_sI]
          by_cases z : e = K
          · rw [if_pos ⟨rfl, z⟩, z, upn_eq]; exact ⟨rfl, hl⟩
          · rw [if_neg (fun y => z y.2), upn_ne z]; exact n3 e (by omega)
        · by_cases z : i = h
          · right
            simp only [if_pos z]
            exact ⟨K, rfl, by omega, by rw [z, upn_eq]⟩
          · simp only [if_neg z]
            rcases n5 i (by omega) with y | ⟨e, y1, y2, y3⟩
            · exact Or.inl y
            · exact Or.inr ⟨e, y1, by omega, by rw [upn_ne (by omega)]; exact y3⟩
        · by_cases z : e = K
          · exact ⟨h, by omega, by simp [z]⟩
          · obtain ⟨i, a, b⟩ := n6 e (by omega)
            exact ⟨i, by omega, by simp only [if_neg (show ¬ i = h by omega)]; exact b⟩
theorem ends_loop {C : ScF} {r H p : Nat} {hx hy : Nat → Nat} {kx : Mem → Option (Int32 × Mem)} (hP : C.P ≤ 400) (hr : r < 400) (hH : H ≤ 6) (hl : ∀ v, v < 400 → labN C v < C.P) (hp : 101 ≤ p) : ∀ (d h fu : Nat) (m : Mem) (K : Nat) (te : Nat → Nat) (f : Nat → Option Nat), h + d = H → d < fu → gN m 13 = p → gI m p 7 = nI H → (∀ t, t < H → gI m (p + 11) t = nI (hx t) ∧ gI m (p + 12) t = nI (hy t) ∧ hx t < 20 ∧ hy t < 20) → (∀ v, v < 400 → gI m 18 v = nI (labN C v)) → EN m C r h K (tmR C hx hy) te f →
    ∃ m' K' te' f', OH_stiles_L46 kx fu m (nI h) = kx m' ∧ EN m' C r H K' (tmR C hx hy) te' f' ∧ Frm [(17, 8), (24, 999999)] [] m m'
  | 0, h, fu, m, K, te, f, hd, hf, hN, h7, hxy, h18, N => by
    obtain ⟨f', rfl⟩ : ∃ f, fu = f + 1 := ⟨fu - 1, by omega⟩
    obtain rfl : h = H := by omega
    exact ⟨m, K, te, f, by rw [OH_stiles_L46, hN, h7, if_pos (by rw [n_le (by omega) (by omega)]; omega)], N, Frm.rf⟩
  | d + 1, h, fu, m, K, te, f, hd, hf, hN, h7, hxy, h18, N => by
    obtain ⟨f', rfl⟩ : ∃ f, fu = f + 1 := ⟨fu - 1, by omega⟩
    obtain ⟨x1, x2, x3, x4⟩ := hxy h (by omega)
    have sq4 : 20 * hy h + hx h < 400 := by omega
    obtain ⟨m1, K1, te1, f1, e1, N1, F1⟩ := addEnd_eq (tm := tmR C hx hy) (h := h) (sq := 20 * hy h + hx h) hP hr (by omega) sq4 (hl _ sq4) (h18 _ sq4) N
    have wp : ∀ c k, 101 ≤ c → wL [(17, 8), (24, 999999)] c k = false := fun c k hc => by
      unfold wL
      simp
      omega
    obtain ⟨m2, K2, te2, f2, e2, N2, F2⟩ := ends_loop (kx := kx) hP hr hH hl hp d (h + 1) f' m1 K1 te1 f1 (by omega) (by omega) (by rw [F1.N]; exact hN) (by rw [F1.I _ _ (wp _ _ hp)]; exact h7) (fun t ht => by rw [F1.I _ _ (wp _ _ (by omega)), F1.I _ _ (wp _ _ (by omega))]; exact hxy t ht) (fun v hv => by rw [F1.I 18 v rfl]; exact h18 v hv) N1
    refine ⟨m2, K2, te2, f2, ?_, N2, F1.tr F2⟩
    rw [OH_stiles_L46, hN, h7, if_neg (by rw [n_le (by omega) (by omega)]; omega), PH_haySquare, if_pos (n_in (by omega) (by omega)), n_ixn (by omega), x1, x2, squareAt_n, bI_s, e1, bM_s, show nI h + 1 = nI (h + 1) by rw [k1, n_add], e2]
theorem op_stiles {m : Mem} (h : Inv m) (x : Int32) : ∃ v m1 m2, OH_stiles m x = some (v, m1) ∧ RM_stiles m1 x = some (v, m2) ∧ Inv m2 := by
  have hI : Inv (sI m 133 0 0) := inv_frame fr0 h
  have g0 : ∀ j, gI (sI m 133 0 0) 135 j = gI m 135 j := fun j => by rw [gI_sI, if_neg (by omega)]
  obtain ⟨H, hH, eH⟩ := h.2.2.2.1.2.1.ex
  rw [Nat.zero_add] at eH
  have e7 : gI m (gN m 13) 7 = nI H := by rw [h.2.2.1.2.1, Nat.zero_add, eH]
  have hp13 : gN m 13 = 101 ∨ gN m 13 = 117 := by rcases h.1 with q | q <;> omega
  rcases line_cases h x with ⟨h1, h2⟩ | ⟨k, hk, hk2, rfl, h1, h2⟩
  · refine ⟨-1, m, sI m 133 0 0, by rw [OH_stiles, h1, if_pos rfl], ?_, hI⟩
    rw [RM_stiles, letM_p, h2 _ (g0 0), bI_s, if_pos rfl]
  by_cases h6 : 6 < H
  · refine ⟨-1, m, sI m 133 0 0, ?_, ?_, hI⟩
    · rw [OH_stiles, h1, if_neg (by decide), e7, if_neg (by rw [show (6 : Int32) = nI 6 from rfl, n_le (by omega) (by omega)]; omega)]
    · rw [RM_stiles, letM_p, h2 _ (g0 0), bI_s, if_neg (by decide), if_pos (by decide), show ixn 1 = 1 from rfl, g0, eH, if_neg (by rw [show (6 : Int32) = nI 6 from rfl, n_le (by omega) (by omega)]; omega)]
  obtain ⟨n, X, Y, D⟩ := lineD h hk2
  obtain ⟨m0, e0, s0, G0, F0⟩ := OH_survey_eq h hk D
  obtain ⟨m1, e1', d1, Ff⟩ := find_eq s0
  have e1 : OH_surveyPieces m (nI k) = some m1 := by rw [OH_surveyPieces, e0, bM_s, e1', bM_s]
  have F1 := OH_surveyPieces_fr (L := W_OH_surveyPieces) (R := []) (wL_sub rfl) m _ _ e1
  obtain ⟨M, eM⟩ : ∃ M, M = hisS (gI m 135 4) (gI m 135 5) (clz n X) (clz n Y) n := ⟨_, rfl⟩
  rw [← eM] at d1
  obtain ⟨cx, cy, hcx, hcy, c1, c2, c3, c4⟩ := church h
  have I := pcs_ok M
  have I2 := pcs_ok2 M
  -- the hays
  have hays : ∀ t, ∃ ab : Nat × Nat, t < H → ab.1 < 20 ∧ ab.2 < 20 ∧ gI m 135 (86 + 3 * t) = nI ab.1 ∧ gI m 135 (86 + 3 * t + 1) = nI ab.2 ∧ gI m (gN m 13 + 11) t = nI ab.1 ∧ gI m (gN m 13 + 12) t = nI ab.2 := fun t => by
    by_cases q : t < H
    · rcases hay_cases h (nI t) with ⟨h3, _⟩ | ⟨t', a, b, l, ht, ht2, et, ha, hb, hl, u1, u2, -, v1, v2, -, h3, h4⟩
      · exfalso
        rw [PH_hasHay, if_neg (by rw [k0, n_lt (by omega) (by omega)]; omega), e7, if_neg (by rw [n_le (by omega) (by omega)]; omega)] at h3
        exact absurd h3 (by decide)
      · rw [n_eq (by omega) (by omega)] at et
        subst et
        exact ⟨(a, b), fun _ => ⟨ha, hb, u1, u2, v1, v2⟩⟩
    · exact ⟨(0, 0), fun z => absurd z q⟩
  obtain ⟨F, hF⟩ := Classical.axiomOfChoice hays
  obtain ⟨hx, ehx⟩ : ∃ g : Nat → Nat, ∀ t, g t = (F t).1 := ⟨_, fun _ => rfl⟩
  obtain ⟨hy, ehy⟩ : ∃ g : Nat → Nat, ∀ t, g t = (F t).2 := ⟨_, fun _ => rfl⟩
  have hxy : ∀ t, t < H → hx t < 20 ∧ hy t < 20 ∧ gI m 135 (86 + 3 * t) = nI (hx t) ∧ gI m 135 (86 + 3 * t + 1) = nI (hy t) ∧ gI m (gN m 13 + 11) t = nI (hx t) ∧ gI m (gN m 13 + 12) t = nI (hy t) := fun t ht => by rw [ehx, ehy]; exact hF t ht
  clear hF ehx ehy F hays
  generalize hC : pcs M = C at d1 I I2
  have P4 := I.pt
  have t4 := I.1.le
  have hl : ∀ v, v < 400 → labN C v < C.P := fun v hv => by have := I.labP v hv; have := I.labE hv; omega
  have wS : ∀ c j, 24 ≤ c → wL W_OH_surveyPieces c j = false := fun c j hc => by
    unfold wL
    rw [List.any_eq_false]
    have : ∀ q ∈ W_OH_surveyPieces, q.1 < 24 := by decide
    intro q hq
    have := this q hq
    simp only [Bool.and_eq_true, beq_iff_eq, not_and]
    intro h; omega
  have g1 : ∀ c j, 24 ≤ c → gI m1 c j = gI m c j := fun c j hc => F1.I c j (wS c j hc)
  have N1 : gN m1 13 = gN m 13 := F1.N 13
  obtain ⟨r, er⟩ : ∃ r, r = labN C (20 * cy + cx) := ⟨_, rfl⟩
  have rP : r < C.P := by rw [er]; exact hl _ (by omega)
  -- the class
  have h18 : ∀ v, v < 400 → gI m1 18 v = nI (labN C v) := fun v hv => by rw [d1.1.1 v hv, nI_iz, I.labE hv]
  let m3 := sI (sI m1 17 9 (nI r)) 17 8 0
  have h3 : m3 = sI (sI m1 17 9 (nI r)) 17 8 0 := rfl
  have o3 : ∀ c j, ¬ (c = 17 ∧ (j = 8 ∨ j = 9)) → gI m3 c j = gI m1 c j := fun c j z => by rw [h3, gI_sI, if_neg (by omega), gI_sI, if_neg (by omega)]
  have eB : PC_beginOpenings m1 (PH_churchSquare m1 (gN m1 13)) = some m3 := by
    have cs : PH_churchSquare m1 (gN m1 13) = nI (20 * cy + cx) := by
      rw [PH_churchSquare, N1, g1 _ _ (by omega), g1 _ _ (by omega), c3, c4, squareAt_n]
    rw [cs, PC_beginOpenings, if_pos (n_in (by omega) (by omega)), n_ixn (by omega), h18 _ (by omega), ← er, letM_o, letM_o]
  have N3 : EN m3 C r 0 0 (tmR C hx hy) (fun _ => 0) (fun _ => none) := ⟨by rw [h3, gI_sI, if_pos ⟨rfl, rfl⟩]; rfl, by rw [h3, gI_sI, if_neg (by omega), gI_sI, if_pos ⟨rfl, rfl⟩], fun e he => absurd he (Nat.not_lt_zero _), Nat.le_refl _, fun i hi => absurd hi (Nat.not_lt_zero _), fun e he => absurd he (Nat.not_lt_zero _)⟩
  have F3 : Frm [(17, 9), (17, 8)] [] m1 m3 := (Frm.sI rfl rfl).tr (Frm.sI rfl rfl)
  obtain ⟨m4, K, te, f, e4, N4, F4⟩ := ends_loop (H := H) (hx := hx) (hy := hy) (p := gN m 13) (kx := fun m8 => bV (PC_fewestOpenings m8) fun v9 m10 => some (v9, m10)) (by omega) (show r < 400 by omega) (by omega) hl (by omega) H 0 FU m3 0 _ _ (by omega) (by unfold FU; omega) (by rw [F3.N]; exact N1) (by rw [o3 _ _ (by omega), g1 _ _ (by omega)]; exact e7) (fun t ht => by
    obtain ⟨y1, y2, y3, y4, y5, y6⟩ := hxy t ht
    rw [o3 _ _ (by omega), o3 _ _ (by omega), g1 _ _ (by omega), g1 _ _ (by omega)]
    exact ⟨y5, y6, y1, y2⟩) (fun v hv => by rw [o3 _ _ (by omega)]; exact h18 v hv) N3
  obtain ⟨n1, n2, n3, n4, n5, n6⟩ := N4
  obtain ⟨E, off, hD, o22, o21, o16⟩ := d1.2.2.2
  have g4 : ∀ c j, c ≠ 17 → c ≠ 24 → gI m4 c j = gI m1 c j := fun c j z1 z2 => by
    rw [F4.I c j (by
      unfold wL
      simp
      omega), o3 c j (by omega)]
  have S4 : CX m4 C K te E off := ⟨fun p hp => by rw [g4 _ _ (by omega) (by omega)]; exact o22 p hp, fun j hj => by rw [g4 _ _ (by omega) (by omega)]; exact o21 j hj, by rw [F4.I 17 0 rfl, o3 _ _ (by omega)]; exact d1.2.1, n1, fun e he => (n3 e he).1⟩
  have ht : ∀ e, e < K → te e < C.P := fun e he => (n3 e he).2
  have hcl : ∃ m5 V, PC_fewestOpenings m4 = some (nI V, m5) ∧ ((K = 0 ∧ V = 0) ∨ (0 < K ∧ MinA (nbr C) K te (fun i => decide (i < K)) r V)) := by
    by_cases q : K = 0
    · refine ⟨m4, 0, ?_, Or.inl ⟨q, rfl⟩⟩
      rw [PC_fewestOpenings, n1, if_pos (by rw [q]; rfl)]
      rfl
    · have pw0 : 2 ^ K ≤ 2 ^ 6 := Nat.pow_le_pow_right (by decide) (show K ≤ 6 by omega)
      have pw : 2 ^ K ≤ 64 := pw0
      have pw1 : 0 < 2 ^ K := Nat.two_pow_pos K
      have pw2 : 2 ≤ 2 ^ K := by
        have : 2 ^ 1 ≤ 2 ^ K := Nat.pow_le_pow_right (by decide) (show 1 ≤ K by omega)
        omega
      obtain ⟨m5, T, e5, a1, a2, F5⟩ := fw_loop (K := K) (kx := fun m2 => if inb ((nI (2 ^ K - 1) * 400) + (gI m2 17 9)) 25600 then (some ((gI m2 25 (ixn ((nI (2 ^ K - 1) * 400) + (gI m2 17 9)))), m2)) else none) I I2 hD o16 (by omega) ht (2 ^ K - 1) 1 FU m4 (fun _ _ => 0) (by omega) (by unfold FU; omega) (by omega) S4 (fun k' z1 z2 => by omega) (fun _ _ => Nat.zero_le _) (fun k' z1 z2 => by omega)
      have mn := a2 (2 ^ K - 1) (by omega) (by omega) r rP
      refine ⟨m5, T (2 ^ K - 1) r, ?_, Or.inr ⟨by omega, ?_⟩⟩
      · have r4 : r < 400 := by omega
        have k6 : 2 ^ K - 1 < 64 := by omega
        have g9 : gI m5 17 9 = nI r := by rw [F5.I 17 9 rfl, n2]
        rw [show nI 1 = 1 from k1.symm] at e5
        rw [PC_fewestOpenings, n1, if_neg (by rw [k0, n_eq (by omega) (by omega)]; exact q), shl32 K (by omega), k1, n_sub (by omega), letV_p, ← k1, e5, g9, show (400 : Int32) = nI 400 from rfl, n_mul, n_add, if_pos (n_in (idx k6 r4) (by decide)), n_ixn (idx' k6 r4), a1 _ (by omega) (by omega) r rP]
      · exact ⟨mn.1.cg (fun i => bits_full), fun c hc => mn.2 c (hc.cg (fun i => bits_full.symm))⟩
  obtain ⟨m5, V, e5, hV⟩ := hcl
  have eO : OH_stiles m (nI k) = some (nI V, m5) := by
    rw [show nI 0 = 0 from k0.symm] at e4
    rw [OH_stiles, h1, if_neg (by decide), e7, if_pos (by rw [show (6 : Int32) = nI 6 from rfl, n_le (by omega) (by omega)]; omega), e1, bM_s, eB, bM_s, e4, e5, bV_s]
  have FO := OH_stiles_fr (L := W_OH_stiles) (R := []) (wL_sub rfl) m _ _ eO
  -- the reference
  have f1 : ∀ j, gI (sI m5 133 0 0) 135 j = gI m 135 j := fun j => by rw [gI_sI, if_neg (by omega), FO.I 135 j rfl]
  obtain ⟨m6, e6, s6, F6⟩ := maps_eq (m1 := sI m5 133 0 0) D hk f1
  rw [← eM] at s6
  obtain ⟨m7, e7', d7, F7⟩ := parts_eq e6 s6
  rw [hC] at d7
  have f7 : ∀ j, gI m7 135 j = gI m 135 j := fun j => by rw [F7.I 135 j rfl, F6.I 135 j rfl, f1]
  have S7 : SR m7 C H hx hy := ⟨fun v hv => by rw [d7.1 v hv, nI_iz, I.labE hv], d7.2.1, fun t ht => by
    obtain ⟨y1, y2, y3, y4, -, -⟩ := hxy t ht
    rw [f7, f7]
    exact ⟨y3, y4, y1, y2⟩⟩
  have pwH0 : 2 ^ H ≤ 2 ^ 6 := Nat.pow_le_pow_right (by decide) (show H ≤ 6 by omega)
  have pwH : 2 ^ H ≤ 64 := pwH0
  have pwH1 : 0 < 2 ^ H := Nat.two_pow_pos H
  obtain ⟨m8, T, e8, a1, a2, F8⟩ := st_table (H := H) (kx := fun m9 => if nI H = 0 then (some (0, m9))
    else (if inb 3 116 then (if inb 2 116 then (if inb ((20 * (gI m9 135 (ixn 3))) + (gI m9 135 (ixn 2))) 400 then (if inb ((400 * (nI (2 ^ H) - 1)) + (gI m9 143 (ixn ((20 * (gI m9 135 (ixn 3))) + (gI m9 135 (ixn 2)))))) 51200 then (some ((gI m9 150 (ixn ((400 * (nI (2 ^ H) - 1)) + (gI m9 143 (ixn ((20 * (gI m9 135 (ixn 3))) + (gI m9 135 (ixn 2)))))))), m9)) else none) else none) else none) else none)) I I2 (by omega) (fun e he => by
      obtain ⟨y1, y2, -⟩ := hxy e he
      exact hl _ (by omega)) (2 ^ H - 1) 1 FU m7 (fun _ _ => 0) (by omega) (by unfold FU; omega) (by omega) S7 (fun k' z1 z2 => by omega) (fun _ _ => Nat.zero_le _) (fun k' z1 z2 => by omega)
  have f8 : ∀ j, gI m8 135 j = gI m 135 j := fun j => by rw [F8.I 135 j rfl, f7]
  have eR0 : RM_stiles m5 (nI k) = if nI H = 0 then (some (0, m8))
    else (if inb 3 116 then (if inb 2 116 then (if inb ((20 * (gI m8 135 (ixn 3))) + (gI m8 135 (ixn 2))) 400 then (if inb ((400 * (nI (2 ^ H) - 1)) + (gI m8 143 (ixn ((20 * (gI m8 135 (ixn 3))) + (gI m8 135 (ixn 2)))))) 51200 then (some ((gI m8 150 (ixn ((400 * (nI (2 ^ H) - 1)) + (gI m8 143 (ixn ((20 * (gI m8 135 (ixn 3))) + (gI m8 135 (ixn 2)))))))), m8)) else none) else none) else none) else none) := by
    rw [show nI 1 = 1 from k1.symm] at e8
    rw [RM_stiles, letM_p, h2 _ (f1 0), bI_s, if_neg (by decide), if_pos (by decide), show ixn 1 = 1 from rfl, f1, eH, if_pos (by rw [show (6 : Int32) = nI 6 from rfl, n_le (by omega) (by omega)]; omega), e7', bM_s, f7, eH, letV_p, shl32 H (by omega), letV_p, e8]
  have eR : RM_stiles m5 (nI k) = some (nI V, m8) := by
    rw [eR0]
    by_cases q : H = 0
    · rw [if_pos (by rw [q]; rfl)]
      have : V = 0 := by
        rcases hV with ⟨_, z⟩ | ⟨z, _⟩
        · exact z
        · omega
      rw [this]; rfl
    · have pw2 : 2 ≤ 2 ^ H := by
        have : 2 ^ 1 ≤ 2 ^ H := Nat.pow_le_pow_right (by decide) (show 1 ≤ H by omega)
        omega
      have mn := a2 (2 ^ H - 1) (by omega) (by omega) r rP
      have mn' : MinA (nbr C) H (tmR C hx hy) (fun i => decide (i < H)) r (T (2 ^ H - 1) r) := ⟨mn.1.cg (fun i => bits_full), fun c hc => mn.2 c (hc.cg (fun i => bits_full.symm))⟩
      have eV : T (2 ^ H - 1) r = V := by
        rcases hV with ⟨z1, z2⟩ | ⟨z1, z2⟩
        · have all : ∀ i, i < H → tmR C hx hy i = r := fun i hi => by
            rcases n5 i hi with ⟨_, y⟩ | ⟨e, _, y, _⟩
            · exact y
            · omega
          have := mn'.2 0 (AchE.same H (fun i => decide (i < H)) (fun i hi => by
            rw [decide_eq_true_iff] at hi
            exact ⟨hi, hi, all i hi⟩) ⟨0, decide_eq_true (by omega)⟩)
          omega
        · exact two_tellings n5 n6 z1 mn' z2
      have g143 : gI m8 143 (20 * cy + cx) = nI r := by rw [F8.I 143 _ rfl, d7.1 _ (by omega), er, nI_iz, I.labE (by omega)]
      rw [if_neg (by rw [k0, n_eq (by omega) (by omega)]; exact q), if_pos (by decide), if_pos (by decide), show ixn 3 = 3 from rfl, show ixn 2 = 2 from rfl, f8, f8, c1, c2, k20, n_mul, n_add, if_pos (n_in (by omega) (by omega)), n_ixn (by omega), g143, k1, n_sub (by omega), show (400 : Int32) = nI 400 from rfl, n_mul, n_add, if_pos (n_in (by omega) (by omega)), n_ixn (by omega), a1 _ (by omega) (by omega) r rP, eV]
  exact ⟨_, m5, m8, eO, eR, inv_frame ((FO.mo (wL_subM rfl)).tr ((RM_stiles_fr (wL_sub rfl) m5 _ _ eR).mo (wL_subM (A := W_RM_stiles) rfl))) h⟩

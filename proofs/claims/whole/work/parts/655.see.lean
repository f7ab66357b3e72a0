/-! by night: the class looks at edges and places -/
def NXc (N n : Nat) (b : Nat → Nat) (ed : Int32) (X Y : Nat → Int) : Prop := N ≤ 8 ∧ 3 ≤ n ∧ n ≤ 12 ∧ (∀ i, i < 3 * N → okP b i) ∧ (ed = 0 ∨ ed = 1) ∧ ∀ i, i < n → (0 ≤ X i ∧ X i ≤ 20) ∧ (0 ≤ Y i ∧ Y i ≤ 20)
def CXn (m : Mem) (N n : Nat) (b : Nat → Nat) (lw ed : Int32) (X Y : Nat → Int) : Prop := CP m N b lw ed ∧ PolyC m 42 n X Y
theorem PolyC.fr9 {m m' : Mem} {o n : Nat} {X Y : Nat → Int} {L : List (Nat × Nat)} (h : PolyC m o n X Y) (F : Frm L [] m m') (h0 : wL L o 1 = false) (h1 : ∀ i, wL L (o + 1) i = false) (h2 : ∀ i, wL L (o + 2) i = false) : PolyC m' o n X Y := by
  refine ⟨by rw [F.I _ _ h0]; exact h.1, h.2.1, fun i hi => ?_⟩
  rw [F.I _ _ (h1 i), F.I _ _ (h2 i)]
  exact h.2.2 i hi
/-- all that the search writes besides the line -/
def Lns : List (Nat × Nat) := [(40, 0), (40, 1), (40, 15), (40, 16), (40, 17), (41, 999999), (46, 999999), (47, 999999), (48, 999999), (49, 999999), (50, 999999), (52, 999999), (53, 999999), (55, 999999), (56, 999999), (58, 999999), (59, 999999), (60, 999999), (61, 999999), (62, 999999)]
theorem lns_w {c j : Nat} (h : c < 40 ∨ 42 ≤ c ∧ c ≤ 45 ∨ 62 < c) : wL Lns c j = false := by
  unfold wL
  rw [List.any_eq_false]
  have : ∀ q ∈ Lns, (40 ≤ q.1 ∧ q.1 ≤ 41) ∨ (46 ≤ q.1 ∧ q.1 ≤ 62) := by decide +kernel
  intro q hq
  have := this q hq
  simp only [Bool.and_eq_true, beq_iff_eq, not_and]
  intro h; omega
theorem CXn.fr {m m' : Mem} {N n : Nat} {b : Nat → Nat} {lw ed : Int32} {X Y : Nat → Int} (h : CXn m N n b lw ed X Y) (F : Frm Lns [] m m') : CXn m' N n b lw ed X Y := ⟨h.1.fr F (fun c j a b => lns_w (by omega)), h.2.fr9 F (lns_w (by omega)) (fun _ => lns_w (by omega)) (fun _ => lns_w (by omega))⟩
def EDm (m : Mem) (N n : Nat) (b : Nat → Nat) (X Y : Nat → Int) (t : Nat) : Prop := ∀ e, e < t → gJ m 46 e = edR b N n X Y e ∧ gI m 47 e = edO' b N n X Y e
theorem NXc.b4 {N n : Nat} {b : Nat → Nat} {ed : Int32} {X Y : Nat → Int} (h : NXc N n b ed X Y) {i j : Nat} (hi : i < n) (hj : j < n) : B4 (X i) (Y i) (X j) (Y j) := by
  have a := h.2.2.2.2.2 i hi
  have c := h.2.2.2.2.2 j hj
  unfold B4; omega
theorem seN_loop {N n : Nat} {b : Nat → Nat} {lw ed : Int32} {X Y : Nat → Int} {kx : Mem → Option Mem} (H : NXc N n b ed X Y) : ∀ (d i fu : Nat) (m : Mem), i + d = n → d < fu → CXn m N n b lw ed X Y → EDm m N n b X Y i → ∃ m', NI_seeEdges_L2 kx fu m (nI i) = kx m' ∧ EDm m' N n b X Y n ∧ Frm W_NI_seeEdges [] m m'
  | 0, i, fu, m, hd, hf, hC, hE => by
    obtain ⟨f, rfl⟩ : ∃ f, fu = f + 1 := ⟨fu - 1, by omega⟩
    have hn := H.2.2.1
    obtain rfl : i = n := by omega
    exact ⟨m, by rw [NI_seeEdges_L2, hC.2.1, if_pos (by rw [n_le (by omega) (by omega)]; omega)], hE, Frm.rf⟩
  | d + 1, i, fu, m, hd, hf, hC, hE => by
    obtain ⟨f, rfl⟩ : ∃ f, fu = f + 1 := ⟨fu - 1, by omega⟩
    have hn := H.2.2.1
    have hi : i < n := by omega
    have h1 := nx_lt hi
    obtain ⟨a1, a2, a3, a4⟩ := hC.2.2.2 i hi
    obtain ⟨b1, b2, b3, b4⟩ := hC.2.2.2 (nx n i) h1
    have ei : nI i + 1 = nI (i + 1) := by rw [k1, n_add]
    have F1 : Frm W_NI_seeEdges [] m (sJ m 46 i (edR b N n X Y i)) := Frm.sJ rfl rfl
    have F2 : Frm W_NI_seeEdges [] m (sI (sJ m 46 i (edR b N n X Y i)) 47 i (edO' b N n X Y i)) := F1.tr (Frm.sI rfl rfl)
    have C1 := hC.fr (F1.mo (wL_sub rfl))
    obtain ⟨m', e, E, F⟩ := seN_loop (kx := kx) H d (i + 1) f _ (by omega) (by omega) (hC.fr (F2.mo (wL_sub rfl))) (fun e he => by
      by_cases q : e = i
      · subst q
        exact ⟨by rw [gJ_sI, gJ_sJ, if_pos ⟨rfl, rfl⟩], by rw [gI_sI, if_pos ⟨rfl, rfl⟩]⟩
      · rw [gJ_sI, gJ_sJ, if_neg (fun z => q z.2), gI_sI, if_neg (fun z => q z.2), gI_sJ]
        exact hE e (by omega))
    refine ⟨m', ?_, E, F2.tr F⟩
    rw [NI_seeEdges_L2, hC.2.1, if_neg (by rw [n_le (by omega) (by omega)]; omega), letV_o, LN_after_eq hC.2 hi, if_pos (n_in (by omega) (by omega)), if_pos (n_in (by omega) (by omega)), n_ixn (by omega), n_ixn (by omega), a1, a2, b1, b2, roundsBy_eq hC.1 H.1 H.2.2.2.1 (H.b4 hi h1), bL_s, letM_o, gI_sJ, gI_sJ, gI_sJ, gI_sJ, a1, a2, b1, b2, onBy_eq C1.1 H.1 H.2.2.2.1 (H.b4 hi h1), bI_s, letM_o, ei]
    exact e
theorem seeEdges_eq {N n : Nat} {b : Nat → Nat} {lw ed : Int32} {X Y : Nat → Int} {m : Mem} (H : NXc N n b ed X Y) (hC : CXn m N n b lw ed X Y) : ∃ m', NI_seeEdges m = some m' ∧ EDm m' N n b X Y n ∧ Frm W_NI_seeEdges [] m m' :=
  seN_loop (kx := fun m1 => some m1) H n 0 FU m (by omega) (by have := H.2.2.1; unfold FU; omega) hC (fun e he => by omega)
theorem lo_loop {N n : Nat} {b : Nat → Nat} {lw ed x1 x2 : Int32} {X Y : Nat → Int} {sk : Nat → Bool} {kx : Mem → Option Mem} (H : NXc N n b ed X Y) (hs : ∀ e, e < n → (sk e = true ↔ (nI e = x1 ∨ nI e = x2 ∨ nI (nx n e) = x1 ∨ nI (nx n e) = x2))) : ∀ (d e fu : Nat) (m : Mem), e + d = n → d < fu → CXn m N n b lw ed X Y → EDm m N n b X Y n → gJ m 40 15 = rsR (edR b N n X Y) sk e → gI m 40 16 = rsO (edO' b N n X Y) sk e → ∃ m', NI_leaveOut_L14 x1 x2 kx fu m (nI e) = kx m' ∧ gJ m' 40 15 = rsR (edR b N n X Y) sk n ∧ gI m' 40 16 = rsO (edO' b N n X Y) sk n ∧ Frm W_NI_leaveOut [] m m'
  | 0, e, fu, m, hd, hf, hC, hE, h1, h2 => by
    obtain ⟨f, rfl⟩ : ∃ f, fu = f + 1 := ⟨fu - 1, by omega⟩
    have hn := H.2.2.1
    obtain rfl : e = n := by omega
    exact ⟨m, by rw [NI_leaveOut_L14, hC.2.1, if_pos (by rw [n_le (by omega) (by omega)]; omega)], h1, h2, Frm.rf⟩
  | d + 1, e, fu, m, hd, hf, hC, hE, h1, h2 => by
    obtain ⟨f, rfl⟩ : ∃ f, fu = f + 1 := ⟨fu - 1, by omega⟩
    have hn := H.2.2.1
    have he : e < n := by omega
    have ei : nI e + 1 = nI (e + 1) := by rw [k1, n_add]
    obtain ⟨g1, g2⟩ := hE e he
    have s := hs e he
    by_cases q : sk e = true
    · obtain ⟨m', a, a1, a2, F⟩ := lo_loop (kx := kx) H hs d (e + 1) f m (by omega) (by omega) hC hE (by rw [rsR, if_pos q]; exact h1) (by rw [rsO, if_pos q]; exact h2)
      refine ⟨m', ?_, a1, a2, F⟩
      have s' := s.mp q
      rw [NI_leaveOut_L14, hC.2.1, if_neg (by rw [n_le (by omega) (by omega)]; omega), letV_o, LN_after_eq hC.2 he, ei]
      by_cases z1 : nI e = x1
      · rw [if_pos z1]; exact a
      · by_cases z2 : nI e = x2
        · rw [if_neg z1, if_pos z2]; exact a
        · by_cases z3 : nI (nx n e) = x1
          · rw [if_neg z1, if_neg z2, if_pos z3]; exact a
          · have z4 : nI (nx n e) = x2 := by rcases s' with s' | s' | s' | s'; exact absurd s' z1; exact absurd s' z2; exact absurd s' z3; exact s'
            rw [if_neg z1, if_neg z2, if_neg z3, if_pos z4]; exact a
    · have s' : ¬ (nI e = x1 ∨ nI e = x2 ∨ nI (nx n e) = x1 ∨ nI (nx n e) = x2) := fun z => q (s.mpr z)
      have F1 : Frm W_NI_leaveOut [] m (sJ m 40 15 (gJ m 40 15 + gJ m 46 e)) := Frm.sJ rfl rfl
      have F2 : Frm W_NI_leaveOut [] m (sI (sJ m 40 15 (gJ m 40 15 + gJ m 46 e)) 40 16 (gI m 40 16 ||| gI m 47 e)) := F1.tr (Frm.sI rfl rfl)
      obtain ⟨m', a, a1, a2, F⟩ := lo_loop (kx := kx) H hs d (e + 1) f _ (by omega) (by omega) (hC.fr (F2.mo (wL_sub rfl))) (fun e' he' => by rw [F2.I 47 _ rfl, F2.J 46 _ rfl]; exact hE e' he') (by rw [gJ_sI, gJ_sJ, if_pos ⟨rfl, rfl⟩, rsR, if_neg q, h1, g1]) (by rw [gI_sI, if_pos ⟨rfl, rfl⟩, rsO, if_neg q, h2, g2])
      refine ⟨m', ?_, a1, a2, F2.tr F⟩
      rw [NI_leaveOut_L14, hC.2.1, if_neg (by rw [n_le (by omega) (by omega)]; omega), letV_o, LN_after_eq hC.2 he, ei, if_neg (fun z => s' (Or.inl z)), if_neg (fun z => s' (Or.inr (Or.inl z))), if_neg (fun z => s' (Or.inr (Or.inr (Or.inl z)))), if_neg (fun z => s' (Or.inr (Or.inr (Or.inr z)))), if_pos (n_in (by omega) (by omega)), n_ixn (by omega), letM_o, gI_sJ, gI_sJ, letM_o]
      exact a
theorem leaveOut_eq {N n : Nat} {b : Nat → Nat} {lw ed x1 x2 : Int32} {X Y : Nat → Int} {sk : Nat → Bool} {m : Mem} (H : NXc N n b ed X Y) (hs : ∀ e, e < n → (sk e = true ↔ (nI e = x1 ∨ nI e = x2 ∨ nI (nx n e) = x1 ∨ nI (nx n e) = x2))) (hC : CXn m N n b lw ed X Y) (hE : EDm m N n b X Y n) : ∃ m', NI_leaveOut m x1 x2 = some m' ∧ gJ m' 40 15 = rsR (edR b N n X Y) sk n ∧ gI m' 40 16 = rsO (edO' b N n X Y) sk n ∧ Frm W_NI_leaveOut [] m m' := by
  have F2 : Frm W_NI_leaveOut [] m (sI (sJ m 40 15 1157442765409226768) 40 16 0) := (Frm.sJ rfl rfl).tr (Frm.sI rfl rfl)
  obtain ⟨m', a, a1, a2, F⟩ := lo_loop (kx := fun m3 => some m3) H hs n 0 FU _ (by omega) (by have := H.2.2.1; unfold FU; omega) (hC.fr (F2.mo (wL_sub rfl))) (fun e' he' => by rw [F2.I 47 _ rfl, F2.J 46 _ rfl]; exact hE e' he') (by rw [gJ_sI, gJ_sJ, if_pos ⟨rfl, rfl⟩]; rfl) (by rw [gI_sI, if_pos ⟨rfl, rfl⟩]; rfl)
  exact ⟨m', by rw [NI_leaveOut, letM_o, letM_o]; exact a, a1, a2, F2.tr F⟩
theorem skN_iff {n i j e : Nat} (hn : n ≤ 12) (hi : i < n) (hj : j < n) (he : e < n) : skN n i j e = true ↔ (nI e = nI i ∨ nI e = nI j ∨ nI (nx n e) = nI i ∨ nI (nx n e) = nI j) := by
  have := nx_lt he
  unfold skN
  rw [decide_eq_true_eq, n_eq (by omega) (by omega), n_eq (by omega) (by omega), n_eq (by omega) (by omega), n_eq (by omega) (by omega)]
theorem skN_no {n e : Nat} (hn : n ≤ 12) (he : e < n) : (fun _ => false) e = true ↔ (nI e = -1 ∨ nI e = -1 ∨ nI (nx n e) = -1 ∨ nI (nx n e) = -1) := by
  have := nx_lt he
  have k : ∀ a, a < n → ¬ nI a = -1 := fun a ha => by rw [im1, nI_iz, iz_eq (by omega) (by omega)]; omega
  constructor
  · intro z; cases z
  · rintro (z | z | z | z)
    · exact absurd z (k _ he)
    · exact absurd z (k _ he)
    · exact absurd z (k _ this)
    · exact absurd z (k _ this)

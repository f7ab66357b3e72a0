/-! the class's cheapest walks: a ring of squares that wait -/
def inQ (q : Nat → Nat) (L u : Nat) : Prop := ∃ j, j < L ∧ q j = u
def QM (m : Mem) (D q : Nat → Nat) (L h : Nat) : Prop := (∀ v, v < 400 → gI m 28 v = nI (D v)) ∧ (∀ v, v < 400 → (gI m 30 v = 1 ∧ inQ q L v) ∨ (gI m 30 v = 0 ∧ ¬ inQ q L v)) ∧ gI m 26 7 = nI h ∧ h < 400 ∧ gI m 26 8 = nI L ∧ (∀ j, j < L → gI m 29 ((h + j) % 400) = nI (q j)) ∧ (∀ j, j < L → q j < 400) ∧ (∀ i j, i < j → j < L → q i ≠ q j)
theorem inj_le {q : Nat → Nat} {L N : Nat} (h1 : ∀ j, j < L → q j < N) (h2 : ∀ i j, i < j → j < L → q i ≠ q j) : L ≤ N := by
  by_cases z : L ≤ N
  · exact z
  · exfalso
    obtain ⟨i, j, a, b, e⟩ := pigeon N q (fun i hi => h1 i (by omega))
    exact h2 i j a (by omega) e
theorem QM.le {m : Mem} {D q : Nat → Nat} {L h : Nat} (R : QM m D q L h) : L ≤ 400 := inj_le R.2.2.2.2.2.2.1 R.2.2.2.2.2.2.2
theorem QM.lt {m : Mem} {D q : Nat → Nat} {L h v : Nat} (R : QM m D q L h) (hv : v < 400) (hn : ¬ inQ q L v) : L < 400 := by
  have := inj_le (q := upn q L v) (L := L + 1) (N := 400) (fun j hj => by
    by_cases z : j = L
    · rw [z, upn_eq]; exact hv
    · rw [upn_ne z]; exact R.2.2.2.2.2.2.1 j (by omega)) (fun i j a b => by
    by_cases z : j = L
    · rw [z, upn_eq, upn_ne (by omega)]
      exact fun y => hn ⟨i, by omega, y⟩
    · rw [upn_ne z, upn_ne (by omega)]; exact R.2.2.2.2.2.2.2 i j a (by omega))
  omega
theorem offer_ok {m : Mem} {D q : Nat → Nat} {L h v x : Nat} (R : QM m D q L h) (hD : ∀ v, D v ≤ INF) (hv : v < 400) (hx : x < 2147483648) :
    ∃ m' q' L', WK_offer m (nI v) (nI x) = some m' ∧ QM m' (if x < D v then upn D v x else D) q' L' h ∧ L ≤ L' ∧ (∀ j, j < L → q' j = q j) ∧ (x < D v → inQ q' L' v) ∧ (¬ x < D v → L' = L) ∧ Frm W_WK_offer [] m m' := by
  have hle := R.le
  obtain ⟨r1, r2, r3, r4, r5, r6, r7, r8⟩ := id R
  have dv := hD v
  have iI : INF = 100000000 := rfl
  have c1 : (nI x < nI (D v)) ↔ x < D v := n_lt hx (by omega)
  by_cases q1 : x < D v
  · rw [if_pos q1]
    have g30 : gI (sI m 28 v (nI x)) 30 v = gI m 30 v := by rw [gI_sI, if_neg (by omega)]
    have g8 : gI (sI m 28 v (nI x)) 26 8 = nI L := by rw [gI_sI, if_neg (by omega), r5]
    have e28 : ∀ t, t < 400 → gI (sI m 28 v (nI x)) 28 t = nI (upn D v x t) := fun t ht => by
      rw [gI_sI]
      by_cases z : t = v
      · rw [if_pos ⟨rfl, z⟩, z, upn_eq]
      · rw [if_neg (fun y => z y.2), upn_ne z, r1 t ht]
    rcases r2 v hv with ⟨z1, z2⟩ | ⟨z1, z2⟩
    · refine ⟨sI m 28 v (nI x), q, L, ?_, ⟨e28, fun t ht => by rw [gI_sI, if_neg (by omega)]; exact r2 t ht, by rw [gI_sI, if_neg (by omega)]; exact r3, r4, g8, fun j hj => by rw [gI_sI, if_neg (by omega)]; exact r6 j hj, r7, r8⟩, Nat.le_refl _, fun _ _ => rfl, fun _ => z2, fun _ => rfl, Frm.sI rfl rfl⟩
      rw [WK_offer, if_pos (n_in hv (by omega)), n_ixn (by omega), r1 v hv, if_pos (c1.mpr q1), letM_o, g30, z1, if_neg (by decide)]
    · have hlt := R.lt hv z2
      let m3 := sI (sI m 28 v (nI x)) 30 v 1
      have h3 : m3 = sI (sI m 28 v (nI x)) 30 v 1 := rfl
      have g7 : gI m3 26 7 = nI h := by rw [h3, gI_sI, if_neg (by omega), gI_sI, if_neg (by omega), r3]
      have g8' : gI m3 26 8 = nI L := by rw [h3, gI_sI, if_neg (by omega), g8]
      let m4 := sI (sI m3 29 ((h + L) % 400) (nI v)) 26 8 (nI (L + 1))
      have h4 : m4 = sI (sI m3 29 ((h + L) % 400) (nI v)) 26 8 (nI (L + 1)) := rfl
      have J : ∀ p, p = (h + L) % 400 → WK_offer_J74 m3 (nI v) (nI p) = some m4 := fun p hp => by
        have g : gI (sI m3 29 p (nI v)) 26 8 = nI L := by rw [gI_sI, if_neg (by omega), g8']
        rw [WK_offer_J74, if_pos (n_in (by omega) (by omega)), n_ixn (by omega), letM_o, g, k1, n_add, letM_o, hp]
      have F : Frm W_WK_offer [] m m4 := (Frm.sI rfl rfl).tr ((Frm.sI rfl rfl).tr ((Frm.sI rfl rfl).tr (Frm.sI rfl rfl)))
      refine ⟨m4, upn q L v, L + 1, ?_, ⟨fun t ht => ?_, fun t ht => ?_, ?_, r4, ?_, fun j hj => ?_, fun j hj => ?_, fun i j a b => ?_⟩, Nat.le_succ _, fun j hj => upn_ne (by omega), fun _ => ⟨L, Nat.lt_succ_self _, upn_eq _ _ _⟩, fun z => absurd q1 z, F⟩
      · have c4 : ¬ (400 : Int32) ≤ nI L := by rw [show (400 : Int32) = nI 400 from rfl, n_le (by omega) (by omega)]; omega
        rw [WK_offer, if_pos (n_in hv (by omega)), n_ixn (by omega), r1 v hv, if_pos (c1.mpr q1), letM_o, g30, z1, if_pos rfl, g8, if_neg c4, letM_o, ← h3, g7, g8', n_add, letV_o]
        by_cases z : 400 ≤ h + L
        · rw [if_pos (by rw [show (400 : Int32) = nI 400 from rfl, n_le (by omega) (by omega)]; exact z), show (400 : Int32) = nI 400 from rfl, n_sub z]
          exact J _ (by omega)
        · rw [if_neg (by rw [show (400 : Int32) = nI 400 from rfl, n_le (by omega) (by omega)]; exact z)]
          exact J _ (by omega)
      · rw [h4, gI_sI, if_neg (by omega), gI_sI, if_neg (by omega), h3, gI_sI, if_neg (by omega)]; exact e28 t ht
      · rw [h4, gI_sI, if_neg (by omega), gI_sI, if_neg (by omega), h3, gI_sI]
        by_cases z : t = v
        · left
          rw [if_pos ⟨rfl, z⟩]
          exact ⟨rfl, L, Nat.lt_succ_self _, by rw [upn_eq, z]⟩
        · rw [if_neg (fun y => z y.2), gI_sI, if_neg (by omega)]
          have e : inQ (upn q L v) (L + 1) t ↔ inQ q L t := by
            refine ⟨fun ⟨j, a, b⟩ => ?_, fun ⟨j, a, b⟩ => ⟨j, by omega, by rw [upn_ne (by omega)]; exact b⟩⟩
            by_cases y : j = L
            · rw [y, upn_eq] at b; exact absurd b.symm z
            · rw [upn_ne y] at b; exact ⟨j, by omega, b⟩
          rw [e]
          exact r2 t ht
      · rw [h4, gI_sI, if_neg (by omega), gI_sI, if_neg (by omega), g7]
      · rw [h4, gI_sI, if_pos ⟨rfl, rfl⟩]
      · rw [h4, gI_sI, if_neg (by omega), gI_sI]
        by_cases z : j = L
        · rw [if_pos ⟨rfl, by rw [z]⟩, z, upn_eq]
        · rw [if_neg (by omega), upn_ne z, h3, gI_sI, if_neg (by omega), gI_sI, if_neg (by omega)]; exact r6 j (by omega)
      · by_cases z : j = L
        · rw [z, upn_eq]; exact hv
        · rw [upn_ne z]; exact r7 j (by omega)
      · by_cases z : j = L
        · rw [z, upn_eq, upn_ne (by omega)]
          exact fun y => z2 ⟨i, by omega, y⟩
        · rw [upn_ne z, upn_ne (by omega)]; exact r8 i j a (by omega)
  · rw [if_neg q1]
    refine ⟨m, q, L, ?_, R, Nat.le_refl _, fun _ _ => rfl, fun z => absurd z q1, fun _ => rfl, Frm.rf⟩
    rw [WK_offer, if_pos (n_in hv (by omega)), n_ixn (by omega), r1 v hv, if_neg (fun z => q1 (c1.mp z))]
abbrev GX (m : Mem) (n : Nat) (U V : Nat → Int) : Prop := ∃ T O, GRel m 5 (fun r c => sE U V r c n) (fun r c => sE V U c r n) T O
theorem GX.fr {m m' : Mem} {n : Nat} {U V : Nat → Int} {A : List (Nat × Nat)} (h : GX m n U V) (F : Frm A [] m m') (z : ∀ c, c < 11 → ∀ k, wL A c k = false) : GX m' n U V := by
  obtain ⟨T, O, G⟩ := h
  refine ⟨T, O, fun r c hr hc => ?_⟩
  rw [F.I _ _ (z _ (by omega) _), F.I _ _ (z _ (by omega) _), F.I _ _ (z _ (by omega) _), F.I _ _ (z _ (by omega) _)]
  exact G r c hr hc
theorem oz : ∀ c, c < 11 → ∀ k, wL W_WK_offer c k = false := by
  intro c hc k
  unfold wL
  rw [List.any_eq_false]
  have : ∀ q ∈ W_WK_offer, 11 ≤ q.1 := by decide
  intro q hq
  have := this q hq
  simp only [Bool.and_eq_true, beq_iff_eq, not_and]
  intro h; omega
theorem on_step {m : Mem} {D q : Nat → Nat} {n L h u d f : Nat} {U V : Nat → Int} {kx : Mem → Option Mem} (R : QM m D q L h) (hD : ∀ v, D v ≤ INF) (hn : n ≤ 12) (G : GX m n U V) (hu : u < 400) (hd : d < 4) :
    ∃ m' q' L', WK_offerNeighbours_L2 5 (nI u) kx (f + 1) m (nI d) = WK_offerNeighbours_L2 5 (nI u) kx f m' (nI (d + 1)) ∧ QM m' (rlx 400 (stX U V n) u d D) q' L' h ∧ L ≤ L' ∧ (∀ j, j < L → q' j = q j) ∧ (∀ v, rlx 400 (stX U V n) u d D v ≠ D v → inQ q' L' v) ∧ (rlx 400 (stX U V n) u d D = D → L' = L) ∧ Frm W_WK_offer [] m m' := by
  have ed : nI d + 1 = nI (d + 1) := by rw [k1, n_add]
  have hX : stX U V n u d ≤ 12 := stX_le hn
  have iI : INF = 100000000 := rfl
  rw [rlx_def]
  obtain ⟨T, O, GR⟩ := G
  have ec := crossed_eq GR hu hd
  cases hb : nb u d with
  | none =>
    refine ⟨m, q, L, ?_, R, Nat.le_refl _, fun _ _ => rfl, fun v z => absurd rfl z, fun _ => rfl, Frm.rf⟩
    rw [WK_offerNeighbours_L2, if_neg (by rw [k3, n_lt (by omega) (by omega)]; omega), step_nb hu hd, hb, letV_o, if_pos (by decide), ed]
  | some v =>
    have hv := nb_lt hu hb
    rw [hb] at ec
    have e1 : enc (some v) = nI v := rfl
    have du := hD u
    obtain ⟨m', q', L', e, a1, a2, a3, a4, a5, F⟩ := offer_ok (v := v) (x := D u + wt 400 (stX U V n) u d) R hD hv (by unfold wt; omega)
    refine ⟨m', q', L', ?_, a1, a2, a3, fun t z => ?_, fun z => a5 (fun y => ?_), F⟩
    · rw [WK_offerNeighbours_L2, if_neg (by rw [k3, n_lt (by omega) (by omega)]; omega), step_nb hu hd, hb, letV_o, e1, if_neg (by rw [k0, n_lt (by omega) (by omega)]; omega), if_pos (n_in hu (by omega)), ec, bI_s, n_ixn (by omega), R.1 u hu, stX_n, show (400 : Int32) = nI 400 from rfl, n_mul, n_add, k1, n_add, n_add, show D u + stX U V n u d * 400 + 1 = D u + wt 400 (stX U V n) u d by unfold wt; omega, e, bM_s]
    · by_cases y : D u + wt 400 (stX U V n) u d < D v
      · simp only [if_pos y] at z
        by_cases w : t = v
        · rw [w]; exact a4 y
        · rw [upn_ne w] at z; exact absurd rfl z
      · simp only [if_neg y] at z
        exact absurd rfl z
    · simp only [if_pos y] at z
      have := congrFun z v
      rw [upn_eq] at this
      omega
theorem on_four {m : Mem} {D q : Nat → Nat} {n L h u : Nat} {U V : Nat → Int} (R : QM m D q L h) (hD : ∀ v, D v ≤ INF) (hn : n ≤ 12) (G : GX m n U V) (hu : u < 400) :
    ∃ m' q' L', WK_offerNeighbours m 5 (nI u) = some m' ∧ QM m' (rl4 400 (stX U V n) u D) q' L' h ∧ L ≤ L' ∧ (∀ j, j < L → q' j = q j) ∧ (∀ v, rl4 400 (stX U V n) u D v ≠ D v → inQ q' L' v) ∧ (ch4 400 (stX U V n) u D = false → L' = L) ∧ Frm W_WK_offer [] m m' := by
  obtain ⟨f, hf⟩ : ∃ f, FU = f + 1 + 1 + 1 + 1 + 1 := ⟨FU - 5, by unfold FU; omega⟩
  have mono : ∀ {q q' : Nat → Nat} {L L' : Nat}, L ≤ L' → (∀ j, j < L → q' j = q j) → ∀ v, inQ q L v → inQ q' L' v := fun a b v ⟨j, c, d⟩ => ⟨j, by omega, by rw [b j c]; exact d⟩
  obtain ⟨m1, q1, L1, e1, R1, l1, p1, c1, n1, F1⟩ := on_step (f := f + 1 + 1 + 1 + 1) (kx := fun m1 => some m1) (d := 0) R hD hn G hu (by omega)
  have h1 := rlx_all (C := 400) (X := stX U V n) (u := u) (d := 0) hD
  generalize hD1 : rlx 400 (stX U V n) u 0 D = D1 at R1 c1 n1 h1
  obtain ⟨m2, q2, L2, e2, R2, l2, p2, c2, n2, F2⟩ := on_step (f := f + 1 + 1 + 1) (kx := fun m1 => some m1) (d := 1) R1 h1 hn (G.fr F1 oz) hu (by omega)
  have F12 := F1.tr F2
  have h2 := rlx_all (C := 400) (X := stX U V n) (u := u) (d := 1) h1
  generalize hD2 : rlx 400 (stX U V n) u 1 D1 = D2 at R2 c2 n2 h2
  obtain ⟨m3, q3, L3, e3, R3, l3, p3, c3, n3, F3⟩ := on_step (f := f + 1 + 1) (kx := fun m1 => some m1) (d := 2) R2 h2 hn (G.fr F12 oz) hu (by omega)
  have F13 := F12.tr F3
  have h3 := rlx_all (C := 400) (X := stX U V n) (u := u) (d := 2) h2
  generalize hD3 : rlx 400 (stX U V n) u 2 D2 = D3 at R3 c3 n3 h3
  obtain ⟨m4, q4, L4, e4, R4, l4, p4, c4, n4, F4⟩ := on_step (f := f + 1) (kx := fun m1 => some m1) (d := 3) R3 h3 hn (G.fr F13 oz) hu (by omega)
  have eF : rl4 400 (stX U V n) u D = rlx 400 (stX U V n) u 3 D3 := by unfold rl4; rw [hD1, hD2, hD3]
  have eC : ch4 400 (stX U V n) u D = (chg 400 (stX U V n) u 0 D || (chg 400 (stX U V n) u 1 D1 || (chg 400 (stX U V n) u 2 D2 || chg 400 (stX U V n) u 3 D3))) := by unfold ch4; rw [hD1, hD2, hD3]
  rw [eF, eC]
  refine ⟨m4, q4, L4, ?_, R4, by omega, fun j hj => by rw [p4 j (by omega), p3 j (by omega), p2 j (by omega), p1 j hj], fun v z => ?_, fun z => ?_, F13.tr F4⟩
  · unfold WK_offerNeighbours
    rw [hf, show (0 : Int32) = nI 0 from k0, e1, e2, e3, e4, WK_offerNeighbours_L2, if_pos (by decide)]
  · by_cases z4 : rlx 400 (stX U V n) u 3 D3 v = D3 v
    · by_cases z3 : D3 v = D2 v
      · by_cases z2 : D2 v = D1 v
        · exact mono l4 p4 v (mono l3 p3 v (mono l2 p2 v (c1 v (fun y => z (by rw [z4, z3, z2, y])))))
        · exact mono l4 p4 v (mono l3 p3 v (c2 v z2))
      · exact mono l4 p4 v (c3 v z3)
    · exact c4 v z4
  · rw [Bool.or_eq_false_iff, Bool.or_eq_false_iff, Bool.or_eq_false_iff] at z
    obtain ⟨z0, z1, z2, z3⟩ := z
    have y0 := chg_no z0
    have y1 := chg_no z1
    have y2 := chg_no z2
    have y3 := chg_no z3
    rw [hD1] at y0
    rw [hD2] at y1
    rw [hD3] at y2
    rw [n4 y3, n3 y2, n2 y1, n1 y0]

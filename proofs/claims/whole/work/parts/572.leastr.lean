/-! the reference's cheapest walks -/
def chg (C : Nat) (X : Nat → Nat → Nat) (u d : Nat) (D : Nat → Nat) : Bool := match nb u d with
  | none => false
  | some v => decide (D u + wt C X u d < D v)
theorem chg_no {C : Nat} {X : Nat → Nat → Nat} {u d : Nat} {D : Nat → Nat} (h : chg C X u d D = false) : rlx C X u d D = D := by
  unfold chg at h
  rw [rlx_def]
  cases hb : nb u d with
  | none => rfl
  | some v =>
    rw [hb] at h
    simp only [decide_eq_false_iff_not] at h
    simp only [if_neg h]
def MD (m : Mem) (D : Nat → Nat) : Prop := ∀ v, v < 400 → gI m 149 v = nI (D v)
theorem kINF : (100000000 : Int32) = nI INF := rfl
theorem lb_step {m : Mem} {n u d f : Nat} {U V : Nat → Int} {D : Nat → Nat} {b : Bool} {x3 : Int32} {kx : Mem → Int32 → Option (Int32 × Mem)} (R : MD m D) (hD : ∀ v, D v ≤ INF) (hP : PolyR m n (fun i => 2 * U i) (fun i => 2 * V i)) (hU : ∀ i, i ≤ n → 0 ≤ U i ∧ U i ≤ 20) (hV : ∀ i, i ≤ n → 0 ≤ V i ∧ V i ≤ 20) (hu : u < 400) (hd : d < 4) :
    ∃ m', RM_least_L123 x3 (nI u) kx (f + 1) m (b2i b) (nI d) = RM_least_L123 x3 (nI u) kx f m' (b2i (b || chg 1000 (stX U V n) u d D)) (nI (d + 1)) ∧ MD m' (rlx 1000 (stX U V n) u d D) ∧ Frm [(149, 999999)] [] m m' := by
  have ed : nI d + 1 = nI (d + 1) := by rw [k1, n_add]
  have hX : stX U V n u d ≤ 12 := stX_le hP.2.1
  have iI : INF = 100000000 := rfl
  rw [rlx_def]
  unfold chg
  cases hb : nb u d with
  | none =>
    refine ⟨m, ?_, R, Frm.rf⟩
    rw [RM_least_L123, if_neg (by rw [k4, n_le (by omega) (by omega)]; omega), beside_nb hu hd, hb, letV_p, if_pos (by decide), ed]
    simp
  | some v =>
    have hv := nb_lt hu hb
    have e1 : enc (some v) = nI v := rfl
    have dv := hD v
    have du := hD u
    have e0 : RM_least_L123 x3 (nI u) kx (f + 1) m (b2i b) (nI d) = if nI INF ≤ nI (D u) then (RM_least_L123 x3 (nI u) kx f m (b2i b) (nI (d + 1)))
        else (if nI (D u + 1) < nI (D v) then (if nI (D u + wt 1000 (stX U V n) u d) < nI (D v) then (RM_least_L123 x3 (nI u) kx f (sI m 149 v (nI (D u + wt 1000 (stX U V n) u d))) 1 (nI (d + 1)))
        else (RM_least_L123 x3 (nI u) kx f m (b2i b) (nI (d + 1))))
        else (RM_least_L123 x3 (nI u) kx f m (b2i b) (nI (d + 1)))) := by
      rw [RM_least_L123, if_neg (by rw [k4, n_le (by omega) (by omega)]; omega), beside_nb hu hd, hb, letV_p, e1, if_neg (by rw [k0, n_lt (by omega) (by omega)]; omega), if_pos (n_in hu (by omega)), n_ixn (by omega), R u hu, kINF, if_pos (n_in hv (by omega)), n_ixn (by omega), R v hv, crossesOf_eq hP hU hV hu hd hb, bI_s, letV_p, stX_n, show (1000 : Int32) = nI 1000 from rfl, n_mul, n_add, k1, n_add, n_add, n_add, letM_p, show D u + 1000 * stX U V n u d + 1 = D u + wt 1000 (stX U V n) u d by unfold wt; omega]
    have c1 : (nI INF ≤ nI (D u)) ↔ INF ≤ D u := n_le (by omega) (by omega)
    have c2 : (nI (D u + 1) < nI (D v)) ↔ D u + 1 < D v := n_lt (by omega) (by omega)
    have c3 : (nI (D u + wt 1000 (stX U V n) u d) < nI (D v)) ↔ D u + wt 1000 (stX U V n) u d < D v := n_lt (by unfold wt; omega) (by omega)
    have hw : 1 ≤ wt 1000 (stX U V n) u d := by unfold wt; omega
    by_cases q : D u + wt 1000 (stX U V n) u d < D v
    · refine ⟨sI m 149 v (nI (D u + wt 1000 (stX U V n) u d)), ?_, ?_, Frm.sI rfl rfl⟩
      · rw [e0, if_neg (fun z => by have := c1.mp z; omega), if_pos (c2.mpr (by omega)), if_pos (c3.mpr q)]
        simp only [decide_eq_true q, Bool.or_true]
        rfl
      · simp only [if_pos q]
        intro t ht
        rw [gI_sI]
        by_cases z : t = v
        · rw [if_pos ⟨rfl, z⟩, z, upn_eq]
        · rw [if_neg (fun y => z y.2), upn_ne z]; exact R t ht
    · refine ⟨m, ?_, by simp only [if_neg q]; exact R, Frm.rf⟩
      have : RM_least_L123 x3 (nI u) kx (f + 1) m (b2i b) (nI d) = RM_least_L123 x3 (nI u) kx f m (b2i b) (nI (d + 1)) := by
        rw [e0, if_neg (fun z => q (c3.mp z))]
        split
        · rfl
        · split <;> rfl
      rw [this]
      simp only [decide_eq_false q, Bool.or_false]
def ch4 (C : Nat) (X : Nat → Nat → Nat) (u : Nat) (D : Nat → Nat) : Bool := chg C X u 0 D || (chg C X u 1 (rlx C X u 0 D) || (chg C X u 2 (rlx C X u 1 (rlx C X u 0 D)) || chg C X u 3 (rlx C X u 2 (rlx C X u 1 (rlx C X u 0 D)))))
theorem ch4_no {C : Nat} {X : Nat → Nat → Nat} {u : Nat} {D : Nat → Nat} (h : ch4 C X u D = false) : rl4 C X u D = D := by
  unfold ch4 at h
  rw [Bool.or_eq_false_iff, Bool.or_eq_false_iff, Bool.or_eq_false_iff] at h
  obtain ⟨h0, h1, h2, h3⟩ := h
  have e0 := chg_no h0
  rw [e0] at h1 h2 h3
  have e1 := chg_no h1
  rw [e1] at h2 h3
  have e2 := chg_no h2
  rw [e2] at h3
  unfold rl4
  rw [e0, e1, e2, chg_no h3]
theorem rlx_all {C : Nat} {X : Nat → Nat → Nat} {u d : Nat} {D : Nat → Nat} (h : ∀ v, D v ≤ INF) : ∀ v, rlx C X u d D v ≤ INF := fun v => Nat.le_trans (rlx_le _ _ _ _ _ _) (h v)
theorem lb_four {m : Mem} {n u : Nat} {U V : Nat → Int} {D : Nat → Nat} {b : Bool} {x3 : Int32} {kx : Mem → Int32 → Option (Int32 × Mem)} (R : MD m D) (hD : ∀ v, D v ≤ INF) (hP : PolyR m n (fun i => 2 * U i) (fun i => 2 * V i)) (hU : ∀ i, i ≤ n → 0 ≤ U i ∧ U i ≤ 20) (hV : ∀ i, i ≤ n → 0 ≤ V i ∧ V i ≤ 20) (hu : u < 400) :
    ∃ m', RM_least_L123 x3 (nI u) kx FU m (b2i b) 0 = kx m' (b2i (b || ch4 1000 (stX U V n) u D)) ∧ MD m' (rl4 1000 (stX U V n) u D) ∧ Frm [(149, 999999)] [] m m' := by
  obtain ⟨f, hf⟩ : ∃ f, FU = f + 1 + 1 + 1 + 1 + 1 := ⟨FU - 5, by unfold FU; omega⟩
  have h1 := rlx_all (C := 1000) (X := stX U V n) (u := u) (d := 0) hD
  have h2 := rlx_all (C := 1000) (X := stX U V n) (u := u) (d := 1) h1
  have h3 := rlx_all (C := 1000) (X := stX U V n) (u := u) (d := 2) h2
  obtain ⟨m1, e1, r1, F1⟩ := lb_step (f := f + 1 + 1 + 1 + 1) (b := b) (x3 := x3) (kx := kx) (d := 0) R hD hP hU hV hu (by omega)
  obtain ⟨m2, e2, r2, F2⟩ := lb_step (f := f + 1 + 1 + 1) (b := b || chg 1000 (stX U V n) u 0 D) (x3 := x3) (kx := kx) (d := 1) r1 h1 (hP.fr F1 rfl (fun _ => rfl) (fun _ => rfl)) hU hV hu (by omega)
  have F12 := F1.tr F2
  obtain ⟨m3, e3, r3, F3⟩ := lb_step (f := f + 1 + 1) (b := b || chg 1000 (stX U V n) u 0 D || chg 1000 (stX U V n) u 1 (rlx 1000 (stX U V n) u 0 D)) (x3 := x3) (kx := kx) (d := 2) r2 h2 (hP.fr F12 rfl (fun _ => rfl) (fun _ => rfl)) hU hV hu (by omega)
  have F13 := F12.tr F3
  obtain ⟨m4, e4, r4, F4⟩ := lb_step (f := f + 1) (b := b || chg 1000 (stX U V n) u 0 D || chg 1000 (stX U V n) u 1 (rlx 1000 (stX U V n) u 0 D) || chg 1000 (stX U V n) u 2 (rlx 1000 (stX U V n) u 1 (rlx 1000 (stX U V n) u 0 D))) (x3 := x3) (kx := kx) (d := 3) r3 h3 (hP.fr F13 rfl (fun _ => rfl) (fun _ => rfl)) hU hV hu (by omega)
  refine ⟨m4, ?_, r4, F13.tr F4⟩
  rw [hf, show (0 : Int32) = nI 0 from k0, e1, e2, e3, e4, RM_least_L123, if_pos (by decide)]
  unfold ch4
  simp only [Bool.or_assoc]
def cha (C : Nat) (X : Nat → Nat → Nat) : Nat → Nat → (Nat → Nat) → Bool
  | 0, _, _ => false
  | n + 1, u, D => ch4 C X u D || cha C X n (u + 1) (rl4 C X u D)
theorem cha_no {C : Nat} {X : Nat → Nat → Nat} : ∀ (n u : Nat) (D : Nat → Nat), cha C X n u D = false → rla C X n u D = D
  | 0, _, _, _ => rfl
  | n + 1, u, D, h => by
    unfold cha at h
    rw [Bool.or_eq_false_iff] at h
    have e := ch4_no h.1
    rw [e] at h
    unfold rla
    rw [e]
    exact cha_no n (u + 1) D h.2
theorem lb_row {n : Nat} {U V : Nat → Int} {x3 : Int32} {kx : Mem → Int32 → Option (Int32 × Mem)} (hU : ∀ i, i ≤ n → 0 ≤ U i ∧ U i ≤ 20) (hV : ∀ i, i ≤ n → 0 ≤ V i ∧ V i ≤ 20) : ∀ (k u fu : Nat) (m : Mem) (D : Nat → Nat) (b : Bool), u + k = 400 → k < fu → MD m D → (∀ v, D v ≤ INF) → PolyR m n (fun i => 2 * U i) (fun i => 2 * V i) →
    ∃ m', RM_least_L112 x3 kx fu m (b2i b) (nI u) = kx m' (b2i (b || cha 1000 (stX U V n) k u D)) ∧ MD m' (rla 1000 (stX U V n) k u D) ∧ Frm [(149, 999999)] [] m m'
  | 0, u, fu, m, D, b, hn, hf, R, hD, hP => by
    obtain ⟨f, rfl⟩ : ∃ f, fu = f + 1 := ⟨fu - 1, by omega⟩
    obtain rfl : u = 400 := by omega
    exact ⟨m, by rw [RM_least_L112, if_pos (by decide)]; unfold cha; rw [Bool.or_false], R, Frm.rf⟩
  | k + 1, u, fu, m, D, b, hn, hf, R, hD, hP => by
    obtain ⟨f, rfl⟩ : ∃ f, fu = f + 1 := ⟨fu - 1, by omega⟩
    obtain ⟨m1, e1, r1, F1⟩ := lb_four (b := b) (x3 := x3) (kx := fun m2 y1 => RM_least_L112 x3 kx f m2 y1 (nI u + 1)) R hD hP hU hV (show u < 400 by omega)
    obtain ⟨m2, e2, r2, F2⟩ := lb_row (x3 := x3) (kx := kx) hU hV k (u + 1) f m1 _ (b || ch4 1000 (stX U V n) u D) (by omega) (by omega) r1 (fun v => Nat.le_trans (rl4_le _ _ _ _ _) (hD v)) (hP.fr F1 rfl (fun _ => rfl) (fun _ => rfl))
    refine ⟨m2, ?_, r2, F1.tr F2⟩
    rw [RM_least_L112, if_neg (by rw [show (400 : Int32) = nI 400 from rfl, n_le (by omega) (by omega)]; omega), e1, show nI u + 1 = nI (u + 1) by rw [k1, n_add], e2, show cha 1000 (stX U V n) (k + 1) u D = (ch4 1000 (stX U V n) u D || cha 1000 (stX U V n) k (u + 1) (rl4 1000 (stX U V n) u D)) from rfl, Bool.or_assoc]
theorem cha_yes {C : Nat} {X : Nat → Nat → Nat} {s : Nat} {D : Nat → Nat} (h : JD C X s D) (g : ∀ n c v, v < 400 → Wq X s n v c → D v ≤ C * c + n) : ∀ (k u : Nat), u + k ≤ 400 → cha C X k u D = false
  | 0, _, _ => rfl
  | k + 1, u, hk => by
    have c : ∀ d, d < 4 → chg C X u d D = false := fun d hd => by
      unfold chg
      cases hb : nb u d with
      | none => rfl
      | some v => exact decide_eq_false (LW.still h g (by omega) hd hb)
    have e0 := chg_no (c 0 (by omega))
    have e1 := chg_no (c 1 (by omega))
    have e2 := chg_no (c 2 (by omega))
    have e3 := chg_no (c 3 (by omega))
    have e4 : ch4 C X u D = false := by
      unfold ch4
      rw [e0, e1, e2, c 0 (by omega), c 1 (by omega), c 2 (by omega), c 3 (by omega)]; rfl
    unfold cha
    rw [e4, ch4_no e4, cha_yes h g k (u + 1) (by omega)]; rfl
theorem lb_loop {n s : Nat} {U V : Nat → Int} {x3 : Int32} {kx : Mem → Option (Int32 × Mem)} (hU : ∀ i, i ≤ n → 0 ≤ U i ∧ U i ≤ 20) (hV : ∀ i, i ≤ n → 0 ≤ V i ∧ V i ≤ 20) : ∀ (r i fu : Nat) (m : Mem) (D : Nat → Nat), i + r = 400 → r + 1 < fu → MD m D → JD 1000 (stX U V n) s D → LW 1000 (stX U V n) s i D → PolyR m n (fun i => 2 * U i) (fun i => 2 * V i) →
    ∃ m' D', RM_least_L101 x3 kx fu m 1 = kx m' ∧ MD m' D' ∧ JD 1000 (stX U V n) s D' ∧ (∀ n' c v, v < 400 → Wq (stX U V n) s n' v c → D' v ≤ 1000 * c + n') ∧ Frm [(149, 999999)] [] m m' := by
  intro r
  induction r with
  | zero =>
    intro i fu m D hi hf R J W hP
    obtain ⟨f, rfl⟩ : ∃ f, fu = f + 1 + 1 := ⟨fu - 2, by omega⟩
    have g := W.all (by omega)
    obtain ⟨m1, e1, r1, F1⟩ := lb_row (x3 := x3) (kx := fun m2 y1 => RM_least_L101 x3 kx (f + 1) m2 y1) hU hV 400 0 FU m D false (by omega) (by unfold FU; omega) R J.2.1 hP
    have z := cha_yes J g 400 0 (by omega)
    rw [cha_no _ _ _ z] at r1
    rw [z] at e1
    refine ⟨m1, D, ?_, r1, J, g, F1⟩
    rw [show b2i false = 0 from rfl, show nI 0 = 0 from k0.symm] at e1
    rw [RM_least_L101, if_neg (by decide), e1]
    rw [show b2i (false || false) = 0 from rfl, RM_least_L101, if_pos rfl]
  | succ r ih =>
    intro i fu m D hi hf R J W hP
    obtain ⟨f, rfl⟩ : ∃ f, fu = f + 1 + 1 := ⟨fu - 2, by omega⟩
    obtain ⟨m1, e1, r1, F1⟩ := lb_row (x3 := x3) (kx := fun m2 y1 => RM_least_L101 x3 kx (f + 1) m2 y1) hU hV 400 0 FU m D false (by omega) (by unfold FU; omega) R J.2.1 hP
    have hr : ∀ u d v, u < 400 → d < 4 → nb u d = some v → rla 1000 (stX U V n) 400 0 D v ≤ D u + wt 1000 (stX U V n) u d := fun u d v hu hd hb => rla_v 400 0 D u d v (by omega) (by omega) hd hb
    rw [show b2i false = 0 from rfl, show nI 0 = 0 from k0.symm, Bool.false_or] at e1
    cases z : cha 1000 (stX U V n) 400 0 D with
    | false =>
      rw [z] at e1
      have e := cha_no _ _ _ z
      rw [e] at r1 hr
      refine ⟨m1, D, ?_, r1, J, LW.fix J.1 hr, F1⟩
      rw [RM_least_L101, if_neg (by decide), e1]
      rw [show b2i false = 0 from rfl, RM_least_L101, if_pos rfl]
    | true =>
      rw [z] at e1
      obtain ⟨m2, D', e2, r2, j2, g2, F2⟩ := ih (i + 1) (f + 1) m1 _ (by omega) (by omega) r1 (J.ra 400 0 D (by omega)) (W.step (fun v => rla_le _ _ _ _ _ _) hr) (hP.fr F1 rfl (fun _ => rfl) (fun _ => rfl))
      refine ⟨m2, D', ?_, r2, j2, g2, F1.tr F2⟩
      rw [RM_least_L101, if_neg (by decide), e1]
      exact e2

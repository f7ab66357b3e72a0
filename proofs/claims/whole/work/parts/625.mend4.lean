/-! paces: the reference's reckoning -/
theorem mn_rows {n pl mi : Nat} {d : Int} {D V : Nat → Nat} {x5 : Int32} {kx : Mem → Option (Int32 × Mem)} (W : WfR n D V) (hpl : pl < 4) (hmi : mi < 4) (hne : pl ≠ mi) (hd : R31 d) : ∀ (k j fu : Nat) (m : Mem), j + k = n → k < fu → RwS m 157 158 n D V → (∀ i, i < j → gI m 156 i = nI (gnr D V d pl mi i)) →
    ∃ m', RM_mends_L15 (nI n) (iz d) (nI pl) (nI mi) x5 kx fu m (nI j) = kx m' ∧ (∀ i, i < n → gI m' 156 i = nI (gnr D V d pl mi i)) ∧ Frm [(156, 999999)] [] m m' := by
  have w1 := W.1
  intro k
  induction k with
  | zero =>
    intro j fu m hj hf R hc
    obtain ⟨f, rfl⟩ : ∃ f, fu = f + 1 := ⟨fu - 1, by omega⟩
    refine ⟨m, by rw [RM_mends_L15, if_pos (by rw [n_le (by omega) (by omega)]; omega)], ?_, Frm.rf⟩
    rw [show n = j by omega]
    exact hc
  | succ k ih =>
    intro j fu m hj hf R hc
    obtain ⟨f, rfl⟩ : ∃ f, fu = f + 1 := ⟨fu - 1, by omega⟩
    obtain ⟨r1, r2⟩ := R j (by omega)
    obtain ⟨r4, r5, r6⟩ := W.2 j (by omega)
    have ej : nI j + 1 = nI (j + 1) := by rw [k1, n_add]
    have inn : inb (nI j) 30 := n_in (by omega) (by omega)
    have dp : (iz d ≤ 0) ↔ ¬ 0 < d := by rw [show (0 : Int32) = iz 0 from rfl, iz_le hd ⟨by omega, by omega⟩]; omega
    have v99 : (99 : Int32) - nI (V j) = nI (99 - V j) := by rw [show (99 : Int32) = nI 99 from rfl, n_sub r6]
    have v1 : nI (V j) - 1 = nI (V j - 1) := by rw [k1, n_sub r5]
    have e73 : ∀ x7 s0 : Int32, RM_mends_J73 (RM_mends_L15 (nI n) (iz d) (nI pl) (nI mi) x5 kx f) kx m (nI n) (iz d) (nI pl) (nI mi) x5 (nI j) x7 s0 = RM_mends_L15 (nI n) (iz d) (nI pl) (nI mi) x5 kx f (sI m 156 j (nI (if x7 = 0 then (if s0 = 0 then 0 else 99 - V j) else V j - 1))) (nI (j + 1)) := fun x7 s0 => by
      rw [RM_mends_J73, if_pos inn, if_pos inn, if_pos inn, n_ixn (by omega), r2, v99, v1, letM_p, letM_p, letM_p, ej]
      by_cases y : x7 = 0
      · rw [if_pos y, if_pos y]
        by_cases w : s0 = 0
        · rw [if_pos w, if_pos w]; rfl
        · rw [if_neg w, if_neg w]
      · rw [if_neg y, if_neg y]
    have ne1 : ∀ a, a < 4 → ((nI (D j) = nI a) ↔ D j = a) := fun a ha => n_eq (by omega) (by omega)
    have e65 : ∀ (a c : Nat), a < 4 → c < 4 → RM_mends_J38 (RM_mends_L15 (nI n) (iz d) (nI pl) (nI mi) x5 kx f) kx m (nI n) (iz d) (nI pl) (nI mi) x5 (nI j) (nI (D j)) (nI a) = (let q : Int32 := if D j = a then 1 else 0; RM_mends_J46 (RM_mends_L15 (nI n) (iz d) (nI pl) (nI mi) x5 kx f) kx m (nI n) (iz d) (nI pl) (nI mi) x5 (nI j) q) := fun a c ha hc => by
      rw [RM_mends_J38]
      by_cases y : D j = a
      · rw [if_pos ((ne1 a ha).mpr y), if_pos y]
      · rw [if_neg (fun t => y ((ne1 a ha).mp t)), if_neg y]
    have e46 : ∀ q : Int32, RM_mends_J46 (RM_mends_L15 (nI n) (iz d) (nI pl) (nI mi) x5 kx f) kx m (nI n) (iz d) (nI pl) (nI mi) x5 (nI j) q = RM_mends_L15 (nI n) (iz d) (nI pl) (nI mi) x5 kx f (sI m 156 j (nI (if q = 0 then (if D j = (if 0 < d then mi else pl) then 99 - V j else 0) else V j - 1))) (nI (j + 1)) := fun q => by
      have e : ∀ a, a < 4 → RM_mends_J65 (RM_mends_L15 (nI n) (iz d) (nI pl) (nI mi) x5 kx f) kx m (nI n) (iz d) (nI pl) (nI mi) x5 (nI j) q (nI (D j)) (nI a) = RM_mends_L15 (nI n) (iz d) (nI pl) (nI mi) x5 kx f (sI m 156 j (nI (if q = 0 then (if D j = a then 99 - V j else 0) else V j - 1))) (nI (j + 1)) := fun a ha => by
        rw [RM_mends_J65, e73, e73]
        by_cases y : D j = a
        · rw [if_pos ((ne1 a ha).mpr y), if_neg (show ¬ (1 : Int32) = 0 by decide), if_pos y]
        · rw [if_neg (fun t => y ((ne1 a ha).mp t)), if_pos (show (0 : Int32) = 0 from rfl), if_neg y]
      rw [RM_mends_J46, if_pos inn, n_ixn (by omega), r1]
      by_cases w : 0 < d
      · rw [if_neg (fun t => dp.mp t w), e mi hmi, if_pos w]
      · rw [if_pos (dp.mpr w), e pl hpl, if_neg w]
    have e0 : RM_mends_L15 (nI n) (iz d) (nI pl) (nI mi) x5 kx (f + 1) m (nI j) = RM_mends_L15 (nI n) (iz d) (nI pl) (nI mi) x5 kx f (sI m 156 j (nI (gnr D V d pl mi j))) (nI (j + 1)) := by
      rw [RM_mends_L15, if_neg (by rw [n_le (by omega) (by omega)]; omega), if_pos inn, n_ixn (by omega), r1]
      unfold gnr
      by_cases w : 0 < d
      · rw [if_neg (fun t => dp.mp t w), e65 pl 0 hpl (by omega)]
        simp only [e46, if_pos w]
        by_cases y : D j = pl
        · rw [if_pos y, if_pos y, if_neg (by decide)]
        · rw [if_neg y, if_neg y, if_pos rfl]
      · rw [if_pos (dp.mpr w), e65 mi 0 hmi (by omega)]
        simp only [e46, if_neg w]
        by_cases y : D j = mi
        · have y' : ¬ D j = pl := by omega
          simp [y, hne.symm]
        · rw [if_neg y, if_pos rfl, if_neg y]
    have F1 : Frm [(156, 999999)] [] m (sI m 156 j (nI (gnr D V d pl mi j))) := Frm.sI rfl rfl
    obtain ⟨m', a1, a2, a3⟩ := ih (j + 1) f _ (by omega) (by omega) (fun i hi => by rw [F1.I 157 i rfl, F1.I 158 i rfl]; exact R i hi) (fun i hi => by
      rw [gI_sI]
      by_cases y : i = j
      · rw [if_pos ⟨rfl, y⟩, y]
      · rw [if_neg (fun t => y t.2)]; exact hc i (by omega))
    exact ⟨m', by rw [e0, a1], a2, F1.tr a3⟩
/-- the row of the largest gain -/
theorem mn_max {n : Nat} {m : Mem} {g : Nat → Nat} {x5 x6 : Int32} {kx : Mem → Int32 → Option (Int32 × Mem)} (hn : n ≤ 30) (h : ∀ i, i < n → gI m 156 i = nI (g i) ∧ g i ≤ 98) : ∀ (k j fu y : Nat), j + k = n → k < fu → y < j → (∀ i, i < j → g i ≤ g y) → ∃ y', y' < n ∧ (∀ i, i < n → g i ≤ g y') ∧ RM_mends_L138 (nI n) x5 x6 kx fu m (nI y) (nI j) = kx m (nI y') := by
  intro k
  induction k with
  | zero =>
    intro j fu y hj hf hy hm
    obtain ⟨f, rfl⟩ : ∃ f, fu = f + 1 := ⟨fu - 1, by omega⟩
    exact ⟨y, by omega, fun i hi => hm i (by omega), by rw [RM_mends_L138, if_pos (by rw [n_le (by omega) (by omega)]; omega)]⟩
  | succ k ih =>
    intro j fu y hj hf hy hm
    obtain ⟨f, rfl⟩ : ∃ f, fu = f + 1 := ⟨fu - 1, by omega⟩
    obtain ⟨a1, a2⟩ := h j (by omega)
    obtain ⟨b1, b2⟩ := h y (by omega)
    have ej : nI j + 1 = nI (j + 1) := by rw [k1, n_add]
    have e0 : RM_mends_L138 (nI n) x5 x6 kx (f + 1) m (nI y) (nI j) = if g j ≤ g y then RM_mends_L138 (nI n) x5 x6 kx f m (nI y) (nI (j + 1)) else RM_mends_L138 (nI n) x5 x6 kx f m (nI j) (nI (j + 1)) := by
      rw [RM_mends_L138, if_neg (by rw [n_le (by omega) (by omega)]; omega), if_pos (n_in (by omega) (by omega)), if_pos (n_in (by omega) (by omega)), n_ixn (by omega), n_ixn (by omega), a1, b1, ej]
      by_cases z : g j ≤ g y
      · rw [if_pos z, if_pos (by rw [n_le (by omega) (by omega)]; exact z)]
      · rw [if_neg z, if_neg (by rw [n_le (by omega) (by omega)]; exact z)]
    rw [e0]
    by_cases z : g j ≤ g y
    · rw [if_pos z]
      exact ih (j + 1) f y (by omega) (by omega) (by omega) (fun i hi => by
        by_cases w : i = j
        · rw [w]; exact z
        · exact hm i (by omega))
    · rw [if_neg z]
      exact ih (j + 1) f j (by omega) (by omega) (by omega) (fun i hi => by
        by_cases w : i = j
        · rw [w]; exact Nat.le_refl _
        · have := hm i (by omega); omega)
theorem mn_loop {n : Nat} (hn : n ≤ 30) (hn2 : 2 ≤ n) : ∀ (P fu k : Nat) (e : Int) (g : Nat → Nat) (m : Mem), cpo g n ≤ P → P < fu → (∀ i, i < n → gI m 156 i = nI (g i) ∧ g i ≤ 98) → -98 ≤ e → e ≤ 3000 → ∃ m', RM_mends_L127 (nI n) (fun m3 y2 => some (y2, m3)) fu m (iz e) (nI k) = some (cls (cw g n) e k, m') := by
  intro P
  induction P with
  | zero =>
    intro fu k e g m hP hf h h1 h2
    obtain ⟨f, rfl⟩ : ∃ f, fu = f + 1 := ⟨fu - 1, by omega⟩
    have z0 : (iz e ≤ 0) ↔ e ≤ 0 := by rw [show (0 : Int32) = iz 0 from rfl, iz_le ⟨by omega, by omega⟩ ⟨by omega, by omega⟩]
    by_cases y : e ≤ 0
    · refine ⟨m, ?_⟩
      rw [RM_mends_L127, if_pos (z0.mpr y)]
      unfold cls
      rw [lpm_end y, if_pos y]
    · obtain ⟨y', q1, q2, q3⟩ := mn_max (x5 := iz e) (x6 := nI k) (kx := fun m2 y1 => if inb y1 30 then (if (gI m2 156 (ixn y1)) = 0 then (some ((-1), m2))
        else (letV ((iz e - (gI m2 156 (ixn y1)))) fun v4 =>
        letM (sI m2 156 (ixn y1) 0) fun m5 =>
        RM_mends_L127 (nI n) (fun m3 y2 => some (y2, m3)) f m5 v4 (nI k + 1))) else none) hn h (n - 1) 1 FU 0 (by omega) (by unfold FU; omega) (by omega) (fun i hi => by rw [show i = 0 by omega]; exact Nat.le_refl _)
      have g0 : g y' = 0 := by
        by_cases w : g y' = 0
        · exact w
        · have := cnP_up (P := fun x => decide (0 < x)) (g := g) (i := y') (by decide) n q1
          rw [if_pos (by simp; omega)] at this
          unfold cpo at hP
          omega
      refine ⟨m, ?_⟩
      rw [show nI 0 = 0 from rfl, show nI 1 = 1 from rfl] at q3
      rw [RM_mends_L127, if_neg (fun t => y (z0.mp t)), q3, if_pos (n_in (by omega) (by omega)), n_ixn (by omega), (h y' q1).1, g0, if_pos (show nI 0 = 0 from rfl)]
      unfold cls
      rw [lpm_none 98 (fun w w1 _ => cnP_zero n (fun i hi => by have := q2 i hi; simp; omega)), if_neg y]
  | succ P ih =>
    intro fu k e g m hP hf h h1 h2
    obtain ⟨f, rfl⟩ : ∃ f, fu = f + 1 := ⟨fu - 1, by omega⟩
    have z0 : (iz e ≤ 0) ↔ e ≤ 0 := by rw [show (0 : Int32) = iz 0 from rfl, iz_le ⟨by omega, by omega⟩ ⟨by omega, by omega⟩]
    by_cases y : e ≤ 0
    · refine ⟨m, ?_⟩
      rw [RM_mends_L127, if_pos (z0.mpr y)]
      unfold cls
      rw [lpm_end y, if_pos y]
    · obtain ⟨y', q1, q2, q3⟩ := mn_max (x5 := iz e) (x6 := nI k) (kx := fun m2 y1 => if inb y1 30 then (if (gI m2 156 (ixn y1)) = 0 then (some ((-1), m2))
        else (letV ((iz e - (gI m2 156 (ixn y1)))) fun v4 =>
        letM (sI m2 156 (ixn y1) 0) fun m5 =>
        RM_mends_L127 (nI n) (fun m3 y2 => some (y2, m3)) f m5 v4 (nI k + 1))) else none) hn h (n - 1) 1 FU 0 (by omega) (by unfold FU; omega) (by omega) (fun i hi => by rw [show i = 0 by omega]; exact Nat.le_refl _)
      have e0 : RM_mends_L127 (nI n) (fun m3 y2 => some (y2, m3)) (f + 1) m (iz e) (nI k) = if g y' = 0 then some (-1, m) else RM_mends_L127 (nI n) (fun m3 y2 => some (y2, m3)) f (sI m 156 y' 0) (iz (e - g y')) (nI (k + 1)) := by
        have q3' := q3
        rw [show nI 0 = 0 from rfl, show nI 1 = 1 from rfl] at q3'
        rw [RM_mends_L127, if_neg (fun t => y (z0.mp t)), q3']
        have b := (h y' q1).2
        rw [if_pos (n_in (by omega) (by omega)), n_ixn (by omega), (h y' q1).1, show nI k + 1 = nI (k + 1) by rw [k1, n_add], show iz e - nI (g y') = iz (e - g y') by rw [nI_iz, iz_sub], letV_p, letM_p]
        by_cases w : g y' = 0
        · rw [if_pos w, if_pos (by rw [w]; rfl)]
        · rw [if_neg w, if_neg (by rw [k0, n_eq (by omega) (by omega)]; exact w)]
      by_cases g0 : g y' = 0
      · refine ⟨m, ?_⟩
        rw [e0, if_pos g0]
        unfold cls
        rw [lpm_none 98 (fun w w1 _ => cnP_zero n (fun i hi => by have := q2 i hi; simp; omega)), if_neg y]
      · have b := (h y' q1).2
        have hc : cpo (upD g y' 0) n ≤ P := by
          have := cnP_up (P := fun x => decide (0 < x)) (g := g) (i := y') (by decide) n q1
          rw [if_pos (by simp; omega)] at this
          unfold cpo at hP ⊢
          omega
        obtain ⟨m', e1⟩ := ih f (k + 1) (e - g y') (upD g y' 0) (sI m 156 y' 0) hc (by omega) (fun i hi => by
          unfold upD
          rw [gI_sI]
          by_cases w : i = y'
          · rw [if_pos ⟨rfl, w⟩, if_pos w]; exact ⟨rfl, by omega⟩
          · rw [if_neg (fun t => w t.2), if_neg w]; exact h i hi) (by omega) (by omega)
        refine ⟨m', ?_⟩
        rw [e0, if_neg g0, e1]
        have up := fun w (hw : 1 ≤ w) => cnP_up (P := fun x => decide (x = w)) (g := g) (i := y') (by simp; omega) n q1
        have lt := lpm_take (c := cw g n) (c' := cw (upD g y' 0) n) (e := e) (k := k) (v := g y') (by omega) (by
          have := up (g y') (by omega)
          rw [if_pos (by simp)] at this
          exact this) (fun w w1 w2 => by
          have := up w w2
          rw [if_neg (by simp; omega)] at this
          exact this) (by omega) 98 b (fun w w1 w2 => by
          have z1 : cw g n w = 0 := cnP_zero n (fun i hi => by have := q2 i hi; simp; omega)
          have := up w (by omega)
          rw [if_neg (by simp; omega)] at this
          unfold cw at z1 ⊢
          omega)
        unfold cls
        rw [lt]
/-- the rows that mend one way, the reference -/
theorem mends_eq {m : Mem} {n pl mi : Nat} {d : Int} {D V : Nat → Nat} (W : WfR n D V) (hn2 : 2 ≤ n) (hpl : pl < 4) (hmi : mi < 4) (hne : pl ≠ mi) (hd : -3000 ≤ d ∧ d ≤ 3000) (R : RwS m 157 158 n D V) : ∃ m', RM_mends m (nI n) (iz d) (nI pl) (nI mi) = some (cls (cw (gnr D V d pl mi) n) d.natAbs 0, m') ∧ Frm [(156, 999999)] [] m m' := by
  have w1 := W.1
  have e10 : ∃ m', RM_mends_J10 m (nI n) (iz d) (nI pl) (nI mi) (iz d.natAbs) = some (cls (cw (gnr D V d pl mi) n) d.natAbs 0, m') := by
    obtain ⟨m1, e1, c1, F1⟩ := mn_rows (x5 := iz d.natAbs) (kx := fun m1 => RM_mends_L127 (nI n) (fun m3 y2 => some (y2, m3)) FU m1 (iz d.natAbs) 0) W hpl hmi hne (d := d) ⟨by omega, by omega⟩ n 0 FU m (by omega) (by unfold FU; omega) R (fun i hi => by omega)
    obtain ⟨m2, e2⟩ := mn_loop w1 hn2 30 FU 0 d.natAbs (gnr D V d pl mi) m1 (by have := cnP_le (P := fun x => decide (0 < x)) (g := gnr D V d pl mi) n; unfold cpo; omega) (by unfold FU; omega) (fun i hi => ⟨c1 i hi, gnr_le (W.2 i hi).2⟩) (by omega) (by omega)
    refine ⟨m2, ?_⟩
    rw [show nI 0 = 0 from rfl] at e1 e2
    rw [RM_mends_J10, e1, e2]
  obtain ⟨m2, e2⟩ := e10
  suffices eq : RM_mends m (nI n) (iz d) (nI pl) (nI mi) = some (cls (cw (gnr D V d pl mi) n) d.natAbs 0, m2) from ⟨m2, eq, RM_mends_fr (wL_sub rfl) m _ _ _ _ _ eq⟩
  rw [RM_mends]
  by_cases z : 0 ≤ d
  · rw [if_pos (by rw [show (0 : Int32) = iz 0 from rfl, iz_le ⟨by omega, by omega⟩ ⟨by omega, by omega⟩]; exact z)]
    rw [show (d.natAbs : Int) = d by omega] at e2 ⊢
    exact e2
  · rw [if_neg (by rw [show (0 : Int32) = iz 0 from rfl, iz_le ⟨by omega, by omega⟩ ⟨by omega, by omega⟩]; exact z), iz_neg]
    rw [show (d.natAbs : Int) = -d by omega] at e2 ⊢
    exact e2

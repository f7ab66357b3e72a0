/-! paces: the class's reckoning -/
theorem together_eq {m : Mem} {n q : Nat} {D V : Nat → Nat} (W : WfR n D V) (h31 : gI m 31 1 = nI n) (R : RwS m 33 34 n D V) (hq : q < 4) : PA_together m (nI q) = some (nI (smD D V q n)) := by
  have w1 := W.1
  have lp : ∀ (k j fu : Nat), j + k = n → k < fu → PA_together_L4 m (nI q) (fun y1 => some y1) fu (nI (smD D V q j)) (nI j) = some (nI (smD D V q n)) := by
    intro k
    induction k with
    | zero =>
      intro j fu hj hf
      obtain ⟨f, rfl⟩ : ∃ f, fu = f + 1 := ⟨fu - 1, by omega⟩
      rw [PA_together_L4, h31, if_pos (by rw [n_le (by omega) (by omega)]; omega), show j = n by omega]
    | succ k ih =>
      intro j fu hj hf
      obtain ⟨f, rfl⟩ : ∃ f, fu = f + 1 := ⟨fu - 1, by omega⟩
      obtain ⟨r1, r2⟩ := R j (by omega)
      have r4 := (W.2 j (by omega)).1
      have i1 := ih (j + 1) f (by omega) (by omega)
      rw [PA_together_L4, h31, if_neg (by rw [n_le (by omega) (by omega)]; omega), if_pos (n_in (by omega) (by omega)), n_ixn (by omega), r1, r2, letV_i, show nI j + 1 = nI (j + 1) by rw [k1, n_add]]
      have es : smD D V q (j + 1) = smD D V q j + (if D j = q then V j else 0) := rfl
      by_cases z : D j = q
      · rw [if_pos (by rw [z]), n_add]
        rw [es, if_pos z] at i1
        exact i1
      · rw [if_neg (by rw [n_eq (by omega) (by omega)]; exact z)]
        rw [es, if_neg z] at i1
        exact i1
  rw [PA_together]
  exact lp n 0 FU (by omega) (by unfold FU; omega)
theorem rm_rows {n pl mi : Nat} {d : Int} {D V : Nat → Nat} {kx : Mem → Option (Int32 × Mem)} (W : WfR n D V) (hpl : pl < 4) (hmi : mi < 4) (hne : pl ≠ mi) (hd : R31 d) : ∀ (k j fu : Nat) (m : Mem), j + k = n → k < fu → gI m 31 1 = nI n → RwS m 33 34 n D V → (∀ w, 1 ≤ w → w ≤ 98 → gI m 35 w = nI (cw (gnr D V d pl mi) j w)) →
    ∃ m', PA_rowsToMend_L11 (nI pl) (nI mi) (iz d) kx fu m (nI j) = kx m' ∧ (∀ w, 1 ≤ w → w ≤ 98 → gI m' 35 w = nI (cw (gnr D V d pl mi) n w)) ∧ Frm [(35, 999999)] [] m m' := by
  have w1 := W.1
  intro k
  induction k with
  | zero =>
    intro j fu m hj hf h31 R hc
    obtain ⟨f, rfl⟩ : ∃ f, fu = f + 1 := ⟨fu - 1, by omega⟩
    refine ⟨m, by rw [PA_rowsToMend_L11, h31, if_pos (by rw [n_le (by omega) (by omega)]; omega)], ?_, Frm.rf⟩
    rw [show n = j by omega]
    exact hc
  | succ k ih =>
    intro j fu m hj hf h31 R hc
    obtain ⟨f, rfl⟩ : ∃ f, fu = f + 1 := ⟨fu - 1, by omega⟩
    obtain ⟨r1, r2⟩ := R j (by omega)
    obtain ⟨r4, r5, r6⟩ := W.2 j (by omega)
    have ej : nI j + 1 = nI (j + 1) := by rw [k1, n_add]
    have gl : gnr D V d pl mi j ≤ 98 := gnr_le ⟨r5, r6⟩
    have cs : ∀ w, cw (gnr D V d pl mi) (j + 1) w = cw (gnr D V d pl mi) j w + (if gnr D V d pl mi j = w then 1 else 0) := fun w => by
      show cnP _ _ j + _ = _
      simp
    have inn : inb (nI j) 30 := n_in (by omega) (by omega)
    have dp : (iz d ≤ 0) ↔ ¬ 0 < d := by rw [show (0 : Int32) = iz 0 from rfl, iz_le hd ⟨by omega, by omega⟩]; omega
    -- one row counted
    have cnt : ∀ (x3 : Int32) kk, PA_rowsToMend_J108 (PA_rowsToMend_L11 (nI pl) (nI mi) (iz d) kx f) kk m (nI pl) (nI mi) x3 (nI j) (nI (gnr D V d pl mi j)) = PA_rowsToMend_L11 (nI pl) (nI mi) (iz d) kx f (sI m 35 (gnr D V d pl mi j) (gI m 35 (gnr D V d pl mi j) + 1)) (nI (j + 1)) := fun x3 kk => by
      rw [PA_rowsToMend_J108, if_pos (n_in (by omega) (by omega)), n_ixn (by omega), letM_p, ej]
    have fin : ∃ m', PA_rowsToMend_L11 (nI pl) (nI mi) (iz d) kx f (sI m 35 (gnr D V d pl mi j) (gI m 35 (gnr D V d pl mi j) + 1)) (nI (j + 1)) = kx m' ∧ (∀ w, 1 ≤ w → w ≤ 98 → gI m' 35 w = nI (cw (gnr D V d pl mi) n w)) ∧ Frm [(35, 999999)] [] m m' := by
      have F1 : Frm [(35, 999999)] [] m (sI m 35 (gnr D V d pl mi j) (gI m 35 (gnr D V d pl mi j) + 1)) := Frm.sI rfl rfl
      obtain ⟨m', a1, a2, a3⟩ := ih (j + 1) f _ (by omega) (by omega) (by rw [F1.I 31 1 rfl]; exact h31) (fun i hi => by rw [F1.I 33 i rfl, F1.I 34 i rfl]; exact R i hi) (fun w q1 q2 => by
        rw [cs, gI_sI]
        by_cases y : gnr D V d pl mi j = w
        · rw [if_pos ⟨rfl, y.symm⟩, if_pos y, y, hc w q1 q2, k1, n_add]
        · rw [if_neg (fun t => y t.2.symm), if_neg y, hc w q1 q2, Nat.add_zero])
      exact ⟨m', a1, a2, F1.tr a3⟩
    have e75 : ∀ kk (s0 : Int32), (s0 = 0 → gnr D V d pl mi j = 99 - V j) → (s0 ≠ 0 → gnr D V d pl mi j = V j - 1) → PA_rowsToMend_J75 (PA_rowsToMend_L11 (nI pl) (nI mi) (iz d) kx f) kk m (nI pl) (nI mi) (iz d) (nI j) s0 = PA_rowsToMend_L11 (nI pl) (nI mi) (iz d) kx f (sI m 35 (gnr D V d pl mi j) (gI m 35 (gnr D V d pl mi j) + 1)) (nI (j + 1)) := fun kk s0 c1 c2 => by
      rw [PA_rowsToMend_J75, if_pos inn, if_pos inn, n_ixn (by omega), r2]
      by_cases y : s0 = 0
      · rw [if_pos y, show (99 : Int32) = nI 99 from rfl, n_sub r6, ← c1 y, cnt]
      · rw [if_neg y, show nI (V j) - 1 = nI (V j - 1) by rw [k1, n_sub r5], ← c2 y, cnt]
    have e42 : D j = pl ∨ D j = mi → PA_rowsToMend_J42 (PA_rowsToMend_L11 (nI pl) (nI mi) (iz d) kx f) kx m (nI pl) (nI mi) (iz d) (nI j) = PA_rowsToMend_L11 (nI pl) (nI mi) (iz d) kx f (sI m 35 (gnr D V d pl mi j) (gI m 35 (gnr D V d pl mi j) + 1)) (nI (j + 1)) := fun hD => by
      rw [PA_rowsToMend_J42, if_pos inn, n_ixn (by omega), r1]
      by_cases y : D j = pl
      · rw [if_pos (by rw [y]), PA_rowsToMend_J58]
        by_cases w : 0 < d
        · rw [if_neg (fun t => dp.mp t w), PA_rowsToMend_J67, if_pos rfl]
          exact e75 _ 1 (fun t => absurd t (by decide)) (fun _ => by unfold gnr; rw [if_pos y, if_pos w])
        · rw [if_pos (dp.mpr w), PA_rowsToMend_J67, if_neg (by decide)]
          exact e75 _ 0 (fun _ => by unfold gnr; rw [if_pos y, if_neg w]) (fun t => absurd rfl t)
      · rw [if_neg (by rw [n_eq (by omega) (by omega)]; exact y), PA_rowsToMend_J58]
        have y2 := hD.resolve_left y
        by_cases w : 0 < d
        · rw [if_neg (fun t => dp.mp t w), PA_rowsToMend_J67, if_neg (by decide)]
          exact e75 _ 0 (fun _ => by unfold gnr; rw [if_neg y, if_pos y2, if_pos w]) (fun t => absurd rfl t)
        · rw [if_pos (dp.mpr w), PA_rowsToMend_J67, if_pos rfl]
          exact e75 _ 1 (fun t => absurd t (by decide)) (fun _ => by unfold gnr; rw [if_neg y, if_pos y2, if_neg w])
    have e0 : PA_rowsToMend_L11 (nI pl) (nI mi) (iz d) kx (f + 1) m (nI j) = if D j = pl ∨ D j = mi then PA_rowsToMend_L11 (nI pl) (nI mi) (iz d) kx f (sI m 35 (gnr D V d pl mi j) (gI m 35 (gnr D V d pl mi j) + 1)) (nI (j + 1)) else PA_rowsToMend_L11 (nI pl) (nI mi) (iz d) kx f m (nI (j + 1)) := by
      rw [PA_rowsToMend_L11, h31, if_neg (by rw [n_le (by omega) (by omega)]; omega), if_pos inn, n_ixn (by omega), r1, ej]
      by_cases y : D j = pl
      · rw [if_pos (by rw [y]), e42 (Or.inl y), if_pos (Or.inl y)]
      · rw [if_neg (by rw [n_eq (by omega) (by omega)]; exact y)]
        by_cases y2 : D j = mi
        · rw [if_pos (by rw [y2]), e42 (Or.inr y2), if_pos (Or.inr y2)]
        · rw [if_neg (by rw [n_eq (by omega) (by omega)]; exact y2), if_neg (fun t => t.elim y y2)]
    rw [e0]
    by_cases y : D j = pl ∨ D j = mi
    · rw [if_pos y]; exact fin
    · rw [if_neg y]
      refine ih (j + 1) f m (by omega) (by omega) h31 R (fun w q1 q2 => ?_)
      have g0 : gnr D V d pl mi j = 0 := by unfold gnr; rw [if_neg (fun t => y (Or.inl t)), if_neg (fun t => y (Or.inr t))]
      rw [cs, g0, if_neg (by omega), hc w q1 q2, Nat.add_zero]
/-- the class takes the largest gains first -/
theorem rm_stq {m : Mem} {v c : Nat} {kx : Mem → Int32 → Int32 → Option (Int32 × Mem)} (hv : v ≤ 98) (hc : gI m 35 v = nI c) (hc30 : c ≤ 30) : ∀ (r u fu k : Nat) (e : Int), u + r = c → r < fu → -100000 < e → e < 100000 → PA_rowsToMend_L140 (nI v) kx fu m (iz e) (nI k) (nI u) = kx m (iz (mdS r v e k).1) (nI (mdS r v e k).2)
  | 0, u, fu, k, e, hu, hf, he1, he2 => by
    obtain ⟨f, rfl⟩ : ∃ f, fu = f + 1 := ⟨fu - 1, by omega⟩
    rw [PA_rowsToMend_L140, if_pos (n_in (by omega) (by omega)), n_ixn (by omega), hc, if_pos (by rw [n_le (by omega) (by omega)]; omega)]
    rfl
  | r + 1, u, fu, k, e, hu, hf, he1, he2 => by
    obtain ⟨f, rfl⟩ : ∃ f, fu = f + 1 := ⟨fu - 1, by omega⟩
    have z0 : (iz e ≤ 0) ↔ e ≤ 0 := by rw [show (0 : Int32) = iz 0 from rfl, iz_le ⟨by omega, by omega⟩ ⟨by omega, by omega⟩]
    rw [PA_rowsToMend_L140, if_pos (n_in (by omega) (by omega)), n_ixn (by omega), hc, if_neg (by rw [n_le (by omega) (by omega)]; omega)]
    by_cases y : e ≤ 0
    · rw [if_pos (z0.mpr y), mdS_end y]
    · rw [if_neg (fun t => y (z0.mp t)), nI_iz v, iz_sub, letV_p, k1, n_add, n_add, ← nI_iz v]
      have := rm_stq (kx := kx) hv hc hc30 r (u + 1) f (k + 1) (e - v) (by omega) (by omega) (by omega) (by omega)
      rw [this]
      have es : mdS (r + 1) v e k = mdS r v (e - v) (k + 1) := by
        show (if e ≤ 0 then _ else _) = _
        rw [if_neg y]
      rw [es]

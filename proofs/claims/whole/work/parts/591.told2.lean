/-- what both sides make of the tape as points -/
theorem take_both {m : Mem} (h : Inv m) : (∃ N b, 1 ≤ N ∧ N ≤ 8 ∧ (∀ i, i < 3 * N → okP b i) ∧ (∃ mA, PT_take m = some (1, mA) ∧ gI mA 36 2 = nI N ∧ (∀ i, i < N → gI mA 37 i = nI (b (3 * i)) ∧ gI mA 38 i = nI (b (3 * i + 1)) ∧ gI mA 39 i = nI (b (3 * i + 2))) ∧ Frm [(36, 2), (37, 999999), (38, 999999), (39, 999999)] [] m mA) ∧ ∀ m', gI m' 133 2 = gI m 133 2 → (∀ i, gI m' 134 i = gI m 134 i) → ∃ mB, RM_isTold m' = some (1, mB) ∧ gI mB 133 43 = nI N ∧ (∀ t, t < 3 * N → gI mB 152 t = nI (b t)) ∧ gI mB 133 2 = 0 ∧ Frm W_RM_isTold [] m' mB) ∨ ((∃ mA, PT_take m = some (0, mA) ∧ Frm [(36, 2), (37, 999999), (38, 999999), (39, 999999)] [] m mA) ∧ ∀ m', gI m' 133 2 = gI m 133 2 → (∀ i, gI m' 134 i = gI m 134 i) → ∃ mB, RM_isTold m' = some (0, mB) ∧ gI mB 133 2 = 0 ∧ Frm W_RM_isTold [] m' mB) := by
  obtain ⟨L, hL, b, e1, e2, hb, hb'⟩ := tape_b h
  have F0 : Frm [(36, 2), (37, 999999), (38, 999999), (39, 999999)] [] m (sI m 36 2 0) := Frm.sI rfl rfl
  have g1 : gI (sI m 36 2 0) 1 1 = nI L := by rw [gI_sI, if_neg (by omega), e1]
  have eT : ∀ m', gI m' 133 2 = gI m 133 2 → ∃ m4, RM_taken m' 940 = some m4 ∧ gI m4 133 3 = nI L ∧ gI m4 133 2 = 0 ∧ (∀ c j, c ≠ 133 → gI m4 c j = gI m' c j) := fun m' q => by
    refine ⟨_, rfl, ?_, ?_, fun c j z => ?_⟩
    · rw [gI_sI, if_neg (by omega), gI_sI, if_neg (by omega), gI_sI, if_neg (by omega), gI_sI, if_pos ⟨rfl, rfl⟩, q, e2]
    · rw [gI_sI, if_neg (by omega), gI_sI, if_neg (by omega), gI_sI, if_pos ⟨rfl, rfl⟩]
    · rw [gI_sI, if_neg (fun y => z y.1), gI_sI, if_neg (fun y => z y.1), gI_sI, if_neg (fun y => z y.1), gI_sI, if_neg (fun y => z y.1)]
  have eA : PT_take m = if L < 3 then some (0, sI m 36 2 0) else if 24 < L then some (0, sI m 36 2 0) else if L % 3 = 0 then PT_take_L35 (fun m2 => some (1, m2)) FU (sI m 36 2 0) 0 else some (0, sI m 36 2 0) := by
    rw [PT_take, letM_p, g1, k3]
    by_cases q1 : L < 3
    · rw [if_pos (by rw [n_lt (by omega) (by omega)]; exact q1), if_pos q1]
    · rw [if_neg (by rw [n_lt (by omega) (by omega)]; exact q1), if_neg q1]
      by_cases q2 : 24 < L
      · rw [if_pos (by rw [k24, n_lt (by omega) (by omega)]; exact q2), if_pos q2]
      · rw [if_neg (by rw [k24, n_lt (by omega) (by omega)]; exact q2), if_neg q2, irm_n (by omega) (by omega) (by omega)]
        by_cases q3 : L % 3 = 0
        · rw [if_pos (by rw [q3]; rfl), if_pos q3]
        · rw [if_neg (by rw [k0, n_eq (by omega) (by omega)]; exact q3), if_neg q3]
  have eB : ∀ m', gI m' 133 2 = gI m 133 2 → ∃ m4, gI m4 133 3 = nI L ∧ gI m4 133 2 = 0 ∧ (∀ c j, c ≠ 133 → gI m4 c j = gI m' c j) ∧ RM_isTold m' = if L % 3 = 0 then (if 1 ≤ L / 3 ∧ L / 3 ≤ 8 then RM_isTold_L45 (fun m4 => some (1, m4)) FU (sI m4 133 43 (nI (L / 3))) 0 else some (0, m4)) else some (0, m4) := fun m' q => by
    obtain ⟨m4, t1, t2, t3, t4⟩ := eT m' q
    refine ⟨m4, t2, t3, t4, ?_⟩
    rw [RM_isTold, t1, bM_s, t2, k3, irm_n (by omega) (by omega) (by omega), div_n (by omega) (by omega) (by omega), isIn_eq]
    by_cases q3 : L % 3 = 0
    · rw [if_pos (by rw [q3]; rfl), if_pos q3]
      by_cases q4 : 1 ≤ L / 3 ∧ L / 3 ≤ 8
      · rw [if_pos (show (1 : Int32) ≤ nI (L / 3) ∧ nI (L / 3) ≤ 8 from ⟨by rw [k1, n_le (by omega) (by omega)]; exact q4.1, by rw [show (8 : Int32) = nI 8 from rfl, n_le (by omega) (by omega)]; exact q4.2⟩), if_neg (by decide), letM_p, if_pos q4]
      · rw [if_neg (show ¬ ((1 : Int32) ≤ nI (L / 3) ∧ nI (L / 3) ≤ 8) from fun z => q4 ⟨by have := z.1; rw [k1, n_le (by omega) (by omega)] at this; exact this, by have := z.2; rw [show (8 : Int32) = nI 8 from rfl, n_le (by omega) (by omega)] at this; exact this⟩), if_pos rfl, if_neg q4]
    · rw [if_neg (by rw [k0, n_eq (by omega) (by omega)]; exact q3), if_neg q3]
  have frB : ∀ {m' : Mem} {r : Int32 × Mem}, RM_isTold m' = some r → Frm W_RM_isTold [] m' r.2 := fun e => RM_isTold_fr (wL_sub rfl) _ _ e
  by_cases hc : 3 ≤ L ∧ L ≤ 24 ∧ L % 3 = 0
  · obtain ⟨c1, c2, c3⟩ := hc
    have hN : L = 3 * (L / 3) := by omega
    rw [if_neg (by omega), if_neg (by omega), if_pos c3] at eA
    have pt := pt_loop (b := b) (kx := fun m2 => some (1, m2)) hN (by omega) (L / 3) 0 FU (sI m 36 2 0) (by omega) (by unfold FU; omega) g1 (fun i hi => by rw [gI_sI, if_neg (by omega)]; exact hb i hi) (by rw [gI_sI, if_pos ⟨rfl, rfl⟩]; rfl) (fun i hi => absurd hi (Nat.not_lt_zero _))
    have itl : ∀ m', gI m' 133 2 = gI m 133 2 → (∀ i, gI m' 134 i = gI m 134 i) → ∃ m4, gI m4 133 43 = nI (L / 3) ∧ gI m4 133 2 = 0 ∧ RM_isTold m' = RM_isTold_L45 (fun m4 => some (1, m4)) FU m4 0 ∧ gI m4 133 3 = nI L ∧ (∀ i, i < L → b i < 256 ∧ gI m4 134 i &&& 255 = nI (b i)) := fun m' q1 q2 => by
      obtain ⟨m4, t2, t3, t4, e⟩ := eB m' q1
      rw [if_pos c3, if_pos (by omega)] at e
      exact ⟨_, by rw [gI_sI, if_pos ⟨rfl, rfl⟩], by rw [gI_sI, if_neg (by omega)]; exact t3, e, by rw [gI_sI, if_neg (by omega)]; exact t2, fun i hi => ⟨(hb i hi).1, by rw [gI_sI, if_neg (by omega), t4 _ _ (by omega), q2]; exact hb' i hi⟩⟩
    rcases pt with ⟨p1, mA, p2, p3, p4, p5⟩ | ⟨p1, mA, p2, p5⟩
    · left
      refine ⟨L / 3, b, by omega, by omega, fun i hi => p1 i (by omega) (by omega), ⟨mA, by rw [eA]; exact p2, p3, p4, F0.tr p5⟩, fun m' q1 q2 => ?_⟩
      obtain ⟨m4, t1, t2, t3, t4, t5⟩ := itl m' q1 q2
      rcases it_loop (b := b) (kx := fun m4 => some (1, m4)) c2 L 0 FU m4 (by omega) (by unfold FU; omega) t4 t5 (fun t ht => absurd ht (Nat.not_lt_zero _)) with ⟨-, mB, u2, u3, u4⟩ | ⟨u1, -⟩
      · rw [show nI 0 = 0 from k0.symm] at u2
        have eR : RM_isTold m' = some (1, mB) := by rw [t3, u2]
        exact ⟨mB, eR, by rw [u4.I 133 43 rfl, t1], fun t ht => u3 t (by omega), by rw [u4.I 133 2 rfl, t2], frB eR⟩
      · exact absurd (fun t x y => p1 t (by omega) y) u1
    · right
      refine ⟨⟨mA, by rw [eA]; exact p2, F0.tr p5⟩, fun m' q1 q2 => ?_⟩
      obtain ⟨m4, t1, t2, t3, t4, t5⟩ := itl m' q1 q2
      rcases it_loop (b := b) (kx := fun m4 => some (1, m4)) c2 L 0 FU m4 (by omega) (by unfold FU; omega) t4 t5 (fun t ht => absurd ht (Nat.not_lt_zero _)) with ⟨u1, -⟩ | ⟨-, mB, u2, u4⟩
      · exact absurd (fun t x y => u1 t (by omega) y) p1
      · rw [show nI 0 = 0 from k0.symm] at u2
        have eR : RM_isTold m' = some (0, mB) := by rw [t3, u2]
        exact ⟨mB, eR, by rw [u4.I 133 2 rfl, t2], frB eR⟩
  · right
    refine ⟨⟨sI m 36 2 0, ?_, F0⟩, fun m' q1 q2 => ?_⟩
    · rw [eA]
      split
      · rfl
      · split
        · rfl
        · rw [if_neg (by omega)]
    · obtain ⟨m4, t2, t3, t4, e⟩ := eB m' q1
      have eR : RM_isTold m' = some (0, m4) := by
        rw [e]
        by_cases q3 : L % 3 = 0
        · rw [if_pos q3, if_neg (by omega)]
        · rw [if_neg q3]
      exact ⟨m4, eR, t3, frB eR⟩
/-- all points are as told -/
def soB (b : Nat → Nat) (f : Nat → Nat → Bool) : Nat → Nat → Bool
  | 0, _ => true
  | n + 1, j => (f (b (3 * j)) (b (3 * j + 1)) == decide (b (3 * j + 2) = 1)) && soB b f n (j + 1)
theorem soB_cong {b : Nat → Nat} {f g : Nat → Nat → Bool} : ∀ n j, (∀ i, j ≤ i → i < j + n → f (b (3 * i)) (b (3 * i + 1)) = g (b (3 * i)) (b (3 * i + 1))) → soB b f n j = soB b g n j
  | 0, _, _ => rfl
  | n + 1, j, h => by
    simp only [soB]
    rw [h j (by omega) (by omega), soB_cong n (j + 1) (fun i a c => h i (by omega) (by omega))]
theorem okP3 {b : Nat → Nat} {N : Nat} (h : ∀ i, i < 3 * N → okP b i) {j : Nat} (hj : j < N) : b (3 * j) ≤ 20 ∧ b (3 * j + 1) ≤ 20 ∧ b (3 * j + 2) ≤ 1 := by
  have a := h (3 * j) (by omega)
  have c := h (3 * j + 1) (by omega)
  have d := h (3 * j + 2) (by omega)
  unfold okP at a c d
  rw [if_neg (by omega)] at a c
  rw [if_pos (by omega)] at d
  exact ⟨a, c, d⟩
theorem as_loop {n N : Nat} {b : Nat → Nat} {U V : Nat → Int} {lw ed : Int32} (hb : ∀ i, i < 3 * N → okP b i) (hN : N ≤ 8) : ∀ (d j fu : Nat) (m : Mem), j + d = N → d < fu → PolyR m n U V → gI m 133 43 = nI N → gI m 135 4 = lw → gI m 135 5 = ed → (∀ t, t < 3 * N → gI m 152 t = nI (b t)) →
    ∃ m', RM_areSo_L2 (fun m1 => some (1, m1)) fu m (nI j) = some (b2i (soB b (fun x y => hisP lw ed U V (2 * (x : Int)) (2 * (y : Int)) n) d j), m') ∧ Frm Lrd [] m m'
  | 0, j, fu, m, hd, hf, hP, h43, hlw, hed, h152 => by
    obtain ⟨f, rfl⟩ : ∃ f, fu = f + 1 := ⟨fu - 1, by omega⟩
    exact ⟨m, by rw [RM_areSo_L2, h43, if_pos (by rw [n_le (by omega) (by omega)]; omega)]; rfl, Frm.rf⟩
  | d + 1, j, fu, m, hd, hf, hP, h43, hlw, hed, h152 => by
    obtain ⟨f, rfl⟩ : ∃ f, fu = f + 1 := ⟨fu - 1, by omega⟩
    obtain ⟨o1, o2, o3⟩ := okP3 hb (show j < N by omega)
    obtain ⟨m1, s1, F1⟩ := isHis_eq (x := 2 * (b (3 * j) : Int)) (y := 2 * (b (3 * j + 1) : Int)) hP (by omega) (by omega)
    rw [hlw, hed] at s1
    obtain ⟨m2, e2, F2⟩ := as_loop (U := U) (V := V) (n := n) (lw := lw) (ed := ed) hb hN d (j + 1) f m1 (by omega) (by omega) (hP.fr F1 rfl (fun _ => rfl) (fun _ => rfl)) (by rw [F1.I 133 43 rfl]; exact h43) (by rw [F1.I 135 4 rfl]; exact hlw) (by rw [F1.I 135 5 rfl]; exact hed) (fun t ht => by rw [F1.I 152 t rfl]; exact h152 t ht)
    have e0 : RM_areSo_L2 (fun m1 => some (1, m1)) (f + 1) m (nI j) = if b2i (hisP lw ed U V (2 * (b (3 * j) : Int)) (2 * (b (3 * j + 1) : Int)) n) = nI (b (3 * j + 2)) then RM_areSo_L2 (fun m1 => some (1, m1)) f m1 (nI (j + 1)) else some (0, m1) := by
      have g : gI m1 152 (3 * j + 2) = nI (b (3 * j + 2)) := by rw [F1.I 152 _ rfl]; exact h152 _ (by omega)
      rw [RM_areSo_L2, h43, if_neg (by rw [n_le (by omega) (by omega)]; omega), k3, n_mul, if_pos (n_in (by omega) (by omega)), show nI (3 * j) + 1 = nI (3 * j + 1) by rw [k1, n_add], show nI (3 * j) + 2 = nI (3 * j + 2) by rw [k2, n_add], if_pos (n_in (by omega) (by omega)), n_ixn (by omega), n_ixn (by omega), h152 _ (by omega), h152 _ (by omega), two_n, two_n, s1, bV_s, if_pos (n_in (by omega) (by omega)), n_ixn (by omega), g, RM_areSo_J55, RM_areSo_J55, show nI j + 1 = nI (j + 1) by rw [k1, n_add]]
      rcases (show b (3 * j + 2) = 0 ∨ b (3 * j + 2) = 1 by omega) with z | z
      · rw [z, if_neg (by decide)]; rfl
      · rw [z, if_pos (by decide)]; rfl
    rcases (show b (3 * j + 2) = 0 ∨ b (3 * j + 2) = 1 by omega) with z | z
    · rw [e0, z]
      simp only [soB, z]
      cases hisP lw ed U V (2 * (b (3 * j) : Int)) (2 * (b (3 * j + 1) : Int)) n with
      | true => exact ⟨m1, by rw [if_neg (by decide)]; rfl, F1⟩
      | false => exact ⟨m2, by rw [if_pos (by decide), e2]; rfl, F1.tr F2⟩
    · rw [e0, z]
      simp only [soB, z]
      cases hisP lw ed U V (2 * (b (3 * j) : Int)) (2 * (b (3 * j + 1) : Int)) n with
      | true => exact ⟨m2, by rw [if_pos (by decide), e2]; rfl, F1.tr F2⟩
      | false => exact ⟨m1, by rw [if_neg (by decide)]; rfl, F1⟩
theorem areSo_eq {m : Mem} {n N : Nat} {b : Nat → Nat} {U V : Nat → Int} (hb : ∀ i, i < 3 * N → okP b i) (hN : N ≤ 8) (hP : PolyR m n U V) (h43 : gI m 133 43 = nI N) (h152 : ∀ t, t < 3 * N → gI m 152 t = nI (b t)) : ∃ m', RM_areSo m = some (b2i (soB b (fun x y => hisP (gI m 135 4) (gI m 135 5) U V (2 * (x : Int)) (2 * (y : Int)) n) N 0), m') ∧ Frm Lrd [] m m' :=
  as_loop hb hN N 0 FU m (by omega) (by unfold FU; omega) hP h43 rfl rfl h152

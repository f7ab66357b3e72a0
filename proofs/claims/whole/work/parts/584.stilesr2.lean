/-! the reference spreads a row -/
def rsx (lab : Nat → Nat) (sq d : Nat) (R : Nat → Nat) : Nat → Nat := match nb sq d with
  | none => R
  | some w => if lab w ≠ lab sq ∧ R (lab sq) + 1 < R (lab w) then upn R (lab w) (R (lab sq) + 1) else R
def csx (lab : Nat → Nat) (sq d : Nat) (R : Nat → Nat) : Bool := match nb sq d with
  | none => false
  | some w => decide (lab w ≠ lab sq ∧ R (lab sq) + 1 < R (lab w))
theorem rsx_def (lab : Nat → Nat) (sq d : Nat) (R : Nat → Nat) : rsx lab sq d R = match nb sq d with
  | none => R
  | some w => if lab w ≠ lab sq ∧ R (lab sq) + 1 < R (lab w) then upn R (lab w) (R (lab sq) + 1) else R := rfl
theorem csx_no {lab : Nat → Nat} {sq d : Nat} {R : Nat → Nat} (h : csx lab sq d R = false) : rsx lab sq d R = R := by
  unfold csx at h
  rw [rsx_def]
  cases hb : nb sq d with
  | none => rfl
  | some w =>
    rw [hb] at h
    simp only [decide_eq_false_iff_not] at h
    simp only [if_neg h]
theorem rsx_le (lab : Nat → Nat) (sq d : Nat) (R : Nat → Nat) (v : Nat) : rsx lab sq d R v ≤ R v := by
  rw [rsx_def]
  cases nb sq d with
  | none => exact Nat.le_refl _
  | some w =>
    simp only
    split
    · by_cases q : v = lab w
      · rw [q, upn_eq]; omega
      · rw [upn_ne q]; exact Nat.le_refl _
    · exact Nat.le_refl _
theorem rsx_v {lab : Nat → Nat} {sq d w : Nat} {R : Nat → Nat} (h : nb sq d = some w) (hl : lab w ≠ lab sq) : rsx lab sq d R (lab w) ≤ R (lab sq) + 1 := by
  rw [rsx_def, h]
  simp only
  split
  · rw [upn_eq]; exact Nat.le_refl _
  · rename_i z
    by_cases q : R (lab sq) + 1 < R (lab w)
    · exact absurd ⟨hl, q⟩ z
    · omega
def rs4 (lab : Nat → Nat) (sq : Nat) (R : Nat → Nat) : Nat → Nat := rsx lab sq 3 (rsx lab sq 2 (rsx lab sq 1 (rsx lab sq 0 R)))
def cs4 (lab : Nat → Nat) (sq : Nat) (R : Nat → Nat) : Bool := csx lab sq 0 R || (csx lab sq 1 (rsx lab sq 0 R) || (csx lab sq 2 (rsx lab sq 1 (rsx lab sq 0 R)) || csx lab sq 3 (rsx lab sq 2 (rsx lab sq 1 (rsx lab sq 0 R)))))
theorem cs4_no {lab : Nat → Nat} {sq : Nat} {R : Nat → Nat} (h : cs4 lab sq R = false) : rs4 lab sq R = R := by
  unfold cs4 at h
  rw [Bool.or_eq_false_iff, Bool.or_eq_false_iff, Bool.or_eq_false_iff] at h
  obtain ⟨h0, h1, h2, h3⟩ := h
  have e0 := csx_no h0
  rw [e0] at h1 h2 h3
  have e1 := csx_no h1
  rw [e1] at h2 h3
  have e2 := csx_no h2
  rw [e2] at h3
  unfold rs4
  rw [e0, e1, e2, csx_no h3]
theorem rs4_le (lab : Nat → Nat) (sq : Nat) (R : Nat → Nat) (v : Nat) : rs4 lab sq R v ≤ R v :=
  Nat.le_trans (rsx_le _ _ _ _ _) (Nat.le_trans (rsx_le _ _ _ _ _) (Nat.le_trans (rsx_le _ _ _ _ _) (rsx_le _ _ _ _ _)))
theorem rs4_v {lab : Nat → Nat} {sq d w : Nat} {R : Nat → Nat} (hd : d < 4) (h : nb sq d = some w) (hl : lab w ≠ lab sq) : rs4 lab sq R (lab w) ≤ R (lab sq) + 1 := by
  have l : ∀ d' (D : Nat → Nat) v, rsx lab sq d' D v ≤ D v := fun d' D v => rsx_le _ _ _ _ _
  unfold rs4
  rcases (show d = 0 ∨ d = 1 ∨ d = 2 ∨ d = 3 by omega) with rfl | rfl | rfl | rfl
  · exact Nat.le_trans (l 3 _ _) (Nat.le_trans (l 2 _ _) (Nat.le_trans (l 1 _ _) (rsx_v h hl)))
  · refine Nat.le_trans (l 3 _ _) (Nat.le_trans (l 2 _ _) (Nat.le_trans (rsx_v h hl) ?_))
    have := l 0 R (lab sq)
    omega
  · refine Nat.le_trans (l 3 _ _) (Nat.le_trans (rsx_v h hl) ?_)
    have a := l 0 R (lab sq)
    have b := l 1 (rsx lab sq 0 R) (lab sq)
    omega
  · refine Nat.le_trans (rsx_v h hl) ?_
    have a := l 0 R (lab sq)
    have b := l 1 (rsx lab sq 0 R) (lab sq)
    have c := l 2 (rsx lab sq 1 (rsx lab sq 0 R)) (lab sq)
    omega
def rsa (lab : Nat → Nat) : Nat → Nat → (Nat → Nat) → (Nat → Nat)
  | 0, _, R => R
  | n + 1, s, R => rsa lab n (s + 1) (rs4 lab s R)
def csa (lab : Nat → Nat) : Nat → Nat → (Nat → Nat) → Bool
  | 0, _, _ => false
  | n + 1, s, R => cs4 lab s R || csa lab n (s + 1) (rs4 lab s R)
theorem rsa_le (lab : Nat → Nat) : ∀ (n s : Nat) (R : Nat → Nat) (v : Nat), rsa lab n s R v ≤ R v
  | 0, _, _, _ => Nat.le_refl _
  | n + 1, s, R, v => Nat.le_trans (rsa_le lab n (s + 1) _ v) (rs4_le _ _ _ _)
theorem rsa_v {lab : Nat → Nat} : ∀ (n s : Nat) (R : Nat → Nat) (sq d w : Nat), s ≤ sq → sq < s + n → d < 4 → nb sq d = some w → lab w ≠ lab sq → rsa lab n s R (lab w) ≤ R (lab sq) + 1
  | 0, s, R, sq, d, w, h1, h2, _, _, _ => by omega
  | n + 1, s, R, sq, d, w, h1, h2, hd, hb, hl => by
    unfold rsa
    by_cases q : sq = s
    · subst q
      exact Nat.le_trans (rsa_le _ _ _ _ _) (rs4_v hd hb hl)
    · have := rsa_v n (s + 1) (rs4 lab s R) sq d w (by omega) (by omega) hd hb hl
      have l := rs4_le lab s R (lab sq)
      omega
theorem csa_no {lab : Nat → Nat} : ∀ (n s : Nat) (R : Nat → Nat), csa lab n s R = false → rsa lab n s R = R
  | 0, _, _, _ => rfl
  | n + 1, s, R, h => by
    unfold csa at h
    rw [Bool.or_eq_false_iff] at h
    have e := cs4_no h.1
    rw [e] at h
    unfold rsa
    rw [e]
    exact csa_no n (s + 1) R h.2
/-- nothing is less any more: no change -/
theorem csa_yes {lab : Nat → Nat} {R : Nat → Nat} (g : ∀ sq d w, sq < 400 → d < 4 → nb sq d = some w → lab w ≠ lab sq → R (lab w) ≤ R (lab sq) + 1) : ∀ (k s : Nat), s + k ≤ 400 → csa lab k s R = false
  | 0, _, _ => rfl
  | k + 1, s, hk => by
    have c : ∀ d, d < 4 → csx lab s d R = false := fun d hd => by
      unfold csx
      cases hb : nb s d with
      | none => rfl
      | some w => exact decide_eq_false (fun z => by have := g s d w (by omega) hd hb z.1; omega)
    have e0 := csx_no (c 0 (by omega))
    have e1 := csx_no (c 1 (by omega))
    have e2 := csx_no (c 2 (by omega))
    have e4 : cs4 lab s R = false := by
      unfold cs4
      rw [e0, e1, e2, c 0 (by omega), c 1 (by omega), c 2 (by omega), c 3 (by omega)]; rfl
    unfold csa
    rw [e4, cs4_no e4, csa_yes g k (s + 1) (by omega)]; rfl
/-- what holds of each and along each step holds -/
theorem rsa_ach {lab : Nat → Nat} {J : Nat → Nat → Prop} (hJ : ∀ sq d w c, sq < 400 → d < 4 → nb sq d = some w → lab w ≠ lab sq → J (lab sq) c → J (lab w) (c + 1)) : ∀ (n s : Nat) (R : Nat → Nat), s + n ≤ 400 → (∀ v, R v ≤ INF) → (∀ sq, sq < 400 → R (lab sq) = INF ∨ J (lab sq) (R (lab sq))) → ∀ sq, sq < 400 → rsa lab n s R (lab sq) = INF ∨ J (lab sq) (rsa lab n s R (lab sq)) := by
  have one : ∀ s d (R : Nat → Nat), s < 400 → d < 4 → (∀ v, R v ≤ INF) → (∀ sq, sq < 400 → R (lab sq) = INF ∨ J (lab sq) (R (lab sq))) → ∀ sq, sq < 400 → rsx lab s d R (lab sq) = INF ∨ J (lab sq) (rsx lab s d R (lab sq)) := by
    intro s d R hs hd hI h sq hsq
    rw [rsx_def]
    cases hb : nb s d with
    | none => exact h sq hsq
    | some w =>
      simp only
      split
      · rename_i z
        by_cases q : lab sq = lab w
        · rw [q, upn_eq]
          right
          rcases h s hs with y | y
          · have := hI (lab w); omega
          · exact hJ s d w _ hs hd hb z.1 y
        · rw [upn_ne q]; exact h sq hsq
      · exact h sq hsq
  have le : ∀ s d (R : Nat → Nat), (∀ v, R v ≤ INF) → ∀ v, rsx lab s d R v ≤ INF := fun s d R h v => Nat.le_trans (rsx_le _ _ _ _ _) (h v)
  intro n
  induction n with
  | zero => intro s R _ _ h; exact h
  | succ n ih =>
    intro s R hn hI h
    have h0 := one s 0 R (by omega) (by omega) hI h
    have i0 := le s 0 R hI
    have h1 := one s 1 _ (by omega) (by omega) i0 h0
    have i1 := le s 1 _ i0
    have h2 := one s 2 _ (by omega) (by omega) i1 h1
    have i2 := le s 2 _ i1
    have h3 := one s 3 _ (by omega) (by omega) i2 h2
    have i3 := le s 3 _ i2
    exact ih (s + 1) (rs4 lab s R) (by omega) i3 h3
theorem rs_step {m : Mem} {C : ScF} {H k sq d f : Nat} {hx hy R : Nat → Nat} {b : Bool} {x2 x3 : Int32} {kx : Mem → Int32 → Option (Int32 × Mem)} (S : SR m C H hx hy) (RR : RowM m k C.P R) (hk : k < 64) (hP : C.P ≤ 400) (hl : ∀ v, v < 400 → labN C v < C.P) (hI : ∀ v, R v ≤ INF) (hs : sq < 400) (hd : d < 4) :
    ∃ m', RM_stiles_L258 x2 x3 (nI k) (nI sq) kx (f + 1) m (b2i b) (nI d) = RM_stiles_L258 x2 x3 (nI k) (nI sq) kx f m' (b2i (b || csx (labN C) sq d R)) (nI (d + 1)) ∧ RowM m' k C.P (rsx (labN C) sq d R) ∧ (∀ j, j < 400 * k → gI m' 150 j = gI m 150 j) ∧ F150 m m' := by
  have ed : nI d + 1 = nI (d + 1) := by rw [k1, n_add]
  have iI : INF = 100000000 := rfl
  rw [rsx_def]
  unfold csx
  cases hb : nb sq d with
  | none =>
    refine ⟨m, ?_, RR, fun _ _ => rfl, Frm.rf⟩
    rw [RM_stiles_L258, if_neg (by rw [k4, n_le (by omega) (by omega)]; omega), beside_nb hs hd, hb, letV_p, if_pos (by decide), ed]
    simp
  | some w =>
    have hw := nb_lt hs hb
    have e1 : enc (some w) = nI w := rfl
    have l1 := hl w hw
    have l2 := hl sq hs
    have i1 := hI (labN C w)
    have i2 := hI (labN C sq)
    have e0 : RM_stiles_L258 x2 x3 (nI k) (nI sq) kx (f + 1) m (b2i b) (nI d) = if nI (labN C w) = nI (labN C sq) then (RM_stiles_L258 x2 x3 (nI k) (nI sq) kx f m (b2i b) (nI (d + 1)))
        else (if nI (R (labN C sq) + 1) < nI (R (labN C w)) then (RM_stiles_L258 x2 x3 (nI k) (nI sq) kx f (sI m 150 (400 * k + labN C w) (nI (R (labN C sq) + 1))) 1 (nI (d + 1)))
        else (RM_stiles_L258 x2 x3 (nI k) (nI sq) kx f m (b2i b) (nI (d + 1)))) := by
      rw [RM_stiles_L258, if_neg (by rw [k4, n_le (by omega) (by omega)]; omega), beside_nb hs hd, hb, letV_p, e1, if_neg (by rw [k0, n_lt (by omega) (by omega)]; omega), if_pos (n_in hw (by omega)), if_pos (n_in hs (by omega)), n_ixn (show w < 2147483648 by omega), n_ixn (show sq < 2147483648 by omega), S.1 w hw, S.1 sq hs, show (400 : Int32) = nI 400 from rfl, n_mul, n_add, n_add, if_pos (n_in (by omega) (by omega)), if_pos (n_in (by omega) (by omega)), n_ixn (show 400 * k + labN C w < 2147483648 by omega), n_ixn (show 400 * k + labN C sq < 2147483648 by omega), RR _ l1, RR _ l2, ed, show nI (R (labN C sq)) + 1 = nI (R (labN C sq) + 1) by rw [k1, n_add], letM_p]
    have c1 : (nI (labN C w) = nI (labN C sq)) ↔ labN C w = labN C sq := n_eq (by omega) (by omega)
    have c2 : (nI (R (labN C sq) + 1) < nI (R (labN C w))) ↔ R (labN C sq) + 1 < R (labN C w) := n_lt (by omega) (by omega)
    by_cases q : labN C w ≠ labN C sq ∧ R (labN C sq) + 1 < R (labN C w)
    · refine ⟨sI m 150 (400 * k + labN C w) (nI (R (labN C sq) + 1)), ?_, ?_, fun j hj => by rw [gI_sI, if_neg (by omega)], Frm.sI rfl rfl⟩
      · rw [e0, if_neg (fun z => q.1 (c1.mp z)), if_pos (c2.mpr q.2)]
        simp only [decide_eq_true q, Bool.or_true]
        rfl
      · simp only [if_pos q]
        intro t ht
        rw [gI_sI]
        by_cases z : t = labN C w
        · rw [if_pos ⟨rfl, by rw [z]⟩, z, upn_eq]
        · rw [if_neg (by omega), upn_ne z]; exact RR t ht
    · refine ⟨m, ?_, by simp only [if_neg q]; exact RR, fun _ _ => rfl, Frm.rf⟩
      have : RM_stiles_L258 x2 x3 (nI k) (nI sq) kx (f + 1) m (b2i b) (nI d) = RM_stiles_L258 x2 x3 (nI k) (nI sq) kx f m (b2i b) (nI (d + 1)) := by
        rw [e0]
        by_cases z : labN C w = labN C sq
        · rw [if_pos (c1.mpr z)]
        · rw [if_neg (fun y => z (c1.mp y)), if_neg (fun y => q ⟨z, c2.mp y⟩)]
      rw [this]
      simp only [decide_eq_false q, Bool.or_false]
theorem rs_four {m : Mem} {C : ScF} {H k sq : Nat} {hx hy R : Nat → Nat} {b : Bool} {x2 x3 : Int32} {kx : Mem → Int32 → Option (Int32 × Mem)} (S : SR m C H hx hy) (RR : RowM m k C.P R) (hk : k < 64) (hP : C.P ≤ 400) (hl : ∀ v, v < 400 → labN C v < C.P) (hI : ∀ v, R v ≤ INF) (hs : sq < 400) :
    ∃ m', RM_stiles_L258 x2 x3 (nI k) (nI sq) kx FU m (b2i b) 0 = kx m' (b2i (b || cs4 (labN C) sq R)) ∧ RowM m' k C.P (rs4 (labN C) sq R) ∧ (∀ j, j < 400 * k → gI m' 150 j = gI m 150 j) ∧ F150 m m' := by
  obtain ⟨f, hf⟩ : ∃ f, FU = f + 1 + 1 + 1 + 1 + 1 := ⟨FU - 5, by unfold FU; omega⟩
  have le : ∀ d (R : Nat → Nat), (∀ v, R v ≤ INF) → ∀ v, rsx (labN C) sq d R v ≤ INF := fun d R h v => Nat.le_trans (rsx_le _ _ _ _ _) (h v)
  have h1 := le 0 R hI
  have h2 := le 1 _ h1
  have h3 := le 2 _ h2
  obtain ⟨m1, e1, r1, k1', F1⟩ := rs_step (f := f + 1 + 1 + 1 + 1) (b := b) (x2 := x2) (x3 := x3) (kx := kx) (d := 0) S RR hk hP hl hI hs (by omega)
  obtain ⟨m2, e2, r2, k2', F2⟩ := rs_step (f := f + 1 + 1 + 1) (b := b || csx (labN C) sq 0 R) (x2 := x2) (x3 := x3) (kx := kx) (d := 1) (S.fr F1) r1 hk hP hl h1 hs (by omega)
  have F12 := F1.tr F2
  obtain ⟨m3, e3, r3, k3', F3⟩ := rs_step (f := f + 1 + 1) (b := b || csx (labN C) sq 0 R || csx (labN C) sq 1 (rsx (labN C) sq 0 R)) (x2 := x2) (x3 := x3) (kx := kx) (d := 2) (S.fr F12) r2 hk hP hl h2 hs (by omega)
  have F13 := F12.tr F3
  obtain ⟨m4, e4, r4, k4', F4⟩ := rs_step (f := f + 1) (b := b || csx (labN C) sq 0 R || csx (labN C) sq 1 (rsx (labN C) sq 0 R) || csx (labN C) sq 2 (rsx (labN C) sq 1 (rsx (labN C) sq 0 R))) (x2 := x2) (x3 := x3) (kx := kx) (d := 3) (S.fr F13) r3 hk hP hl h3 hs (by omega)
  refine ⟨m4, ?_, r4, fun j hj => by rw [k4' j hj, k3' j hj, k2' j hj, k1' j hj], F13.tr F4⟩
  rw [hf, show (0 : Int32) = nI 0 from k0, e1, e2, e3, e4, RM_stiles_L258, if_pos (by decide)]
  unfold cs4
  simp only [Bool.or_assoc]
theorem rs_round {C : ScF} {H k : Nat} {hx hy : Nat → Nat} {x2 x3 : Int32} {kx : Mem → Int32 → Option (Int32 × Mem)} (hk : k < 64) (hP : C.P ≤ 400) (hl : ∀ v, v < 400 → labN C v < C.P) : ∀ (n s fu : Nat) (m : Mem) (R : Nat → Nat) (b : Bool), s + n = 400 → n < fu → SR m C H hx hy → RowM m k C.P R → (∀ v, R v ≤ INF) →
    ∃ m', RM_stiles_L247 x2 x3 (nI k) kx fu m (b2i b) (nI s) = kx m' (b2i (b || csa (labN C) n s R)) ∧ RowM m' k C.P (rsa (labN C) n s R) ∧ (∀ j, j < 400 * k → gI m' 150 j = gI m 150 j) ∧ F150 m m'
  | 0, s, fu, m, R, b, hn, hf, S, RR, hI => by
    obtain ⟨f, rfl⟩ : ∃ f, fu = f + 1 := ⟨fu - 1, by omega⟩
    obtain rfl : s = 400 := by omega
    exact ⟨m, by rw [RM_stiles_L247, if_pos (by decide), show csa (labN C) 0 400 R = false from rfl, Bool.or_false], RR, fun _ _ => rfl, Frm.rf⟩
  | n + 1, s, fu, m, R, b, hn, hf, S, RR, hI => by
    obtain ⟨f, rfl⟩ : ∃ f, fu = f + 1 := ⟨fu - 1, by omega⟩
    obtain ⟨m1, e1, r1, k1', F1⟩ := rs_four (b := b) (x2 := x2) (x3 := x3) (kx := fun m2 y1 => RM_stiles_L247 x2 x3 (nI k) kx f m2 y1 (nI s + 1)) S RR hk hP hl hI (show s < 400 by omega)
    obtain ⟨m2, e2, r2, k2', F2⟩ := rs_round (x2 := x2) (x3 := x3) (kx := kx) hk hP hl n (s + 1) f m1 _ (b || cs4 (labN C) s R) (by omega) (by omega) (S.fr F1) r1 (fun v => Nat.le_trans (rs4_le _ _ _ _) (hI v))
    refine ⟨m2, ?_, r2, fun j hj => by rw [k2' j hj, k1' j hj], F1.tr F2⟩
    rw [RM_stiles_L247, if_neg (by rw [show (400 : Int32) = nI 400 from rfl, n_le (by omega) (by omega)]; omega), e1, show nI s + 1 = nI (s + 1) by rw [k1, n_add], e2, show csa (labN C) (n + 1) s R = (cs4 (labN C) s R || csa (labN C) n (s + 1) (rs4 (labN C) s R)) from rfl, Bool.or_assoc]

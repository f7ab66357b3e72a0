/-! pieces, piece, pieceAt -/
def subM (A B : List (Nat × Nat)) : Bool := A.all (fun q => B.contains q || B.contains (q.1, 999999))
theorem wL_subM {A B : List (Nat × Nat)} (h : subM A B = true) : Sub A B := by
  intro c k hw
  unfold wL at *
  rw [List.any_eq_true] at *
  obtain ⟨q, h1, h2⟩ := hw
  unfold subM at h
  rw [List.all_eq_true] at h
  have h3 := h q h1
  rw [Bool.or_eq_true, List.contains_iff_mem, List.contains_iff_mem] at h3
  rcases h3 with h3 | h3
  · exact ⟨q, h3, h2⟩
  · refine ⟨_, h3, ?_⟩
    simp only [Bool.and_eq_true] at h2 ⊢
    exact ⟨h2.1, by simp⟩
theorem rb_step {m : Mem} {B : StF} {lab : Nat → Int} {sq d p P f : Nat} {T : Nat → Prop} {kx : Mem → Int32 → Option (Int32 × Mem)} (R : ∀ q, q < P → gI m 147 q = b2i (decide (B.lab q = (p : Int)))) (hP : P ≤ 400) (hl : ∀ v, v < 400 → 0 ≤ lab v ∧ lab v < P) (h143 : ∀ v, v < 400 → gI m 143 v = iz (lab v)) (hB : LI p 0 B T) (hs : sq < 400) (hd : d < 4) (hp : p < 400) :
    ∃ m', RM_besides_L50 (nI p) (nI sq) kx (f + 1) m (nI B.t) (nI d) = RM_besides_L50 (nI p) (nI sq) kx f m' (nI (lst lab p sq d B).t) (nI (d + 1)) ∧ (∀ q, q < P → gI m' 147 q = b2i (decide ((lst lab p sq d B).lab q = (p : Int)))) ∧ Frm [(147, 999999)] [] m m' := by
  have ed : nI d + 1 = nI (d + 1) := by rw [k1, n_add]
  unfold lst
  cases hb : nb sq d with
  | none =>
    refine ⟨m, ?_, R, Frm.rf⟩
    rw [RM_besides_L50, if_neg (by rw [k4, n_le (by omega) (by omega)]; omega), beside_nb hs hd, hb, letV_p, if_pos (by decide), ed]
  | some w =>
    have hw := nb_lt hs hb
    have lw := hl w hw
    have e1 : enc (some w) = nI w := rfl
    have eN : (((lab w).toNat : Nat) : Int) = lab w := by omega
    have g143 : gI m 143 w = nI (lab w).toNat := by rw [h143 w hw, nI_iz, eN]
    have i1 : ((1 : Int32) &&& 1) = 1 := by decide
    have e0 : RM_besides_L50 (nI p) (nI sq) kx (f + 1) m (nI B.t) (nI d) = if nI (lab w).toNat = nI p then (RM_besides_L50 (nI p) (nI sq) kx f m (nI B.t) (nI (d + 1)))
        else (if (gI m 147 (lab w).toNat) = 0 then RM_besides_L50 (nI p) (nI sq) kx f (sI m 147 (lab w).toNat 1) (nI (B.t + 1)) (nI (d + 1))
        else (RM_besides_L50 (nI p) (nI sq) kx f m (nI B.t) (nI (d + 1)))) := by
      rw [RM_besides_L50, if_neg (by rw [k4, n_le (by omega) (by omega)]; omega), beside_nb hs hd, hb, letV_p, e1, if_neg (by rw [k0, n_lt (by omega) (by omega)]; omega), if_pos (n_in hw (by omega)), n_ixn (by omega), g143, if_pos (n_in (show (lab w).toNat < 400 by omega) (by omega)), n_ixn (by omega), letM_p, ed, i1, show nI B.t + 1 = nI (B.t + 1) by rw [k1, n_add]]
    have c1 : (nI (lab w).toNat = nI p) ↔ lab w = p := by rw [n_eq (by omega) (by omega)]; omega
    have c2 : (gI m 147 (lab w).toNat = 0) ↔ ¬ B.lab (lab w).toNat = p := by
      rw [R _ (by omega)]
      by_cases z : B.lab (lab w).toNat = p
      · rw [decide_eq_true z]; simp [z, b2i]
      · rw [decide_eq_false z]; simp [z, b2i]
    by_cases q1 : lab w = p
    · refine ⟨m, ?_, by simp only [if_pos (show lab w = p ∨ B.lab (lab w).toNat = p from Or.inl q1)]; exact R, Frm.rf⟩
      rw [e0, if_pos (c1.mpr q1)]
      simp only [if_pos (show lab w = p ∨ B.lab (lab w).toNat = p from Or.inl q1)]
    · by_cases q2 : B.lab (lab w).toNat = p
      · refine ⟨m, ?_, by simp only [if_pos (show lab w = p ∨ B.lab (lab w).toNat = p from Or.inr q2)]; exact R, Frm.rf⟩
        rw [e0, if_neg (fun z => q1 (c1.mp z)), if_neg (fun z => c2.mp z q2)]
        simp only [if_pos (show lab w = p ∨ B.lab (lab w).toNat = p from Or.inr q2)]
      · have q3 : ¬ (lab w = p ∨ B.lab (lab w).toNat = p) := fun z => z.elim q1 q2
        refine ⟨sI m 147 (lab w).toNat 1, ?_, ?_, Frm.sI rfl rfl⟩
        · rw [e0, if_neg (fun z => q1 (c1.mp z)), if_pos (c2.mpr q2)]
          simp only [if_neg q3]
          rfl
        · simp only [if_neg q3]
          intro q hq
          show _ = b2i (decide (upz B.lab (lab w).toNat p q = (p : Int)))
          rw [gI_sI]
          by_cases z : q = (lab w).toNat
          · rw [if_pos ⟨rfl, z⟩, z, upz_eq]; simp [b2i]
          · rw [if_neg (fun y => z y.2), upz_ne z]; exact R q hq
theorem rb_four {m : Mem} {B : StF} {lab : Nat → Int} {sq p P : Nat} {T : Nat → Prop} {kx : Mem → Int32 → Option (Int32 × Mem)} (R : ∀ q, q < P → gI m 147 q = b2i (decide (B.lab q = (p : Int)))) (hP : P ≤ 400) (hl : ∀ v, v < 400 → 0 ≤ lab v ∧ lab v < P) (h143 : ∀ v, v < 400 → gI m 143 v = iz (lab v)) (hB : LI p 0 B T) (hs : sq < 400) (hp : p < 400) :
    ∃ m', RM_besides_L50 (nI p) (nI sq) kx FU m (nI B.t) 0 = kx m' (nI (ls4 lab p sq B).t) ∧ (∀ q, q < P → gI m' 147 q = b2i (decide ((ls4 lab p sq B).lab q = (p : Int)))) ∧ Frm [(147, 999999)] [] m m' := by
  obtain ⟨f, hf⟩ : ∃ f, FU = f + 1 + 1 + 1 + 1 + 1 := ⟨FU - 5, by unfold FU; omega⟩
  have hl' : ∀ v, v < 400 → 0 ≤ lab v ∧ lab v < 400 := fun v hv => by have := hl v hv; omega
  obtain ⟨o1, x1, y1, -⟩ := lst_ok (d := 0) hl' hs hB
  obtain ⟨m1, e1, r1, F1⟩ := rb_step (f := f + 1 + 1 + 1 + 1) (kx := kx) (d := 0) R hP hl h143 hB hs (by omega) hp
  obtain ⟨o2, x2, y2, -⟩ := lst_ok (d := 1) hl' hs o1
  obtain ⟨m2, e2, r2, F2⟩ := rb_step (f := f + 1 + 1 + 1) (kx := kx) (d := 1) r1 hP hl (fun v hv => by rw [F1.I 143 v rfl]; exact h143 v hv) o1 hs (by omega) hp
  have F12 := F1.tr F2
  obtain ⟨o3, x3, y3, -⟩ := lst_ok (d := 2) hl' hs o2
  obtain ⟨m3, e3, r3, F3⟩ := rb_step (f := f + 1 + 1) (kx := kx) (d := 2) r2 hP hl (fun v hv => by rw [F12.I 143 v rfl]; exact h143 v hv) o2 hs (by omega) hp
  have F13 := F12.tr F3
  obtain ⟨m4, e4, r4, F4⟩ := rb_step (f := f + 1) (kx := kx) (d := 3) r3 hP hl (fun v hv => by rw [F13.I 143 v rfl]; exact h143 v hv) o3 hs (by omega) hp
  refine ⟨m4, ?_, r4, F13.tr F4⟩
  rw [hf, show (0 : Int32) = nI 0 from k0, e1, e2, e3, e4, RM_besides_L50, if_pos (by decide)]
  rfl
theorem rb_scan {lab : Nat → Int} {p P : Nat} {kx : Mem → Int32 → Option (Int32 × Mem)} (hP : P ≤ 400) (hl : ∀ v, v < 400 → 0 ≤ lab v ∧ lab v < P) (hp : p < 400) : ∀ (n s fu : Nat) (m : Mem) (B : StF) (T : Nat → Prop), s + n = 400 → n < fu → (∀ q, q < P → gI m 147 q = b2i (decide (B.lab q = (p : Int)))) → (∀ v, v < 400 → gI m 143 v = iz (lab v)) → LI p 0 B T →
    ∃ m' B', RM_besides_L27 (nI p) kx fu m (nI B.t) (nI s) = kx m' (nI B'.t) ∧ LI p 0 B' (fun q => T q ∨ ∃ v, s ≤ v ∧ v < 400 ∧ lab v = p ∧ seen lab p v q) ∧ Frm [(147, 999999)] [] m m'
  | 0, s, fu, m, B, T, hn, hf, R, h143, hB => by
    obtain ⟨f, rfl⟩ : ∃ f, fu = f + 1 := ⟨fu - 1, by omega⟩
    obtain rfl : s = 400 := by omega
    exact ⟨m, B, by rw [RM_besides_L27, if_pos (by decide)], hB.cg fun q => ⟨Or.inl, fun z => z.elim id (fun ⟨v, a, b, _⟩ => by omega)⟩, Frm.rf⟩
  | n + 1, s, fu, m, B, T, hn, hf, R, h143, hB => by
    obtain ⟨f, rfl⟩ : ∃ f, fu = f + 1 := ⟨fu - 1, by omega⟩
    have hl' : ∀ v, v < 400 → 0 ≤ lab v ∧ lab v < 400 := fun v hv => by have := hl v hv; omega
    have ls := hl s (by omega)
    have c1 : (gI m 143 s = nI p) ↔ lab s = p := by rw [h143 s (by omega), nI_iz, iz_eq (by omega) (by omega)]
    have e0 : RM_besides_L27 (nI p) kx (f + 1) m (nI B.t) (nI s) = if gI m 143 s = nI p then (RM_besides_L50 (nI p) (nI s) (fun m3 y2 => RM_besides_L27 (nI p) kx f m3 y2 (nI (s + 1))) FU m (nI B.t) 0) else (RM_besides_L27 (nI p) kx f m (nI B.t) (nI (s + 1))) := by
      rw [RM_besides_L27, if_neg (by rw [show (400 : Int32) = nI 400 from rfl, n_le (by omega) (by omega)]; omega), if_pos (n_in (by omega) (by omega)), n_ixn (by omega), show nI s + 1 = nI (s + 1) by rw [k1, n_add]]
    by_cases q : lab s = p
    · obtain ⟨m1, e1, r1, F1⟩ := rb_four (kx := fun m3 y2 => RM_besides_L27 (nI p) kx f m3 y2 (nI (s + 1))) R hP hl h143 hB (show s < 400 by omega) hp
      obtain ⟨a1, -, -, -⟩ := ls4_ok hl' (show s < 400 by omega) hB
      obtain ⟨m2, B', e2, a2, F2⟩ := rb_scan (kx := kx) hP hl hp n (s + 1) f m1 _ _ (by omega) (by omega) r1 (fun v hv => by rw [F1.I 143 v rfl]; exact h143 v hv) a1
      refine ⟨m2, B', by rw [e0, if_pos (c1.mpr q), e1, e2], a2.cg fun t => ⟨?_, ?_⟩, F1.tr F2⟩
      · rintro ((z | z) | ⟨v, x, y, w, z⟩)
        · exact Or.inl z
        · exact Or.inr ⟨s, by omega, by omega, q, z⟩
        · exact Or.inr ⟨v, by omega, y, w, z⟩
      · rintro (z | ⟨v, x, y, w, z⟩)
        · exact Or.inl (Or.inl z)
        · by_cases e : v = s
          · subst e; exact Or.inl (Or.inr z)
          · exact Or.inr ⟨v, by omega, y, w, z⟩
    · obtain ⟨m2, B', e2, a2, F2⟩ := rb_scan (kx := kx) hP hl hp n (s + 1) f m B T (by omega) (by omega) R h143 hB
      refine ⟨m2, B', by rw [e0, if_neg (fun z => q (c1.mp z)), e2], a2.cg fun t => ⟨?_, ?_⟩, F2⟩
      · rintro (z | ⟨v, x, y, w, z⟩)
        · exact Or.inl z
        · exact Or.inr ⟨v, by omega, y, w, z⟩
      · rintro (z | ⟨v, x, y, w, z⟩)
        · exact Or.inl z
        · by_cases e : v = s
          · subst e; exact absurd w q
          · exact Or.inr ⟨v, by omega, y, w, z⟩
theorem rb_clear {P : Nat} {x : Int32} {kx : Mem → Option (Int32 × Mem)} (hP : P ≤ 400) : ∀ (d i fu : Nat) (m : Mem), i + d = P → d < fu → gI m 133 33 = nI P → ∃ m', RM_besides_L2 x kx fu m (nI i) = kx m' ∧ (∀ q, i ≤ q → q < P → gI m' 147 q = 0) ∧ (∀ q, q < i → gI m' 147 q = gI m 147 q) ∧ Frm [(147, 999999)] [] m m'
  | 0, i, fu, m, hd, hf, h33 => by
    obtain ⟨f, rfl⟩ : ∃ f, fu = f + 1 := ⟨fu - 1, by omega⟩
    exact ⟨m, by rw [RM_besides_L2, h33, if_pos (by rw [n_le (by omega) (by omega)]; omega)], fun s a b => by omega, fun _ _ => rfl, Frm.rf⟩
  | d + 1, i, fu, m, hd, hf, h33 => by
    obtain ⟨f, rfl⟩ : ∃ f, fu = f + 1 := ⟨fu - 1, by omega⟩
    obtain ⟨m', e, a, b, F⟩ := rb_clear (x := x) (kx := kx) hP d (i + 1) f (sI m 147 i 0) (by omega) (by omega) (by rw [gI_sI, if_neg (by omega)]; exact h33)
    refine ⟨m', ?_, fun s h1 h2 => ?_, fun s h => ?_, (Frm.sI rfl rfl).tr F⟩
    · rw [RM_besides_L2, h33, if_neg (by rw [n_le (by omega) (by omega)]; omega), if_pos (n_in (by omega) (by omega)), n_ixn (by omega), letM_p, show nI i + 1 = nI (i + 1) by rw [k1, n_add], show ((0 : Int32) &&& 1) = 0 by decide]
      exact e
    · by_cases q : s = i
      · rw [b s (by omega), gI_sI, if_pos ⟨rfl, q⟩]
      · exact a s (by omega) h2
    · rw [b s (by omega), gI_sI, if_neg (by omega)]
theorem besides_eq {m : Mem} {C : ScF} {p : Nat} {b : Nat → Bool} (I : IC 400 C) (R : CR m C) (hp : p < C.P) (hb : ∀ q, b q = true ↔ nbr C p q) : ∃ m', RM_besides m (nI p) = some (nI (cntB b 400), m') := by
  have P4 := I.pt
  have t4 := I.1.le
  obtain ⟨m1, e1, a1, -, F1⟩ := rb_clear (x := nI p) (kx := fun m1 => RM_besides_L27 (nI p) (fun m3 y2 => some (y2, m3)) FU m1 0 0) (show C.P ≤ 400 by omega) C.P 0 FU m (by omega) (by unfold FU; omega) R.2.1
  have c0 : ∀ n, cntB (fun q => decide (BF0.lab q = (p : Int))) n = 0 := by
    intro n
    induction n with
    | zero => rfl
    | succ n ih =>
      simp only [cntB]
      rw [ih, if_neg]
      have : BF0.lab n = -1 := rfl
      rw [this]
      simp
  have hB : LI p 0 BF0 (fun _ => False) := ⟨Nat.le_refl _, fun q => ⟨fun z => by have : BF0.lab q = -1 := rfl; omega, False.elim⟩, fun q z => z.elim, fun j a b => absurd b (Nat.not_lt_zero _), by rw [c0]; rfl, fun q => by have : BF0.lab q = -1 := rfl; omega⟩
  obtain ⟨m2, B', e2, a2, F2⟩ := rb_scan (kx := fun m3 y2 => some (y2, m3)) (show C.P ≤ 400 by omega) I.labP (show p < 400 by omega) 400 0 FU m1 BF0 _ (by omega) (by unfold FU; omega) (fun q hq => by
    rw [a1 q (by omega) hq, decide_eq_false]
    · rfl
    · have : BF0.lab q = -1 := rfl
      omega) (fun v hv => by rw [F1.I 143 v rfl]; exact R.1 v hv) hB
  refine ⟨m2, ?_⟩
  have eb : ∀ q, q < 400 → decide (B'.lab q = (p : Int)) = b q := fun q _ => by
    rw [Bool.eq_iff_iff, decide_eq_true_iff, a2.2.1 q, hb q]
    unfold nbr
    refine ⟨?_, ?_⟩
    · rintro (z | ⟨v, x, y, w, z⟩)
      · exact z.elim
      · exact ⟨v, y, w, z⟩
    · rintro ⟨v, y, w, z⟩
      exact Or.inr ⟨v, by omega, y, w, z⟩
  have et : B'.t = cntB b 400 := by rw [a2.2.2.2.2.1, Nat.zero_add]; exact cntB_cong 400 eb
  unfold RM_besides
  rw [show nI 0 = 0 from k0.symm] at e1 e2
  rw [show nI BF0.t = 0 from rfl] at e2
  rw [e1, e2, et]
/-- both sides' pieces by line k -/
theorem pieces_both {m : Mem} (h : Inv m) {k n : Nat} {X Y : Nat → Int} (hk : k < 3) (D : LineD m k n X Y) : ∃ H m1 m2, OH_surveyPieces m (nI k) = some m1 ∧ PcD m1 (pcs H) ∧ (∀ s, s < 400 → gI m1 6 s = b2i (H s)) ∧ Frm W_OH_surveyPieces [] m m1 ∧ RM_parts (sI m1 133 0 0) (nI k) = some m2 ∧ CR m2 (pcs H) ∧ (∀ s, s < 400 → gI m2 141 s = b2i (H s)) ∧ Frm W_RM_parts [] (sI m1 133 0 0) m2 := by
  obtain ⟨m1, e1, s1, G1, F1⟩ := OH_survey_eq h hk D
  obtain ⟨m2, e2, d2, F2⟩ := find_eq s1
  have eO : OH_surveyPieces m (nI k) = some m2 := by rw [OH_surveyPieces, e1, bM_s, e2, bM_s]
  have F3 := OH_surveyPieces_fr (L := W_OH_surveyPieces) (R := []) (wL_sub rfl) m _ _ eO
  obtain ⟨m3, e3, s3, F4⟩ := maps_eq (m1 := sI m2 133 0 0) D hk (fun j => by rw [gI_sI, if_neg (by omega), F3.I 135 j rfl])
  obtain ⟨m4, e4, d4, F5⟩ := parts_eq e3 s3
  exact ⟨_, m2, m4, eO, d2, fun s hs => by rw [F2.I 6 s rfl]; exact s1 s hs, F3, e4, d4, fun s hs => by rw [F5.I 141 s rfl]; exact s3 s hs, (F4.mo (wL_sub rfl)).tr (F5.mo (wL_sub rfl))⟩
theorem op_pieces {m : Mem} (h : Inv m) (x : Int32) : ∃ v m1 m2, OH_pieces m x = some (v, m1) ∧ RM_pieces m1 x = some (v, m2) ∧ Inv m2 := by
  have hI : Inv (sI m 133 0 0) := inv_frame fr0 h
  have g0 : ∀ j, gI (sI m 133 0 0) 135 j = gI m 135 j := fun j => by rw [gI_sI, if_neg (by omega)]
  rcases line_cases h x with ⟨h1, h2⟩ | ⟨k, hk, hk2, rfl, h1, h2⟩
  · refine ⟨-1, m, sI m 133 0 0, by rw [OH_pieces, h1, if_pos rfl], ?_, hI⟩
    rw [RM_pieces, letM_p, h2 _ (g0 0), bI_s, if_pos rfl]
  · obtain ⟨n, X, Y, D⟩ := lineD h hk2
    obtain ⟨H, m1, m2, e1, d1, s1, F1, e2, d2, s2, F2⟩ := pieces_both h hk D
    have f1 : ∀ j, gI (sI m1 133 0 0) 135 j = gI m 135 j := fun j => by rw [gI_sI, if_neg (by omega), F1.I 135 j rfl]
    refine ⟨nI (pcs H).P, m1, m2, ?_, ?_, inv_frame ((F1.mo (wL_subM rfl)).tr ((Frm.sI rfl rfl).tr (F2.mo (wL_subM rfl)))) h⟩
    · rw [OH_pieces, h1, if_neg (by decide), e1, bM_s, d1.2.1]
    · rw [RM_pieces, letM_p, h2 _ (f1 0), bI_s, if_neg (by decide), e2, bM_s, d2.2.1]
theorem op_pieceAt {m : Mem} (h : Inv m) (x y z : Int32) : ∃ v m1 m2, OH_pieceAt m x y z = some (v, m1) ∧ RM_pieceAt m1 x y z = some (v, m2) ∧ Inv m2 := by
  have hI : Inv (sI m 133 0 0) := inv_frame fr0 h
  have g0 : ∀ j, gI (sI m 133 0 0) 135 j = gI m 135 j := fun j => by rw [gI_sI, if_neg (by omega)]
  rcases line_cases h x with ⟨h1, h2⟩ | ⟨k, hk, hk2, rfl, h1, h2⟩
  · refine ⟨-1, m, sI m 133 0 0, by rw [OH_pieceAt, h1, if_pos rfl], ?_, hI⟩
    rw [RM_pieceAt, letM_p, h2 _ (g0 0), bI_s, if_pos rfl]
  · rcases isSquare_eq y z with ⟨h3, h4⟩ | ⟨a, b, ha, hb, rfl, rfl, h3, h4⟩
    · refine ⟨-1, m, sI m 133 0 0, by rw [OH_pieceAt, h1, h3, if_pos rfl, ite_self], ?_, hI⟩
      rw [RM_pieceAt, letM_p, h2 _ (g0 0), bI_s, h4, if_pos rfl, ite_self]
    · obtain ⟨n, X, Y, D⟩ := lineD h hk2
      obtain ⟨H, m1, m2, e1, d1, s1, F1, e2, d2, s2, F2⟩ := pieces_both h hk D
      have f1 : ∀ j, gI (sI m1 133 0 0) 135 j = gI m 135 j := fun j => by rw [gI_sI, if_neg (by omega), F1.I 135 j rfl]
      refine ⟨iz ((pcs H).S.lab (20 * b + a)), m1, m2, ?_, ?_, inv_frame ((F1.mo (wL_subM rfl)).tr ((Frm.sI rfl rfl).tr (F2.mo (wL_subM rfl)))) h⟩
      · rw [OH_pieceAt, h1, h3, if_neg (by decide), if_neg (by decide), e1, bM_s, squareAt_n, if_pos (n_in (by omega) (by omega)), n_ixn (by omega), d1.1.1 _ (by omega)]
      · rw [RM_pieceAt, letM_p, h2 _ (f1 0), bI_s, h4, if_neg (by decide), if_neg (by decide), e2, bM_s, show (20 * nI b) + nI a = nI (20 * b + a) by rw [k20, n_mul, n_add], if_pos (n_in (by omega) (by omega)), n_ixn (by omega), d2.1 _ (by omega)]
theorem op_piece {m : Mem} (h : Inv m) (x y z : Int32) : ∃ v m1 m2, OH_piece m x y z = some (v, m1) ∧ RM_piece m1 x y z = some (v, m2) ∧ Inv m2 := by
  have hI : Inv (sI m 133 0 0) := inv_frame fr0 h
  have g0 : ∀ j, gI (sI m 133 0 0) 135 j = gI m 135 j := fun j => by rw [gI_sI, if_neg (by omega)]
  rcases line_cases h x with ⟨h1, h2⟩ | ⟨k, hk, hk2, rfl, h1, h2⟩
  · refine ⟨-1, m, sI m 133 0 0, by rw [OH_piece, h1, if_pos rfl], ?_, hI⟩
    rw [RM_piece, letM_p, h2 _ (g0 0), bI_s, if_pos rfl]
  · obtain ⟨n, X, Y, D⟩ := lineD h hk2
    obtain ⟨H, m1, m2, e1, d1, s1, F1, e2, d2, s2, F2⟩ := pieces_both h hk D
    have I := pcs_ok H
    generalize pcs H = C at d1 d2 I
    have P4 := I.pt
    have t4 := I.1.le
    have P1 : 0 < C.P := by have := I.labP 0 (by omega); omega
    have f1 : ∀ j, gI (sI m1 133 0 0) 135 j = gI m 135 j := fun j => by rw [gI_sI, if_neg (by omega), F1.I 135 j rfl]
    have hI1 : Inv (sI m1 133 0 0) := inv_frame ((F1.mo (wL_subM rfl)).tr (Frm.sI rfl rfl)) h
    have hI2 : Inv m2 := inv_frame ((F1.mo (wL_subM rfl)).tr ((Frm.sI rfl rfl).tr (F2.mo (wL_subM rfl)))) h
    have hz : RM_isIn z 0 4 = 0 ∨ ∃ w, w < 5 ∧ z = nI w ∧ RM_isIn z 0 4 = 1 := by
      rcases isIn_n (x := z) (n := 4) (by omega) with ⟨e, _⟩ | ⟨e, w, hw, rfl⟩
      · exact Or.inl e
      · exact Or.inr ⟨w, by omega, rfl, e⟩
    have hnot : RM_isIn z 0 4 = 0 → z ≠ 0 ∧ z ≠ 1 ∧ z ≠ 2 ∧ z ≠ 3 ∧ z ≠ 4 := fun e => by
      refine ⟨?_, ?_, ?_, ?_, ?_⟩ <;> (rintro rfl; exact absurd e (by decide))
    rcases spl y C.P (by omega) with hx | ⟨hx, hx2⟩ | ⟨p, hp, rfl⟩
    · have eO : OH_piece m (nI k) y z = some (-1, m1) := by rw [OH_piece, h1, if_neg (by decide), e1, bM_s, if_pos hx]
      rcases hz with e | ⟨w, hw, rfl, e⟩
      · exact ⟨-1, m1, sI m1 133 0 0, eO, by rw [RM_piece, letM_p, h2 _ (f1 0), bI_s, if_neg (by decide), e, if_pos rfl], hI1⟩
      · exact ⟨-1, m1, m2, eO, by rw [RM_piece, letM_p, h2 _ (f1 0), bI_s, if_neg (by decide), e, if_neg (by decide), e2, bM_s, isIn_lo hx, if_pos rfl], hI2⟩
    · have eO : OH_piece m (nI k) y z = some (-1, m1) := by rw [OH_piece, h1, if_neg (by decide), e1, bM_s, if_neg hx, d1.2.1, if_neg (Int32.not_lt.mpr hx2)]
      rcases hz with e | ⟨w, hw, rfl, e⟩
      · exact ⟨-1, m1, sI m1 133 0 0, eO, by rw [RM_piece, letM_p, h2 _ (f1 0), bI_s, if_neg (by decide), e, if_pos rfl], hI1⟩
      · refine ⟨-1, m1, m2, eO, ?_, hI2⟩
        rw [RM_piece, letM_p, h2 _ (f1 0), bI_s, if_neg (by decide), e, if_neg (by decide), e2, bM_s, d2.2.1, k1, n_sub (by omega), isIn_hi (n := C.P - 1) (by omega) (by rw [show C.P - 1 + 1 = C.P by omega]; exact hx2), if_pos rfl]
    · have lt := I.2.2.1 p hp
      have sm := I.sm (p := p + 1) (by omega)
      have hfirst := I.2.2.2.2.2.2.1 p hp
      have hq := I.1.qu (C.start p) (by omega)
      rw [hfirst] at hq
      obtain ⟨E, off, ⟨-, hD⟩, o22, -, o16⟩ := d1.2.2.2
      obtain ⟨q1, q2, b, q3, q4⟩ := hD p hp
      have ep : nI p + 1 = nI (p + 1) := by rw [k1, n_add]
      have eF : PC_firstOf m1 (nI p) = some (nI (C.first p)) := by
        rw [PC_firstOf, if_pos (n_in (by omega) (by omega)), n_ixn (by omega), d1.2.2.1 p (by omega), if_pos (n_in (by omega) (by omega)), n_ixn (by omega), d1.1.2 _ (by omega), hfirst]
      have eO : OH_piece m (nI k) (nI p) z = if z = 0 then (bI (PC_sizeOf m1 (nI p)) fun v6 => some (v6, m1))
          else (if z = 1 then (some ((gI m1 6 (C.first p)), m1))
          else (if z = 2 then (some ((irm (nI (C.first p)) 20), m1))
          else (if z = 3 then (some ((nI (C.first p) / 20), m1))
          else (if z = 4 then (bI (PC_neighboursOf m1 (nI p)) fun v9 => some (v9, m1))
          else (some ((-1), m1)))))) := by
        rw [OH_piece, h1, if_neg (by decide), e1, bM_s, if_neg (by rw [k0, n_lt (by omega) (by omega)]; omega), d1.2.1, if_pos (by rw [n_lt (by omega) (by omega)]; exact hp), eF, bI_s, if_pos (n_in hq (by omega)), n_ixn (by omega)]
      rcases hz with e | ⟨w, hw, rfl, e⟩
      · obtain ⟨z0, z1, z2, z3, z4⟩ := hnot e
        exact ⟨-1, m1, sI m1 133 0 0, by rw [eO, if_neg z0, if_neg z1, if_neg z2, if_neg z3, if_neg z4], by rw [RM_piece, letM_p, h2 _ (f1 0), bI_s, if_neg (by decide), e, if_pos rfl], hI1⟩
      · have hin : RM_isIn (nI p) 0 (nI C.P - 1) = 1 := by
          rw [k1, n_sub (by omega)]
          exact isIn_in (a := 0) (b := C.P - 1) (by omega) (by omega) (by omega)
        have eR : RM_piece m1 (nI k) (nI p) (nI w) = if nI w = 0 then (some ((gI m2 146 p), m2))
            else (if nI w = 1 then (if (gI m2 141 (C.first p)) = 0 then (some (0, m2)) else (some (1, m2)))
            else (if nI w = 2 then (some ((irm (nI (C.first p)) 20), m2))
            else (if nI w = 3 then (some ((nI (C.first p) / 20), m2))
            else (bV (RM_besides m2 (nI p)) fun v8 m9 => some (v8, m9))))) := by
          rw [RM_piece, letM_p, h2 _ (f1 0), bI_s, if_neg (by decide), e, if_neg (by decide), e2, bM_s, d2.2.1, hin, if_neg (by decide), if_pos (n_in (by omega) (by omega)), n_ixn (by omega), letV_p, (d2.2.2 p hp).1, if_pos (n_in hq (by omega)), n_ixn (by omega)]
        rcases (show w = 0 ∨ w = 1 ∨ w = 2 ∨ w = 3 ∨ w = 4 by omega) with rfl | rfl | rfl | rfl | rfl
        · refine ⟨nI (C.start (p + 1) - C.start p), m1, m2, ?_, ?_, hI2⟩
          · rw [eO, if_pos (by decide), PC_sizeOf, ep, if_pos (n_in (by omega) (by omega)), if_pos (n_in (by omega) (by omega)), n_ixn (by omega), n_ixn (by omega), d1.2.2.1 _ (by omega), d1.2.2.1 _ (by omega), bI_s, n_sub (by omega)]
          · rw [eR, if_pos (by decide), (d2.2.2 p hp).2]
        · refine ⟨b2i (H (C.first p)), m1, m2, ?_, ?_, hI2⟩
          · rw [eO, if_neg (by decide), if_pos (by decide), s1 _ hq]
          · rw [eR, if_neg (by decide), if_pos (by decide), s2 _ hq]
            cases H (C.first p) <;> rfl
        · exact ⟨_, m1, m2, by rw [eO, if_neg (by decide), if_neg (by decide), if_pos (by decide)], by rw [eR, if_neg (by decide), if_neg (by decide), if_pos (by decide)], hI2⟩
        · exact ⟨_, m1, m2, by rw [eO, if_neg (by decide), if_neg (by decide), if_neg (by decide), if_pos (by decide)], by rw [eR, if_neg (by decide), if_neg (by decide), if_neg (by decide), if_pos (by decide)], hI2⟩
        · obtain ⟨m3, e3⟩ := besides_eq I d2 hp q3
          have F3 := RM_besides_fr (L := W_RM_besides) (R := []) (wL_sub rfl) m2 _ _ e3
          refine ⟨nI (cntB b 400), m1, m3, ?_, ?_, inv_frame (F3.mo (wL_subM rfl)) hI2⟩
          · rw [eO, if_neg (by decide), if_neg (by decide), if_neg (by decide), if_neg (by decide), if_pos (by decide), PC_neighboursOf, ep, if_pos (n_in (by omega) (by omega)), if_pos (n_in (by omega) (by omega)), n_ixn (by omega), n_ixn (by omega), o22 _ (by omega), o22 _ (by omega), bI_s, n_sub q1, q4, Nat.add_sub_cancel_left]
          · rw [eR, if_neg (by decide), if_neg (by decide), if_neg (by decide), if_neg (by decide), e3, bV_s]

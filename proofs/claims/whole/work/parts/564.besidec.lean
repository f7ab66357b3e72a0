/-! the class's list of pieces beside -/
def CL (m : Mem) (B : StF) : Prop := (∀ q, q < 400 → gI m 23 q = iz (B.lab q)) ∧ ∀ j, j < B.t → gI m 21 j = nI (B.que j)
abbrev L213 : List (Nat × Nat) := [(21, 999999), (23, 999999)]
theorem CL.pt {m : Mem} {B : StF} {v p : Nat} (h : CL m B) : CL (sI (sI m 23 v (nI p)) 21 B.t (nI v)) (putF B v p) := by
  refine ⟨fun s hs => ?_, fun j hj => ?_⟩
  · show _ = iz (upz B.lab v p s)
    rw [gI_sI, if_neg (by omega), gI_sI]
    by_cases q : s = v
    · rw [if_pos ⟨rfl, q⟩, q, upz_eq, nI_iz]
    · rw [if_neg (fun z => q z.2), upz_ne q]; exact h.1 s hs
  · show _ = nI (upn B.que B.t v j)
    have hj' : j < B.t + 1 := hj
    rw [gI_sI]
    by_cases q : j = B.t
    · rw [if_pos ⟨rfl, q⟩, q, upn_eq]
    · rw [if_neg (fun z => q z.2), gI_sI, if_neg (by omega), upn_ne q]; exact h.2 j (by omega)
theorem la_step {m : Mem} {B : StF} {lab : Nat → Int} {sq d p c0 f : Nat} {T : Nat → Prop} {kx : Mem → Int32 → Option (Int32 × Mem)} (R : CL m B) (hl : ∀ v, v < 400 → 0 ≤ lab v ∧ lab v < 400) (h18 : ∀ v, v < 400 → gI m 18 v = iz (lab v)) (hB : LI p c0 B T) (hs : sq < 400) (hd : d < 4) (hp : p < 400) (ht : B.t < 1600) :
    ∃ m', PC_listBeside_L6 (nI p) (nI sq) kx (f + 1) m (nI B.t) (nI d) = PC_listBeside_L6 (nI p) (nI sq) kx f m' (nI (lst lab p sq d B).t) (nI (d + 1)) ∧ CL m' (lst lab p sq d B) ∧ Frm L213 [] m m' := by
  have ed : nI d + 1 = nI (d + 1) := by rw [k1, n_add]
  unfold lst
  cases hb : nb sq d with
  | none =>
    refine ⟨m, ?_, R, Frm.rf⟩
    rw [PC_listBeside_L6, if_neg (by rw [k3, n_lt (by omega) (by omega)]; omega), step_nb hs hd, hb, letV_p, if_neg (by decide), PC_listBeside_J36, if_pos rfl, ed]
  | some w =>
    have hw := nb_lt hs hb
    have lw := hl w hw
    have e1 : enc (some w) = nI w := rfl
    have eN : (((lab w).toNat : Nat) : Int) = lab w := by omega
    have g18 : gI m 18 w = nI (lab w).toNat := by rw [h18 w hw, nI_iz, eN]
    have e0 : PC_listBeside_L6 (nI p) (nI sq) kx (f + 1) m (nI B.t) (nI d) = if nI (lab w).toNat = nI p then (PC_listBeside_L6 (nI p) (nI sq) kx f m (nI B.t) (nI (d + 1)))
        else (if (gI m 23 (lab w).toNat) = nI p then (PC_listBeside_L6 (nI p) (nI sq) kx f m (nI B.t) (nI (d + 1)))
        else PC_listBeside_L6 (nI p) (nI sq) kx f (sI (sI m 23 (lab w).toNat (nI p)) 21 B.t (nI (lab w).toNat)) (nI (B.t + 1)) (nI (d + 1))) := by
      rw [PC_listBeside_L6, if_neg (by rw [k3, n_lt (by omega) (by omega)]; omega), step_nb hs hd, hb, letV_p, e1, if_pos (by rw [k0, n_le (by omega) (by omega)]; omega), if_pos (n_in hw (by omega)), n_ixn (by omega), g18, PC_listBeside_J36, if_pos (n_in (show (lab w).toNat < 400 by omega) (by omega)), n_ixn (by omega), if_neg (show ¬ (1600 : Int32) ≤ nI B.t by rw [show (1600 : Int32) = nI 1600 from rfl, n_le (by omega) (by omega)]; omega), letM_p, if_pos (n_in ht (by omega)), n_ixn (by omega), letM_p, ed, k1, n_add]
    have c1 : (nI (lab w).toNat = nI p) ↔ lab w = p := by rw [n_eq (by omega) (by omega)]; omega
    have hr := hB.2.2.2.2.2 (lab w).toNat
    have c2 : (gI m 23 (lab w).toNat = nI p) ↔ B.lab (lab w).toNat = p := by rw [R.1 _ (by omega), nI_iz, iz_eq (by omega) (by omega)]
    by_cases q1 : lab w = p
    · refine ⟨m, ?_, by simp only [if_pos (show lab w = p ∨ B.lab (lab w).toNat = p from Or.inl q1)]; exact R, Frm.rf⟩
      rw [e0, if_pos (c1.mpr q1)]
      simp only [if_pos (show lab w = p ∨ B.lab (lab w).toNat = p from Or.inl q1)]
    · by_cases q2 : B.lab (lab w).toNat = p
      · refine ⟨m, ?_, by simp only [if_pos (show lab w = p ∨ B.lab (lab w).toNat = p from Or.inr q2)]; exact R, Frm.rf⟩
        rw [e0, if_neg (fun z => q1 (c1.mp z)), if_pos (c2.mpr q2)]
        simp only [if_pos (show lab w = p ∨ B.lab (lab w).toNat = p from Or.inr q2)]
      · have q3 : ¬ (lab w = p ∨ B.lab (lab w).toNat = p) := fun z => z.elim q1 q2
        refine ⟨sI (sI m 23 (lab w).toNat (nI p)) 21 B.t (nI (lab w).toNat), ?_, by simp only [if_neg q3]; exact R.pt, (Frm.sI rfl rfl).tr (Frm.sI rfl rfl)⟩
        rw [e0, if_neg (fun z => q1 (c1.mp z)), if_neg (fun z => q2 (c2.mp z))]
        simp only [if_neg q3]
        rfl
theorem la_four {m : Mem} {B : StF} {lab : Nat → Int} {sq p c0 : Nat} {T : Nat → Prop} (R : CL m B) (hl : ∀ v, v < 400 → 0 ≤ lab v ∧ lab v < 400) (h18 : ∀ v, v < 400 → gI m 18 v = iz (lab v)) (hB : LI p c0 B T) (hs : sq < 400) (hp : p < 400) (ht : B.t + 4 ≤ 1600) :
    ∃ m', PC_listBeside m (nI p) (nI sq) (nI B.t) = some (nI (ls4 lab p sq B).t, m') ∧ CL m' (ls4 lab p sq B) ∧ Frm L213 [] m m' := by
  obtain ⟨f, hf⟩ : ∃ f, FU = f + 1 + 1 + 1 + 1 + 1 := ⟨FU - 5, by unfold FU; omega⟩
  obtain ⟨o1, x1, y1, -⟩ := lst_ok (d := 0) hl hs hB
  obtain ⟨m1, e1, r1, F1⟩ := la_step (f := f + 1 + 1 + 1 + 1) (kx := fun m2 y1 => some (y1, m2)) (d := 0) R hl h18 hB hs (by omega) hp (by omega)
  obtain ⟨o2, x2, y2, -⟩ := lst_ok (d := 1) hl hs o1
  obtain ⟨m2, e2, r2, F2⟩ := la_step (f := f + 1 + 1 + 1) (kx := fun m2 y1 => some (y1, m2)) (d := 1) r1 hl (fun v hv => by rw [F1.I 18 v rfl]; exact h18 v hv) o1 hs (by omega) hp (by omega)
  have F12 := F1.tr F2
  obtain ⟨o3, x3, y3, -⟩ := lst_ok (d := 2) hl hs o2
  obtain ⟨m3, e3, r3, F3⟩ := la_step (f := f + 1 + 1) (kx := fun m2 y1 => some (y1, m2)) (d := 2) r2 hl (fun v hv => by rw [F12.I 18 v rfl]; exact h18 v hv) o2 hs (by omega) hp (by omega)
  have F13 := F12.tr F3
  obtain ⟨m4, e4, r4, F4⟩ := la_step (f := f + 1) (kx := fun m2 y1 => some (y1, m2)) (d := 3) r3 hl (fun v hv => by rw [F13.I 18 v rfl]; exact h18 v hv) o3 hs (by omega) hp (by omega)
  refine ⟨m4, ?_, r4, F13.tr F4⟩
  unfold PC_listBeside
  rw [hf, show (0 : Int32) = nI 0 from k0, e1, e2, e3, e4, PC_listBeside_L6, if_pos (by decide)]
  rfl
def lsg (lab : Nat → Int) (que : Nat → Nat) (p : Int) : Nat → Nat → StF → StF
  | 0, _, B => B
  | n + 1, j, B => lsg lab que p n (j + 1) (ls4 lab p (que j) B)
theorem lsg_ok {lab : Nat → Int} {que : Nat → Nat} {p : Int} {c0 : Nat} (hl : ∀ v, v < 400 → 0 ≤ lab v ∧ lab v < 400) : ∀ (n j : Nat) (B : StF) (T : Nat → Prop), (∀ i, j ≤ i → i < j + n → que i < 400) → LI p c0 B T → LI p c0 (lsg lab que p n j B) (fun q => T q ∨ ∃ i, j ≤ i ∧ i < j + n ∧ seen lab p (que i) q) ∧ B.t ≤ (lsg lab que p n j B).t ∧ (lsg lab que p n j B).t ≤ B.t + 4 * n ∧ ∀ i, i < B.t → (lsg lab que p n j B).que i = B.que i
  | 0, j, B, T, _, h => ⟨h.cg fun q => ⟨Or.inl, fun z => z.elim id (fun ⟨i, a, b, _⟩ => by omega)⟩, Nat.le_refl _, Nat.le_refl _, fun _ _ => rfl⟩
  | n + 1, j, B, T, hq, h => by
    obtain ⟨a1, b1, c1, d1⟩ := ls4_ok hl (hq j (by omega) (by omega)) h
    obtain ⟨a2, b2, c2, d2⟩ := lsg_ok (que := que) hl n (j + 1) _ _ (fun i x y => hq i (by omega) (by omega)) a1
    unfold lsg
    refine ⟨a2.cg fun q => ⟨?_, ?_⟩, by omega, by omega, fun i hi => by rw [d2 i (by omega), d1 i hi]⟩
    · rintro ((z | z) | ⟨i, x, y, z⟩)
      · exact Or.inl z
      · exact Or.inr ⟨j, by omega, by omega, z⟩
      · exact Or.inr ⟨i, by omega, by omega, z⟩
    · rintro (z | ⟨i, x, y, z⟩)
      · exact Or.inl (Or.inl z)
      · by_cases e : i = j
        · subst e; exact Or.inl (Or.inr z)
        · exact Or.inr ⟨i, by omega, by omega, z⟩
theorem la_seg {C : ScF} {p c0 : Nat} {kx : Mem → Int32 → Option Mem} (I : IC 400 C) (hp : p < C.P) : ∀ (n j fu : Nat) (m : Mem) (B : StF) (T : Nat → Prop), j + n = C.start (p + 1) → C.start p ≤ j → n < fu → CL m B → LI p c0 B T → CA m C.S → gI m 20 (p + 1) = nI (C.start (p + 1)) → B.t ≤ 4 * j →
    ∃ m', PC_findBeside_L34 (nI p) kx fu m (nI B.t) (nI j) = kx m' (nI (lsg C.S.lab C.S.que p n j B).t) ∧ CL m' (lsg C.S.lab C.S.que p n j B) ∧ Frm L213 [] m m'
  | 0, j, fu, m, B, T, hn, hj, hf, R, hB, A, h20, ht => by
    obtain ⟨f, rfl⟩ : ∃ f, fu = f + 1 := ⟨fu - 1, by omega⟩
    have P4 := I.pt
    have t4 := I.1.le
    have sm := I.sm (p := p + 1) (by omega)
    exact ⟨m, by rw [PC_findBeside_L34, show nI p + 1 = nI (p + 1) by rw [k1, n_add], if_pos (n_in (by omega) (by omega)), n_ixn (by omega), h20, if_pos (by rw [n_le (by omega) (by omega)]; omega)]; rfl, R, Frm.rf⟩
  | n + 1, j, fu, m, B, T, hn, hj, hf, R, hB, A, h20, ht => by
    obtain ⟨f, rfl⟩ : ∃ f, fu = f + 1 := ⟨fu - 1, by omega⟩
    have P4 := I.pt
    have t4 := I.1.le
    have sm := I.sm (p := p + 1) (by omega)
    have hq := I.1.qu j (by omega)
    obtain ⟨a1, b1, c1, -⟩ := ls4_ok I.lab hq hB
    obtain ⟨m1, e1, r1, F1⟩ := la_four R I.lab A.1 hB hq (by omega) (by omega)
    obtain ⟨m2, e2, r2, F2⟩ := la_seg (kx := kx) I hp n (j + 1) f m1 _ _ (by omega) (by omega) (by omega) r1 a1 ⟨fun s hs => by rw [F1.I 18 s rfl]; exact A.1 s hs, fun i hi => by rw [F1.I 19 i rfl]; exact A.2 i hi⟩ (by rw [F1.I 20 _ rfl]; exact h20) (by omega)
    refine ⟨m2, ?_, r2, F1.tr F2⟩
    rw [PC_findBeside_L34, show nI p + 1 = nI (p + 1) by rw [k1, n_add], if_pos (n_in (by omega) (by omega)), n_ixn (by omega), h20, if_neg (by rw [n_le (by omega) (by omega)]; omega), if_pos (n_in (by omega) (by omega)), n_ixn (by omega), A.2 j (by omega), e1, bV_s, show nI j + 1 = nI (j + 1) by rw [k1, n_add], e2]
    rfl
/-- what the class tells of the pieces beside -/
def BsD (C : ScF) (E : Nat → Nat) (off : Nat → Nat) (n : Nat) : Prop := off 0 = 0 ∧ ∀ p, p < n → off p ≤ off (p + 1) ∧ (∀ q, nbr C p q ↔ ∃ j, off p ≤ j ∧ j < off (p + 1) ∧ E j = q) ∧ ∃ b : Nat → Bool, (∀ q, b q = true ↔ nbr C p q) ∧ off (p + 1) = off p + cntB b 400
theorem la_all {C : ScF} {kx : Mem → Int32 → Option Mem} (I : IC 400 C) : ∀ (n p fu : Nat) (m : Mem) (B : StF) (off : Nat → Nat), p + n = C.P → n < fu → CL m B → CC m C → gI m 20 C.P = nI (C.start C.P) → (∀ q, -1 ≤ B.lab q ∧ B.lab q < p) → B.t ≤ 4 * C.start p → BsD C B.que off p → off p = B.t → (∀ i, i < p → gI m 22 i = nI (off i)) →
    ∃ m' E off', PC_findBeside_L12 kx fu m (nI B.t) (nI p) = kx m' (nI (off' C.P)) ∧ BsD C E off' C.P ∧ (∀ i, i < C.P → gI m' 22 i = nI (off' i)) ∧ (∀ j, j < off' C.P → gI m' 21 j = nI (E j)) ∧ off' C.P ≤ 1600 ∧ Frm [(21, 999999), (22, 999999), (23, 999999)] [] m m'
  | 0, p, fu, m, B, off, hn, hf, R, A, h20, hZ, ht, hD, ho, h22 => by
    obtain ⟨f, rfl⟩ : ∃ f, fu = f + 1 := ⟨fu - 1, by omega⟩
    have P4 := I.pt
    have t4 := I.1.le
    have sm := I.sm (p := C.P) (by omega)
    obtain rfl : p = C.P := by omega
    refine ⟨m, B.que, off, ?_, hD, h22, fun j hj => R.2 j (by omega), by omega, Frm.rf⟩
    rw [PC_findBeside_L12, A.2.1, if_pos (by rw [n_le (by omega) (by omega)]; omega), ho]
  | n + 1, p, fu, m, B, off, hn, hf, R, A, h20, hZ, ht, hD, ho, h22 => by
    obtain ⟨f, rfl⟩ : ∃ f, fu = f + 1 := ⟨fu - 1, by omega⟩
    have P4 := I.pt
    have t4 := I.1.le
    have hp : p < C.P := by omega
    have sm := I.sm (p := p + 1) (by omega)
    have lt := I.2.2.1 p hp
    have F0 : Frm [(21, 999999), (22, 999999), (23, 999999)] [] m (sI m 22 p (nI B.t)) := Frm.sI rfl rfl
    have c0 : cntB (fun q => decide (B.lab q = (p : Int))) 400 = 0 := by
      have : ∀ n, cntB (fun q => decide (B.lab q = (p : Int))) n = 0 := by
        intro n
        induction n with
        | zero => rfl
        | succ n ih =>
          simp only [cntB]
          rw [ih, if_neg]
          have := hZ n
          simp
          omega
      exact this 400
    have hB : LI p B.t B (fun _ => False) := ⟨Nat.le_refl _, fun q => ⟨fun z => by have := hZ q; omega, False.elim⟩, fun q z => z.elim, fun j a b => by omega, by rw [c0]; rfl, fun q => by have := hZ q; omega⟩
    have h20' : gI m 20 (p + 1) = nI (C.start (p + 1)) := by
      by_cases z : p + 1 = C.P
      · rw [z]; exact h20
      · exact A.2.2 _ (by omega)
    have R0 : CL (sI m 22 p (nI B.t)) B := ⟨fun q hq => by rw [gI_sI, if_neg (by omega)]; exact R.1 q hq, fun j hj => by rw [gI_sI, if_neg (by omega)]; exact R.2 j hj⟩
    obtain ⟨m1, e1, r1, F1⟩ := la_seg (kx := fun m5 y4 => PC_findBeside_L12 kx f m5 y4 (nI p + 1)) I hp (C.start (p + 1) - C.start p) (C.start p) FU _ B _ (by omega) (by omega) (by unfold FU; omega) R0 hB ⟨fun s hs => by rw [gI_sI, if_neg (by omega)]; exact A.1.1 s hs, fun j hj => by rw [gI_sI, if_neg (by omega)]; exact A.1.2 j hj⟩ (by rw [gI_sI, if_neg (by omega)]; exact h20') ht
    obtain ⟨a2, b2, c2, d2⟩ := lsg_ok (lab := C.S.lab) (que := C.S.que) (p := (p : Int)) I.lab (C.start (p + 1) - C.start p) (C.start p) B _ (fun i x y => I.1.qu i (by omega)) hB
    generalize hB' : lsg C.S.lab C.S.que (p : Int) (C.start (p + 1) - C.start p) (C.start p) B = B' at e1 r1 a2 b2 c2 d2
    have FF := F0.tr (F1.mo (wL_sub rfl))
    have a3 : LI p B.t B' (nbr C p) := a2.cg fun q => by
      refine ⟨?_, ?_⟩
      · rintro (z | ⟨i, x, y, z⟩)
        · exact z.elim
        · exact ⟨C.S.que i, I.1.qu i (by omega), I.2.2.2.1 p hp i x (by omega), z⟩
      · rintro ⟨v, hv, lv, z⟩
        obtain ⟨i, x, y, w⟩ := (I.sqs hp hv).mp lv
        exact Or.inr ⟨i, x, by omega, by rw [w]; exact z⟩
    obtain ⟨g0, g1, g2, g3, g4, g5⟩ := a3
    have u : ∀ i, i ≤ p → upn off (p + 1) B'.t i = off i := fun i hi => upn_ne (by omega)
    have hD' : BsD C B'.que (upn off (p + 1) B'.t) (p + 1) := by
      refine ⟨by rw [u 0 (by omega)]; exact hD.1, fun i hi => ?_⟩
      rw [u i (by omega)]
      by_cases z : i = p
      · subst z
        rw [upn_eq, ho]
        refine ⟨g0, fun q => ⟨fun y => (g2 q y).2, ?_⟩, fun q => decide (B'.lab q = (i : Int)), fun q => by rw [decide_eq_true_iff, g1], g4⟩
        rintro ⟨j, x, y, w⟩
        rw [← w]
        exact g3 j x y
      · obtain ⟨q1, q2, q3⟩ := hD.2 i (by omega)
        rw [u (i + 1) (by omega)]
        refine ⟨q1, fun q => (q2 q).trans ?_, q3⟩
        have mono : off (i + 1) ≤ off p := by
          have : ∀ d, i + 1 + d ≤ p → off (i + 1) ≤ off (i + 1 + d) := by
            intro d
            induction d with
            | zero => intro _; exact Nat.le_refl _
            | succ d ih => intro hd; exact Nat.le_trans (ih (by omega)) (hD.2 _ (by omega)).1
          have := this (p - (i + 1)) (by omega)
          rwa [show i + 1 + (p - (i + 1)) = p by omega] at this
        refine ⟨fun ⟨j, y1, y2, y3⟩ => ⟨j, y1, y2, ?_⟩, fun ⟨j, y1, y2, y3⟩ => ⟨j, y1, y2, ?_⟩⟩
        · rw [d2 j (by omega)]; exact y3
        · rw [d2 j (by omega)] at y3; exact y3
    obtain ⟨m2, E, off', e2, k1', k2', k3', k4', F2⟩ := la_all (kx := kx) I n (p + 1) f m1 B' (upn off (p + 1) B'.t) (by omega) (by omega) r1 ⟨⟨fun s hs => by rw [FF.I 18 s rfl]; exact A.1.1 s hs, fun j hj => by rw [FF.I 19 j rfl]; exact A.1.2 j hj⟩, by rw [FF.I 17 0 rfl]; exact A.2.1, fun i hi => by rw [FF.I 20 i rfl]; exact A.2.2 i hi⟩ (by rw [FF.I 20 _ rfl]; exact h20) (fun q => by have := g5 q; omega) (by omega) hD' (upn_eq _ _ _) (fun i hi => by
      rw [F1.I 22 i rfl, gI_sI, u i (by omega)]
      by_cases z : i = p
      · rw [if_pos ⟨rfl, z⟩, z, ho]
      · rw [if_neg (fun y => z y.2)]; exact h22 i (by omega))
    refine ⟨m2, E, off', ?_, k1', k2', k3', k4', FF.tr F2⟩
    have g20 : gI (sI m 22 p (nI B.t)) 20 p = nI (C.start p) := by rw [gI_sI, if_neg (by omega)]; exact A.2.2 p hp
    rw [PC_findBeside_L12, A.2.1, if_neg (by rw [n_le (by omega) (by omega)]; omega), if_pos (n_in (by omega) (by omega)), n_ixn (by omega), letM_o, g20, letV_o, e1, show nI p + 1 = nI (p + 1) by rw [k1, n_add], e2]
/-- the class's pieces -/
def PcD (m : Mem) (C : ScF) : Prop := CA m C.S ∧ gI m 17 0 = nI C.P ∧ (∀ p, p ≤ C.P → gI m 20 p = nI (C.start p)) ∧ ∃ E off, BsD C E off C.P ∧ (∀ p, p ≤ C.P → gI m 22 p = nI (off p)) ∧ (∀ j, j < off C.P → gI m 21 j = nI (E j)) ∧ off C.P ≤ 1600
def BF0 : StF := (fun _ => -1, fun _ => 0, 0)
theorem find_eq {m : Mem} {H : Nat → Bool} (h6 : ∀ s, s < 400 → gI m 6 s = b2i (H s)) : ∃ m', PC_find m 5 = some m' ∧ PcD m' (pcs H) ∧ Frm W_PC_find [] m m' := by
  have I := pcs_ok H
  have P4 := I.pt
  have t4 := I.1.le
  obtain ⟨m1, e1, a1, F1⟩ := fill_eq (m := m) (a := 18) (L := 400) (v := -1) rfl (by omega)
  have F0 : Frm [(17, 0)] [(18, 1)] m (sI m1 17 0 0) := (F1.mo (wL_sub rfl)).tr (Frm.sI rfl rfl)
  have R : CC (sI m1 17 0 0) C0 := ⟨⟨fun s hs => by rw [gI_sI, if_neg (by omega), a1, if_pos ⟨rfl, hs⟩]; rfl, fun j hj => absurd hj (Nat.not_lt_zero _)⟩, by rw [gI_sI, if_pos ⟨rfl, rfl⟩]; rfl, fun p hp => absurd hp (Nat.not_lt_zero _)⟩
  obtain ⟨m2, e2, r2, F2⟩ := fa_scan (H := H) (kx := fun m5 y4 => if inb (gI m5 17 0) 401 then (letM (sI m5 20 (ixn (gI m5 17 0)) y4) fun m7 => bM (PC_findBeside m7) fun m8 => some m8) else none) 400 0 FU _ C0 (by omega) (by unfold FU; omega) R C0_ok (fun s hs => by rw [gI_sI, if_neg (by omega), a1, if_neg (by omega)]; exact h6 s hs)
  rw [show scn H 400 0 C0 = pcs H from rfl] at e2 r2
  generalize hC : pcs H = C at e2 r2 I P4 t4 ⊢
  let m3 := sI m2 20 C.P (nI C.S.t)
  have h3 : m3 = sI m2 20 C.P (nI C.S.t) := rfl
  obtain ⟨m4, e4, a4, F4⟩ := fill_eq (m := m3) (a := 23) (L := 400) (v := -1) rfl (by omega)
  have g4 : ∀ c j, c ≠ 23 → gI m4 c j = gI m3 c j := fun c j z => by rw [a4, if_neg (fun y => z y.1)]
  have A4 : CC m4 C := by
    refine ⟨⟨fun s hs => by rw [g4 _ _ (by omega), h3, gI_sI, if_neg (by omega)]; exact r2.1.1 s hs, fun j hj => by rw [g4 _ _ (by omega), h3, gI_sI, if_neg (by omega)]; exact r2.1.2 j hj⟩, by rw [g4 _ _ (by omega), h3, gI_sI, if_neg (by omega)]; exact r2.2.1, fun p hp => by rw [g4 _ _ (by omega), h3, gI_sI, if_neg (by omega)]; exact r2.2.2 p hp⟩
  have h20 : gI m4 20 C.P = nI (C.start C.P) := by rw [g4 _ _ (by omega), h3, gI_sI, if_pos ⟨rfl, rfl⟩, I.2.1]
  obtain ⟨m5, E, off, e5, d5, d6, d7, d8, F5⟩ := la_all (kx := fun m4 y3 => if inb (gI m4 17 0) 401 then (letM (sI m4 22 (ixn (gI m4 17 0)) y3) fun m6 => some m6) else none) I C.P 0 FU m4 BF0 (fun _ => 0) (by omega) (by unfold FU; omega) ⟨fun q hq => by rw [a4, if_pos ⟨rfl, hq⟩]; rfl, fun j hj => absurd hj (Nat.not_lt_zero _)⟩ A4 h20 (fun q => ⟨Int.le_refl _, (by decide : (-1 : Int) < 0)⟩) (Nat.zero_le _) ⟨rfl, fun p hp => absurd hp (Nat.not_lt_zero _)⟩ rfl (fun i hi => absurd hi (Nat.not_lt_zero _))
  have g17 : gI m5 17 0 = nI C.P := by rw [F5.I 17 0 rfl]; exact A4.2.1
  have eF : PC_findBeside m3 = some (sI m5 22 C.P (nI (off C.P))) := by
    unfold PC_findBeside
    rw [e4, bM_s]
    rw [show nI BF0.t = 0 from rfl, show nI 0 = 0 from k0.symm] at e5
    rw [e5, g17, if_pos (n_in (by omega) (by omega)), n_ixn (by omega), letM_o]
  have eR : PC_find m 5 = some (sI m5 22 C.P (nI (off C.P))) := by
    unfold PC_find
    rw [show nI C0.S.t = 0 from rfl, show nI 0 = 0 from k0.symm] at e2
    rw [e1, bM_s, letM_o, e2, r2.2.1, if_pos (n_in (by omega) (by omega)), n_ixn (by omega), letM_o, ← h3, eF, bM_s]
  refine ⟨_, eR, ⟨⟨fun s hs => by rw [gI_sI, if_neg (by omega), F5.I 18 s rfl]; exact A4.1.1 s hs, fun j hj => by rw [gI_sI, if_neg (by omega), F5.I 19 j rfl]; exact A4.1.2 j hj⟩, by rw [gI_sI, if_neg (by omega)]; exact g17, fun p hp => ?_, E, off, d5, fun p hp => ?_, fun j hj => by rw [gI_sI, if_neg (by omega)]; exact d7 j hj, d8⟩, PC_find_fr (wL_sub rfl) m 5 _ eR⟩
  · rw [gI_sI, if_neg (by omega), F5.I 20 p rfl]
    by_cases z : p = C.P
    · rw [z]; exact h20
    · exact A4.2.2 p (by omega)
  · rw [gI_sI]
    by_cases z : p = C.P
    · rw [if_pos ⟨rfl, z⟩, z]
    · rw [if_neg (fun y => z y.2)]; exact d6 p (by omega)

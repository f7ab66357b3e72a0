/-! claims, the reference's row -/
abbrev Lcb : List (Nat × Nat) := [(133, 4), (133, 10), (133, 11), (133, 12), (133, 13), (133, 16), (133, 17), (133, 23), (133, 24), (133, 28)]
/-- what the reference knows while it hears claims -/
def CR1 (m : Mem) (n H : Nat) (U V : Nat → Int) (lw ed : Int32) (g : Nat → Int64) (hx hy : Nat → Nat) : Prop := H ≤ 10 ∧ gI m 135 1 = nI H ∧ (∀ t, t < H → gJ m 137 (3 + t) = g t) ∧ (∀ t, t < H → gI m 135 (86 + 3 * t) = nI (hx t) ∧ gI m 135 (86 + 3 * t + 1) = nI (hy t) ∧ hx t < 20 ∧ hy t < 20) ∧ (∀ k, k < 17 → gJ m 138 k = resW.getD k 0) ∧ gI m 135 4 = lw ∧ gI m 135 5 = ed ∧ PolyR m n (fun i => 2 * U i) (fun i => 2 * V i)
theorem CR1.fr {m m' : Mem} {n H : Nat} {U V : Nat → Int} {lw ed : Int32} {g : Nat → Int64} {hx hy : Nat → Nat} (h : CR1 m n H U V lw ed g hx hy) (F : Frm ((133, 14) :: (133, 15) :: Lcb) [] m m') : CR1 m' n H U V lw ed g hx hy := by
  obtain ⟨h1, h2, h3, h4, h5, h6, h7, h8⟩ := h
  exact ⟨h1, by rw [F.I 135 1 rfl]; exact h2, fun t ht => by rw [F.J 137 _ rfl]; exact h3 t ht, fun t ht => by rw [F.I 135 _ rfl, F.I 135 _ rfl]; exact h4 t ht, fun k hk => by rw [F.J 138 k rfl]; exact h5 k hk, by rw [F.I 135 4 rfl]; exact h6, by rw [F.I 135 5 rfl]; exact h7, h8.fr F rfl (fun _ => rfl) (fun _ => rfl)⟩
theorem CKB.fr {m m' : Mem} {b : Nat → Nat} {L M p : Nat} {A : List (Nat × Nat)} (K : CKB m b L M p) (F : Frm A [] m m') (h : ∀ j, j = 4 ∨ j = 10 ∨ j = 11 ∨ j = 13 ∨ j = 16 → wL A 133 j = false) : CKB m' b L M p := ⟨by rw [F.I 133 10 (h 10 (by omega))]; exact K.1, by rw [F.I 133 11 (h 11 (by omega))]; exact K.2.1, fun z => by rw [F.I 133 4 (h 4 (by omega))]; exact K.2.2.1 z, fun z => by rw [F.J 133 16 (h 16 (by omega))]; exact K.2.2.2.1 z, fun z => by rw [F.I 133 13 (h 13 (by omega))]; exact K.2.2.2.2.1 z, fun z => by rw [F.I 133 13 (h 13 (by omega))]; exact K.2.2.2.2.2 z⟩
theorem TB.fr2 {m m' : Mem} {b : Nat → Nat} {L M : Nat} {A : List (Nat × Nat)} (T : TB m b L M) (F : Frm A [] m m') (h3 : wL A 133 3 = false) (h5 : wL A 133 5 = false) (h134 : ∀ k, wL A 134 k = false) : TB m' b L M := ⟨T.1, T.2.1, by rw [F.I 133 3 h3]; exact T.2.2.1, by rw [F.I 133 5 h5]; exact T.2.2.2.1, fun i hi => by rw [F.I 134 i (h134 i)]; exact T.2.2.2.2 i hi⟩
/-- the verdict: x and y are doubled (and one more, for a square) -/
theorem verdict {m : Mem} {b : Nat → Nat} {L M n H p : Nat} {U V : Nat → Int} {lw ed : Int32} {g : Nat → Int64} {hx hy : Nat → Nat} {x y : Int} (pt : Bool) (T : TB m b L M) (K : CKB m b L M p) (C : CR1 m n H U V lw ed g hx hy) (hp : p ≤ L) (hX : bd 100 x) (hY : bd 100 y) :
    ∃ m', ((tkK b L M p = 1 ∧ 7 ≤ wno (tkW b L M p) ∧ wno (tkW b L M p) ≤ (if pt then 9 else 8) ∧ RM_claim_J151 m (b2i pt) (iz x) (iz y) = some (1, m') ∧ gI m' 133 28 = b2i (if wno (tkW b L M p) = 9 then onP (fun i => 2 * U i) (fun i => 2 * V i) x y n else hisP lw ed (fun i => 2 * U i) (fun i => 2 * V i) x y n == decide (wno (tkW b L M p) = 8)) ∧ CKB m' b L M (tkN b L M p) ∧ TB m' b L M ∧ Frm Lcb [] m m') ∨ (¬ (tkK b L M p = 1 ∧ 7 ≤ wno (tkW b L M p) ∧ wno (tkW b L M p) ≤ (if pt then 9 else 8)) ∧ RM_claim_J151 m (b2i pt) (iz x) (iz y) = some (0, m') ∧ gI m' 133 14 = 1 ∧ gI m' 133 15 = nI (tkS b L M p) ∧ Frm ((133, 14) :: (133, 15) :: Lcb) [] m m')) := by
  have wl := wno_le (tkW b L M p)
  have on1 := isWordB K 28526
  have hi1 := isWordB K 6842739
  have pa1 := isWordB K 123563833652072
  have e9 : tkW b L M p = 28526 ↔ wno (tkW b L M p) = 9 := by rw [← w9, show (9 : Int32) = nI 9 from rfl, wn (by omega)]
  have e8 : tkW b L M p = 6842739 ↔ wno (tkW b L M p) = 8 := by rw [← w8, show (8 : Int32) = nI 8 from rfl, wn (by omega)]
  have e7 : tkW b L M p = 123563833652072 ↔ wno (tkW b L M p) = 7 := by rw [← w7, show (7 : Int32) = nI 7 from rfl, wn (by omega)]
  simp only [e9] at on1
  simp only [e8] at hi1
  simp only [e7] at pa1
  obtain ⟨-, -, -, -, -, clw, ced, cP⟩ := id C
  -- set the verdict, and go on
  have fin : ∀ m1 v, Frm [(133, 23), (133, 24)] [] m m1 → tkK b L M p = 1 → ∃ m', RM_claim_J244 (sI m1 133 28 v) = some (1, m') ∧ gI m' 133 28 = v ∧ CKB m' b L M (tkN b L M p) ∧ TB m' b L M ∧ Frm Lcb [] m m' := by
    intro m1 v F1 z
    have F2 : Frm [(133, 23), (133, 24), (133, 28)] [] m (sI m1 133 28 v) := (F1.mo (wL_sub rfl)).tr (Frm.sI rfl rfl)
    have t1 := tkN_gt (b := b) (L := L) (M := M) (p := p) (Or.inl z)
    have K2 : CKB (sI m1 133 28 v) b L M p := K.fr F2 (fun j hj => by rcases hj with rfl | rfl | rfl | rfl | rfl <;> rfl)
    obtain ⟨m3, e3, K3, T3, F3⟩ := nxt (T.fr2 F2 rfl rfl (fun _ => rfl)) (K2.2.2.1 (Or.inl z)) t1.2.1
    exact ⟨m3, by rw [RM_claim_J244, e3, bM_s], by rw [F3.I 133 28 rfl, gI_sI, if_pos ⟨rfl, rfl⟩], K3, T3, (F2.mo (wL_sub rfl)).tr (F3.mo (wL_sub rfl))⟩
  have bad : RM_bad m 1 = some (0, sI (sI m 133 14 1) 133 15 (nI (tkS b L M p))) := by
    have : gI (sI m 133 14 1) 133 11 = nI (tkS b L M p) := by rw [gI_sI, if_neg (by omega), K.2.1]
    rw [RM_bad, letM_p, this, letM_p]
  obtain ⟨mh, eh, Fh⟩ := isHis_eq (x := x) (y := y) cP hX hY
  rw [clw, ced] at eh
  have J180 : RM_claim_J180 m (iz x) (iz y) = if tkK b L M p = 1 ∧ wno (tkW b L M p) = 8 then RM_claim_J244 (sI mh 133 28 (b2i (hisP lw ed (fun i => 2 * U i) (fun i => 2 * V i) x y n))) else if tkK b L M p = 1 ∧ wno (tkW b L M p) = 7 then RM_claim_J244 (sI mh 133 28 (b2i (!hisP lw ed (fun i => 2 * U i) (fun i => 2 * V i) x y n))) else some (0, sI (sI m 133 14 1) 133 15 (nI (tkS b L M p))) := by
    rw [RM_claim_J180, hi1, pa1, bad, eh, bV_s, bV_s, bV_s, letM_p, letM_p, letM_p]
    by_cases z : tkK b L M p = 1 ∧ wno (tkW b L M p) = 8
    · rw [if_pos z, if_neg (by decide), if_pos z, if_pos (by cases hisP lw ed (fun i => 2 * U i) (fun i => 2 * V i) x y n <;> decide)]
    · rw [if_neg z, if_pos rfl, if_neg z]
      by_cases w : tkK b L M p = 1 ∧ wno (tkW b L M p) = 7
      · rw [if_pos w, if_neg (by decide), if_pos w]
        cases hisP lw ed (fun i => 2 * U i) (fun i => 2 * V i) x y n <;> rfl
      · rw [if_neg w, if_pos rfl, if_neg w, if_pos (Or.inl rfl)]
  have Fbad : Frm ((133, 14) :: (133, 15) :: Lcb) [] m (sI (sI m 133 14 1) 133 15 (nI (tkS b L M p))) := (Frm.sI rfl rfl).tr (Frm.sI rfl rfl)
  have vbad : gI (sI (sI m 133 14 1) 133 15 (nI (tkS b L M p))) 133 14 = 1 ∧ gI (sI (sI m 133 14 1) 133 15 (nI (tkS b L M p))) 133 15 = nI (tkS b L M p) := ⟨by rw [gI_sI, if_neg (by omega), gI_sI, if_pos ⟨rfl, rfl⟩], by rw [gI_sI, if_pos ⟨rfl, rfl⟩]⟩
  have viaJ : RM_claim_J151 m (b2i pt) (iz x) (iz y) = RM_claim_J180 m (iz x) (iz y) → (tkK b L M p = 1 ∧ wno (tkW b L M p) = 9 → pt = false) → ∃ m', ((tkK b L M p = 1 ∧ 7 ≤ wno (tkW b L M p) ∧ wno (tkW b L M p) ≤ (if pt then 9 else 8) ∧ RM_claim_J151 m (b2i pt) (iz x) (iz y) = some (1, m') ∧ gI m' 133 28 = b2i (if wno (tkW b L M p) = 9 then onP (fun i => 2 * U i) (fun i => 2 * V i) x y n else hisP lw ed (fun i => 2 * U i) (fun i => 2 * V i) x y n == decide (wno (tkW b L M p) = 8)) ∧ CKB m' b L M (tkN b L M p) ∧ TB m' b L M ∧ Frm Lcb [] m m') ∨ (¬ (tkK b L M p = 1 ∧ 7 ≤ wno (tkW b L M p) ∧ wno (tkW b L M p) ≤ (if pt then 9 else 8)) ∧ RM_claim_J151 m (b2i pt) (iz x) (iz y) = some (0, m') ∧ gI m' 133 14 = 1 ∧ gI m' 133 15 = nI (tkS b L M p) ∧ Frm ((133, 14) :: (133, 15) :: Lcb) [] m m')) := by
    intro eJ h9
    rw [eJ, J180]
    have l8 : (8 : Nat) ≤ (if pt then 9 else 8) := by split <;> omega
    by_cases z : tkK b L M p = 1 ∧ wno (tkW b L M p) = 8
    · obtain ⟨m', f1, f2, f3, f4, f5⟩ := fin mh (b2i (hisP lw ed (fun i => 2 * U i) (fun i => 2 * V i) x y n)) Fh z.1
      refine ⟨m', Or.inl ⟨z.1, by omega, by omega, by rw [if_pos z, f1], ?_, f3, f4, f5⟩⟩
      rw [f2, z.2, if_neg (by omega)]; simp
    · by_cases w : tkK b L M p = 1 ∧ wno (tkW b L M p) = 7
      · obtain ⟨m', f1, f2, f3, f4, f5⟩ := fin mh (b2i (!hisP lw ed (fun i => 2 * U i) (fun i => 2 * V i) x y n)) Fh w.1
        refine ⟨m', Or.inl ⟨w.1, by omega, by omega, by rw [if_neg z, if_pos w, f1], ?_, f3, f4, f5⟩⟩
        rw [f2, w.2, if_neg (by omega)]; simp
      · refine ⟨_, Or.inr ⟨fun t => ?_, by rw [if_neg z, if_neg w], vbad.1, vbad.2, Fbad⟩⟩
        obtain ⟨t1, t2, t3⟩ := t
        have : wno (tkW b L M p) = 9 := by
          by_cases y : wno (tkW b L M p) = 8
          · exact absurd ⟨t1, y⟩ z
          · by_cases y' : wno (tkW b L M p) = 7
            · exact absurd ⟨t1, y'⟩ w
            · split at t3 <;> omega
        rw [h9 ⟨t1, this⟩] at t3
        simp at t3
        omega
  by_cases z : tkK b L M p = 1 ∧ wno (tkW b L M p) = 9
  · cases hpt : pt with
    | false =>
      subst hpt
      refine viaJ ?_ (fun _ => rfl)
      rw [RM_claim_J151, on1, if_pos z, if_neg (by decide), if_pos (by decide)]
    | true =>
      have ol := isOnLine_eq (x := x) (y := y) cP hX hY
      obtain ⟨m', f1, f2, f3, f4, f5⟩ := fin m (b2i (onP (fun i => 2 * U i) (fun i => 2 * V i) x y n)) Frm.rf z.1
      refine ⟨m', Or.inl ⟨z.1, by omega, by simp; omega, ?_, by rw [f2, if_pos z.2], f3, f4, f5⟩⟩
      rw [RM_claim_J151, on1, if_pos z, if_neg (by decide), if_neg (by decide), ol, bI_s, if_pos (by cases onP (fun i => 2 * U i) (fun i => 2 * V i) x y n <;> decide), letM_p, f1]
  · refine viaJ ?_ (fun t => absurd t z)
    rw [RM_claim_J151, on1, if_neg z, if_pos rfl]

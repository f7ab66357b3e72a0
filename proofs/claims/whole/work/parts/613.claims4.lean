theorem two1_n (a : Nat) : 2 * nI a + 1 = iz (2 * (a : Int) + 1) := by rw [two_n, show (1 : Int32) = iz 1 from rfl, iz_add]
theorem cB_row {m : Mem} {b : Nat → Nat} {L M n H row p : Nat} {U V : Nat → Int} {lw ed : Int32} {g : Nat → Int64} {hx hy : Nat → Nat} (T : TB m b L M) (K : CKB m b L M p) (C : CR1 m n H U V lw ed g hx hy) (hp : p ≤ L) (hr : row ≤ 30) :
    ∃ m' o, o = cRow b L M (fun x y => hisP lw ed U V x y n) (fun x y => onP U V x y n) (fun t => hisP lw ed (fun i => 2 * U i) (fun i => 2 * V i) (2 * (hx t : Int) + 1) (2 * (hy t : Int) + 1) n) (fun W => fst1 g W H 0) row p ∧ ((o.1 = 0 ∧ row < 30 ∧ RM_claim m (nI row) = some (1, m') ∧ gI m' 133 28 = b2i o.2.2.1 ∧ CKB m' b L M o.2.2.2 ∧ TB m' b L M ∧ Frm Lcb [] m m') ∨ (0 < o.1 ∧ RM_claim m (nI row) = some (0, m') ∧ gI m' 133 14 = nI o.1 ∧ gI m' 133 15 = nI o.2.1 ∧ Frm ((133, 14) :: (133, 15) :: Lcb) [] m m')) := by
  have wl := wno_le (tkW b L M p)
  have pt1 := isWordB K 482905517684
  have e16 : tkW b L M p = 482905517684 ↔ wno (tkW b L M p) = 16 := by rw [← w16, show (16 : Int32) = nI 16 from rfl, wn (by omega)]
  simp only [e16] at pt1
  have nm1 := isNameB K C.2.2.2.2.1
  have H10 := C.1
  have bad : ∀ x : Int32, RM_bad m x = some (0, sI (sI m 133 14 x) 133 15 (nI (tkS b L M p))) := fun x => by
    have : gI (sI m 133 14 x) 133 11 = nI (tkS b L M p) := by rw [gI_sI, if_neg (by omega), K.2.1]
    rw [RM_bad, letM_p, this, letM_p]
  have vbad : ∀ x : Int32, gI (sI (sI m 133 14 x) 133 15 (nI (tkS b L M p))) 133 14 = x ∧ gI (sI (sI m 133 14 x) 133 15 (nI (tkS b L M p))) 133 15 = nI (tkS b L M p) := fun x => ⟨by rw [gI_sI, if_neg (by omega), gI_sI, if_pos ⟨rfl, rfl⟩], by rw [gI_sI, if_pos ⟨rfl, rfl⟩]⟩
  have Fbad : ∀ x : Int32, Frm ((133, 14) :: (133, 15) :: Lcb) [] m (sI (sI m 133 14 x) 133 15 (nI (tkS b L M p))) := fun x => (Frm.sI rfl rfl).tr (Frm.sI rfl rfl)
  have c30 : (nI row = 30) ↔ row = 30 := by rw [show (30 : Int32) = nI 30 from rfl, n_eq (by omega) (by omega)]
  by_cases h16 : tkK b L M p = 1 ∧ wno (tkW b L M p) = 16
  · rw [if_pos h16] at pt1
    have t1 := tkN_gt (b := b) (L := L) (M := M) (p := p) (Or.inl h16.1)
    have eC : RM_claim m (nI row) = RM_claim_J44 m (nI row) 1 0 := by
      rw [RM_claim, pt1, letV_p, if_neg (by decide), RM_claim_J25, if_neg (by decide)]
    unfold cRow
    rw [if_pos h16]
    by_cases h30 : row = 30
    · rw [if_pos (by omega)]
      refine ⟨_, _, rfl, Or.inr ⟨by show 0 < 4; omega, ?_, (vbad 4).1, (vbad 4).2, Fbad 4⟩⟩
      rw [eC, RM_claim_J44, if_pos (by decide), if_pos (c30.mpr h30), bad, bV_s, if_pos (Or.inl rfl)]
    · rw [if_neg (by omega)]
      obtain ⟨m1, e1, K1, T1, F1⟩ := nxt T (K.2.2.1 (Or.inl h16.1)) t1.2.1
      have F1' : Frm Lcb [] m m1 := F1.mo (wL_sub rfl)
      obtain ⟨m2, e2, a1, a2⟩ := takesB T1 K1 t1.2.1 0 20 (by omega) (by omega)
      have eJ : RM_claim m (nI row) = bV (RM_takes m1 (nI 0) (nI 20)) fun v7 m8 => if v7 = 0 then (some (0, m8)) else (letV ((2 * (gI m8 133 17))) fun v10 => bV (RM_takes m8 0 20) fun v11 m12 => if v11 = 0 then (some (0, m12)) else (letV ((2 * (gI m12 133 17))) fun v14 => RM_claim_J151 m12 1 v10 v14)) := by
        rw [eC, RM_claim_J44, if_pos (by decide), if_neg (fun z => h30 (c30.mp z)), e1, bM_s, if_pos (by decide), letV_p, if_pos (by decide), letV_p, if_neg (by decide)]
        rfl
      by_cases hv : tkK b L M (tkN b L M p) = 2 ∧ 0 ≤ tkV b L M (tkN b L M p) ∧ tkV b L M (tkN b L M p) ≤ 20
      · rw [if_pos hv] at e2 ⊢
        obtain ⟨b1, K2, T2, F2⟩ := a1 hv
        have t2 := tkN_gt (b := b) (L := L) (M := M) (p := tkN b L M p) (Or.inr (Or.inl hv.1))
        have F12 : Frm Lcb [] m m2 := F1'.tr (F2.mo (wL_sub rfl))
        obtain ⟨m3, e3, c1, c2⟩ := takesB T2 K2 t2.2.1 0 20 (by omega) (by omega)
        by_cases hw : tkK b L M (tkN b L M (tkN b L M p)) = 2 ∧ 0 ≤ tkV b L M (tkN b L M (tkN b L M p)) ∧ tkV b L M (tkN b L M (tkN b L M p)) ≤ 20
        · rw [if_pos hw] at e3 ⊢
          obtain ⟨d1, K3, T3, F3⟩ := c1 hw
          have t3 := tkN_gt (b := b) (L := L) (M := M) (p := tkN b L M (tkN b L M p)) (Or.inr (Or.inl hw.1))
          have F13 : Frm Lcb [] m m3 := F12.tr (F3.mo (wL_sub rfl))
          have e3' : RM_takes m2 0 20 = some (1, m3) := e3
          have eV : RM_claim m (nI row) = RM_claim_J151 m3 (b2i true) (iz (2 * (tkV b L M (tkN b L M p) : Int))) (iz (2 * (tkV b L M (tkN b L M (tkN b L M p)) : Int))) := by
            rw [eJ, e2, bV_s, if_neg (by decide), b1, letV_p, e3', bV_s, if_neg (by decide), d1, letV_p, two_n, two_n]
            rfl
          obtain ⟨m4, vd⟩ := verdict (x := 2 * (tkV b L M (tkN b L M p) : Int)) (y := 2 * (tkV b L M (tkN b L M (tkN b L M p)) : Int)) true T3 K3 (C.fr (F13.mo (wL_sub rfl))) t3.2.1 (by omega) (by omega)
          simp only [if_true] at vd
          rcases vd with ⟨v1, v2, v3, v4, v5, v6, v7, v8⟩ | ⟨v1, v2, v3, v4, v5⟩
          · rw [if_pos ⟨v1, v2, v3⟩]
            refine ⟨m4, _, rfl, Or.inl ⟨rfl, by omega, by rw [eV, v4], ?_, v6, v7, F13.tr v8⟩⟩
            rw [v5, onP_two, hisP_two]
          · rw [if_neg v1]
            exact ⟨m4, _, rfl, Or.inr ⟨by show 0 < 1; omega, by rw [eV, v2], v3, v4, (F13.mo (wL_sub rfl)).tr v5⟩⟩
        · rw [if_neg hw] at e3 ⊢
          obtain ⟨d1, d2, F3⟩ := c2 hw
          have e3' : RM_takes m2 0 20 = some (0, m3) := e3
          refine ⟨m3, _, rfl, Or.inr ⟨by show 0 < (if _ then 2 else 1); split <;> omega, ?_, ?_, d2, (F12.mo (wL_sub rfl)).tr (F3.mo (wL_sub rfl))⟩⟩
          · rw [eJ, e2, bV_s, if_neg (by decide), b1, letV_p, e3', bV_s, if_pos rfl]
          · rw [d1]
            show _ = nI (if _ then 2 else 1)
            split <;> rfl
      · rw [if_neg hv] at e2 ⊢
        obtain ⟨d1, d2, F2⟩ := a2 hv
        refine ⟨m2, _, rfl, Or.inr ⟨by show 0 < (if _ then 2 else 1); split <;> omega, ?_, ?_, d2, (F1'.mo (wL_sub rfl)).tr (F2.mo (wL_sub rfl))⟩⟩
        · rw [eJ, e2, bV_s, if_pos rfl]
        · rw [d1]
          show _ = nI (if _ then 2 else 1)
          split <;> rfl
  · rw [if_neg h16] at pt1
    unfold cRow
    rw [if_neg h16]
    by_cases h17 : tkK b L M p = 1 ∧ wno (tkW b L M p) = 17
    · rw [if_pos h17] at nm1 ⊢
      have t1 := tkN_gt (b := b) (L := L) (M := M) (p := p) (Or.inl h17.1)
      have fd := find_eq1 (W := tkW b L M p) H10 (K.2.2.2.1 h17.1) C.2.2.1
      have eC : RM_claim m (nI row) = RM_claim_J44 m (nI row) 0 (enc (fst1 g (tkW b L M p) H 0)) := by
        rw [RM_claim, pt1, letV_p, if_pos rfl, nm1, bI_s, if_neg (by decide), RM_claim_J25, if_pos rfl, if_pos (by decide), show ixn 1 = 1 from rfl, C.2.1, fd, bI_s]
      cases hf : fst1 g (tkW b L M p) H 0 with
      | none =>
        rw [hf] at eC
        simp only [hf]
        refine ⟨_, _, rfl, Or.inr ⟨by show 0 < 3; omega, ?_, (vbad 3).1, (vbad 3).2, Fbad 3⟩⟩
        rw [eC, RM_claim_J44, show enc none = -1 from rfl, if_neg (by decide), bad, bV_s, if_pos (Or.inl rfl)]
      | some t =>
        rw [hf] at eC
        have hl := (fst1_lt H 0 t hf).2
        simp only [hf]
        have e0 : (0 : Int32) ≤ enc (some t) := by rw [show enc (some t) = nI t from rfl, k0, n_le (by omega) (by omega)]; omega
        by_cases h30 : row = 30
        · rw [if_pos (by omega)]
          refine ⟨_, _, rfl, Or.inr ⟨by show 0 < 4; omega, ?_, (vbad 4).1, (vbad 4).2, Fbad 4⟩⟩
          rw [eC, RM_claim_J44, if_pos e0, if_pos (c30.mpr h30), bad, bV_s, if_pos (Or.inl rfl)]
        · rw [if_neg (by omega)]
          obtain ⟨m1, e1, K1, T1, F1⟩ := nxt T (K.2.2.1 (Or.inl h17.1)) t1.2.1
          have F1' : Frm Lcb [] m m1 := F1.mo (wL_sub rfl)
          have C1 := C.fr (F1'.mo (wL_sub rfl))
          obtain ⟨q1, q2, q3, q4⟩ := C1.2.2.2.1 t (by omega)
          have e86 : 86 + 3 * nI t = nI (86 + 3 * t) := by rw [show (86 : Int32) = nI 86 from rfl, k3, n_mul, n_add]
          have eV : RM_claim m (nI row) = RM_claim_J151 m1 (b2i false) (iz (2 * (hx t : Int) + 1)) (iz (2 * (hy t : Int) + 1)) := by
            rw [eC, RM_claim_J44, if_pos e0, if_neg (fun z => h30 (c30.mp z)), e1, bM_s, show enc (some t) = nI t from rfl, e86, if_pos (n_in (by omega) (by omega)), n_ixn (by omega), q1, two1_n, letV_p, show nI (86 + 3 * t) + 1 = nI (86 + 3 * t + 1) by rw [k1, n_add], if_pos (n_in (by omega) (by omega)), n_ixn (by omega), q2, two1_n, letV_p, if_pos rfl]
            rfl
          obtain ⟨m4, vd⟩ := verdict (x := 2 * (hx t : Int) + 1) (y := 2 * (hy t : Int) + 1) false T1 K1 C1 t1.2.1 (by omega) (by omega)
          have ff : (if false = true then 9 else 8) = 8 := rfl
          rw [ff] at vd
          rcases vd with ⟨v1, v2, v3, v4, v5, v6, v7, v8⟩ | ⟨v1, v2, v3, v4, v5⟩
          · rw [if_pos ⟨v1, v2, v3⟩]
            refine ⟨m4, _, rfl, Or.inl ⟨rfl, by omega, by rw [eV, v4], ?_, v6, v7, F1'.tr v8⟩⟩
            rw [v5, if_neg (by omega)]
          · rw [if_neg v1]
            exact ⟨m4, _, rfl, Or.inr ⟨by show 0 < 1; omega, by rw [eV, v2], v3, v4, (F1'.mo (wL_sub rfl)).tr v5⟩⟩
    · rw [if_neg h17] at nm1 ⊢
      refine ⟨_, _, rfl, Or.inr ⟨by show 0 < 1; omega, ?_, (vbad 1).1, (vbad 1).2, Fbad 1⟩⟩
      rw [RM_claim, pt1, letV_p, if_pos rfl, nm1, bI_s, if_pos rfl, bad, bV_s, if_pos (Or.inl rfl)]

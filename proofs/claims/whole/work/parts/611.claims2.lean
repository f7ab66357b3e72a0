/-! claims: rows -/
def fst1 (g : Nat → Int64) (W : Int64) : Nat → Nat → Option Nat
  | 0, _ => none
  | d + 1, j => if g j = W then some j else fst1 g W d (j + 1)
theorem fst1_some {g : Nat → Int64} {W : Int64} : ∀ d j t, j ≤ t → t < j + d → g t = W → (∀ s, j ≤ s → s < t → g s ≠ W) → fst1 g W d j = some t
  | 0, j, t, h1, h2, _, _ => by omega
  | d + 1, j, t, h1, h2, h3, h4 => by
    unfold fst1
    by_cases q : t = j
    · subst q; rw [if_pos h3]
    · rw [if_neg (h4 j (Nat.le_refl _) (by omega))]
      exact fst1_some d (j + 1) t (by omega) (by omega) h3 (fun s a b => h4 s (by omega) b)
theorem fst1_none {g : Nat → Int64} {W : Int64} : ∀ d j, (∀ s, j ≤ s → s < j + d → g s ≠ W) → fst1 g W d j = none
  | 0, j, _ => rfl
  | d + 1, j, h => by
    unfold fst1
    rw [if_neg (h j (Nat.le_refl _) (by omega))]
    exact fst1_none d (j + 1) (fun s a b => h s (by omega) (by omega))
theorem fst1_lt {g : Nat → Int64} {W : Int64} : ∀ d j t, fst1 g W d j = some t → j ≤ t ∧ t < j + d
  | 0, j, t, h => by unfold fst1 at h; simp at h
  | d + 1, j, t, h => by
    unfold fst1 at h
    split at h
    · have := Option.some.inj h; omega
    · have := fst1_lt d (j + 1) t h; omega
theorem hayNamed_eq {m : Mem} {p H : Nat} {W : Int64} {g : Nat → Int64} (hH : H ≤ 10) (h7 : gI m p 7 = nI H) (hg : ∀ t, t < H → gJ m (p + 14) t = g t) : PH_hayNamed m p W = some (enc (fst1 g W H 0)) := by
  rcases hn_loop (W := W) hH h7 hg H 0 FU (by omega) (by unfold FU; omega) with ⟨t, a1, a2, a3, a4, a5⟩ | ⟨a1, a2⟩
  · rw [fst1_some H 0 t a1 (by omega) a3 a4]; exact a5
  · rw [fst1_none H 0 (fun s x y => a1 s x (by omega))]; exact a2
theorem find_eq1 {m : Mem} {H : Nat} {W : Int64} {g : Nat → Int64} (hH : H ≤ 10) (hW : gJ m 133 16 = W) (hg : ∀ t, t < H → gJ m 137 (3 + t) = g t) : RM_find m 3 (nI H) = some (enc (fst1 g W H 0)) := by
  rcases fd_loop (W := W) hH hW hg H 0 FU (by omega) (by unfold FU; omega) with ⟨t, a1, a2, a3, a4, a5⟩ | ⟨a1, a2⟩
  · rw [fst1_some H 0 t a1 (by omega) a3 a4]; exact a5
  · rw [fst1_none H 0 (fun s x y => a1 s x (by omega))]; exact a2
/-- what a claim's row comes to: (fault, where, is it so, behind it) -/
def cRow (b : Nat → Nat) (L M : Nat) (hisF onF : Nat → Nat → Bool) (hyF : Nat → Bool) (nmF : Int64 → Option Nat) (row p : Nat) : Nat × Nat × Bool × Nat :=
  if tkK b L M p = 1 ∧ wno (tkW b L M p) = 16 then
    (if 30 ≤ row then (4, tkS b L M p, false, 0)
    else if tkK b L M (tkN b L M p) = 2 ∧ 0 ≤ tkV b L M (tkN b L M p) ∧ tkV b L M (tkN b L M p) ≤ 20 then
      (if tkK b L M (tkN b L M (tkN b L M p)) = 2 ∧ 0 ≤ tkV b L M (tkN b L M (tkN b L M p)) ∧ tkV b L M (tkN b L M (tkN b L M p)) ≤ 20 then
        (if tkK b L M (tkN b L M (tkN b L M (tkN b L M p))) = 1 ∧ 7 ≤ wno (tkW b L M (tkN b L M (tkN b L M (tkN b L M p)))) ∧ wno (tkW b L M (tkN b L M (tkN b L M (tkN b L M p)))) ≤ 9 then
          (0, 0, (if wno (tkW b L M (tkN b L M (tkN b L M (tkN b L M p)))) = 9 then onF (tkV b L M (tkN b L M p)) (tkV b L M (tkN b L M (tkN b L M p))) else hisF (tkV b L M (tkN b L M p)) (tkV b L M (tkN b L M (tkN b L M p))) == decide (wno (tkW b L M (tkN b L M (tkN b L M (tkN b L M p)))) = 8)), tkN b L M (tkN b L M (tkN b L M (tkN b L M p))))
        else (1, tkS b L M (tkN b L M (tkN b L M (tkN b L M p))), false, 0))
      else ((if tkK b L M (tkN b L M (tkN b L M p)) = 2 then 2 else 1), tkS b L M (tkN b L M (tkN b L M p)), false, 0))
    else ((if tkK b L M (tkN b L M p) = 2 then 2 else 1), tkS b L M (tkN b L M p), false, 0))
  else if tkK b L M p = 1 ∧ wno (tkW b L M p) = 17 then
    (match nmF (tkW b L M p) with
    | none => (3, tkS b L M p, false, 0)
    | some h => if 30 ≤ row then (4, tkS b L M p, false, 0)
      else if tkK b L M (tkN b L M p) = 1 ∧ 7 ≤ wno (tkW b L M (tkN b L M p)) ∧ wno (tkW b L M (tkN b L M p)) ≤ 8 then
        (0, 0, hyF h == decide (wno (tkW b L M (tkN b L M p)) = 8), tkN b L M (tkN b L M p))
      else (1, tkS b L M (tkN b L M p), false, 0))
  else (1, tkS b L M p, false, 0)
theorem readWord_eq {m : Mem} {b : Nat → Nat} {L M p lo hi : Nat} (T : TA m b L M) (h10 : gI m 1 10 = nI p) (hp : p ≤ L) (h1 : lo ≤ 17) (h2 : hi ≤ 17) : ∃ m', RD_readWord m (nI lo) (nI hi) = some (if tkK b L M p = 1 ∧ lo ≤ wno (tkW b L M p) ∧ wno (tkW b L M p) ≤ hi then 1 else 0, m') ∧ TA m' b L M ∧ (tkK b L M p = 1 ∧ lo ≤ wno (tkW b L M p) ∧ wno (tkW b L M p) ≤ hi → gI m' 1 6 = nI (wno (tkW b L M p)) ∧ gI m' 1 10 = nI (tkN b L M p) ∧ Frm Ltk [] m m') ∧ (¬ (tkK b L M p = 1 ∧ lo ≤ wno (tkW b L M p) ∧ wno (tkW b L M p) ≤ hi) → gI m' 1 2 = 1 ∧ gI m' 1 3 = nI (tkS b L M p) ∧ Frm ((1, 2) :: (1, 3) :: Ltk) [] m m') := by
  obtain ⟨m1, e1, K, T1, F1⟩ := adv T h10 hp
  have iw := isWordA (lo := lo) (hi := hi) K h1 h2
  have fl : RD_fail m1 1 = some (0, sI (sI m1 1 2 1) 1 3 (nI (tkS b L M p))) := by rw [RD_fail, RD_failAt, letM_p, letM_p, bV_s, if_pos (Or.inl rfl), K.2.1]
  have F2 : Frm ((1, 2) :: (1, 3) :: Ltk) [] m (sI (sI m1 1 2 1) 1 3 (nI (tkS b L M p))) := (F1.mo (wL_sub rfl)).tr ((Frm.sI rfl rfl).tr (Frm.sI rfl rfl))
  by_cases z : tkK b L M p = 1 ∧ lo ≤ wno (tkW b L M p) ∧ wno (tkW b L M p) ≤ hi
  · rw [if_pos z] at iw
    exact ⟨m1, by rw [RD_readWord, e1, bM_s, iw, if_neg (by decide), if_pos z], T1, fun _ => ⟨by rw [(K.2.2.2.1 z.1).1, wno_eq], K.2.2.1 (Or.inl z.1), F1⟩, fun y => absurd z y⟩
  · rw [if_neg z] at iw
    exact ⟨_, by rw [RD_readWord, e1, bM_s, iw, if_pos rfl, fl, bV_s, if_pos rfl, if_neg z], T.fr F2 rfl rfl (fun _ => rfl), fun y => absurd y z, fun _ => ⟨by rw [gI_sI, if_neg (by omega), gI_sI, if_pos ⟨rfl, rfl⟩], by rw [gI_sI, if_pos ⟨rfl, rfl⟩], F2⟩⟩
abbrev Lcl : List (Nat × Nat) := [(1, 2), (1, 3), (1, 4), (1, 5), (1, 6), (1, 7), (1, 8), (1, 10)]
/-- what the class knows while it hears claims -/
def CC1 (m : Mem) (k H : Nat) (hisF onF : Nat → Nat → Bool) (hyF : Nat → Bool) (g : Nat → Int64) : Prop := H ≤ 10 ∧ gI m (gN m 13) 7 = nI H ∧ (∀ t, t < H → gJ m (gN m 13 + 14) t = g t) ∧ (∀ x y, x ≤ 20 → y ≤ 20 → PH_ownerOf m (gN m 13) (nI k) (nI x) (nI y) = some (b2i (hisF x y) + if onF x y then 2 else 0)) ∧ ∀ t, t < H → ∃ s, s < 400 ∧ PH_haySquare m (gN m 13) (nI t) = some (nI s) ∧ gI m 6 s = b2i (hyF t)
theorem cA_row {m : Mem} {b : Nat → Nat} {L M k H row p : Nat} {hisF onF : Nat → Nat → Bool} {hyF : Nat → Bool} {g : Nat → Int64} (hM : ∀ m', Frm Lcl [] m m' → CC1 m' k H hisF onF hyF g) (T : TA m b L M) (K : CKA m b L M p) (hp : p ≤ L) (hr : row ≤ 300) (h12 : gI m 1 2 = 0) :
    ∃ v m', (if (RD_isWord m 16 16) = 0 then OH_hearHay m (nI row) else OH_hearPoint m (nI k) (nI row)) = some (v, m') ∧ Frm Lcl [] m m' ∧ (((cRow b L M hisF onF hyF (fun W => fst1 g W H 0) row p).1 = 0 ∧ v = b2i (cRow b L M hisF onF hyF (fun W => fst1 g W H 0) row p).2.2.1 ∧ gI m' 1 10 = nI (cRow b L M hisF onF hyF (fun W => fst1 g W H 0) row p).2.2.2 ∧ gI m' 1 2 = 0 ∧ TA m' b L M ∧ p < (cRow b L M hisF onF hyF (fun W => fst1 g W H 0) row p).2.2.2 ∧ (cRow b L M hisF onF hyF (fun W => fst1 g W H 0) row p).2.2.2 ≤ L ∧ p < min L M) ∨ (0 < (cRow b L M hisF onF hyF (fun W => fst1 g W H 0) row p).1 ∧ (cRow b L M hisF onF hyF (fun W => fst1 g W H 0) row p).1 < 6 ∧ gI m' 1 2 = nI (cRow b L M hisF onF hyF (fun W => fst1 g W H 0) row p).1 ∧ gI m' 1 3 = nI (cRow b L M hisF onF hyF (fun W => fst1 g W H 0) row p).2.1)) := by
  have kc := tkK_c b L M p
  have wl := wno_le (tkW b L M p)
  have iw := isWordA (lo := 16) (hi := 16) K (by omega) (by omega)
  have fl : ∀ x : Int32, RD_fail m x = some (0, sI (sI m 1 2 x) 1 3 (nI (tkS b L M p))) := fun x => by rw [RD_fail, RD_failAt, letM_p, letM_p, bV_s, if_pos (Or.inl rfl), K.2.1]
  have Ffl : ∀ x : Int32, Frm Lcl [] m (sI (sI m 1 2 x) 1 3 (nI (tkS b L M p))) := fun x => (Frm.sI rfl rfl).tr (Frm.sI rfl rfl)
  have vfl : ∀ x : Int32, gI (sI (sI m 1 2 x) 1 3 (nI (tkS b L M p))) 1 2 = x ∧ gI (sI (sI m 1 2 x) 1 3 (nI (tkS b L M p))) 1 3 = nI (tkS b L M p) := fun x => ⟨by rw [gI_sI, if_neg (by omega), gI_sI, if_pos ⟨rfl, rfl⟩], by rw [gI_sI, if_pos ⟨rfl, rfl⟩]⟩
  have c30 : (nI row < 30) ↔ row < 30 := by rw [show (30 : Int32) = nI 30 from rfl, n_lt (by omega) (by omega)]
  by_cases h16 : tkK b L M p = 1 ∧ wno (tkW b L M p) = 16
  · have iw' : RD_isWord m 16 16 = 1 := by rw [if_pos ⟨h16.1, by omega, by omega⟩] at iw; exact iw
    rw [iw', if_neg (by decide)]
    have t1 := tkN_gt (b := b) (L := L) (M := M) (p := p) (Or.inl h16.1)
    unfold cRow
    rw [if_pos h16]
    by_cases h30 : 30 ≤ row
    · rw [if_pos h30]
      refine ⟨0, _, ?_, Ffl 4, Or.inr ⟨by show 0 < 4; omega, by show 4 < 6; omega, (vfl 4).1, (vfl 4).2⟩⟩
      rw [OH_hearPoint, if_neg (fun z => by have := c30.mp z; omega), fl, bV_s, if_pos (Or.inl rfl)]
    · rw [if_neg h30]
      obtain ⟨m1, e1, T1, a1, a2⟩ := readNum T (K.2.2.1 (Or.inl h16.1)) t1.2.1 0 20 (by omega) (by omega)
      have eP : OH_hearPoint m (nI k) (nI row) = bV (RD_readNumber m (nI 0) (nI 20)) fun v1 m2 => if v1 = 0 then (some (0, m2)) else (letV ((gI m2 1 7)) fun v4 => bV (RD_readNumber m2 0 20) fun v5 m6 => if v5 = 0 then (some (0, m6)) else (bI (PH_ownerOf m6 (gN m6 13) (nI k) v4 (gI m6 1 7)) fun v9 => bV (RD_readWord m6 7 9) fun v11 m12 => if v11 = 0 then (some (0, m12)) else (if (gI m12 1 6) = 9 then (if v9 < 2 then (some (0, m12)) else (some (1, m12))) else (if (v9 &&& 1) = ((gI m12 1 6) - 7) then (some (1, m12)) else (some (0, m12)))))) := by
        rw [OH_hearPoint, if_pos (c30.mpr (by omega))]; rfl
      by_cases hv : tkK b L M (tkN b L M p) = 2 ∧ 0 ≤ tkV b L M (tkN b L M p) ∧ tkV b L M (tkN b L M p) ≤ 20
      · rw [if_pos hv] at e1 ⊢
        obtain ⟨b1, b2, F1⟩ := a1 hv
        have t2 := tkN_gt (b := b) (L := L) (M := M) (p := tkN b L M p) (Or.inr (Or.inl hv.1))
        obtain ⟨m2, e2, T2, c1, c2⟩ := readNum T1 b2 t2.2.1 0 20 (by omega) (by omega)
        by_cases hw : tkK b L M (tkN b L M (tkN b L M p)) = 2 ∧ 0 ≤ tkV b L M (tkN b L M (tkN b L M p)) ∧ tkV b L M (tkN b L M (tkN b L M p)) ≤ 20
        · rw [if_pos hw] at e2 ⊢
          obtain ⟨d1, d2, F2⟩ := c1 hw
          have t3 := tkN_gt (b := b) (L := L) (M := M) (p := tkN b L M (tkN b L M p)) (Or.inr (Or.inl hw.1))
          have F12 : Frm Lcl [] m m2 := (F1.mo (wL_sub rfl)).tr (F2.mo (wL_sub rfl))
          have ow := (hM m2 F12).2.2.2.1 (tkV b L M (tkN b L M p)) (tkV b L M (tkN b L M (tkN b L M p))) hv.2.2 hw.2.2
          obtain ⟨m3, e3, T3, g1, g2⟩ := readWord_eq (lo := 7) (hi := 9) T2 d2 t3.2.1 (by omega) (by omega)
          have e2' : RD_readNumber m1 0 20 = some (1, m2) := e2
          by_cases hx : tkK b L M (tkN b L M (tkN b L M (tkN b L M p))) = 1 ∧ 7 ≤ wno (tkW b L M (tkN b L M (tkN b L M (tkN b L M p)))) ∧ wno (tkW b L M (tkN b L M (tkN b L M (tkN b L M p)))) ≤ 9
          · rw [if_pos hx] at e3 ⊢
            obtain ⟨i1, i2, F3⟩ := g1 hx
            have e3' : RD_readWord m2 7 9 = some (1, m3) := e3
            have t4 := tkN_gt (b := b) (L := L) (M := M) (p := tkN b L M (tkN b L M (tkN b L M p))) (Or.inl hx.1)
            have F13 := F12.tr (F3.mo (wL_sub rfl))
            refine ⟨_, m3, ?_, F13, Or.inl ⟨rfl, rfl, i2, by rw [F3.I 1 2 rfl, F2.I 1 2 rfl, F1.I 1 2 rfl]; exact h12, T3, by show p < tkN b L M _; omega, t4.2.1, by omega⟩⟩
            rw [eP, e1, bV_s, if_neg (by decide), b1, letV_p, e2', bV_s, if_neg (by decide), d1, ow, bI_s, e3', bV_s, if_neg (by decide), i1]
            generalize wno (tkW b L M (tkN b L M (tkN b L M (tkN b L M p)))) = w at hx
            generalize hisF (tkV b L M (tkN b L M p)) (tkV b L M (tkN b L M (tkN b L M p))) = hh
            generalize onF (tkV b L M (tkN b L M p)) (tkV b L M (tkN b L M (tkN b L M p))) = oo
            rcases (show w = 7 ∨ w = 8 ∨ w = 9 by omega) with rfl | rfl | rfl
            · cases hh <;> cases oo <;> rfl
            · cases hh <;> cases oo <;> rfl
            · cases hh <;> cases oo <;> rfl
          · rw [if_neg hx] at e3 ⊢
            obtain ⟨i1, i2, F3⟩ := g2 hx
            have e3' : RD_readWord m2 7 9 = some (0, m3) := e3
            refine ⟨0, m3, ?_, F12.tr (F3.mo (wL_sub rfl)), Or.inr ⟨by show 0 < 1; omega, by show 1 < 6; omega, i1, i2⟩⟩
            rw [eP, e1, bV_s, if_neg (by decide), b1, letV_p, e2', bV_s, if_neg (by decide), d1, ow, bI_s, e3', bV_s, if_pos rfl]
        · rw [if_neg hw] at e2 ⊢
          obtain ⟨d1, d2, F2⟩ := c2 hw
          have e2' : RD_readNumber m1 0 20 = some (0, m2) := e2
          refine ⟨0, m2, ?_, (F1.mo (wL_sub rfl)).tr (F2.mo (wL_sub rfl)), Or.inr ⟨by show 0 < (if _ then 2 else 1); split <;> omega, by show (if _ then 2 else 1) < 6; split <;> omega, ?_, d2⟩⟩
          · rw [eP, e1, bV_s, if_neg (by decide), b1, letV_p, e2', bV_s, if_pos rfl]
          · rw [d1]
            show _ = nI (if _ then 2 else 1)
            split <;> rfl
      · rw [if_neg hv] at e1 ⊢
        obtain ⟨d1, d2, F1⟩ := a2 hv
        refine ⟨0, m1, ?_, F1.mo (wL_sub rfl), Or.inr ⟨by show 0 < (if _ then 2 else 1); split <;> omega, by show (if _ then 2 else 1) < 6; split <;> omega, ?_, d2⟩⟩
        · rw [eP, e1, bV_s, if_pos rfl]
        · rw [d1]
          show _ = nI (if _ then 2 else 1)
          split <;> rfl
  · have iw' : RD_isWord m 16 16 = 0 := by rw [if_neg (fun y => h16 ⟨y.1, by omega⟩)] at iw; exact iw
    rw [iw', if_pos rfl]
    unfold cRow
    rw [if_neg h16]
    have in17 : RD_isWord m 17 17 = if tkK b L M p = 1 ∧ 17 ≤ wno (tkW b L M p) ∧ wno (tkW b L M p) ≤ 17 then 1 else 0 := isWordA (lo := 17) (hi := 17) K (by omega) (by omega)
    by_cases h17 : tkK b L M p = 1 ∧ wno (tkW b L M p) = 17
    · rw [if_pos ⟨h17.1, by omega, by omega⟩] at in17
      rw [if_pos h17]
      have t1 := tkN_gt (b := b) (L := L) (M := M) (p := p) (Or.inl h17.1)
      have M0 := hM m Frm.rf
      have hnm := hayNamed_eq (W := gJ m 1 8) M0.1 M0.2.1 M0.2.2.1
      rw [(K.2.2.2.1 h17.1).2] at hnm
      have H10 := M0.1
      cases hf : fst1 g (tkW b L M p) H 0 with
      | none =>
        rw [hf] at hnm
        simp only [hf]
        refine ⟨0, _, ?_, Ffl 3, Or.inr ⟨by show 0 < 3; omega, by show 3 < 6; omega, (vfl 3).1, (vfl 3).2⟩⟩
        have hm1 : PH_hasHay m (gN m 13) (-1) = 0 := by rw [PH_hasHay, if_pos (by decide)]
        rw [OH_hearHay, in17, if_neg (by decide), (K.2.2.2.1 h17.1).2, hnm, bI_s, show enc none = -1 from rfl, hm1, if_pos rfl, fl, bV_s, if_pos (Or.inl rfl)]
      | some h =>
        rw [hf] at hnm
        have hl := (fst1_lt H 0 h hf).2
        simp only [hf]
        have hh : PH_hasHay m (gN m 13) (nI h) = 1 := by rw [PH_hasHay, if_neg (by rw [k0, n_lt (by omega) (by omega)]; omega), M0.2.1, if_neg (by rw [n_le (by omega) (by omega)]; omega)]
        by_cases h30 : 30 ≤ row
        · rw [if_pos h30]
          refine ⟨0, _, ?_, Ffl 4, Or.inr ⟨by show 0 < 4; omega, by show 4 < 6; omega, (vfl 4).1, (vfl 4).2⟩⟩
          rw [OH_hearHay, in17, if_neg (by decide), (K.2.2.2.1 h17.1).2, hnm, bI_s, show enc (some h) = nI h from rfl, hh, if_neg (by decide), if_neg (fun z => by have := c30.mp z; omega), fl, bV_s, if_pos (Or.inl rfl)]
        · rw [if_neg h30]
          obtain ⟨m1, e1, T1, g1, g2⟩ := readWord_eq (lo := 7) (hi := 8) T (K.2.2.1 (Or.inl h17.1)) t1.2.1 (by omega) (by omega)
          have e0 : OH_hearHay m (nI row) = bV (RD_readWord m (nI 7) (nI 8)) fun v5 m6 => if v5 = 0 then (some (0, m6)) else (bI (PH_haySquare m6 (gN m6 13) (nI h)) fun v9 => if inb v9 400 then (if (gI m6 6 (ixn v9)) = ((gI m6 1 6) - 7) then (some (1, m6)) else (some (0, m6))) else none) := by
            rw [OH_hearHay, in17, if_neg (by decide), (K.2.2.2.1 h17.1).2, hnm, bI_s, show enc (some h) = nI h from rfl, hh, if_neg (by decide), if_pos (c30.mpr (by omega))]; rfl
          by_cases hx : tkK b L M (tkN b L M p) = 1 ∧ 7 ≤ wno (tkW b L M (tkN b L M p)) ∧ wno (tkW b L M (tkN b L M p)) ≤ 8
          · rw [if_pos hx] at e1 ⊢
            obtain ⟨i1, i2, F1⟩ := g1 hx
            have t2 := tkN_gt (b := b) (L := L) (M := M) (p := tkN b L M p) (Or.inl hx.1)
            obtain ⟨s, s4, hs, hs6⟩ := (hM m1 (F1.mo (wL_sub rfl))).2.2.2.2 h (by omega)
            refine ⟨_, m1, ?_, F1.mo (wL_sub rfl), Or.inl ⟨rfl, rfl, i2, by rw [F1.I 1 2 rfl]; exact h12, T1, by show p < tkN b L M _; omega, t2.2.1, by omega⟩⟩
            rw [e0, e1, bV_s, if_neg (by decide), hs, bI_s, if_pos (n_in s4 (by omega)), n_ixn (by omega), hs6, i1]
            generalize wno (tkW b L M (tkN b L M p)) = w at hx
            rcases (show w = 7 ∨ w = 8 by omega) with rfl | rfl
            · cases hyF h <;> rfl
            · cases hyF h <;> rfl
          · rw [if_neg hx] at e1 ⊢
            obtain ⟨i1, i2, F1⟩ := g2 hx
            exact ⟨0, m1, by rw [e0, e1, bV_s, if_pos rfl], F1.mo (wL_sub rfl), Or.inr ⟨by show 0 < 1; omega, by show 1 < 6; omega, i1, i2⟩⟩
    · rw [if_neg (fun y => h17 ⟨y.1, by omega⟩)] at in17
      rw [if_neg h17]
      refine ⟨0, _, ?_, Ffl 1, Or.inr ⟨by show 0 < 1; omega, by show 1 < 6; omega, (vfl 1).1, (vfl 1).2⟩⟩
      rw [OH_hearHay, in17, if_pos rfl, fl, bV_s, if_pos (Or.inl rfl)]

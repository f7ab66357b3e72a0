/-! walk, the reference -/
abbrev Lwb : List (Nat × Nat) := [(133, 4), (133, 10), (133, 11), (133, 12), (133, 13), (133, 16), (133, 17)]
def OutB (m m' : Mem) (kx : Mem → Int32 → Int32 → Int32 → Option (Int32 × Mem)) (R : Option (Int32 × Mem)) (o : Nat × Nat × Nat × Int32 × Int32) : Prop := (o.1 = 0 ∧ R = kx m' (nI o.2.2.1) o.2.2.2.1 o.2.2.2.2 ∧ Frm Lwb [] m m' ∧ o.2.2.1 < 400) ∨ (0 < o.1 ∧ R = some (-1 - nI o.2.1, m') ∧ gI m' 133 14 = nI o.1 ∧ Frm ((133, 14) :: (133, 15) :: Lwb) [] m m')
theorem wb_loop {b : Nat → Nat} {L M n : Nat} {U V : Nat → Int} {kx : Mem → Int32 → Int32 → Int32 → Option (Int32 × Mem)} (hU : ∀ i, i ≤ n → 0 ≤ U i ∧ U i ≤ 20) (hV : ∀ i, i ≤ n → 0 ≤ V i ∧ V i ≤ 20) : ∀ (k p fu sq : Nat) (c st : Int32) (m : Mem), min L M ≤ p + k → p ≤ L → k < fu → sq < 400 → TB m b L M → CKB m b L M p → PolyR m n (fun i => 2 * U i) (fun i => 2 * V i) →
    ∃ m', OutB m m' kx (RM_walk_L81 kx fu m (nI sq) c st) (wkl b L M (stX U V n) k p sq c st) := by
  have fin : ∀ (k p f sq : Nat) (c st : Int32) (m : Mem), sq < 400 → CKB m b L M p → tkK b L M p = 0 → ∃ m', OutB m m' kx (RM_walk_L81 kx (f + 1) m (nI sq) c st) (wkl b L M (stX U V n) k p sq c st) := by
    intro k p f sq c st m hs K hK
    rw [wk_end hK]
    by_cases z : L ≤ M
    · rw [if_pos z]
      have k10 : gI m 133 10 = 0 := by rw [K.1, if_neg (by omega), hK]; rfl
      refine ⟨m, Or.inl ⟨rfl, ?_, Frm.rf, hs⟩⟩
      rw [RM_walk_L81, k10, if_pos rfl]
    · rw [if_neg z]
      have k10 : gI m 133 10 = 4 := by rw [K.1, if_pos ⟨hK, by omega⟩]; rfl
      have hd := dirR K
      rw [if_neg (fun y => by omega)] at hd
      refine ⟨sI (sI m 133 14 1) 133 15 (nI (tkS b L M p)), Or.inr ⟨by show 0 < 1; omega, ?_, by rw [gI_sI, if_neg (by omega), gI_sI, if_pos ⟨rfl, rfl⟩]; rfl, (Frm.sI rfl rfl).tr (Frm.sI rfl rfl)⟩⟩
      have g11 : gI (sI m 133 14 1) 133 11 = nI (tkS b L M p) := by rw [gI_sI, if_neg (by omega), K.2.1]
      rw [RM_walk_L81, k10, if_neg (by decide), hd, letV_p, if_neg (by decide), RM_bad, letM_p, g11, letM_p, bV_s, gI_sI, if_pos ⟨rfl, rfl⟩]
  intro k
  induction k with
  | zero =>
    intro p fu sq c st m hk hp hf hs T K hP
    obtain ⟨f, rfl⟩ : ∃ f, fu = f + 1 := ⟨fu - 1, by omega⟩
    exact fin 0 p f sq c st m hs K (tkK_end (by omega))
  | succ k ih =>
    intro p fu sq c st m hk hp hf hs T K hP
    obtain ⟨f, rfl⟩ : ∃ f, fu = f + 1 := ⟨fu - 1, by omega⟩
    by_cases hK : tkK b L M p = 0
    · exact fin (k + 1) p f sq c st m hs K hK
    · have kc := tkK_c b L M p
      have hd := dirR K
      have k10 : ¬ gI m 133 10 = 0 := by rw [K.1, if_neg (by omega), k0, n_eq (by omega) (by omega)]; exact hK
      have wk1 : wkl b L M (stX U V n) (k + 1) p sq c st = if tkK b L M p = 1 ∧ dirW (tkW b L M p) < 4 then
          (if tkK b L M (tkN b L M p) = 2 then
            (if 1 ≤ tkV b L M (tkN b L M p) ∧ tkV b L M (tkN b L M p) ≤ 20 then
              (match wst (stX U V n) (dirW (tkW b L M p)) (tkV b L M (tkN b L M p)) sq c st with
              | none => (5, tkS b L M p, sq, c, st)
              | some r => if tkK b L M (tkN b L M (tkN b L M p)) = 3 then wkl b L M (stX U V n) k (tkN b L M (tkN b L M (tkN b L M p))) r.1 r.2.1 r.2.2 else (1, tkS b L M (tkN b L M (tkN b L M p)), sq, c, st))
            else (2, tkS b L M (tkN b L M p), sq, c, st))
          else (1, tkS b L M (tkN b L M p), sq, c, st))
        else (1, tkS b L M p, sq, c, st) := by
        show (if tkK b L M p = 0 then _ else _) = _
        rw [if_neg hK]
        rfl
      by_cases hD : tkK b L M p = 1 ∧ dirW (tkW b L M p) < 4
      · rw [if_pos hD] at hd
        rw [if_pos hD] at wk1
        have t1 := tkN_gt (b := b) (L := L) (M := M) (p := p) (Or.inl hD.1)
        obtain ⟨m1, e1, K1, T1, F1⟩ := nxt T (K.2.2.1 (Or.inl hD.1)) t1.2.1
        obtain ⟨m2, e2, a1, a2⟩ := takesB T1 K1 t1.2.1 1 20 (by omega) (by omega)
        have e0 : RM_walk_L81 kx (f + 1) m (nI sq) c st = bV (RM_takes m1 1 20) fun v5 m6 => if v5 = 0 then (some (((-1) - (gI m6 133 15)), m6)) else (RM_walk_L142 (nI (dirW (tkW b L M p))) (nI (tkS b L M p)) (fun m11 y8 y9 y10 => bV (RM_sign m11 59) fun v12 m13 => if v12 = 0 then (some (((-1) - (gI m13 133 15)), m13)) else (RM_walk_L81 kx f m13 y8 y9 y10)) FU m6 (nI sq) c st 0) := by
          rw [RM_walk_L81, if_neg k10, hd, letV_p, if_pos (by rw [k0, n_le (by omega) (by omega)]; omega), K.2.1, letV_p, e1, bM_s]
        by_cases hv : tkK b L M (tkN b L M p) = 2 ∧ 1 ≤ tkV b L M (tkN b L M p) ∧ tkV b L M (tkN b L M p) ≤ 20
        · obtain ⟨b1, K2, T2, F2⟩ := a1 hv
          rw [if_pos hv.1, if_pos hv.2] at wk1
          have e2' : RM_takes m1 1 20 = some (1, m2) := by rw [if_pos hv] at e2; exact e2
          have t2 := tkN_gt (b := b) (L := L) (M := M) (p := tkN b L M p) (Or.inr (Or.inl hv.1))
          have F12 : Frm Lwb [] m m2 := (F1.mo (wL_sub rfl)).tr (F2.mo (wL_sub rfl))
          have P2 := hP.fr F12 rfl (fun _ => rfl) (fun _ => rfl)
          obtain ⟨i1, i2⟩ := wb_steps (S := tkS b L M p) (kx := fun m11 y8 y9 y10 => bV (RM_sign m11 59) fun v12 m13 => if v12 = 0 then (some (((-1) - (gI m13 133 15)), m13)) else (RM_walk_L81 kx f m13 y8 y9 y10)) P2 hU hV hD.2 (show tkV b L M (tkN b L M p) ≤ 99 by omega) b1 (tkV b L M (tkN b L M p)) 0 FU sq c st (by omega) (by unfold FU; omega) hs
          rw [show nI 0 = 0 from k0.symm] at i1 i2
          cases hw : wst (stX U V n) (dirW (tkW b L M p)) (tkV b L M (tkN b L M p)) sq c st with
          | none =>
            rw [hw] at wk1
            rw [wk1]
            exact ⟨_, Or.inr ⟨by show 0 < 5; omega, by rw [e0, e2', bV_s, if_neg (by decide), i2 hw], by rw [gI_sI, if_pos ⟨rfl, rfl⟩]; rfl, (F12.mo (wL_sub rfl)).tr (Frm.sI rfl rfl)⟩⟩
          | some r =>
            rw [hw] at wk1
            have rl := wst_lt _ _ _ _ r hs hw
            obtain ⟨m3, e3, s1, s2⟩ := signB T2 K2 t2.2.1
            by_cases h3 : tkK b L M (tkN b L M (tkN b L M p)) = 3
            · obtain ⟨K3, T3, F3⟩ := s1 h3
              simp only [if_pos h3] at wk1
              rw [if_pos h3] at e3
              have t3 := tkN_gt (b := b) (L := L) (M := M) (p := tkN b L M (tkN b L M p)) (Or.inr (Or.inr h3))
              have F13 : Frm Lwb [] m m3 := F12.tr (F3.mo (wL_sub rfl))
              obtain ⟨m4, O⟩ := ih (tkN b L M (tkN b L M (tkN b L M p))) f r.1 r.2.1 r.2.2 m3 (by omega) t3.2.1 (by omega) rl T3 K3 (hP.fr F13 rfl (fun _ => rfl) (fun _ => rfl))
              have eE : RM_walk_L81 kx (f + 1) m (nI sq) c st = RM_walk_L81 kx f m3 (nI r.1) r.2.1 r.2.2 := by rw [e0, e2', bV_s, if_neg (by decide), i1 r hw, e3, bV_s, if_neg (by decide)]
              rw [wk1, eE]
              rcases O with ⟨o1, o2, o3, o4⟩ | ⟨o1, o2, o3, o4⟩
              · exact ⟨m4, Or.inl ⟨o1, o2, F13.tr o3, o4⟩⟩
              · exact ⟨m4, Or.inr ⟨o1, o2, o3, (F13.mo (wL_sub rfl)).tr o4⟩⟩
            · obtain ⟨c1, c2, F3⟩ := s2 h3
              simp only [if_neg h3] at wk1
              rw [if_neg h3] at e3
              rw [wk1]
              exact ⟨m3, Or.inr ⟨by show 0 < 1; omega, by rw [e0, e2', bV_s, if_neg (by decide), i1 r hw, e3, bV_s, if_pos rfl, c2], c1, (F12.mo (wL_sub rfl)).tr (F3.mo (wL_sub rfl))⟩⟩
        · obtain ⟨b1, b2, F2⟩ := a2 hv
          have e2' : RM_takes m1 1 20 = some (0, m2) := by rw [if_neg hv] at e2; exact e2
          have F12 : Frm ((133, 14) :: (133, 15) :: Lwb) [] m m2 := (F1.mo (wL_sub rfl)).tr (F2.mo (wL_sub rfl))
          by_cases h2 : tkK b L M (tkN b L M p) = 2
          · rw [if_pos h2] at b1
            rw [if_pos h2, if_neg (fun y => hv ⟨h2, y⟩)] at wk1
            rw [wk1]
            exact ⟨m2, Or.inr ⟨by show 0 < 2; omega, by rw [e0, e2', bV_s, if_pos rfl, b2], b1, F12⟩⟩
          · rw [if_neg h2] at b1
            rw [if_neg h2] at wk1
            rw [wk1]
            exact ⟨m2, Or.inr ⟨by show 0 < 1; omega, by rw [e0, e2', bV_s, if_pos rfl, b2], b1, F12⟩⟩
      · rw [if_neg hD] at hd
        rw [if_neg hD] at wk1
        rw [wk1]
        refine ⟨sI (sI m 133 14 1) 133 15 (nI (tkS b L M p)), Or.inr ⟨by show 0 < 1; omega, ?_, by rw [gI_sI, if_neg (by omega), gI_sI, if_pos ⟨rfl, rfl⟩]; rfl, (Frm.sI rfl rfl).tr (Frm.sI rfl rfl)⟩⟩
        have g11 : gI (sI m 133 14 1) 133 11 = nI (tkS b L M p) := by rw [gI_sI, if_neg (by omega), K.2.1]
        rw [RM_walk_L81, if_neg k10, hd, letV_p, if_neg (by decide), RM_bad, letM_p, g11, letM_p, bV_s, gI_sI, if_pos ⟨rfl, rfl⟩]

/-! paces: the rows, as the reference reads them -/
abbrev Lpb : List (Nat × Nat) := [(133, 4), (133, 10), (133, 11), (133, 12), (133, 13), (133, 16), (133, 17), (157, 999999), (158, 999999)]
def pcK (G : Mem → Int32 → Option (Int32 × Mem)) : Mem → Int32 → Option (Int32 × Mem) := fun m8 y7 => if 2 ≤ y7 then G m8 y7 else (bV (RM_bad m8 4) fun v22 m23 => some (((-1) - (gI m23 133 15)), m23))
def OutQ (m m' : Mem) (G : Mem → Int32 → Option (Int32 × Mem)) (R : Option (Int32 × Mem)) (o : Nat × Nat × Nat × (Nat → Nat) × (Nat → Nat)) : Prop := (o.1 = 0 ∧ R = G m' (nI o.2.2.1) ∧ 2 ≤ o.2.2.1 ∧ WfR o.2.2.1 o.2.2.2.1 o.2.2.2.2 ∧ RwS m' 157 158 o.2.2.1 o.2.2.2.1 o.2.2.2.2 ∧ Frm Lpb [] m m') ∨ (0 < o.1 ∧ R = some (-1 - nI o.2.1, m') ∧ gI m' 133 14 = nI o.1 ∧ Frm ((133, 14) :: (133, 15) :: Lpb) [] m m')
theorem pb_loop {b : Nat → Nat} {L M : Nat} {G : Mem → Int32 → Option (Int32 × Mem)} : ∀ (k p fu n : Nat) (D V : Nat → Nat) (m : Mem), min L M ≤ p + k → p ≤ L → k < fu → TB m b L M → CKB m b L M p → WfR n D V → RwS m 157 158 n D V →
    ∃ m', OutQ m m' G (RM_paces_L23 (pcK G) fu m (nI n)) (pcl b L M k p n D V) := by
  have bd : ∀ (m : Mem) (p : Nat) (x : Int32), CKB m b L M p → RM_bad m x = some (0, sI (sI m 133 14 x) 133 15 (nI (tkS b L M p))) := fun m p x K => by
    have : gI (sI m 133 14 x) 133 11 = nI (tkS b L M p) := by rw [gI_sI, if_neg (by omega), K.2.1]
    rw [RM_bad, letM_p, this, letM_p]
  have bv : ∀ (m : Mem) (s : Nat) (x : Int32), gI (sI (sI m 133 14 x) 133 15 (nI s)) 133 14 = x ∧ gI (sI (sI m 133 14 x) 133 15 (nI s)) 133 15 = nI s ∧ Frm ((133, 14) :: (133, 15) :: Lpb) [] m (sI (sI m 133 14 x) 133 15 (nI s)) := fun m s x => ⟨by rw [gI_sI, if_neg (by omega), gI_sI, if_pos ⟨rfl, rfl⟩], by rw [gI_sI, if_pos ⟨rfl, rfl⟩], (Frm.sI rfl rfl).tr (Frm.sI rfl rfl)⟩
  have fin : ∀ (k p f n : Nat) (D V : Nat → Nat) (m : Mem), CKB m b L M p → WfR n D V → RwS m 157 158 n D V → tkK b L M p = 0 → ∃ m', OutQ m m' G (RM_paces_L23 (pcK G) (f + 1) m (nI n)) (pcl b L M k p n D V) := by
    intro k p f n D V m K W R hK
    have w1 := W.1
    rw [pc_end hK]
    unfold pce
    by_cases z : L ≤ M
    · rw [if_pos z]
      have k10 : gI m 133 10 = 0 := by rw [K.1, if_neg (by omega), hK]; rfl
      have e0 : RM_paces_L23 (pcK G) (f + 1) m (nI n) = pcK G m (nI n) := by rw [RM_paces_L23, k10, if_pos rfl]
      by_cases hn : 2 ≤ n
      · rw [if_pos hn]
        refine ⟨m, Or.inl ⟨rfl, ?_, hn, W, R, Frm.rf⟩⟩
        rw [e0, pcK, if_pos (by rw [k2, n_le (by omega) (by omega)]; exact hn)]
      · rw [if_neg hn]
        obtain ⟨q1, q2, q3⟩ := bv m (tkS b L M p) 4
        refine ⟨_, Or.inr ⟨by show 0 < 4; omega, ?_, q1, q3⟩⟩
        rw [e0, pcK, if_neg (by rw [k2, n_le (by omega) (by omega)]; exact hn), bd m p 4 K, bV_s, q2]
    · rw [if_neg z]
      have k10 : gI m 133 10 = 4 := by rw [K.1, if_pos ⟨hK, by omega⟩]; rfl
      have hd := dirR K
      rw [if_neg (fun y => by omega)] at hd
      obtain ⟨q1, q2, q3⟩ := bv m (tkS b L M p) 1
      refine ⟨_, Or.inr ⟨by show 0 < 1; omega, ?_, q1, q3⟩⟩
      rw [RM_paces_L23, k10, if_neg (by decide), hd, letV_p, if_pos (by decide), RM_paces_J45, if_neg (by decide), RM_paces_J55, bd m p 1 K, bV_s, q2]
  intro k
  induction k with
  | zero =>
    intro p fu n D V m hk hp hf T K W R
    obtain ⟨f, rfl⟩ : ∃ f, fu = f + 1 := ⟨fu - 1, by omega⟩
    exact fin 0 p f n D V m K W R (tkK_end (by omega))
  | succ k ih =>
    intro p fu n D V m hk hp hf T K W R
    obtain ⟨f, rfl⟩ : ∃ f, fu = f + 1 := ⟨fu - 1, by omega⟩
    by_cases hK : tkK b L M p = 0
    · exact fin (k + 1) p f n D V m K W R hK
    · have w1 := W.1
      have kc := tkK_c b L M p
      have hd := dirR K
      have k10 : ¬ gI m 133 10 = 0 := by rw [K.1, if_neg (by omega), k0, n_eq (by omega) (by omega)]; exact hK
      have pc1 := pc_step hK k n D V
      by_cases hD : tkK b L M p = 1 ∧ dirW (tkW b L M p) < 4
      · rw [if_pos hD] at hd
        rw [if_pos hD] at pc1
        have v0 : ¬ nI (dirW (tkW b L M p)) < 0 := by rw [k0, n_lt (by omega) (by omega)]; omega
        by_cases hn : n < 30
        · rw [if_pos hn] at pc1
          have t1 := tkN_gt (b := b) (L := L) (M := M) (p := p) (Or.inl hD.1)
          obtain ⟨m1, e1, K1, T1, F1⟩ := nxt T (K.2.2.1 (Or.inl hD.1)) t1.2.1
          obtain ⟨m2, e2, a1, a2⟩ := takesB T1 K1 t1.2.1 1 99 (by omega) (by omega)
          have e0 : RM_paces_L23 (pcK G) (f + 1) m (nI n) = bV (RM_takes m1 1 99) fun v4 m5 =>
              if v4 = 0 then (some (((-1) - (gI m5 133 15)), m5))
              else (bV (RM_sign m5 59) fun v7 m8 =>
              if v7 = 0 then (some (((-1) - (gI m8 133 15)), m8))
              else (if inb (nI n) 30 then (letM (sI m8 157 (ixn (nI n)) (nI (dirW (tkW b L M p)))) fun m11 =>
              letM (sI m11 158 (ixn (nI n)) (gI m11 133 17)) fun m12 =>
              RM_paces_L23 (pcK G) f m12 (nI n + 1)) else none)) := by
            rw [RM_paces_L23, if_neg k10, hd, letV_p, if_neg v0, if_neg (by rw [show (30 : Int32) = nI 30 from rfl, n_eq (by omega) (by omega)]; omega), e1, bM_s]
          by_cases hv : tkK b L M (tkN b L M p) = 2 ∧ 1 ≤ tkV b L M (tkN b L M p) ∧ tkV b L M (tkN b L M p) ≤ 99
          · obtain ⟨b1, K2, T2, F2⟩ := a1 hv
            rw [if_pos hv.1, if_pos hv.2] at pc1
            have e2' : RM_takes m1 1 99 = some (1, m2) := by rw [if_pos hv] at e2; exact e2
            have t2 := tkN_gt (b := b) (L := L) (M := M) (p := tkN b L M p) (Or.inr (Or.inl hv.1))
            have F12 : Frm Lpb [] m m2 := (F1.mo (wL_sub rfl)).tr (F2.mo (wL_sub rfl))
            obtain ⟨m3, e3, s1, s2⟩ := signB T2 K2 t2.2.1
            by_cases h3 : tkK b L M (tkN b L M (tkN b L M p)) = 3
            · obtain ⟨K3, T3, F3⟩ := s1 h3
              rw [if_pos h3] at pc1
              rw [if_pos h3] at e3
              have t3 := tkN_gt (b := b) (L := L) (M := M) (p := tkN b L M (tkN b L M p)) (Or.inr (Or.inr h3))
              have g17 : gI m3 133 17 = nI (tkV b L M (tkN b L M p)) := by rw [F3.I 133 17 rfl, b1]
              let m5 := sI (sI m3 157 n (nI (dirW (tkW b L M p)))) 158 n (nI (tkV b L M (tkN b L M p)))
              have h5 : m5 = sI (sI m3 157 n (nI (dirW (tkW b L M p)))) 158 n (nI (tkV b L M (tkN b L M p))) := rfl
              have F5 : Frm [(157, 999999), (158, 999999)] [] m3 m5 := (Frm.sI rfl rfl).tr (Frm.sI rfl rfl)
              have F15 : Frm Lpb [] m m5 := F12.tr ((F3.mo (wL_sub rfl)).tr (F5.mo (wL_sub rfl)))
              have g17' : gI (sI m3 157 n (nI (dirW (tkW b L M p)))) 133 17 = nI (tkV b L M (tkN b L M p)) := by rw [gI_sI, if_neg (by omega), g17]
              have eE : RM_paces_L23 (pcK G) (f + 1) m (nI n) = RM_paces_L23 (pcK G) f m5 (nI (n + 1)) := by
                rw [e0, e2', bV_s, if_neg (by decide), e3, bV_s, if_neg (by decide), if_pos (n_in hn (by omega)), n_ixn (by omega), letM_p, g17', letM_p, show nI n + 1 = nI (n + 1) by rw [k1, n_add]]
              have o157 : ∀ i, gI m3 157 i = gI m 157 i := fun i => by rw [F3.I 157 i rfl, F2.I 157 i rfl, F1.I 157 i rfl]
              have o158 : ∀ i, gI m3 158 i = gI m 158 i := fun i => by rw [F3.I 158 i rfl, F2.I 158 i rfl, F1.I 158 i rfl]
              have R5 : RwS m5 157 158 (n + 1) (upD D n (dirW (tkW b L M p))) (upD V n (tkV b L M (tkN b L M p))) := by
                refine R.up ?_ ?_ (fun i hi => ?_) (fun i hi => ?_)
                · rw [h5, gI_sI, if_neg (by omega), gI_sI, if_pos ⟨rfl, rfl⟩]
                · rw [h5, gI_sI, if_pos ⟨rfl, rfl⟩]
                · rw [h5, gI_sI, if_neg (by omega), gI_sI, if_neg (fun z => hi z.2), o157]
                · rw [h5, gI_sI, if_neg (fun z => hi z.2), gI_sI, if_neg (by omega), o158]
              have T5 : TB m5 b L M := ⟨T3.1, T3.2.1, by rw [F5.I 133 3 rfl]; exact T3.2.2.1, by rw [F5.I 133 5 rfl]; exact T3.2.2.2.1, fun i hi => by rw [F5.I 134 i rfl]; exact T3.2.2.2.2 i hi⟩
              have K5 : CKB m5 b L M (tkN b L M (tkN b L M (tkN b L M p))) := by
                unfold CKB at K3 ⊢
                rw [F5.I 133 10 rfl, F5.I 133 11 rfl, F5.I 133 4 rfl, F5.J 133 16 rfl, F5.I 133 13 rfl]
                exact K3
              obtain ⟨m4, O⟩ := ih (tkN b L M (tkN b L M (tkN b L M p))) f (n + 1) _ _ m5 (by omega) t3.2.1 (by omega) T5 K5 (W.up hn hD.2 hv.2.1 hv.2.2) R5
              rw [pc1, eE]
              rcases O with ⟨o1, o2, o3, o4, o5, o6⟩ | ⟨o1, o2, o3, o4⟩
              · exact ⟨m4, Or.inl ⟨o1, o2, o3, o4, o5, F15.tr o6⟩⟩
              · exact ⟨m4, Or.inr ⟨o1, o2, o3, (F15.mo (wL_sub rfl)).tr o4⟩⟩
            · obtain ⟨c1, c2, F3⟩ := s2 h3
              rw [if_neg h3] at pc1
              rw [if_neg h3] at e3
              rw [pc1]
              exact ⟨m3, Or.inr ⟨by show 0 < 1; omega, by rw [e0, e2', bV_s, if_neg (by decide), e3, bV_s, if_pos rfl, c2], c1, (F12.mo (wL_sub rfl)).tr (F3.mo (wL_sub rfl))⟩⟩
          · obtain ⟨b1, b2, F2⟩ := a2 hv
            have e2' : RM_takes m1 1 99 = some (0, m2) := by rw [if_neg hv] at e2; exact e2
            have F12 : Frm ((133, 14) :: (133, 15) :: Lpb) [] m m2 := (F1.mo (wL_sub rfl)).tr (F2.mo (wL_sub rfl))
            by_cases h2 : tkK b L M (tkN b L M p) = 2
            · rw [if_pos h2] at b1
              rw [if_pos h2, if_neg (fun y => hv ⟨h2, y⟩)] at pc1
              rw [pc1]
              exact ⟨m2, Or.inr ⟨by show 0 < 2; omega, by rw [e0, e2', bV_s, if_pos rfl, b2], b1, F12⟩⟩
            · rw [if_neg h2] at b1
              rw [if_neg h2] at pc1
              rw [pc1]
              exact ⟨m2, Or.inr ⟨by show 0 < 1; omega, by rw [e0, e2', bV_s, if_pos rfl, b2], b1, F12⟩⟩
        · rw [if_neg hn] at pc1
          rw [pc1]
          obtain ⟨q1, q2, q3⟩ := bv m (tkS b L M p) 4
          refine ⟨_, Or.inr ⟨by show 0 < 4; omega, ?_, q1, q3⟩⟩
          rw [RM_paces_L23, if_neg k10, hd, letV_p, if_neg v0, if_pos (by rw [show n = 30 by omega]; rfl), RM_paces_J45, if_pos (by rw [k0, n_le (by omega) (by omega)]; omega), RM_paces_J55, bd m p 4 K, bV_s, q2]
      · rw [if_neg hD] at hd
        rw [if_neg hD] at pc1
        rw [pc1]
        obtain ⟨q1, q2, q3⟩ := bv m (tkS b L M p) 1
        refine ⟨_, Or.inr ⟨by show 0 < 1; omega, ?_, q1, q3⟩⟩
        rw [RM_paces_L23, if_neg k10, hd, letV_p, if_pos (by decide), RM_paces_J45, if_neg (by decide), RM_paces_J55, bd m p 1 K, bV_s, q2]

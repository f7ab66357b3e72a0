/-! paces: the rows -/
def upD (f : Nat → Nat) (n v : Nat) : Nat → Nat := fun i => if i = n then v else f i
def pce (b : Nat → Nat) (L M p n : Nat) (D V : Nat → Nat) : Nat × Nat × Nat × (Nat → Nat) × (Nat → Nat) := if L ≤ M then (if 2 ≤ n then (0, 0, n, D, V) else (4, tkS b L M p, n, D, V)) else (1, tkS b L M p, n, D, V)
/-- what the rows come to: (fault, where, rows, directions, numbers) -/
def pcl (b : Nat → Nat) (L M : Nat) : Nat → Nat → Nat → (Nat → Nat) → (Nat → Nat) → Nat × Nat × Nat × (Nat → Nat) × (Nat → Nat)
  | 0, p, n, D, V => pce b L M p n D V
  | k + 1, p, n, D, V =>
    if tkK b L M p = 0 then pce b L M p n D V
    else if tkK b L M p = 1 ∧ dirW (tkW b L M p) < 4 then
      (if n < 30 then
        (if tkK b L M (tkN b L M p) = 2 then
          (if 1 ≤ tkV b L M (tkN b L M p) ∧ tkV b L M (tkN b L M p) ≤ 99 then
            (if tkK b L M (tkN b L M (tkN b L M p)) = 3 then pcl b L M k (tkN b L M (tkN b L M (tkN b L M p))) (n + 1) (upD D n (dirW (tkW b L M p))) (upD V n (tkV b L M (tkN b L M p))) else (1, tkS b L M (tkN b L M (tkN b L M p)), n, D, V))
          else (2, tkS b L M (tkN b L M p), n, D, V))
        else (1, tkS b L M (tkN b L M p), n, D, V))
      else (4, tkS b L M p, n, D, V))
    else (1, tkS b L M p, n, D, V)
theorem pc_end {b : Nat → Nat} {L M k p n : Nat} {D V : Nat → Nat} (h : tkK b L M p = 0) : pcl b L M k p n D V = pce b L M p n D V := by
  cases k with
  | zero => rfl
  | succ k => show (if tkK b L M p = 0 then _ else _) = _; rw [if_pos h]
theorem pc_step {b : Nat → Nat} {L M p : Nat} (h : tkK b L M p ≠ 0) (k n : Nat) (D V : Nat → Nat) : pcl b L M (k + 1) p n D V = if tkK b L M p = 1 ∧ dirW (tkW b L M p) < 4 then
      (if n < 30 then
        (if tkK b L M (tkN b L M p) = 2 then
          (if 1 ≤ tkV b L M (tkN b L M p) ∧ tkV b L M (tkN b L M p) ≤ 99 then
            (if tkK b L M (tkN b L M (tkN b L M p)) = 3 then pcl b L M k (tkN b L M (tkN b L M (tkN b L M p))) (n + 1) (upD D n (dirW (tkW b L M p))) (upD V n (tkV b L M (tkN b L M p))) else (1, tkS b L M (tkN b L M (tkN b L M p)), n, D, V))
          else (2, tkS b L M (tkN b L M p), n, D, V))
        else (1, tkS b L M (tkN b L M p), n, D, V))
      else (4, tkS b L M p, n, D, V))
    else (1, tkS b L M p, n, D, V) := by
  show (if tkK b L M p = 0 then _ else _) = _
  rw [if_neg h]
def WfR (n : Nat) (D V : Nat → Nat) : Prop := n ≤ 30 ∧ ∀ i, i < n → D i < 4 ∧ 1 ≤ V i ∧ V i ≤ 99
theorem WfR.up {n : Nat} {D V : Nat → Nat} (h : WfR n D V) (hn : n < 30) {d v : Nat} (hd : d < 4) (h1 : 1 ≤ v) (h2 : v ≤ 99) : WfR (n + 1) (upD D n d) (upD V n v) := by
  refine ⟨by omega, fun i hi => ?_⟩
  unfold upD
  by_cases z : i = n
  · rw [if_pos z, if_pos z]; exact ⟨hd, h1, h2⟩
  · rw [if_neg z, if_neg z]; exact h.2 i (by omega)
/-- the rows, as a side holds them -/
def RwS (m : Mem) (a c : Nat) (n : Nat) (D V : Nat → Nat) : Prop := ∀ i, i < n → gI m a i = nI (D i) ∧ gI m c i = nI (V i)
theorem RwS.up {m m' : Mem} {a c n d v : Nat} {D V : Nat → Nat} (h : RwS m a c n D V) (e1 : gI m' a n = nI d) (e2 : gI m' c n = nI v) (e3 : ∀ i, i ≠ n → gI m' a i = gI m a i) (e4 : ∀ i, i ≠ n → gI m' c i = gI m c i) : RwS m' a c (n + 1) (upD D n d) (upD V n v) := by
  intro i hi
  unfold upD
  by_cases z : i = n
  · rw [if_pos z, if_pos z, z]; exact ⟨e1, e2⟩
  · rw [if_neg z, if_neg z, e3 i z, e4 i z]; exact h i (by omega)
abbrev Lpf : List (Nat × Nat) := [(1, 2), (1, 3), (1, 4), (1, 5), (1, 6), (1, 7), (1, 8), (1, 10), (31, 1), (33, 999999), (34, 999999)]
/-- one row, the class -/
theorem pa_row {m : Mem} {b : Nat → Nat} {L M p n : Nat} {D V : Nat → Nat} (T : TA m b L M) (K : CKA m b L M p) (hp : p ≤ L) (W : WfR n D V) (h31 : gI m 31 1 = nI n) (R : RwS m 33 34 n D V) (h12 : gI m 1 2 = 0) (hK : tkK b L M p ≠ 0) :
    (∃ m', PA_followRow m = some (1, m') ∧ (tkK b L M p = 1 ∧ dirW (tkW b L M p) < 4) ∧ n < 30 ∧ (tkK b L M (tkN b L M p) = 2 ∧ 1 ≤ tkV b L M (tkN b L M p) ∧ tkV b L M (tkN b L M p) ≤ 99) ∧ tkK b L M (tkN b L M (tkN b L M p)) = 3 ∧ gI m' 1 10 = nI (tkN b L M (tkN b L M (tkN b L M p))) ∧ gI m' 31 1 = nI (n + 1) ∧ RwS m' 33 34 (n + 1) (upD D n (dirW (tkW b L M p))) (upD V n (tkV b L M (tkN b L M p))) ∧ gI m' 1 2 = 0 ∧ Frm Lpf [] m m' ∧ TA m' b L M ∧ ∀ k, pcl b L M (k + 1) p n D V = pcl b L M k (tkN b L M (tkN b L M (tkN b L M p))) (n + 1) (upD D n (dirW (tkW b L M p))) (upD V n (tkV b L M (tkN b L M p)))) ∨
    (∃ m' e s, PA_followRow m = some (0, m') ∧ 0 < e ∧ e < 6 ∧ gI m' 1 2 = nI e ∧ gI m' 1 3 = nI s ∧ Frm Lpf [] m m' ∧ ∀ k, pcl b L M (k + 1) p n D V = (e, s, n, D, V)) := by
  have kc := tkK_c b L M p
  have pc1 := fun k => pc_step hK k n D V
  have fl : ∀ x : Int32, RD_fail m x = some (0, sI (sI m 1 2 x) 1 3 (nI (tkS b L M p))) := fun x => by rw [RD_fail, RD_failAt, letM_p, letM_p, bV_s, if_pos (Or.inl rfl), K.2.1]
  have flv : ∀ x : Int32, gI (sI (sI m 1 2 x) 1 3 (nI (tkS b L M p))) 1 2 = x ∧ gI (sI (sI m 1 2 x) 1 3 (nI (tkS b L M p))) 1 3 = nI (tkS b L M p) ∧ Frm Lpf [] m (sI (sI m 1 2 x) 1 3 (nI (tkS b L M p))) := fun x => ⟨by rw [gI_sI, if_neg (by omega), gI_sI, if_pos ⟨rfl, rfl⟩], by rw [gI_sI, if_pos ⟨rfl, rfl⟩], (Frm.sI rfl rfl).tr (Frm.sI rfl rfl)⟩
  by_cases hd : tkK b L M p = 1 ∧ dirW (tkW b L M p) < 4
  · by_cases hn : n < 30
    · have tn := tkN_gt (b := b) (L := L) (M := M) (p := p) (Or.inl hd.1)
      have g6 : gI m 1 6 = nI (dirW (tkW b L M p)) := by rw [(K.2.2.2.1 hd.1).1, (dirW_word _).1 hd.2]
      let m2 := sI m 33 n (nI (dirW (tkW b L M p)))
      have h2 : m2 = sI m 33 n (nI (dirW (tkW b L M p))) := rfl
      have F2 : Frm Lpf [] m m2 := Frm.sI rfl rfl
      have T2 : TA m2 b L M := T.fr F2 rfl rfl (fun _ => rfl)
      obtain ⟨m4, e4, T4, a1, a2⟩ := readNum T2 (by rw [h2, gI_sI, if_neg (by omega)]; exact K.2.2.1 (Or.inl hd.1)) tn.2.1 1 99 (by omega) (by omega)
      have eF : PA_followRow m = bV (RD_readNumber m2 1 99) fun v3 m4 =>
          if v3 = 0 then (some (0, m4))
          else (if inb (gI m4 31 1) 30 then (letM (sI m4 34 (ixn (gI m4 31 1)) (gI m4 1 7)) fun m7 =>
          letM (sI m7 31 1 ((gI m7 31 1) + 1)) fun m8 =>
          bV (RD_readSemicolon m8) fun v9 m10 =>
          if v9 = 0 ∨ v9 = 1 then (some (v9, m10)) else none) else none) := by
        rw [PA_followRow, isDir K, if_pos hd, if_neg (by decide), h31, if_pos (by rw [show (30 : Int32) = nI 30 from rfl, n_lt (by omega) (by omega)]; exact hn), if_pos (n_in hn (by omega)), n_ixn (by omega), g6, letM_p]
      by_cases hv : tkK b L M (tkN b L M p) = 2 ∧ 1 ≤ tkV b L M (tkN b L M p) ∧ tkV b L M (tkN b L M p) ≤ 99
      · obtain ⟨b1, b2, F4⟩ := a1 hv
        have tn2 := tkN_gt (b := b) (L := L) (M := M) (p := tkN b L M p) (Or.inr (Or.inl hv.1))
        have e4' : RD_readNumber m2 1 99 = some (1, m4) := by rw [if_pos hv] at e4; exact e4
        have g31 : gI m4 31 1 = nI n := by rw [F4.I 31 1 rfl, h2, gI_sI, if_neg (by omega), h31]
        let m8 := sI (sI m4 34 n (nI (tkV b L M (tkN b L M p)))) 31 1 (nI (n + 1))
        have h8 : m8 = sI (sI m4 34 n (nI (tkV b L M (tkN b L M p)))) 31 1 (nI (n + 1)) := rfl
        have g31' : gI (sI m4 34 n (nI (tkV b L M (tkN b L M p)))) 31 1 = nI n := by rw [gI_sI, if_neg (by omega), g31]
        have F8 : Frm [(31, 1), (34, 999999)] [] m4 m8 := (Frm.sI rfl rfl).tr (Frm.sI rfl rfl)
        have T8 : TA m8 b L M := T4.fr F8 rfl rfl (fun _ => rfl)
        have R8 : RwS m8 33 34 (n + 1) (upD D n (dirW (tkW b L M p))) (upD V n (tkV b L M (tkN b L M p))) := by
          refine R.up ?_ ?_ (fun i hi => ?_) (fun i hi => ?_)
          · rw [F8.I 33 n rfl, F4.I 33 n rfl, h2, gI_sI, if_pos ⟨rfl, rfl⟩]
          · rw [h8, gI_sI, if_neg (by omega), gI_sI, if_pos ⟨rfl, rfl⟩]
          · rw [F8.I 33 i rfl, F4.I 33 i rfl, h2, gI_sI, if_neg (fun z => hi z.2)]
          · rw [h8, gI_sI, if_neg (by omega), gI_sI, if_neg (fun z => hi z.2), F4.I 34 i rfl, h2, gI_sI, if_neg (by omega)]
        have eF2 : PA_followRow m = bV (RD_readSemicolon m8) fun v9 m10 => if v9 = 0 ∨ v9 = 1 then (some (v9, m10)) else none := by
          rw [eF, e4', bV_s, if_neg (by decide), g31, if_pos (n_in hn (by omega)), n_ixn (by omega), b1, letM_p, g31', show nI n + 1 = nI (n + 1) by rw [k1, n_add], letM_p]
        obtain ⟨m3, e3, T3, s1, s2⟩ := readSemi (p := tkN b L M (tkN b L M p)) T8 (by rw [F8.I 1 10 rfl]; exact b2) tn2.2.1
        have F38 : Frm Lpf [] m m8 := F2.tr ((F4.mo (wL_sub rfl)).tr (F8.mo (wL_sub rfl)))
        by_cases h3' : tkK b L M (tkN b L M (tkN b L M p)) = 3
        · obtain ⟨t1, F3⟩ := s1 h3'
          rw [if_pos h3'] at e3
          refine Or.inl ⟨m3, by rw [eF2, e3, bV_s, if_pos (Or.inr rfl)], hd, hn, hv, h3', t1, by rw [F3.I 31 1 rfl, h8, gI_sI, if_pos ⟨rfl, rfl⟩], fun i hi => by rw [F3.I 33 i rfl, F3.I 34 i rfl]; exact R8 i hi, by rw [F3.I 1 2 rfl, F8.I 1 2 rfl, F4.I 1 2 rfl, h2, gI_sI, if_neg (by omega)]; exact h12, F38.tr (F3.mo (wL_sub rfl)), T3, fun k => by rw [pc1, if_pos hd, if_pos hn, if_pos hv.1, if_pos hv.2, if_pos h3']⟩
        · obtain ⟨t1, t2, F3⟩ := s2 h3'
          rw [if_neg h3'] at e3
          exact Or.inr ⟨m3, 1, tkS b L M (tkN b L M (tkN b L M p)), by rw [eF2, e3, bV_s, if_pos (Or.inl rfl)], by omega, by omega, t1, t2, F38.tr (F3.mo (wL_sub rfl)), fun k => by rw [pc1, if_pos hd, if_pos hn, if_pos hv.1, if_pos hv.2, if_neg h3']⟩
      · obtain ⟨b1, b2, F4⟩ := a2 hv
        have e4' : RD_readNumber m2 1 99 = some (0, m4) := by rw [if_neg hv] at e4; exact e4
        have F24 : Frm Lpf [] m m4 := F2.tr (F4.mo (wL_sub rfl))
        by_cases h2' : tkK b L M (tkN b L M p) = 2
        · rw [if_pos h2'] at b1
          exact Or.inr ⟨m4, 2, tkS b L M (tkN b L M p), by rw [eF, e4', bV_s, if_pos rfl], by omega, by omega, b1, b2, F24, fun k => by rw [pc1, if_pos hd, if_pos hn, if_pos h2', if_neg (fun y => hv ⟨h2', y⟩)]⟩
        · rw [if_neg h2'] at b1
          exact Or.inr ⟨m4, 1, tkS b L M (tkN b L M p), by rw [eF, e4', bV_s, if_pos rfl], by omega, by omega, b1, b2, F24, fun k => by rw [pc1, if_pos hd, if_pos hn, if_neg h2']⟩
    · have w1 := W.1
      obtain ⟨q1, q2, q3⟩ := flv 4
      refine Or.inr ⟨_, 4, tkS b L M p, ?_, by omega, by omega, q1, q2, q3, fun k => by rw [pc1, if_pos hd, if_neg hn]⟩
      rw [PA_followRow, isDir K, if_pos hd, if_neg (by decide), h31, if_neg (by rw [show (30 : Int32) = nI 30 from rfl, n_lt (by omega) (by omega)]; exact hn), fl, bV_s, if_pos (Or.inl rfl)]
  · obtain ⟨q1, q2, q3⟩ := flv 1
    refine Or.inr ⟨_, 1, tkS b L M p, ?_, by omega, by omega, q1, q2, q3, fun k => by rw [pc1, if_neg hd]⟩
    rw [PA_followRow, isDir K, if_neg hd, if_pos rfl, fl, bV_s, if_pos (Or.inl rfl)]
/-- what the class makes of the rows -/
def OutP (m m' : Mem) (R : Option (Int32 × Mem)) (o : Nat × Nat × Nat × (Nat → Nat) × (Nat → Nat)) : Prop := (o.1 = 0 ∧ R = PA_reckon m' ∧ gI m' 1 2 = 0 ∧ 2 ≤ o.2.2.1 ∧ WfR o.2.2.1 o.2.2.2.1 o.2.2.2.2 ∧ gI m' 31 1 = nI o.2.2.1 ∧ RwS m' 33 34 o.2.2.1 o.2.2.2.1 o.2.2.2.2 ∧ Frm Lpf [] m m') ∨ (0 < o.1 ∧ o.1 < 6 ∧ (∃ v, R = some (v, m')) ∧ gI m' 1 2 = nI o.1 ∧ gI m' 1 3 = nI o.2.1 ∧ Frm Lpf [] m m')
theorem pa_end {m : Mem} {b : Nat → Nat} {L M p x4 f n k : Nat} {D V : Nat → Nat} (T : TA m b L M) (h10 : gI m 1 10 = nI p) (hp : p ≤ L) (hx : x4 ≤ 300) (W : WfR n D V) (h31 : gI m 31 1 = nI n) (R : RwS m 33 34 n D V) (h12 : gI m 1 2 = 0) (hK : tkK b L M p = 0) : ∃ m', OutP m m' (PA_follow_L7 (fun m2 => some ((-1), m2)) (f + 1) m (nI x4)) (pcl b L M k p n D V) := by
  have l1 := T.1
  have l2 := T.2.1
  have w1 := W.1
  obtain ⟨m1, e1, K, T1, F1⟩ := adv T h10 hp
  have eE : RD_isAtEnd m = some (1, m1) := by rw [RD_isAtEnd, e1, bM_s, K.1, hK, if_pos (by decide)]
  have e0 : PA_follow_L7 (fun m2 => some ((-1), m2)) (f + 1) m (nI x4) = bV (RD_closes m1) fun v7 m8 => if v7 = 0 then (some ((-1), m8)) else (if 2 ≤ (gI m8 31 1) then PA_reckon m8 else (bV (RD_fail m8 4) fun v10 m11 => if v10 = 0 then (some ((-1), m11)) else PA_reckon m11)) := by
    have J : ∀ a c mm, PA_follow_J44 a c mm = PA_reckon mm := fun a c mm => by
      rw [PA_follow_J44]
      cases PA_reckon mm <;> rfl
    rw [PA_follow_L7, if_neg (by rw [show (300 : Int32) = nI 300 from rfl, n_lt (by omega) (by omega)]; omega), eE, bV_s, if_neg (by decide)]
    simp only [J]
  have fl : ∀ x : Int32, RD_fail m1 x = some (0, sI (sI m1 1 2 x) 1 3 (nI (tkS b L M p))) := fun x => by rw [RD_fail, RD_failAt, letM_p, letM_p, bV_s, if_pos (Or.inl rfl), K.2.1]
  have flv : ∀ x : Int32, gI (sI (sI m1 1 2 x) 1 3 (nI (tkS b L M p))) 1 2 = x ∧ gI (sI (sI m1 1 2 x) 1 3 (nI (tkS b L M p))) 1 3 = nI (tkS b L M p) ∧ Frm Lpf [] m (sI (sI m1 1 2 x) 1 3 (nI (tkS b L M p))) := fun x => ⟨by rw [gI_sI, if_neg (by omega), gI_sI, if_pos ⟨rfl, rfl⟩], by rw [gI_sI, if_pos ⟨rfl, rfl⟩], (F1.mo (wL_sub rfl)).tr ((Frm.sI rfl rfl).tr (Frm.sI rfl rfl))⟩
  have g31 : gI m1 31 1 = nI n := by rw [F1.I 31 1 rfl, h31]
  rw [pc_end hK]
  unfold pce
  by_cases z : L ≤ M
  · rw [if_pos z]
    have eC : RD_closes m1 = some (1, m1) := by rw [RD_closes, T1.2.2.1, T1.2.2.2.1, if_pos (by rw [n_le (by omega) (by omega)]; exact z)]
    by_cases hn : 2 ≤ n
    · rw [if_pos hn]
      refine ⟨m1, Or.inl ⟨rfl, ?_, by rw [F1.I 1 2 rfl, h12], hn, W, g31, fun i hi => by rw [F1.I 33 i rfl, F1.I 34 i rfl]; exact R i hi, F1.mo (wL_sub rfl)⟩⟩
      rw [e0, eC, bV_s, if_neg (by decide), g31, if_pos (by rw [k2, n_le (by omega) (by omega)]; exact hn)]
    · rw [if_neg hn]
      obtain ⟨q1, q2, q3⟩ := flv 4
      refine ⟨_, Or.inr ⟨by show 0 < 4; omega, by show 4 < 6; omega, ⟨-1, ?_⟩, q1, q2, q3⟩⟩
      rw [e0, eC, bV_s, if_neg (by decide), g31, if_neg (by rw [k2, n_le (by omega) (by omega)]; exact hn), fl, bV_s, if_pos rfl]
  · rw [if_neg z]
    have eC : RD_closes m1 = some (0, sI (sI m1 1 2 1) 1 3 (nI (tkS b L M p))) := by
      rw [RD_closes, T1.2.2.1, T1.2.2.2.1, if_neg (by rw [n_le (by omega) (by omega)]; exact z), fl, bV_s, if_pos rfl]
    obtain ⟨q1, q2, q3⟩ := flv 1
    exact ⟨_, Or.inr ⟨by show 0 < 1; omega, by show 1 < 6; omega, ⟨-1, by rw [e0, eC, bV_s, if_pos rfl]⟩, q1, q2, q3⟩⟩
theorem pa_loop {b : Nat → Nat} {L M : Nat} (hM : M ≤ 300) : ∀ (k p x4 fu n : Nat) (D V : Nat → Nat) (m : Mem), min L M ≤ p + k → x4 ≤ p → x4 ≤ 300 → p ≤ L → k < fu → TA m b L M → gI m 1 10 = nI p → WfR n D V → gI m 31 1 = nI n → RwS m 33 34 n D V → gI m 1 2 = 0 →
    ∃ m', OutP m m' (PA_follow_L7 (fun m2 => some ((-1), m2)) fu m (nI x4)) (pcl b L M k p n D V) := by
  intro k
  induction k with
  | zero =>
    intro p x4 fu n D V m hk hx hx3 hp hf T h10 W h31 R h12
    obtain ⟨f, rfl⟩ : ∃ f, fu = f + 1 := ⟨fu - 1, by omega⟩
    exact pa_end T h10 hp hx3 W h31 R h12 (tkK_end (by omega))
  | succ k ih =>
    intro p x4 fu n D V m hk hx hx3 hp hf T h10 W h31 R h12
    obtain ⟨f, rfl⟩ : ∃ f, fu = f + 1 := ⟨fu - 1, by omega⟩
    by_cases hK : tkK b L M p = 0
    · exact pa_end T h10 hp hx3 W h31 R h12 hK
    · have kc := tkK_c b L M p
      obtain ⟨m1, e1, K, T1, F1⟩ := adv T h10 hp
      have eE : RD_isAtEnd m = some (0, m1) := by rw [RD_isAtEnd, e1, bM_s, K.1, if_neg (by rw [k0, n_eq (by omega) (by omega)]; exact hK)]
      have e0 : PA_follow_L7 (fun m2 => some ((-1), m2)) (f + 1) m (nI x4) = bV (PA_followRow m1) fun v4 m5 => if v4 = 0 then (some ((-1), m5)) else (PA_follow_L7 (fun m2 => some ((-1), m2)) f m5 (nI (x4 + 1))) := by
        rw [PA_follow_L7, if_neg (by rw [show (300 : Int32) = nI 300 from rfl, n_lt (by omega) (by omega)]; omega), eE, bV_s, if_pos rfl, show nI x4 + 1 = nI (x4 + 1) by rw [k1, n_add]]
      rcases pa_row T1 K hp W (by rw [F1.I 31 1 rfl]; exact h31) (fun i hi => by rw [F1.I 33 i rfl, F1.I 34 i rfl]; exact R i hi) (by rw [F1.I 1 2 rfl]; exact h12) hK with ⟨m2, e2, hd, hn, hv, h3', g10, g31, R2, g12, F2, T2, wk⟩ | ⟨m2, e, s, e2, p1, p2, p3, p4, F2, wk⟩
      · have t1 := tkN_gt (b := b) (L := L) (M := M) (p := p) (Or.inl hd.1)
        have t2 := tkN_gt (b := b) (L := L) (M := M) (p := tkN b L M p) (Or.inr (Or.inl hv.1))
        have t3 := tkN_gt (b := b) (L := L) (M := M) (p := tkN b L M (tkN b L M p)) (Or.inr (Or.inr h3'))
        obtain ⟨m3, O⟩ := ih (tkN b L M (tkN b L M (tkN b L M p))) (x4 + 1) f (n + 1) _ _ m2 (by omega) (by omega) (by omega) t3.2.1 (by omega) T2 g10 (W.up hn hd.2 hv.2.1 hv.2.2) g31 R2 g12
        rw [e0, e2, bV_s, if_neg (by decide), wk]
        have F12 : Frm Lpf [] m m2 := (F1.mo (wL_sub rfl)).tr F2
        rcases O with ⟨q1, q2, q3, q4, q5, q6, q7, q8⟩ | ⟨q1, q2, q3, q4, q5, q6⟩
        · exact ⟨m3, Or.inl ⟨q1, q2, q3, q4, q5, q6, q7, F12.tr q8⟩⟩
        · exact ⟨m3, Or.inr ⟨q1, q2, q3, q4, q5, F12.tr q6⟩⟩
      · rw [e0, e2, bV_s, if_pos rfl, wk]
        exact ⟨m2, Or.inr ⟨p1, p2, ⟨_, rfl⟩, p3, p4, (F1.mo (wL_sub rfl)).tr F2⟩⟩

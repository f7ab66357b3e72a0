/-! walk -/
def dirW (w : Int64) : Nat := if w = 110 then 0 else if w = 101 then 1 else if w = 115 then 2 else if w = 119 then 3 else 4
theorem dirW_word (w : Int64) : (dirW w < 4 → RD_wordOf w = nI (dirW w)) ∧ (¬ dirW w < 4 → (3 : Int32) < RD_wordOf w) := by
  unfold dirW RD_wordOf
  by_cases h1 : w = 110
  · rw [if_pos h1, if_pos h1]; exact ⟨fun _ => rfl, fun z => by omega⟩
  · rw [if_neg h1, if_neg h1]
    by_cases h2 : w = 101
    · rw [if_pos h2, if_pos h2]; exact ⟨fun _ => rfl, fun z => by omega⟩
    · rw [if_neg h2, if_neg h2]
      by_cases h3 : w = 115
      · rw [if_pos h3, if_pos h3]; exact ⟨fun _ => rfl, fun z => by omega⟩
      · rw [if_neg h3, if_neg h3]
        by_cases h4 : w = 119
        · rw [if_pos h4, if_pos h4]; exact ⟨fun _ => rfl, fun z => by omega⟩
        · rw [if_neg h4, if_neg h4]
          refine ⟨fun z => by omega, fun _ => ?_⟩
          have lt_ite : ∀ {p : Prop} [Decidable p] {a b : Int32}, (3 : Int32) < a → (3 : Int32) < b → (3 : Int32) < (if p then a else b) := fun ha hb => by split <;> assumption
          repeat' apply lt_ite
          all_goals decide
theorem cmp0 (a b : Int64) : (lg_cmp a b = 0) ↔ a = b := by
  unfold lg_cmp
  by_cases h : a > b
  · rw [if_pos h]
    refine ⟨fun z => absurd z (by decide), fun z => ?_⟩
    rw [z, gt_iff_lt, Int64.lt_iff_toInt_lt] at h; omega
  · rw [if_neg h]
    by_cases h2 : a = b
    · rw [if_pos h2]; exact ⟨fun _ => h2, fun _ => rfl⟩
    · rw [if_neg h2]; exact ⟨fun z => absurd z (by decide), fun z => absurd z h2⟩
theorem isDir {m : Mem} {b : Nat → Nat} {L M p : Nat} (K : CKA m b L M p) : RD_isWord m 0 3 = if tkK b L M p = 1 ∧ dirW (tkW b L M p) < 4 then 1 else 0 := by
  have kc := tkK_c b L M p
  unfold RD_isWord
  rw [K.1]
  by_cases z : tkK b L M p = 1
  · rw [if_pos (by rw [z]; rfl), (K.2.2.2.1 z).1]
    obtain ⟨d1, d2⟩ := dirW_word (tkW b L M p)
    by_cases w : dirW (tkW b L M p) < 4
    · rw [d1 w, if_neg (by rw [k0, n_lt (by omega) (by omega)]; omega), if_neg (by rw [k3, n_lt (by omega) (by omega)]; omega), if_pos ⟨z, w⟩]
    · have := d2 w
      rw [if_pos this, ite_self, if_neg (fun y => w y.2)]
  · rw [if_neg (by rw [k1, n_eq (by omega) (by omega)]; exact z), if_neg (fun y => z y.1)]
theorem dirR {m : Mem} {b : Nat → Nat} {L M p : Nat} (K : CKB m b L M p) : RM_dirOfWord m = if tkK b L M p = 1 ∧ dirW (tkW b L M p) < 4 then nI (dirW (tkW b L M p)) else -1 := by
  have kc := tkK_c b L M p
  have wd : ∀ x, RM_isWord m x = if tkK b L M p = 1 ∧ tkW b L M p = x then 1 else 0 := fun x => by
    unfold RM_isWord
    rw [K.1]
    by_cases z : tkK b L M p = 1
    · rw [if_neg (show ¬ (tkK b L M p = 0 ∧ M < L) by omega), z, if_pos (by decide), K.2.2.2.1 z]
      by_cases w : tkW b L M p = x
      · rw [if_pos ((cmp0 _ _).mpr w), if_pos ⟨rfl, w⟩]
      · rw [if_neg (fun y => w ((cmp0 _ _).mp y)), if_neg (fun y => w y.2)]
    · rw [if_neg (show ¬ (tkK b L M p = 1 ∧ tkW b L M p = x) from fun y => z y.1)]
      rw [if_neg]
      split <;> rw [k1, n_eq (by omega) (by omega)] <;> omega
  unfold RM_dirOfWord
  rw [wd, wd, wd, wd]
  unfold dirW
  by_cases z : tkK b L M p = 1
  · simp only [z, true_and]
    by_cases h1 : tkW b L M p = 110
    · simp [h1]; rfl
    · by_cases h2 : tkW b L M p = 101
      · simp [h2]; rfl
      · by_cases h3 : tkW b L M p = 115
        · simp [h3]; rfl
        · by_cases h4 : tkW b L M p = 119
          · simp [h4]; rfl
          · simp [h1, h2, h3, h4]
  · simp [z]
/-- n steps in direction d -/
def wst (X : Nat → Nat → Nat) (d : Nat) : Nat → Nat → Int32 → Int32 → Option (Nat × Int32 × Int32)
  | 0, sq, c, st => some (sq, c, st)
  | n + 1, sq, c, st => match nb sq d with
    | none => none
    | some v => wst X d n v (c + nI (X sq d)) (st + 1)
theorem wst_lt {X : Nat → Nat → Nat} {d : Nat} : ∀ n sq c st r, sq < 400 → wst X d n sq c st = some r → r.1 < 400
  | 0, sq, c, st, r, hs, h => by unfold wst at h; rw [← Option.some.inj h]; exact hs
  | n + 1, sq, c, st, r, hs, h => by
    unfold wst at h
    cases hb : nb sq d with
    | none => rw [hb] at h; simp at h
    | some v => rw [hb] at h; exact wst_lt n v _ _ r (nb_lt hs hb) h
abbrev Lw3 : List (Nat × Nat) := [(26, 1), (26, 2), (26, 3)]
theorem w26 : ∀ c, c < 11 → ∀ k, wL Lw3 c k = false := by
  intro c hc k
  unfold wL
  simp
  omega
theorem wa_steps {n V S d : Nat} {U V' : Nat → Int} {kx : Mem → Option (Int32 × Mem)} (hn : n ≤ 12) (hd : d < 4) (hV : V ≤ 99) : ∀ (k j fu sq : Nat) (c st : Int32) (m : Mem), j + k = V → k < fu → sq < 400 → gI m 1 7 = nI V → gI m 26 1 = nI sq → gI m 26 2 = st → gI m 26 3 = c → GX m n U V' →
    (∀ r, wst (stX U V' n) d k sq c st = some r → ∃ m', WK_followRow_L41 5 (nI S) (nI d) kx fu m (nI j) = kx m' ∧ gI m' 26 1 = nI r.1 ∧ gI m' 26 2 = r.2.2 ∧ gI m' 26 3 = r.2.1 ∧ Frm Lw3 [] m m') ∧ (wst (stX U V' n) d k sq c st = none → ∃ m', WK_followRow_L41 5 (nI S) (nI d) kx fu m (nI j) = some (0, m') ∧ gI m' 1 2 = 5 ∧ gI m' 1 3 = nI S ∧ Frm [(26, 1), (26, 2), (26, 3), (1, 2), (1, 3)] [] m m')
  | 0, j, fu, sq, c, st, m, hj, hf, hs, h7, h1, h2, h3, G => by
    obtain ⟨f, rfl⟩ : ∃ f, fu = f + 1 := ⟨fu - 1, by omega⟩
    refine ⟨fun r hr => ⟨m, by rw [WK_followRow_L41, h7, if_pos (by rw [n_le (by omega) (by omega)]; omega)], ?_⟩, fun hr => by unfold wst at hr; simp at hr⟩
    unfold wst at hr
    rw [← Option.some.inj hr]
    exact ⟨h1, h2, h3, Frm.rf⟩
  | k + 1, j, fu, sq, c, st, m, hj, hf, hs, h7, h1, h2, h3, G => by
    obtain ⟨f, rfl⟩ : ∃ f, fu = f + 1 := ⟨fu - 1, by omega⟩
    obtain ⟨T, O, GR⟩ := id G
    have ec := crossed_eq GR hs hd
    unfold wst
    cases hb : nb sq d with
    | none =>
      refine ⟨fun r hr => by simp at hr, fun _ => ⟨sI (sI m 1 2 5) 1 3 (nI S), ?_, by rw [gI_sI, if_neg (by omega), gI_sI, if_pos ⟨rfl, rfl⟩], by rw [gI_sI, if_pos ⟨rfl, rfl⟩], (Frm.sI rfl rfl).tr (Frm.sI rfl rfl)⟩⟩
      rw [WK_followRow_L41, h7, if_neg (by rw [n_le (by omega) (by omega)]; omega), h1, step_nb hs hd, hb, letV_p, if_neg (by decide), RD_failAt, letM_p, letM_p, bV_s, if_pos (Or.inl rfl)]
    | some v =>
      rw [hb] at ec
      have hv := nb_lt hs hb
      let m6 := sI (sI (sI m 26 3 (c + nI (stX U V' n sq d))) 26 1 (nI v)) 26 2 (st + 1)
      have h6 : m6 = sI (sI (sI m 26 3 (c + nI (stX U V' n sq d))) 26 1 (nI v)) 26 2 (st + 1) := rfl
      have F6 : Frm Lw3 [] m m6 := (Frm.sI rfl rfl).tr ((Frm.sI rfl rfl).tr (Frm.sI rfl rfl))
      have e0 : WK_followRow_L41 5 (nI S) (nI d) kx (f + 1) m (nI j) = WK_followRow_L41 5 (nI S) (nI d) kx f m6 (nI (j + 1)) := by
        have g2 : gI (sI (sI m 26 3 (c + nI (stX U V' n sq d))) 26 1 (nI v)) 26 2 = st := by rw [gI_sI, if_neg (by omega), gI_sI, if_neg (by omega), h2]
        rw [WK_followRow_L41, h7, if_neg (by rw [n_le (by omega) (by omega)]; omega), h1, step_nb hs hd, hb, letV_p, show enc (some v) = nI v from rfl, if_pos (by rw [k0, n_le (by omega) (by omega)]; omega), ec, bI_s, h3, stX_n, letM_p, letM_p, g2, letM_p, show nI j + 1 = nI (j + 1) by rw [k1, n_add]]
      obtain ⟨i1, i2⟩ := wa_steps (S := S) (kx := kx) hn hd hV k (j + 1) f v (c + nI (stX U V' n sq d)) (st + 1) m6 (by omega) (by omega) hv (by rw [F6.I 1 7 rfl]; exact h7) (by rw [h6, gI_sI, if_neg (by omega), gI_sI, if_pos ⟨rfl, rfl⟩]) (by rw [h6, gI_sI, if_pos ⟨rfl, rfl⟩]) (by rw [h6, gI_sI, if_neg (by omega), gI_sI, if_neg (by omega), gI_sI, if_pos ⟨rfl, rfl⟩]) (G.fr F6 w26)
      refine ⟨fun r hr => ?_, fun hr => ?_⟩
      · obtain ⟨m', e, a1, a2, a3, F⟩ := i1 r hr
        exact ⟨m', by rw [e0, e], a1, a2, a3, F6.tr F⟩
      · obtain ⟨m', e, a1, a2, F⟩ := i2 hr
        exact ⟨m', by rw [e0, e], a1, a2, (F6.mo (wL_sub rfl)).tr F⟩
theorem wb_steps {n V S d : Nat} {U V' : Nat → Int} {kx : Mem → Int32 → Int32 → Int32 → Option (Int32 × Mem)} {m : Mem} (hP : PolyR m n (fun i => 2 * U i) (fun i => 2 * V' i)) (hU : ∀ i, i ≤ n → 0 ≤ U i ∧ U i ≤ 20) (hV' : ∀ i, i ≤ n → 0 ≤ V' i ∧ V' i ≤ 20) (hd : d < 4) (hV : V ≤ 99) (h17 : gI m 133 17 = nI V) : ∀ (k j fu sq : Nat) (c st : Int32), j + k = V → k < fu → sq < 400 →
    (∀ r, wst (stX U V' n) d k sq c st = some r → RM_walk_L142 (nI d) (nI S) kx fu m (nI sq) c st (nI j) = kx m (nI r.1) r.2.1 r.2.2) ∧ (wst (stX U V' n) d k sq c st = none → RM_walk_L142 (nI d) (nI S) kx fu m (nI sq) c st (nI j) = some (-1 - nI S, sI m 133 14 5))
  | 0, j, fu, sq, c, st, hj, hf, hs => by
    obtain ⟨f, rfl⟩ : ∃ f, fu = f + 1 := ⟨fu - 1, by omega⟩
    refine ⟨fun r hr => ?_, fun hr => by unfold wst at hr; simp at hr⟩
    unfold wst at hr
    rw [← Option.some.inj hr, RM_walk_L142, h17, if_pos (by rw [n_le (by omega) (by omega)]; omega)]
  | k + 1, j, fu, sq, c, st, hj, hf, hs => by
    obtain ⟨f, rfl⟩ : ∃ f, fu = f + 1 := ⟨fu - 1, by omega⟩
    unfold wst
    cases hb : nb sq d with
    | none =>
      refine ⟨fun r hr => by simp at hr, fun _ => ?_⟩
      rw [RM_walk_L142, h17, if_neg (by rw [n_le (by omega) (by omega)]; omega), beside_nb hs hd, hb, if_neg (by decide), letM_p]
    | some v =>
      have hv := nb_lt hs hb
      obtain ⟨i1, i2⟩ := wb_steps (S := S) (kx := kx) hP hU hV' hd hV h17 k (j + 1) f v (c + nI (stX U V' n sq d)) (st + 1) (by omega) (by omega) hv
      have e0 : RM_walk_L142 (nI d) (nI S) kx (f + 1) m (nI sq) c st (nI j) = RM_walk_L142 (nI d) (nI S) kx f m (nI v) (c + nI (stX U V' n sq d)) (st + 1) (nI (j + 1)) := by
        rw [RM_walk_L142, h17, if_neg (by rw [n_le (by omega) (by omega)]; omega), beside_nb hs hd, hb, show enc (some v) = nI v from rfl, if_pos (by rw [k0, n_le (by omega) (by omega)]; omega), crossesOf_eq hP hU hV' hs hd hb, bI_s, stX_n, letV_p, letV_p, show nI j + 1 = nI (j + 1) by rw [k1, n_add]]
      exact ⟨fun r hr => by rw [e0]; exact i1 r hr, fun hr => by rw [e0]; exact i2 hr⟩
/-- what a walk comes to: (fault, where, square, crossings, steps) -/
def wkl (b : Nat → Nat) (L M : Nat) (X : Nat → Nat → Nat) : Nat → Nat → Nat → Int32 → Int32 → Nat × Nat × Nat × Int32 × Int32
  | 0, p, sq, c, st => if L ≤ M then (0, 0, sq, c, st) else (1, tkS b L M p, sq, c, st)
  | n + 1, p, sq, c, st =>
    if tkK b L M p = 0 then (if L ≤ M then (0, 0, sq, c, st) else (1, tkS b L M p, sq, c, st))
    else if tkK b L M p = 1 ∧ dirW (tkW b L M p) < 4 then
      (if tkK b L M (tkN b L M p) = 2 then
        (if 1 ≤ tkV b L M (tkN b L M p) ∧ tkV b L M (tkN b L M p) ≤ 20 then
          (match wst X (dirW (tkW b L M p)) (tkV b L M (tkN b L M p)) sq c st with
          | none => (5, tkS b L M p, sq, c, st)
          | some r => if tkK b L M (tkN b L M (tkN b L M p)) = 3 then wkl b L M X n (tkN b L M (tkN b L M (tkN b L M p))) r.1 r.2.1 r.2.2 else (1, tkS b L M (tkN b L M (tkN b L M p)), sq, c, st))
        else (2, tkS b L M (tkN b L M p), sq, c, st))
      else (1, tkS b L M (tkN b L M p), sq, c, st))
    else (1, tkS b L M p, sq, c, st)
theorem readNum {m : Mem} {b : Nat → Nat} {L M p : Nat} (T : TA m b L M) (h10 : gI m 1 10 = nI p) (hp : p ≤ L) (lo hi : Nat) (hhi : hi ≤ 99) (hlo : lo ≤ 99) : ∃ m', RD_readNumber m (nI lo) (nI hi) = some (if tkK b L M p = 2 ∧ lo ≤ tkV b L M p ∧ tkV b L M p ≤ hi then 1 else 0, m') ∧ TA m' b L M ∧ (tkK b L M p = 2 ∧ lo ≤ tkV b L M p ∧ tkV b L M p ≤ hi → gI m' 1 7 = nI (tkV b L M p) ∧ gI m' 1 10 = nI (tkN b L M p) ∧ Frm Ltk [] m m') ∧ (¬ (tkK b L M p = 2 ∧ lo ≤ tkV b L M p ∧ tkV b L M p ≤ hi) → gI m' 1 2 = (if tkK b L M p = 2 then 2 else 1) ∧ gI m' 1 3 = nI (tkS b L M p) ∧ Frm ((1, 2) :: (1, 3) :: Ltk) [] m m') := by
  obtain ⟨m1, e1, K, T1, F1⟩ := adv T h10 hp
  have kc := tkK_c b L M p
  have fl : ∀ x : Int32, RD_fail m1 x = some (0, sI (sI m1 1 2 x) 1 3 (nI (tkS b L M p))) := fun x => by rw [RD_fail, RD_failAt, letM_p, letM_p, bV_s, if_pos (Or.inl rfl), K.2.1]
  have F2 : ∀ x : Int32, Frm ((1, 2) :: (1, 3) :: Ltk) [] m (sI (sI m1 1 2 x) 1 3 (nI (tkS b L M p))) := fun x => (F1.mo (wL_sub rfl)).tr ((Frm.sI rfl rfl).tr (Frm.sI rfl rfl))
  have T2 : ∀ x : Int32, TA (sI (sI m1 1 2 x) 1 3 (nI (tkS b L M p))) b L M := fun x => T.fr (F2 x) rfl rfl (fun _ => rfl)
  have v2 : ∀ x : Int32, gI (sI (sI m1 1 2 x) 1 3 (nI (tkS b L M p))) 1 2 = x ∧ gI (sI (sI m1 1 2 x) 1 3 (nI (tkS b L M p))) 1 3 = nI (tkS b L M p) := fun x => ⟨by rw [gI_sI, if_neg (by omega), gI_sI, if_pos ⟨rfl, rfl⟩], by rw [gI_sI, if_pos ⟨rfl, rfl⟩]⟩
  by_cases z : tkK b L M p = 2
  · have hv := (tkV_eq z).2
    by_cases w : lo ≤ tkV b L M p ∧ tkV b L M p ≤ hi
    · refine ⟨m1, ?_, T1, fun _ => ⟨K.2.2.2.2 z, K.2.2.1 (Or.inr (Or.inl z)), F1⟩, fun y => absurd ⟨z, w⟩ y⟩
      rw [RD_readNumber, e1, bM_s, K.1, z, if_pos (by decide), K.2.2.2.2 z, if_neg (by rw [n_lt (by omega) (by omega)]; omega), if_pos (by rw [n_le (by omega) (by omega)]; omega), if_pos ⟨rfl, w⟩]
    · refine ⟨_, ?_, T2 2, fun y => absurd y.2 w, fun _ => ⟨by rw [if_pos z]; exact (v2 2).1, (v2 2).2, F2 2⟩⟩
      have J : RD_readNumber_J34 m1 = some (0, sI (sI m1 1 2 2) 1 3 (nI (tkS b L M p))) := by rw [RD_readNumber_J34, fl, bV_s, if_pos rfl]
      rw [RD_readNumber, e1, bM_s, K.1, z, if_pos (by decide), K.2.2.2.2 z, J, if_neg (fun y : (2 = 2 ∧ lo ≤ tkV b L M p ∧ tkV b L M p ≤ hi) => w y.2)]
      by_cases y : tkV b L M p < lo
      · rw [if_pos (by rw [n_lt (by omega) (by omega)]; exact y)]
      · rw [if_neg (by rw [n_lt (by omega) (by omega)]; exact y), if_neg (by rw [n_le (by omega) (by omega)]; omega)]
  · refine ⟨_, ?_, T2 1, fun y => absurd y.1 z, fun _ => ⟨by rw [if_neg z]; exact (v2 1).1, (v2 1).2, F2 1⟩⟩
    rw [RD_readNumber, e1, bM_s, K.1, if_neg (by rw [k2, n_eq (by omega) (by omega)]; exact z), fl, bV_s, if_pos (Or.inl rfl), if_neg (fun y => z y.1)]
theorem readSemi {m : Mem} {b : Nat → Nat} {L M p : Nat} (T : TA m b L M) (h10 : gI m 1 10 = nI p) (hp : p ≤ L) : ∃ m', RD_readSemicolon m = some (if tkK b L M p = 3 then 1 else 0, m') ∧ TA m' b L M ∧ (tkK b L M p = 3 → gI m' 1 10 = nI (tkN b L M p) ∧ Frm Ltk [] m m') ∧ (¬ tkK b L M p = 3 → gI m' 1 2 = 1 ∧ gI m' 1 3 = nI (tkS b L M p) ∧ Frm ((1, 2) :: (1, 3) :: Ltk) [] m m') := by
  obtain ⟨m1, e1, K, T1, F1⟩ := adv T h10 hp
  have kc := tkK_c b L M p
  have fl : RD_fail m1 1 = some (0, sI (sI m1 1 2 1) 1 3 (nI (tkS b L M p))) := by rw [RD_fail, RD_failAt, letM_p, letM_p, bV_s, if_pos (Or.inl rfl), K.2.1]
  have F2 : Frm ((1, 2) :: (1, 3) :: Ltk) [] m (sI (sI m1 1 2 1) 1 3 (nI (tkS b L M p))) := (F1.mo (wL_sub rfl)).tr ((Frm.sI rfl rfl).tr (Frm.sI rfl rfl))
  by_cases z : tkK b L M p = 3
  · refine ⟨m1, by rw [RD_readSemicolon, e1, bM_s, K.1, z, if_pos (by decide), if_pos rfl], T1, fun _ => ⟨K.2.2.1 (Or.inr (Or.inr z)), F1⟩, fun y => absurd z y⟩
  · refine ⟨_, by rw [RD_readSemicolon, e1, bM_s, K.1, if_neg (by rw [k3, n_eq (by omega) (by omega)]; exact z), fl, bV_s, if_pos rfl, if_neg z], T.fr F2 rfl rfl (fun _ => rfl), fun y => absurd y z, fun _ => ⟨by rw [gI_sI, if_neg (by omega), gI_sI, if_pos ⟨rfl, rfl⟩], by rw [gI_sI, if_pos ⟨rfl, rfl⟩], F2⟩⟩
/-- the same, as the reference does it: the token stands already -/
theorem takesB {m : Mem} {b : Nat → Nat} {L M p : Nat} (T : TB m b L M) (K : CKB m b L M p) (hp : p ≤ L) (lo hi : Nat) (hhi : hi ≤ 99) (hlo : lo ≤ 99) : ∃ m', RM_takes m (nI lo) (nI hi) = some (if tkK b L M p = 2 ∧ lo ≤ tkV b L M p ∧ tkV b L M p ≤ hi then 1 else 0, m') ∧ (tkK b L M p = 2 ∧ lo ≤ tkV b L M p ∧ tkV b L M p ≤ hi → gI m' 133 17 = nI (tkV b L M p) ∧ CKB m' b L M (tkN b L M p) ∧ TB m' b L M ∧ Frm ((133, 17) :: Lnx) [] m m') ∧ (¬ (tkK b L M p = 2 ∧ lo ≤ tkV b L M p ∧ tkV b L M p ≤ hi) → gI m' 133 14 = (if tkK b L M p = 2 then 2 else 1) ∧ gI m' 133 15 = nI (tkS b L M p) ∧ Frm [(133, 14), (133, 15)] [] m m') := by
  have kc := tkK_c b L M p
  have bd : ∀ x : Int32, RM_bad m x = some (0, sI (sI m 133 14 x) 133 15 (nI (tkS b L M p))) := fun x => by
    have : gI (sI m 133 14 x) 133 11 = nI (tkS b L M p) := by rw [gI_sI, if_neg (by omega), K.2.1]
    rw [RM_bad, letM_p, this, letM_p]
  have v2 : ∀ x : Int32, gI (sI (sI m 133 14 x) 133 15 (nI (tkS b L M p))) 133 14 = x ∧ gI (sI (sI m 133 14 x) 133 15 (nI (tkS b L M p))) 133 15 = nI (tkS b L M p) := fun x => ⟨by rw [gI_sI, if_neg (by omega), gI_sI, if_pos ⟨rfl, rfl⟩], by rw [gI_sI, if_pos ⟨rfl, rfl⟩]⟩
  have F2 : ∀ x : Int32, Frm [(133, 14), (133, 15)] [] m (sI (sI m 133 14 x) 133 15 (nI (tkS b L M p))) := fun x => (Frm.sI rfl rfl).tr (Frm.sI rfl rfl)
  by_cases z : tkK b L M p = 2
  · have hv := (tkV_eq z).2
    have k10 : gI m 133 10 = 2 := by rw [K.1, z, if_neg (by omega)]; rfl
    have k13 := K.2.2.2.2.1 z
    by_cases w : lo ≤ tkV b L M p ∧ tkV b L M p ≤ hi
    · have F1 : Frm [(133, 17)] [] m (sI m 133 17 (nI (tkV b L M p))) := Frm.sI rfl rfl
      have T1 : TB (sI m 133 17 (nI (tkV b L M p))) b L M := ⟨T.1, T.2.1, by rw [F1.I 133 3 rfl]; exact T.2.2.1, by rw [F1.I 133 5 rfl]; exact T.2.2.2.1, fun i hi => by rw [F1.I 134 i rfl]; exact T.2.2.2.2 i hi⟩
      have tn := tkN_gt (b := b) (L := L) (M := M) (p := p) (Or.inr (Or.inl z))
      obtain ⟨m2, e2, K2, T2, F2'⟩ := nxt T1 (by rw [gI_sI, if_neg (by omega)]; exact K.2.2.1 (Or.inr (Or.inl z))) tn.2.1
      refine ⟨m2, ?_, fun _ => ⟨by rw [F2'.I 133 17 rfl, gI_sI, if_pos ⟨rfl, rfl⟩], K2, T2, (F1.mo (wL_sub rfl)).tr (F2'.mo (wL_sub rfl))⟩, fun y => absurd ⟨z, w⟩ y⟩
      rw [RM_takes, k10, if_pos rfl, k13, isIn_in w.1 w.2 (by omega), if_neg (by decide), letM_p, e2, bM_s, if_pos ⟨z, w⟩]
    · refine ⟨_, ?_, fun y => absurd y.2 w, fun _ => ⟨by rw [if_pos z]; exact (v2 2).1, (v2 2).2, F2 2⟩⟩
      rw [RM_takes, k10, if_pos rfl, k13, isIn_out w (by omega) (by omega) (by omega), if_pos (by decide), bd, bV_s, if_pos (Or.inl rfl), if_neg (fun y => w y.2)]
  · refine ⟨_, ?_, fun y => absurd y.1 z, fun _ => ⟨by rw [if_neg z]; exact (v2 1).1, (v2 1).2, F2 1⟩⟩
    have k10 : ¬ gI m 133 10 = 2 := by
      rw [K.1]
      split <;> rw [k2, n_eq (by omega) (by omega)] <;> omega
    rw [RM_takes, if_neg k10, bd, bV_s, if_pos (Or.inl rfl), if_neg (fun y => z y.1)]
theorem signB {m : Mem} {b : Nat → Nat} {L M p : Nat} (T : TB m b L M) (K : CKB m b L M p) (hp : p ≤ L) : ∃ m', RM_sign m 59 = some (if tkK b L M p = 3 then 1 else 0, m') ∧ (tkK b L M p = 3 → CKB m' b L M (tkN b L M p) ∧ TB m' b L M ∧ Frm Lnx [] m m') ∧ (¬ tkK b L M p = 3 → gI m' 133 14 = 1 ∧ gI m' 133 15 = nI (tkS b L M p) ∧ Frm [(133, 14), (133, 15)] [] m m') := by
  have kc := tkK_c b L M p
  have bd : RM_bad m 1 = some (0, sI (sI m 133 14 1) 133 15 (nI (tkS b L M p))) := by
    have : gI (sI m 133 14 1) 133 11 = nI (tkS b L M p) := by rw [gI_sI, if_neg (by omega), K.2.1]
    rw [RM_bad, letM_p, this, letM_p]
  by_cases z : tkK b L M p = 3
  · have k10 : gI m 133 10 = 3 := by rw [K.1, z, if_neg (by omega)]; rfl
    have tn := tkN_gt (b := b) (L := L) (M := M) (p := p) (Or.inr (Or.inr z))
    obtain ⟨m2, e2, K2, T2, F2⟩ := nxt T (K.2.2.1 (Or.inr (Or.inr z))) tn.2.1
    refine ⟨m2, ?_, fun _ => ⟨K2, T2, F2⟩, fun y => absurd z y⟩
    rw [RM_sign, RM_isSign, k10, if_pos rfl, K.2.2.2.2.2 z, if_pos rfl, if_neg (by decide), e2, bM_s, if_pos z]
  · refine ⟨sI (sI m 133 14 1) 133 15 (nI (tkS b L M p)), ?_, fun y => absurd y z, fun _ => ⟨by rw [gI_sI, if_neg (by omega), gI_sI, if_pos ⟨rfl, rfl⟩], by rw [gI_sI, if_pos ⟨rfl, rfl⟩], (Frm.sI rfl rfl).tr (Frm.sI rfl rfl)⟩⟩
    have k10 : ¬ gI m 133 10 = 3 := by
      rw [K.1]
      split <;> rw [k3, n_eq (by omega) (by omega)] <;> omega
    rw [RM_sign, RM_isSign, if_neg k10, if_pos rfl, bd, bV_s, if_pos (Or.inl rfl), if_neg z]

/-! heir, estate -/
def subL2 (A B : List (Nat × Nat)) : Bool := A.all (fun q => B.contains q || B.contains (q.1, 999999))
theorem wL_sub2 {A B : List (Nat × Nat)} (h : subL2 A B = true) : Sub A B := by
  intro c k hw
  unfold wL at *
  rw [List.any_eq_true] at *
  obtain ⟨q, h1, h2⟩ := hw
  have := List.all_eq_true.mp h q h1
  rcases (Bool.or_eq_true _ _).mp this with h3 | h3
  · exact ⟨q, List.contains_iff_mem.mp h3, h2⟩
  · refine ⟨(q.1, 999999), List.contains_iff_mem.mp h3, ?_⟩
    simp only [Bool.and_eq_true] at h2 ⊢
    exact ⟨h2.1, by simp⟩
def LH (m : Mem) (k : Nat) (H : Nat → Bool) : Prop := (PH_hasLine m (gN m 13) (nI k) = 0 ∧ (∀ m1, gI m1 135 0 = gI m 135 0 → RM_isLine m1 (nI k) = some 0) ∧ ∀ s, H s = false) ∨ ∃ n X Y, LineD m k n X Y ∧ PH_hasLine m (gN m 13) (nI k) = 1 ∧ (∀ m1, gI m1 135 0 = gI m 135 0 → RM_isLine m1 (nI k) = some 1) ∧ ∀ s, H s = hisS (gI m 135 4) (gI m 135 5) (clz n X) (clz n Y) n s
theorem LH_ex {m : Mem} (h : Inv m) {k : Nat} (hk : k < 3) : ∃ H, LH m k H := by
  rcases line_cases h (nI k) with ⟨h1, h2⟩ | ⟨j, hj, hj2, ej, h1, h2⟩
  · exact ⟨fun _ => false, Or.inl ⟨h1, h2, fun _ => rfl⟩⟩
  · have : k = j := (n_eq (by omega) (by omega)).mp ej
    subst this
    obtain ⟨n, X, Y, D⟩ := lineD h hj2
    exact ⟨_, Or.inr ⟨n, X, Y, D, h1, h2, fun _ => rfl⟩⟩
theorem ed_cases {m : Mem} (h : Inv m) : gI m 135 5 = 0 ∨ gI m 135 5 = 1 := by
  obtain ⟨v, hv, ev⟩ := h.2.2.2.1.2.2.2.2.2.1.ex
  rw [show 0 + 5 = 5 from rfl] at ev
  rw [ev]
  rcases (show v = 0 ∨ v = 1 by omega) with rfl | rfl
  · exact Or.inl rfl
  · exact Or.inr rfl
theorem spare_his {lw ed : Int32} {U V : Nat → Int} {r c : Int} : hisM lw ed U V r c 0 = false := by
  unfold hisM hisP
  rw [show onP (fun i => 2 * U i) (fun i => 2 * V i) (2 * c + 1) (2 * r + 1) 0 = false from rfl, show rndP (fun i => 2 * U i) (fun i => 2 * V i) (2 * c + 1) (2 * r + 1) 0 = 0 from rfl, if_neg (show ¬ false = true by decide)]
  split
  · decide
  · split <;> decide
theorem PolyC.fr2 {m m' : Mem} {o n : Nat} {X Y : Nat → Int} (hc : ∀ c j, o ≤ c → c < o + 3 → gI m' c j = gI m c j) (h : PolyC m o n X Y) : PolyC m' o n X Y := by
  refine ⟨by rw [hc _ _ (by omega) (by omega)]; exact h.1, h.2.1, fun i hi => ?_⟩
  rw [hc _ _ (by omega) (by omega), hc _ _ (by omega) (by omega)]
  exact h.2.2 i hi
/-- one of the two grounds -/
theorem sv_one {m m1 : Mem} (h : Inv m) {k g : Nat} {H : Nat → Bool} (hL : LH m k H) (hk : k < 3) (hg : shp g = (1, 0)) (hg2 : g ≤ 11) (hc : ∀ c j, 101 ≤ c → c < 133 → gI m1 c j = gI m c j) (h63 : gI m1 63 1 = nI 0) :
    (PH_hasLine m (gN m 13) (nI k) = 0 → ∃ m2, GR_survey m1 g 63 (gI m 135 4) (gI m 135 5) = some m2 ∧ (∀ s, s < 400 → gI m2 (g + 1) s = b2i (H s)) ∧ Frm [] [(g, 6)] m1 m2) ∧ (PH_hasLine m (gN m 13) (nI k) = 1 → ∃ m2, GR_survey m1 g (gN m 13 + 2 + 3 * k) (gI m 135 4) (gI m 135 5) = some m2 ∧ (∀ s, s < 400 → gI m2 (g + 1) s = b2i (H s)) ∧ Frm [] [(g, 6)] m1 m2) := by
  have hnow : gN m 13 = 101 ∨ gN m 13 = 117 := by rcases h.1 with q | q; exact Or.inl q.1; exact Or.inr q.1
  refine ⟨fun h0 => ?_, fun h0 => ?_⟩
  · rcases hL with ⟨a, b, c⟩ | ⟨n, X, Y, D, a, b, c⟩
    · obtain ⟨m2, e, q1, q2, q3⟩ := survey_eq (m := m1) (n := 0) (X := fun _ => 0) (Y := fun _ => 0) (lw := gI m 135 4) (ed := gI m 135 5) hg (show g + 6 ≤ 63 by omega) (fun i hi => by omega) (fun i hi => by omega) (fun _ => rfl) ⟨h63, by omega, fun i hi => by omega⟩ (ed_cases h)
      refine ⟨m2, e, fun s hs => ?_, q3⟩
      have := q1 (s / 20) (s % 20) (by omega) (by omega)
      rw [sq_at] at this
      rw [this, c s, spare_his]
    · rw [a] at h0; exact absurd h0 (by decide)
  · rcases hL with ⟨a, b, c⟩ | ⟨n, X, Y, D, a, b, c⟩
    · rw [a] at h0; exact absurd h0 (by decide)
    · obtain ⟨d1, d2, d3, d4, d5, d6⟩ := D
      obtain ⟨m2, e, q1, q2, q3⟩ := survey_eq (m := m1) (lw := gI m 135 4) (ed := gI m 135 5) hg (show g + 6 ≤ gN m 13 + 2 + 3 * k by omega) (fun i hi => (d4 i hi).2.2.1) (fun i hi => (d4 i hi).2.2.2) (fun q => by omega) (d5.fr2 (fun c j c1 c2 => hc c j (by omega) (by omega))) (ed_cases h)
      refine ⟨m2, e, fun s hs => ?_, q3⟩
      have := q1 (s / 20) (s % 20) (by omega) (by omega)
      rw [sq_at] at this
      rw [this, c s]
      rfl
theorem frR {m m' : Mem} {g c k : Nat} (h : Frm [] [(g, 6)] m m') (hc : c < g ∨ g + 6 ≤ c) : gI m' c k = gI m c k := (h.1 c k rfl (fun q hq => by rw [List.mem_singleton] at hq; subst hq; exact hc)).1
theorem svH_eq {m : Mem} (h : Inv m) {H0 H1 : Nat → Bool} (L0 : LH m 0 H0) (L1 : LH m 1 H1) : ∃ m', OH_surveyForHeirs m = some m' ∧ (∀ s, s < 400 → gI m' 6 s = b2i (H0 s) ∧ gI m' 12 s = b2i (H1 s)) ∧ Frm W_OH_surveyForHeirs [] m m' := by
  have hnow : gN m 13 = 101 ∨ gN m 13 = 117 := by rcases h.1 with q | q; exact Or.inl q.1; exact Or.inr q.1
  have e10 : gI m (gN m 13) 10 = gI m 135 4 := h.2.2.1.2.2.2.2.1
  have e11 : gI m (gN m 13) 11 = gI m 135 5 := h.2.2.1.2.2.2.2.2.1
  have c1 : ∀ c j, 101 ≤ c → c < 133 → gI (sI m 63 1 0) c j = gI m c j := fun c j a b => by rw [gI_sI, if_neg (by omega)]
  obtain ⟨A0, A1⟩ := sv_one (m1 := sI m 63 1 0) h L0 (by omega) sh_5 (by omega) c1 (by rw [gI_sI, if_pos ⟨rfl, rfl⟩]; rfl)
  have hl : ∀ (m1 : Mem) (k : Nat), (∀ c j, 101 ≤ c → c < 133 → gI m1 c j = gI m c j) → m1.2.2 = m.2.2 → PH_hasLine m1 (gN m1 13) (nI k) = PH_hasLine m (gN m 13) (nI k) := by
    intro m1 k hc hN
    have : gN m1 13 = gN m 13 := by unfold gN; rw [hN]
    unfold PH_hasLine
    rw [this, hc _ _ (by omega) (by omega)]
  have hz : ∀ k, LH m k H0 ∨ LH m k H1 → PH_hasLine m (gN m 13) (nI k) = 0 ∨ PH_hasLine m (gN m 13) (nI k) = 1 := by
    intro k q
    rcases q with q | q <;> rcases q with ⟨a, -⟩ | ⟨n, X, Y, -, a, -⟩ <;> simp [a]
  -- the second ground
  have second : ∀ m3, Frm [] [(5, 6)] (sI m 63 1 0) m3 → (∀ s, s < 400 → gI m3 6 s = b2i (H0 s)) → ∃ m', (if (PH_hasLine m3 (gN m3 13) 1) = 0 then (OH_surveyForHeirs_J87 m3) else (if inb 1 3 then (OH_surveyForHeirs_J87b m3 ((gN m3 13) + 2 + 3 * ixn 1)) else none)) = some m' ∧ (∀ s, s < 400 → gI m' 6 s = b2i (H0 s) ∧ gI m' 12 s = b2i (H1 s)) := by
    intro m3 F3 h6
    have c3 : ∀ c j, 101 ≤ c → c < 133 → gI m3 c j = gI m c j := fun c j a b => by rw [frR F3 (by omega), c1 c j a b]
    have n3 : gN m3 13 = gN m 13 := F3.N 13
    obtain ⟨B0, B1⟩ := sv_one (m1 := m3) h L1 (by omega) sh_11 (by omega) c3 (by rw [frR F3 (by omega), gI_sI, if_pos ⟨rfl, rfl⟩]; rfl)
    have e := hl m3 1 c3 F3.2
    rw [show (1 : Int32) = nI 1 from one_n, e]
    have g10 : gI m3 (gN m3 13) 10 = gI m 135 4 := by rw [n3, c3 _ _ (by omega) (by omega), e10]
    have g11 : gI m3 (gN m3 13) 11 = gI m 135 5 := by rw [n3, c3 _ _ (by omega) (by omega), e11]
    rcases hz 1 (Or.inr L1) with q | q
    · obtain ⟨m4, e4, s4, F4⟩ := B0 q
      refine ⟨m4, ?_, fun s hs => ⟨by rw [frR F4 (by omega)]; exact h6 s hs, s4 s hs⟩⟩
      rw [q, if_pos rfl, OH_surveyForHeirs_J87, g10, g11, e4]; rfl
    · obtain ⟨m4, e4, s4, F4⟩ := B1 q
      refine ⟨m4, ?_, fun s hs => ⟨by rw [frR F4 (by omega)]; exact h6 s hs, s4 s hs⟩⟩
      rw [q, if_neg (by decide), if_pos (by decide), OH_surveyForHeirs_J87b, g10, g11, n3, show ixn (nI 1) = 1 from rfl, e4]; rfl
  have g10 : gI (sI m 63 1 0) (gN (sI m 63 1 0) 13) 10 = gI m 135 4 := by rw [gN_sI, c1 _ _ (by omega) (by omega), e10]
  have g11 : gI (sI m 63 1 0) (gN (sI m 63 1 0) 13) 11 = gI m 135 5 := by rw [gN_sI, c1 _ _ (by omega) (by omega), e11]
  have fin : ∃ m', OH_surveyForHeirs m = some m' ∧ (∀ s, s < 400 → gI m' 6 s = b2i (H0 s) ∧ gI m' 12 s = b2i (H1 s)) := by
    have e := hl (sI m 63 1 0) 0 c1 rfl
    simp only [OH_surveyForHeirs, letM]
    rcases hz 0 (Or.inl L0) with q | q
    · obtain ⟨m3, e3, s3, F3⟩ := A0 q
      obtain ⟨m', e', s'⟩ := second m3 F3 s3
      refine ⟨m', ?_, s'⟩
      have e2 : PH_hasLine (sI m 63 1 0) (gN (sI m 63 1 0) 13) 0 = 0 := e.trans q
      rw [e2, if_pos rfl, OH_surveyForHeirs_J39, g10, g11, e3]
      exact e'
    · obtain ⟨m3, e3, s3, F3⟩ := A1 q
      obtain ⟨m', e', s'⟩ := second m3 F3 s3
      refine ⟨m', ?_, s'⟩
      have e2 : PH_hasLine (sI m 63 1 0) (gN (sI m 63 1 0) 13) 0 = 1 := e.trans q
      rw [e2, if_neg (by decide), if_pos (by decide), OH_surveyForHeirs_J39b, g10, g11, gN_sI, show ixn 0 = 0 from rfl, e3]
      exact e'
  obtain ⟨m', e', s'⟩ := fin
  exact ⟨m', e', s', OH_surveyForHeirs_fr (wL_sub rfl) m _ e'⟩
def whi (H0 H1 : Nat → Bool) (s : Nat) : Nat := (if H0 s then 1 else 0) + 2 * (if H1 s then 1 else 0)
theorem whi_lt (H0 H1 : Nat → Bool) (s : Nat) : whi H0 H1 s < 4 := by unfold whi; split <;> split <;> omega
theorem heirOfC {m m1 : Mem} (h : Inv m) {H0 H1 : Nat → Bool} {s : Nat} (hs : s < 400) (F : Frm W_OH_surveyForHeirs [] m m1) (h6 : gI m1 6 s = b2i (H0 s)) (h12 : gI m1 12 s = b2i (H1 s)) : OH_heirOf m1 (nI s) = some (gI m 135 (7 + whi H0 H1 s)) := by
  have hnow : gN m 13 = 101 ∨ gN m 13 = 117 := by rcases h.1 with q | q; exact Or.inl q.1; exact Or.inr q.1
  have hw := whi_lt H0 H1 s
  have e : (b2i (H0 s) + (2 * b2i (H1 s)) : Int32) = nI (whi H0 H1 s) := by
    unfold whi; cases H0 s <;> cases H1 s <;> decide
  unfold OH_heirOf
  rw [if_pos (n_in hs (by omega)), n_ixn (by omega), h6, h12, e, if_pos (n_in hw (by omega)), n_ixn (by omega), F.N, F.I _ _ (by
    unfold wL
    rw [List.any_eq_false]
    have : ∀ q ∈ W_OH_surveyForHeirs, q.1 < 101 := by decide
    intro q hq
    have := this q hq
    simp only [Bool.and_eq_true, beq_iff_eq, not_and]
    intro z; omega)]
  have := h.2.2.1.2.2.2.2.2.2.2.1 _ hw
  rw [this, Nat.zero_add]
theorem heirOfR {m m1 : Mem} (h : Inv m) {H0 H1 : Nat → Bool} (L0 : LH m 0 H0) (L1 : LH m 1 H1) {r c : Nat} (hr : r < 20) (hc : c < 20) (h1 : ∀ j, gI m1 135 j = gI m 135 j) : ∃ m', RM_heirOf m1 (nI c) (nI r) = some (gI m 135 (7 + whi H0 H1 (20 * r + c)), m') := by
  have st : ∀ (k : Nat) (H : Nat → Bool) (m2 : Mem) (w f : Nat) (kx : Mem → Int32 → Option (Int32 × Mem)), LH m k H → k < 2 → (∀ j, gI m2 135 j = gI m 135 j) → ∃ m3, RM_heirOf_L5 (nI c) (nI r) kx (f + 1) m2 (nI w) (nI k) = RM_heirOf_L5 (nI c) (nI r) kx f m3 (nI (w + (if H (20 * r + c) then 1 + k else 0))) (nI (k + 1)) ∧ ∀ j, gI m3 135 j = gI m 135 j := by
    intro k H m2 w f kx hL hk h2
    rw [RM_heirOf_L5, if_neg (by rw [k2, n_le (by omega) (by omega)]; omega), show nI k + 1 = nI (k + 1) by rw [k1, n_add]]
    rcases hL with ⟨a, b, d⟩ | ⟨n, X, Y, D, a, b, d⟩
    · refine ⟨m2, ?_, h2⟩
      rw [b m2 (h2 0), d]
      simp only [bI]
      simp
    · obtain ⟨m3, l1, l2, F2⟩ := D.look (by omega) h2
      obtain ⟨m4, q1, F3⟩ := sqHis_eq (r := r) (c := c) l2 hr hc
      have f3 : ∀ j, gI m3 135 j = gI m 135 j := fun j => by rw [F2.I 135 j rfl, h2]
      have eH : hisM (gI m 135 4) (gI m 135 5) (clz n X) (clz n Y) (r : Int) (c : Int) n = H (20 * r + c) := by
        rw [d]; unfold hisS; rw [show (20 * r + c) / 20 = r by omega, show (20 * r + c) % 20 = c by omega]
      rw [f3, f3, eH] at q1
      refine ⟨m4, ?_, fun j => by rw [F3.I 135 j rfl, f3]⟩
      rw [b m2 (h2 0)]
      simp only [bI]
      rw [if_neg (by decide), l1]
      simp only [bM, bV, q1, letV]
      cases H (20 * r + c) with
      | true => rw [if_neg (by decide), one_n, n_add, n_add]; rfl
      | false => rw [if_pos (by decide), k0, n_add]; rfl
  unfold RM_heirOf
  obtain ⟨m2, e2, f2⟩ := st 0 H0 m1 0 3999999 (fun m2 y1 => if inb (7 + y1) 116 then (some ((gI m2 135 (ixn (7 + y1))), m2)) else none) L0 (by omega) h1
  obtain ⟨m3, e3, f3⟩ := st 1 H1 m2 (0 + (if H0 (20 * r + c) then 1 + 0 else 0)) 3999998 (fun m2 y1 => if inb (7 + y1) 116 then (some ((gI m2 135 (ixn (7 + y1))), m2)) else none) L1 (by omega) f2
  refine ⟨m3, ?_⟩
  rw [show nI 0 = 0 from k0.symm] at e2
  rw [show FU = 3999999 + 1 from rfl, e2, show 0 + 1 = 1 from rfl, show 3999999 = 3999998 + 1 from rfl, e3, show 3999998 = 3999997 + 1 from rfl, RM_heirOf_L5, if_pos (by decide)]
  have hw := whi_lt H0 H1 (20 * r + c)
  have ew : (0 + if H0 (20 * r + c) = true then 1 + 0 else 0) + (if H1 (20 * r + c) = true then 1 + 1 else 0) = whi H0 H1 (20 * r + c) := by unfold whi; split <;> split <;> omega
  rw [ew, show 7 + nI (whi H0 H1 (20 * r + c)) = nI (7 + whi H0 H1 (20 * r + c)) by rw [k7, n_add], if_pos (n_in (by omega) (by omega)), n_ixn (by omega), f3]
theorem op_heir {m : Mem} (h : Inv m) (x y : Int32) : ∃ v m1 m2, OH_heir m x y = some (v, m1) ∧ RM_heir m1 x y = some (v, m2) ∧ Inv m2 := by
  rcases isSquare_eq x y with ⟨h3, h4⟩ | ⟨a, b, ha, hb, rfl, rfl, h3, h4⟩
  · refine ⟨-1, m, sI m 133 0 0, by rw [OH_heir, h3, if_pos rfl], ?_, inv_frame fr0 h⟩
    simp only [RM_heir, letM, h4, if_pos]
  · obtain ⟨H0, L0⟩ := LH_ex h (k := 0) (by omega)
    obtain ⟨H1, L1⟩ := LH_ex h (k := 1) (by omega)
    obtain ⟨m1, e1, s1, F1⟩ := svH_eq h L0 L1
    have f1 : ∀ j, gI (sI m1 133 0 0) 135 j = gI m 135 j := fun j => by rw [gI_sI, if_neg (by omega), F1.I 135 j rfl]
    obtain ⟨m2, e2⟩ := heirOfR h L0 L1 hb ha f1
    have eO : OH_heir m (nI a) (nI b) = some (gI m 135 (7 + whi H0 H1 (20 * b + a)), m1) := by
      have q := s1 (20 * b + a) (by omega)
      rw [OH_heir, h3, if_neg (by decide), e1]
      simp only [bM]
      rw [squareAt_n, heirOfC h (by omega) F1 q.1 q.2]
      rfl
    have eR : RM_heir m1 (nI a) (nI b) = some (gI m 135 (7 + whi H0 H1 (20 * b + a)), m2) := by
      simp only [RM_heir, letM, h4, e2, bV]
      rw [if_neg (by decide)]
    exact ⟨_, m1, m2, eO, eR, inv_frame ((F1.mo (wL_sub2 rfl)).tr ((RM_heir_fr (wL_sub rfl) m1 _ _ _ eR).mo (wL_sub (A := W_RM_heir) rfl))) h⟩
theorem esC {m m1 : Mem} (h : Inv m) {H0 H1 : Nat → Bool} {x : Int32} (F : Frm W_OH_surveyForHeirs [] m m1) (hs : ∀ s, s < 400 → gI m1 6 s = b2i (H0 s) ∧ gI m1 12 s = b2i (H1 s)) :
    ∀ (d i fu : Nat) (c : Int), i + d = 400 → d < fu → OH_estate_L20 x (fun m4 y3 => some (y3, m4)) fu m1 (iz c) (nI i) = some (iz (c + sumN (fun s => bz (decide (gI m 135 (7 + whi H0 H1 s) = x))) i d), m1)
  | 0, i, fu, c, hd, hf => by
    obtain ⟨f, rfl⟩ : ∃ f, fu = f + 1 := ⟨fu - 1, by omega⟩
    obtain rfl : i = 400 := by omega
    rw [OH_estate_L20, if_pos (by decide)]; simp [sumN]
  | d + 1, i, fu, c, hd, hf => by
    obtain ⟨f, rfl⟩ : ∃ f, fu = f + 1 := ⟨fu - 1, by omega⟩
    have q := hs i (by omega)
    rw [OH_estate_L20, if_neg (by rw [k400, n_le (by omega) (by omega)]; omega), heirOfC h (by omega) F q.1 q.2, show nI i + 1 = nI (i + 1) by rw [k1, n_add]]
    simp only [bI, sumN]
    by_cases z : gI m 135 (7 + whi H0 H1 i) = x
    · rw [if_pos z, i1, iz_add, esC h F hs d (i + 1) f _ (by omega) (by omega), decide_eq_true z, ← Int.add_assoc]; rfl
    · rw [if_neg z, esC h F hs d (i + 1) f _ (by omega) (by omega), decide_eq_false z, ← Int.add_assoc, show bz false = 0 from rfl, Int.add_zero]
theorem esR {m : Mem} (h : Inv m) {H0 H1 : Nat → Bool} {x : Int32} (L0 : LH m 0 H0) (L1 : LH m 1 H1) :
    ∀ (d i fu : Nat) (c : Int) (m1 : Mem), i + d = 400 → d < fu → (∀ j, gI m1 135 j = gI m 135 j) → ∃ m', RM_estate_L21 x (fun m3 y2 => some (y2, m3)) fu m1 (iz c) (nI i) = some (iz (c + sumN (fun s => bz (decide (gI m 135 (7 + whi H0 H1 s) = x))) i d), m')
  | 0, i, fu, c, m1, hd, hf, h1 => by
    obtain ⟨f, rfl⟩ : ∃ f, fu = f + 1 := ⟨fu - 1, by omega⟩
    obtain rfl : i = 400 := by omega
    exact ⟨m1, by rw [RM_estate_L21, if_pos (by decide)]; simp [sumN]⟩
  | d + 1, i, fu, c, m1, hd, hf, h1 => by
    obtain ⟨f, rfl⟩ : ∃ f, fu = f + 1 := ⟨fu - 1, by omega⟩
    obtain ⟨m2, e2⟩ := heirOfR h L0 L1 (r := i / 20) (c := i % 20) (by omega) (by omega) h1
    rw [sq_at] at e2
    have F := RM_heirOf_fr (L := W_RM_heirOf) (R := []) (wL_sub rfl) m1 _ _ _ e2
    obtain ⟨m3, e3⟩ := esR (x := x) h L0 L1 d (i + 1) f (c + bz (decide (gI m 135 (7 + whi H0 H1 i) = x))) m2 (by omega) (by omega) (fun j => by rw [Frm.I (L := W_RM_heirOf) F 135 j rfl, h1])
    refine ⟨m3, ?_⟩
    rw [RM_estate_L21, if_neg (by rw [k400, n_le (by omega) (by omega)]; omega), k20, irm_n (by omega) (by omega) (by omega), div_n (by omega) (by omega) (by omega), e2, show nI i + 1 = nI (i + 1) by rw [k1, n_add]]
    simp only [bV, letV, sumN]
    rw [← Int.add_assoc, ← e3]
    by_cases z : gI m 135 (7 + whi H0 H1 i) = x
    · rw [if_pos z, i1, iz_add, decide_eq_true z]; rfl
    · rw [if_neg z, i0, iz_add, decide_eq_false z]; rfl
theorem op_estate {m : Mem} (h : Inv m) (x : Int32) : ∃ v m1 m2, OH_estate m x = some (v, m1) ∧ RM_estate m1 x = some (v, m2) ∧ Inv m2 := by
  have hI : Inv (sI m 133 0 0) := inv_frame fr0 h
  rcases spl x 10 (by omega) with hx | ⟨hx, hx2⟩ | ⟨k, hk, rfl⟩
  · refine ⟨-1, m, sI m 133 0 0, by rw [OH_estate, if_pos hx], ?_, hI⟩
    simp only [RM_estate, letM, isIn_lo hx, if_pos]
  · have : ¬ x ≤ 9 := by
      rw [Int32.le_iff_toInt_le] at *; rw [n_toInt (by omega)] at hx2; rw [show (9 : Int32).toInt = 9 from rfl]; omega
    refine ⟨-1, m, sI m 133 0 0, by rw [OH_estate, if_neg this, ite_self], ?_, hI⟩
    have e : RM_isIn x 0 9 = 0 := by rw [k9]; exact isIn_hi (n := 9) (by omega) hx2
    simp only [RM_estate, letM, e, if_pos]
  · obtain ⟨H0, L0⟩ := LH_ex h (k := 0) (by omega)
    obtain ⟨H1, L1⟩ := LH_ex h (k := 1) (by omega)
    obtain ⟨m1, e1, s1, F1⟩ := svH_eq h L0 L1
    have f1 : ∀ j, gI (sI m1 133 0 0) 135 j = gI m 135 j := fun j => by rw [gI_sI, if_neg (by omega), F1.I 135 j rfl]
    obtain ⟨m2, e2⟩ := esR (x := nI k) h L0 L1 400 0 FU 0 _ (by omega) (by unfold FU; omega) f1
    have eC := esC (x := nI k) h F1 s1 400 0 FU 0 (by omega) (by unfold FU; omega)
    rw [Int.zero_add, show iz 0 = 0 from i0.symm, show nI 0 = 0 from k0.symm] at e2 eC
    have eO : OH_estate m (nI k) = some (iz (sumN (fun s => bz (decide (gI m 135 (7 + whi H0 H1 s) = nI k))) 0 400), m1) := by
      rw [OH_estate, if_neg (by rw [k0, n_lt (by omega) (by omega)]; omega), if_pos (by rw [k9, n_le (by omega) (by omega)]; omega), e1]
      simp only [bM]
      exact eC
    have eR : RM_estate m1 (nI k) = some (iz (sumN (fun s => bz (decide (gI m 135 (7 + whi H0 H1 s) = nI k))) 0 400), m2) := by
      have eb : RM_isIn (nI k) 0 9 = 1 := isIn_in (a := 0) (b := 9) (Nat.zero_le _) (by omega) (by omega)
      simp only [RM_estate, letM, eb]
      rw [if_neg (by decide)]
      exact e2
    exact ⟨_, m1, m2, eO, eR, inv_frame ((F1.mo (wL_sub2 rfl)).tr ((RM_estate_fr (wL_sub rfl) m1 _ _ eR).mo (wL_sub (A := W_RM_estate) rfl))) h⟩

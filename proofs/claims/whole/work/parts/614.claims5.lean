def clm (b : Nat → Nat) (L M : Nat) (R : Nat → Nat → Nat × Nat × Bool × Nat) : Nat → Nat → Nat → Int32 → Int32 → Nat × Nat × Int32 × Int32
  | 0, p, _, c, f => if L ≤ M then (0, 0, c, f) else (1, tkS b L M p, c, f)
  | n + 1, p, row, c, f =>
    if tkK b L M p = 0 then (if L ≤ M then (0, 0, c, f) else (1, tkS b L M p, c, f))
    else if (R row p).1 = 0 then
      (if tkK b L M (R row p).2.2.2 = 3 then clm b L M R n (tkN b L M (R row p).2.2.2) (row + 1) (if (R row p).2.2.1 then c else c + 1) (if (R row p).2.2.1 then f else if f = -1 then nI row else f)
      else (1, tkS b L M (R row p).2.2.2, c, f))
    else ((R row p).1, (R row p).2.1, c, f)
theorem cl_end {b : Nat → Nat} {L M : Nat} {R : Nat → Nat → Nat × Nat × Bool × Nat} {n p row : Nat} {c f : Int32} (h : tkK b L M p = 0) : clm b L M R n p row c f = if L ≤ M then (0, 0, c, f) else (1, tkS b L M p, c, f) := by
  cases n with
  | zero => rfl
  | succ n => show (if tkK b L M p = 0 then _ else _) = _; rw [if_pos h]
theorem cl_go {b : Nat → Nat} {L M : Nat} {R : Nat → Nat → Nat × Nat × Bool × Nat} {n p row : Nat} {c f : Int32} (h : tkK b L M p ≠ 0) : clm b L M R (n + 1) p row c f = if (R row p).1 = 0 then
      (if tkK b L M (R row p).2.2.2 = 3 then clm b L M R n (tkN b L M (R row p).2.2.2) (row + 1) (if (R row p).2.2.1 then c else c + 1) (if (R row p).2.2.1 then f else if f = -1 then nI row else f)
      else (1, tkS b L M (R row p).2.2.2, c, f))
    else ((R row p).1, (R row p).2.1, c, f) := by
  show (if tkK b L M p = 0 then _ else _) = _; rw [if_neg h]
def OcA (m m' : Mem) (v : Int32) (o : Nat × Nat × Int32 × Int32) : Prop := (o.1 = 0 ∧ v = o.2.2.1 ∧ gI m' 1 2 = 0 ∧ gI m' 0 16 = o.2.2.2) ∨ (0 < o.1 ∧ o.1 < 6 ∧ gI m' 1 2 = nI o.1 ∧ gI m' 1 3 = nI o.2.1 ∧ gI m' 0 16 = gI m 0 16)
theorem ca_loop {m0 : Mem} {b : Nat → Nat} {L M k H : Nat} {hisF onF : Nat → Nat → Bool} {hyF : Nat → Bool} {g : Nat → Int64} (hM : ∀ m', Frm Lcl [] m0 m' → CC1 m' k H hisF onF hyF g) (hM3 : M ≤ 300) : ∀ (d p row fu : Nat) (c f : Int32) (m : Mem), min L M ≤ p + d → row ≤ p → row ≤ 300 → p ≤ L → d < fu → Frm Lcl [] m0 m → TA m b L M → gI m 1 10 = nI p → gI m 1 2 = 0 →
    ∃ v m', OH_hearClaims_L7 (nI k) (fun m1 => some ((-1), m1)) fu m c f (nI row) = some (v, m') ∧ OcA m0 m' v (clm b L M (cRow b L M hisF onF hyF (fun W => fst1 g W H 0)) d p row c f) := by
  have fin : ∀ (d p row fu : Nat) (c f : Int32) (m : Mem), row ≤ 300 → p ≤ L → Frm Lcl [] m0 m → TA m b L M → gI m 1 10 = nI p → gI m 1 2 = 0 → tkK b L M p = 0 → ∃ v m', OH_hearClaims_L7 (nI k) (fun m1 => some ((-1), m1)) (fu + 1) m c f (nI row) = some (v, m') ∧ OcA m0 m' v (clm b L M (cRow b L M hisF onF hyF (fun W => fst1 g W H 0)) d p row c f) := by
    intro d p row fu c f m hr hp F0 T h10 h12 hK
    have l1 := T.1
    have l2 := T.2.1
    obtain ⟨m1, e1, K, T1, F1⟩ := adv T h10 hp
    have eE : RD_isAtEnd m = some (1, m1) := by rw [RD_isAtEnd, e1, bM_s, K.1, hK, if_pos (by decide)]
    have e0 : OH_hearClaims_L7 (nI k) (fun m1 => some ((-1), m1)) (fu + 1) m c f (nI row) = bV (RD_closes m1) fun v10 m11 => if v10 = 0 then (some (c, m11)) else (letM (sI m11 0 16 f) fun m13 => some (c, m13)) := by
      rw [OH_hearClaims_L7, if_neg (by rw [show (300 : Int32) = nI 300 from rfl, n_lt (by omega) (by omega)]; omega), eE, bV_s, if_neg (by decide)]
    rw [cl_end hK]
    by_cases z : L ≤ M
    · rw [if_pos z]
      have eC : RD_closes m1 = some (1, m1) := by rw [RD_closes, T1.2.2.1, T1.2.2.2.1, if_pos (by rw [n_le (by omega) (by omega)]; exact z)]
      exact ⟨c, sI m1 0 16 f, by rw [e0, eC, bV_s, if_neg (by decide), letM_p], Or.inl ⟨rfl, rfl, by rw [gI_sI, if_neg (by omega), F1.I 1 2 rfl, h12], by rw [gI_sI, if_pos ⟨rfl, rfl⟩]⟩⟩
    · rw [if_neg z]
      have eC : RD_closes m1 = some (0, sI (sI m1 1 2 1) 1 3 (nI (tkS b L M p))) := by
        rw [RD_closes, T1.2.2.1, T1.2.2.2.1, if_neg (by rw [n_le (by omega) (by omega)]; exact z), RD_fail, RD_failAt, letM_p, letM_p, bV_s, if_pos (Or.inl rfl), bV_s, if_pos rfl, K.2.1]
      exact ⟨_, _, by rw [e0, eC, bV_s, if_pos rfl], Or.inr ⟨by show 0 < 1; omega, by show 1 < 6; omega, by rw [gI_sI, if_neg (by omega), gI_sI, if_pos ⟨rfl, rfl⟩]; rfl, by rw [gI_sI, if_pos ⟨rfl, rfl⟩], by rw [gI_sI, if_neg (by omega), gI_sI, if_neg (by omega), F1.I 0 16 rfl, F0.I 0 16 rfl]⟩⟩
  intro d
  induction d with
  | zero =>
    intro p row fu c f m hk hx hr hp hf F0 T h10 h12
    obtain ⟨f', rfl⟩ : ∃ f, fu = f + 1 := ⟨fu - 1, by omega⟩
    exact fin 0 p row f' c f m hr hp F0 T h10 h12 (tkK_end (by omega))
  | succ d ih =>
    intro p row fu c f m hk hx hr hp hf F0 T h10 h12
    obtain ⟨f', rfl⟩ : ∃ f, fu = f + 1 := ⟨fu - 1, by omega⟩
    by_cases hK : tkK b L M p = 0
    · exact fin (d + 1) p row f' c f m hr hp F0 T h10 h12 hK
    · have kc := tkK_c b L M p
      obtain ⟨m1, e1, K, T1, F1⟩ := adv T h10 hp
      have F01 : Frm Lcl [] m0 m1 := F0.tr (F1.mo (wL_sub rfl))
      have eE : RD_isAtEnd m = some (0, m1) := by rw [RD_isAtEnd, e1, bM_s, K.1, if_neg (by rw [k0, n_eq (by omega) (by omega)]; exact hK)]
      obtain ⟨v, m2, e2, F2, O⟩ := cA_row (k := k) (row := row) (fun m' F => hM m' (F01.tr F)) T1 K hp hr (by rw [F1.I 1 2 rfl]; exact h12)
      have F02 := F01.tr F2
      have e0 : OH_hearClaims_L7 (nI k) (fun m1 => some ((-1), m1)) (f' + 1) m c f (nI row) = OH_hearClaims_J72 (OH_hearClaims_L7 (nI k) (fun m1 => some ((-1), m1)) f') (fun m1 => some ((-1), m1)) m2 (nI k) c f (nI row) v := by
        rw [OH_hearClaims_L7, if_neg (by rw [show (300 : Int32) = nI 300 from rfl, n_lt (by omega) (by omega)]; omega), eE, bV_s, if_pos rfl]
        by_cases z : RD_isWord m1 16 16 = 0
        · rw [if_pos z] at e2 ⊢
          rw [e2, bV_s]
        · rw [if_neg z] at e2 ⊢
          rw [e2, bV_s]
      rw [cl_go hK, e0]
      generalize cRow b L M hisF onF hyF (fun W => fst1 g W H 0) row p = o at O ⊢
      rcases O with ⟨o1, o2, o3, o4, o5, o6, o7, o8⟩ | ⟨o1, o2, o3, o4⟩
      · rw [if_pos o1]
        obtain ⟨m3, e3, T3, s1, s2⟩ := readSemi o5 o3 o7
        by_cases h3 : tkK b L M o.2.2.2 = 3
        · rw [if_pos h3] at e3 ⊢
          obtain ⟨t1, F3⟩ := s1 h3
          have t4 := tkN_gt (b := b) (L := L) (M := M) (p := o.2.2.2) (Or.inr (Or.inr h3))
          have er : nI row + 1 = nI (row + 1) := by rw [k1, n_add]
          obtain ⟨v', m4, e4, O4⟩ := ih (tkN b L M o.2.2.2) (row + 1) f' (if o.2.2.1 then c else c + 1) (if o.2.2.1 then f else if f = -1 then nI row else f) m3 (by omega) (by omega) (by omega) t4.2.1 (by omega) (F02.tr (F3.mo (wL_sub rfl))) T3 t1 (by rw [F3.I 1 2 rfl, o4])
          refine ⟨v', m4, ?_, O4⟩
          rw [OH_hearClaims_J72, o4, if_pos rfl, e3, bV_s, if_neg (by decide), o2, er]
          cases hso : o.2.2.1 with
          | true =>
            rw [if_neg (by decide)]
            rw [hso] at e4
            exact e4
          | false =>
            rw [if_pos (by decide)]
            rw [hso] at e4
            by_cases q : f = -1
            · rw [if_pos q]
              simp only [if_pos q] at e4
              exact e4
            · rw [if_neg q]
              simp only [if_neg q] at e4
              exact e4
        · rw [if_neg h3] at e3 ⊢
          obtain ⟨t1, t2, F3⟩ := s2 h3
          refine ⟨-1, m3, ?_, Or.inr ⟨by show 0 < 1; omega, by show 1 < 6; omega, t1, t2, by rw [F3.I 0 16 rfl, F02.I 0 16 rfl]⟩⟩
          rw [OH_hearClaims_J72, o4, if_pos rfl, e3, bV_s, if_pos rfl]
      · rw [if_neg (by omega)]
        refine ⟨-1, m2, ?_, Or.inr ⟨o1, o2, o3, o4, by rw [F02.I 0 16 rfl]⟩⟩
        rw [OH_hearClaims_J72, o3, if_neg (by rw [k0, n_eq (by omega) (by omega)]; omega)]
def OcB (m m' : Mem) (kx : Mem → Int32 → Int32 → Option (Int32 × Mem)) (R : Option (Int32 × Mem)) (o : Nat × Nat × Int32 × Int32) : Prop := (o.1 = 0 ∧ R = kx m' o.2.2.1 o.2.2.2 ∧ Frm Lcb [] m m') ∨ (0 < o.1 ∧ R = some (-1 - nI o.2.1, m') ∧ gI m' 133 14 = nI o.1 ∧ Frm ((133, 14) :: (133, 15) :: Lcb) [] m m')
theorem cb_loop {b : Nat → Nat} {L M n H : Nat} {U V : Nat → Int} {lw ed : Int32} {g : Nat → Int64} {hx hy : Nat → Nat} {kx : Mem → Int32 → Int32 → Option (Int32 × Mem)} : ∀ (d p row fu : Nat) (c f : Int32) (m : Mem), min L M ≤ p + d → row ≤ 30 → p ≤ L → d < fu → (f = -1 ∨ ∃ r, r ≤ 300 ∧ f = nI r) → TB m b L M → CKB m b L M p → CR1 m n H U V lw ed g hx hy →
    ∃ m', OcB m m' kx (RM_claims_L45 kx fu m (nI row) c f) (clm b L M (cRow b L M (fun x y => hisP lw ed U V x y n) (fun x y => onP U V x y n) (fun t => hisP lw ed (fun i => 2 * U i) (fun i => 2 * V i) (2 * (hx t : Int) + 1) (2 * (hy t : Int) + 1) n) (fun W => fst1 g W H 0)) d p row c f) := by
  have main : ∀ (row fu p : Nat) (c f : Int32) (m : Mem), gI m 133 10 ≠ 0 → ∀ m' v, RM_claim m (nI row) = some (v, m') → v = 0 → RM_claims_L45 kx (fu + 1) m (nI row) c f = some (-1 - gI m' 133 15, m') := by
    intro row fu p c f m h10 m' v e hv
    rw [RM_claims_L45, if_neg h10, e, bV_s, hv, if_pos rfl]
  intro d
  induction d with
  | zero =>
    intro p row fu c f m hk hr hp hf hF T K C
    obtain ⟨f', rfl⟩ : ∃ f, fu = f + 1 := ⟨fu - 1, by omega⟩
    have hK : tkK b L M p = 0 := tkK_end (by omega)
    rw [cl_end hK]
    by_cases z : L ≤ M
    · rw [if_pos z]
      have k10 : gI m 133 10 = 0 := by rw [K.1, if_neg (by omega), hK]; rfl
      exact ⟨m, Or.inl ⟨rfl, by rw [RM_claims_L45, k10, if_pos rfl], Frm.rf⟩⟩
    · rw [if_neg z]
      have k10 : gI m 133 10 ≠ 0 := by rw [K.1, if_pos ⟨hK, by omega⟩]; decide
      obtain ⟨m', o, ho, O⟩ := cB_row T K C hp hr
      have : o = (1, tkS b L M p, false, 0) := by rw [ho]; unfold cRow; rw [if_neg (by omega), if_neg (by omega)]
      rw [this] at O
      rcases O with ⟨o1, -⟩ | ⟨o1, o2, o3, o4, o5⟩
      · exact absurd (show (1 : Nat) = 0 from o1) (by omega)
      · exact ⟨m', Or.inr ⟨by show 0 < 1; omega, by rw [main row f' p c f m k10 m' 0 o2 rfl, o4], o3, o5⟩⟩
  | succ d ih =>
    intro p row fu c f m hk hr hp hf hF T K C
    obtain ⟨f', rfl⟩ : ∃ f, fu = f + 1 := ⟨fu - 1, by omega⟩
    obtain ⟨m', o, ho, O⟩ := cB_row (row := row) T K C hp hr
    by_cases hK : tkK b L M p = 0
    · rw [cl_end hK]
      by_cases z : L ≤ M
      · rw [if_pos z]
        have k10 : gI m 133 10 = 0 := by rw [K.1, if_neg (by omega), hK]; rfl
        exact ⟨m, Or.inl ⟨rfl, by rw [RM_claims_L45, k10, if_pos rfl], Frm.rf⟩⟩
      · rw [if_neg z]
        have k10 : gI m 133 10 ≠ 0 := by rw [K.1, if_pos ⟨hK, by omega⟩]; decide
        have : o = (1, tkS b L M p, false, 0) := by rw [ho]; unfold cRow; rw [if_neg (by omega), if_neg (by omega)]
        rw [this] at O
        rcases O with ⟨o1, -⟩ | ⟨o1, o2, o3, o4, o5⟩
        · exact absurd (show (1 : Nat) = 0 from o1) (by omega)
        · exact ⟨m', Or.inr ⟨by show 0 < 1; omega, by rw [main row f' p c f m k10 m' 0 o2 rfl, o4], o3, o5⟩⟩
    · have kc := tkK_c b L M p
      have k10 : gI m 133 10 ≠ 0 := by rw [K.1, if_neg (by omega), Ne, k0, n_eq (by omega) (by omega)]; exact hK
      rw [cl_go hK, ← ho]
      rcases O with ⟨o1, o2, o3, o4, o5, o6, o7⟩ | ⟨o1, o2, o3, o4, o5⟩
      · rw [if_pos o1]
        have pl : p < o.2.2.2 ∧ o.2.2.2 ≤ L := by
          rw [ho] at o1 ⊢
          unfold cRow at o1 ⊢
          split at o1
          · rename_i y
            have t1 := tkN_gt (b := b) (L := L) (M := M) (p := p) (Or.inl y.1)
            rw [if_pos y]
            split at o1
            · simp at o1
            · rename_i y0
              rw [if_neg y0]
              split at o1
              · rename_i y1
                have t2 := tkN_gt (b := b) (L := L) (M := M) (p := tkN b L M p) (Or.inr (Or.inl y1.1))
                rw [if_pos y1]
                split at o1
                · rename_i y2
                  have t3 := tkN_gt (b := b) (L := L) (M := M) (p := tkN b L M (tkN b L M p)) (Or.inr (Or.inl y2.1))
                  rw [if_pos y2]
                  split at o1
                  · rename_i y3
                    have t4 := tkN_gt (b := b) (L := L) (M := M) (p := tkN b L M (tkN b L M (tkN b L M p))) (Or.inl y3.1)
                    rw [if_pos y3]
                    exact ⟨by show p < tkN b L M _; omega, t4.2.1⟩
                  · simp at o1
                · simp at o1
                  split at o1 <;> omega
              · simp at o1
                split at o1 <;> omega
          · rename_i y
            rw [if_neg y]
            split at o1
            · rename_i y'
              have t1 := tkN_gt (b := b) (L := L) (M := M) (p := p) (Or.inl y'.1)
              rw [if_pos y']
              cases hf1 : fst1 g (tkW b L M p) H 0 with
              | none => simp only [hf1] at o1; simp at o1
              | some h =>
                simp only [hf1] at o1 ⊢
                split at o1
                · simp at o1
                · rename_i y0
                  rw [if_neg y0]
                  split at o1
                  · rename_i y3
                    have t4 := tkN_gt (b := b) (L := L) (M := M) (p := tkN b L M p) (Or.inl y3.1)
                    rw [if_pos y3]
                    exact ⟨by show p < tkN b L M _; omega, t4.2.1⟩
                  · simp at o1
            · simp at o1
        obtain ⟨m3, e3, s1, s2⟩ := signB o6 o5 pl.2
        have e0 : RM_claims_L45 kx (f' + 1) m (nI row) c f = bV (RM_sign m' 59) fun v4 m5 => if v4 = 0 then (some (((-1) - (gI m5 133 15)), m5)) else (if (gI m5 133 28) = 0 then (if 0 ≤ f then (RM_claims_L45 kx f' m5 (nI (row + 1)) (c + 1) f) else (RM_claims_L45 kx f' m5 (nI (row + 1)) (c + 1) (nI row))) else (RM_claims_L45 kx f' m5 (nI (row + 1)) c f)) := by
          rw [RM_claims_L45, if_neg k10, o3, bV_s, if_neg (by decide), show nI row + 1 = nI (row + 1) by rw [k1, n_add]]
        by_cases h3 : tkK b L M o.2.2.2 = 3
        · rw [if_pos h3] at e3 ⊢
          obtain ⟨K3, T3, F3⟩ := s1 h3
          have t4 := tkN_gt (b := b) (L := L) (M := M) (p := o.2.2.2) (Or.inr (Or.inr h3))
          have F13 : Frm Lcb [] m m3 := o7.tr (F3.mo (wL_sub rfl))
          have g28 : gI m3 133 28 = b2i o.2.2.1 := by rw [F3.I 133 28 rfl, o4]
          have cf : (0 ≤ f) ↔ ¬ f = -1 := by
            rcases hF with rfl | ⟨r, hr', rfl⟩
            · exact ⟨fun z => absurd z (by decide), fun z => absurd rfl z⟩
            · refine ⟨fun _ z => ?_, fun _ => by rw [k0, n_le (by omega) (by omega)]; omega⟩
              rw [nI_iz, show (-1 : Int32) = iz (-1) from rfl, iz_eq (by omega) (by omega)] at z
              omega
          obtain ⟨m4, O4⟩ := ih (tkN b L M o.2.2.2) (row + 1) f' (if o.2.2.1 then c else c + 1) (if o.2.2.1 then f else if f = -1 then nI row else f) m3 (by omega) (by omega) t4.2.1 (by omega) (by
            split
            · exact hF
            · split
              · exact Or.inr ⟨row, by omega, rfl⟩
              · exact hF) T3 K3 (C.fr (F13.mo (wL_sub rfl)))
          have eE : RM_claims_L45 kx (f' + 1) m (nI row) c f = RM_claims_L45 kx f' m3 (nI (row + 1)) (if o.2.2.1 then c else c + 1) (if o.2.2.1 then f else if f = -1 then nI row else f) := by
            rw [e0, e3, bV_s, if_neg (by decide), g28]
            cases o.2.2.1 with
            | true => rw [if_neg (by decide)]; rfl
            | false =>
              rw [if_pos (by decide)]
              by_cases q : f = -1
              · rw [if_neg (fun z => cf.mp z q)]
                simp [q]
              · rw [if_pos (cf.mpr q)]
                simp [q]
          rw [eE]
          rcases O4 with ⟨p1, p2, p3⟩ | ⟨p1, p2, p3, p4⟩
          · exact ⟨m4, Or.inl ⟨p1, p2, F13.tr p3⟩⟩
          · exact ⟨m4, Or.inr ⟨p1, p2, p3, (F13.mo (wL_sub rfl)).tr p4⟩⟩
        · rw [if_neg h3] at e3 ⊢
          obtain ⟨t1, t2, F3⟩ := s2 h3
          exact ⟨m3, Or.inr ⟨by show 0 < 1; omega, by rw [e0, e3, bV_s, if_pos rfl, t2], t1, (o7.mo (wL_sub rfl)).tr (F3.mo (wL_sub rfl))⟩⟩
      · rw [if_neg (by omega)]
        exact ⟨m', Or.inr ⟨o1, by rw [main row f' p c f m k10 m' 0 o2 rfl, o4], o3, o5⟩⟩

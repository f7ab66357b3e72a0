/-! which pieces are beside a piece -/
def cntB (b : Nat → Bool) : Nat → Nat
  | 0 => 0
  | n + 1 => cntB b n + if b n then 1 else 0
theorem cntB_cong {b c : Nat → Bool} : ∀ n, (∀ q, q < n → b q = c q) → cntB b n = cntB c n
  | 0, _ => rfl
  | n + 1, h => by simp only [cntB]; rw [cntB_cong n (fun q hq => h q (by omega)), h n (by omega)]
theorem cntB_up {b c : Nat → Bool} {v : Nat} (h : b v = false) (hv : c v = true) (hq : ∀ q, q ≠ v → c q = b q) : ∀ n, cntB c n = cntB b n + if v < n then 1 else 0
  | 0 => by simp [cntB]
  | n + 1 => by
    simp only [cntB]
    rw [cntB_up h hv hq n]
    by_cases q : n = v
    · subst q
      rw [hv, h, if_neg (show ¬ n < n by omega), if_pos (show n < n + 1 by omega)]
      simp
    · rw [hq n q]
      by_cases r : v < n
      · rw [if_pos r, if_pos (show v < n + 1 by omega)]; omega
      · rw [if_neg r, if_neg (show ¬ v < n + 1 by omega)]; omega
def lst (lab : Nat → Int) (p : Int) (sq d : Nat) (B : StF) : StF := match nb sq d with
  | none => B
  | some w => if lab w = p ∨ B.lab (lab w).toNat = p then B else putF B (lab w).toNat p
def ls4 (lab : Nat → Int) (p : Int) (sq : Nat) (B : StF) : StF := lst lab p sq 3 (lst lab p sq 2 (lst lab p sq 1 (lst lab p sq 0 B)))
/-- T: those seen, the list from c0 on -/
def LI (p : Int) (c0 : Nat) (B : StF) (T : Nat → Prop) : Prop := c0 ≤ B.t ∧ (∀ q, B.lab q = p ↔ T q) ∧ (∀ q, T q → q < 400 ∧ ∃ j, c0 ≤ j ∧ j < B.t ∧ B.que j = q) ∧ (∀ j, c0 ≤ j → j < B.t → T (B.que j)) ∧ B.t = c0 + cntB (fun q => decide (B.lab q = p)) 400 ∧ (∀ q, -1 ≤ B.lab q ∧ B.lab q ≤ p)
theorem LI.cg {p : Int} {c0 : Nat} {B : StF} {T T' : Nat → Prop} (h : LI p c0 B T) (e : ∀ q, T q ↔ T' q) : LI p c0 B T' := by
  obtain ⟨h0, h1, h2, h3, h4, h5⟩ := h
  exact ⟨h0, fun q => (h1 q).trans (e q), fun q z => h2 q ((e q).mpr z), fun j a b => (e _).mp (h3 j a b), h4, h5⟩
theorem lst_ok {lab : Nat → Int} {p : Int} {sq d c0 : Nat} {B : StF} {T : Nat → Prop} (hl : ∀ v, v < 400 → 0 ≤ lab v ∧ lab v < 400) (hs : sq < 400) (h : LI p c0 B T) : LI p c0 (lst lab p sq d B) (fun q => T q ∨ ∃ w, nb sq d = some w ∧ lab w = q ∧ lab w ≠ p) ∧ B.t ≤ (lst lab p sq d B).t ∧ (lst lab p sq d B).t ≤ B.t + 1 ∧ ∀ j, j < B.t → (lst lab p sq d B).que j = B.que j := by
  unfold lst
  cases hb : nb sq d with
  | none =>
    exact ⟨h.cg fun q => ⟨Or.inl, fun z => z.elim id (fun ⟨w, a, _⟩ => by simp at a)⟩, Nat.le_refl _, Nat.le_succ _, fun _ _ => rfl⟩
  | some w =>
    have hw := nb_lt hs hb
    have lw := hl w hw
    have eN : (((lab w).toNat : Nat) : Int) = lab w := by omega
    by_cases q0 : lab w = p ∨ B.lab (lab w).toNat = p
    · simp only [if_pos q0]
      refine ⟨h.cg fun q => ⟨Or.inl, fun z => z.elim id ?_⟩, Nat.le_refl _, Nat.le_succ _, fun _ _ => trivial⟩
      rintro ⟨w', a, b, c⟩
      obtain rfl : w = w' := Option.some.inj a
      rcases q0 with z | z
      · exact absurd z c
      · have := (h.2.1 _).mp z
        rw [b] at this
        simpa using this
    · simp only [if_neg q0]
      have q1 : lab w ≠ p := fun z => q0 (Or.inl z)
      have q2 : B.lab (lab w).toNat ≠ p := fun z => q0 (Or.inr z)
      obtain ⟨h0, h1, h2, h3, h4, h5⟩ := h
      have eT : ∀ q : Nat, (∃ w', some w = some w' ∧ lab w' = (q : Int) ∧ lab w' ≠ p) ↔ q = (lab w).toNat := fun q => by
        refine ⟨fun ⟨w', a, b, c⟩ => ?_, fun z => ⟨w, rfl, by omega, q1⟩⟩
        obtain rfl : w = w' := Option.some.inj a
        omega
      generalize (lab w).toNat = v at q2 eN eT
      refine ⟨⟨Nat.le_trans h0 (Nat.le_succ _), fun q => ?_, fun q z => ?_, fun j a b => ?_, ?_, fun q => ?_⟩, Nat.le_succ _, Nat.le_refl _, fun j hj => upn_ne (by omega)⟩
      · show upz B.lab v p q = p ↔ (T q ∨ ∃ w', some w = some w' ∧ lab w' = (q : Int) ∧ lab w' ≠ p)
        rw [eT]
        by_cases z : q = v
        · rw [z, upz_eq]; simp
        · rw [upz_ne z, h1]; simp [z]
      · replace z : T q ∨ ∃ w', some w = some w' ∧ lab w' = (q : Int) ∧ lab w' ≠ p := z
        rw [eT] at z
        rcases z with z | z
        · obtain ⟨a, j, b, c, d⟩ := h2 q z
          exact ⟨a, j, b, Nat.lt_succ_of_lt c, by show upn B.que B.t v j = q; rw [upn_ne (by omega), d]⟩
        · exact ⟨by omega, B.t, h0, Nat.lt_succ_self _, by show upn B.que B.t v B.t = q; rw [upn_eq, z]⟩
      · show T (upn B.que B.t v j) ∨ ∃ w', some w = some w' ∧ lab w' = ((upn B.que B.t v j : Nat) : Int) ∧ lab w' ≠ p
        rw [eT]
        have b' : j < B.t + 1 := b
        by_cases z : j = B.t
        · right; show upn B.que B.t v j = v; rw [z, upn_eq]
        · left; rw [upn_ne z]; exact h3 j a (by omega)
      · show B.t + 1 = c0 + cntB (fun q => decide (upz B.lab v p q = p)) 400
        rw [cntB_up (b := fun q => decide (B.lab q = p)) (v := v) (by simp [q2]) (by simp [upz_eq]) (fun q z => by rw [upz_ne z]), if_pos (by omega)]
        omega
      · show -1 ≤ upz B.lab v p q ∧ upz B.lab v p q ≤ p
        by_cases z : q = v
        · rw [z, upz_eq]; have := h5 v; omega
        · rw [upz_ne z]; exact h5 q
def seen (lab : Nat → Int) (p : Int) (sq : Nat) (q : Nat) : Prop := ∃ d w, d < 4 ∧ nb sq d = some w ∧ lab w = q ∧ lab w ≠ p
theorem ls4_ok {lab : Nat → Int} {p : Int} {sq c0 : Nat} {B : StF} {T : Nat → Prop} (hl : ∀ v, v < 400 → 0 ≤ lab v ∧ lab v < 400) (hs : sq < 400) (h : LI p c0 B T) : LI p c0 (ls4 lab p sq B) (fun q => T q ∨ seen lab p sq q) ∧ B.t ≤ (ls4 lab p sq B).t ∧ (ls4 lab p sq B).t ≤ B.t + 4 ∧ ∀ j, j < B.t → (ls4 lab p sq B).que j = B.que j := by
  obtain ⟨a1, b1, c1, d1⟩ := lst_ok (d := 0) hl hs h
  obtain ⟨a2, b2, c2, d2⟩ := lst_ok (d := 1) hl hs a1
  obtain ⟨a3, b3, c3, d3⟩ := lst_ok (d := 2) hl hs a2
  obtain ⟨a4, b4, c4, d4⟩ := lst_ok (d := 3) hl hs a3
  refine ⟨a4.cg fun q => ⟨?_, ?_⟩, by unfold ls4; omega, by unfold ls4; omega, fun j hj => by unfold ls4; rw [d4 j (by omega), d3 j (by omega), d2 j (by omega), d1 j hj]⟩
  · rintro ((((z | ⟨w, a, b, c⟩) | ⟨w, a, b, c⟩) | ⟨w, a, b, c⟩) | ⟨w, a, b, c⟩)
    · exact Or.inl z
    · exact Or.inr ⟨0, w, by omega, a, b, c⟩
    · exact Or.inr ⟨1, w, by omega, a, b, c⟩
    · exact Or.inr ⟨2, w, by omega, a, b, c⟩
    · exact Or.inr ⟨3, w, by omega, a, b, c⟩
  · rintro (z | ⟨d, w, hd, a, b, c⟩)
    · exact Or.inl (Or.inl (Or.inl (Or.inl z)))
    · rcases (show d = 0 ∨ d = 1 ∨ d = 2 ∨ d = 3 by omega) with rfl | rfl | rfl | rfl
      · exact Or.inl (Or.inl (Or.inl (Or.inr ⟨w, a, b, c⟩)))
      · exact Or.inl (Or.inl (Or.inr ⟨w, a, b, c⟩))
      · exact Or.inl (Or.inr ⟨w, a, b, c⟩)
      · exact Or.inr ⟨w, a, b, c⟩
/-- piece q is beside piece p -/
def nbr (C : ScF) (p q : Nat) : Prop := ∃ v, v < 400 ∧ C.S.lab v = p ∧ seen C.S.lab p v q
theorem IC.lab {C : ScF} (h : IC 400 C) : ∀ v, v < 400 → 0 ≤ C.S.lab v ∧ C.S.lab v < 400 := fun v hv => by
  have a := h.2.2.2.2.2.1 v hv
  have b := h.1.lo v
  omega
theorem IC.labP {C : ScF} (h : IC 400 C) : ∀ v, v < 400 → 0 ≤ C.S.lab v ∧ C.S.lab v < C.P := fun v hv => by
  have a := h.2.2.2.2.2.1 v hv
  have b := h.1.lo v
  have c := h.2.2.2.2.2.2.2.2 v
  omega
theorem IC.seg {C : ScF} (h : IC 400 C) : ∀ n, n ≤ C.P → ∀ j, j < C.start n → ∃ p, p < n ∧ C.start p ≤ j ∧ j < C.start (p + 1)
  | 0, _, j, hj => by have := h.2.2.2.2.2.2.2.1; omega
  | n + 1, hn, j, hj => by
    by_cases q : j < C.start n
    · obtain ⟨p, a, b, c⟩ := h.seg n (by omega) j q
      exact ⟨p, by omega, b, c⟩
    · exact ⟨n, by omega, by omega, hj⟩
theorem IC.sqs {C : ScF} (h : IC 400 C) {p v : Nat} (hp : p < C.P) (hv : v < 400) : C.S.lab v = p ↔ ∃ j, C.start p ≤ j ∧ j < C.start (p + 1) ∧ C.S.que j = v := by
  constructor
  · intro e
    obtain ⟨j, a, b⟩ := h.2.2.2.2.1 v hv (by rw [e]; omega)
    obtain ⟨p', c1, c2, c3⟩ := h.seg C.P (Nat.le_refl _) j (by rw [h.2.1]; exact a)
    have e' := h.2.2.2.1 p' c1 j c2 c3
    rw [b, e] at e'
    obtain rfl : p = p' := by omega
    exact ⟨j, c2, c3, b⟩
  · rintro ⟨j, a, b, c⟩
    rw [← c]
    exact h.2.2.2.1 p hp j a b

/-! pieces: the flood, as both sides do it -/
abbrev StF : Type := (Nat → Int) × (Nat → Nat) × Nat
abbrev StF.lab (S : StF) : Nat → Int := S.1
abbrev StF.que (S : StF) : Nat → Nat := S.2.1
abbrev StF.t (S : StF) : Nat := S.2.2
def upn (X : Nat → Nat) (c : Nat) (v : Nat) : Nat → Nat := fun i => if i = c then v else X i
theorem upn_eq (X : Nat → Nat) (c v : Nat) : upn X c v c = v := if_pos rfl
theorem upn_ne {X : Nat → Nat} {c v i : Nat} (h : i ≠ c) : upn X c v i = X i := if_neg h
theorem upz_eq (X : Nat → Int) (c : Nat) (v : Int) : upz X c v c = v := if_pos rfl
theorem upz_ne {X : Nat → Int} {c i : Nat} {v : Int} (h : i ≠ c) : upz X c v i = X i := if_neg h
def putF (S : StF) (v : Nat) (p : Int) : StF := ⟨upz S.lab v p, upn S.que S.t v, S.t + 1⟩
def stp (H : Nat → Bool) (h0 : Bool) (p : Int) (sq d : Nat) (S : StF) : StF := match nb sq d with
  | none => S
  | some v => if S.lab v = -1 ∧ H v = h0 then putF S v p else S
def fou (H : Nat → Bool) (h0 : Bool) (p : Int) (sq : Nat) (S : StF) : StF := stp H h0 p sq 3 (stp H h0 p sq 2 (stp H h0 p sq 1 (stp H h0 p sq 0 S)))
def bfs (H : Nat → Bool) (h0 : Bool) (p : Int) : Nat → Nat → StF → StF
  | 0, _, S => S
  | n + 1, h, S => if S.t ≤ h then S else bfs H h0 p n (h + 1) (fou H h0 p (S.que h) S)
def fld (H : Nat → Bool) (p : Int) (src : Nat) (S : StF) : StF := bfs H (H src) p (400 - S.t) S.t (putF S src p)
/-! how many squares have a piece -/
def cntL (lab : Nat → Int) : Nat → Nat
  | 0 => 0
  | n + 1 => cntL lab n + if lab n = -1 then 0 else 1
theorem cntL_le (lab : Nat → Int) : ∀ n, cntL lab n ≤ n
  | 0 => Nat.le_refl _
  | n + 1 => by have := cntL_le lab n; simp only [cntL]; split <;> omega
theorem cntL_up {lab : Nat → Int} {v : Nat} {p : Int} (h : lab v = -1) (hp : p ≠ -1) : ∀ n, cntL (upz lab v p) n = cntL lab n + if v < n then 1 else 0
  | 0 => by simp [cntL]
  | n + 1 => by
    simp only [cntL]
    rw [cntL_up h hp n]
    by_cases q : n = v
    · subst q
      rw [upz_eq, if_neg hp, if_pos h, if_neg (show ¬ n < n by omega), if_pos (show n < n + 1 by omega)]
    · rw [upz_ne q]
      by_cases r : v < n
      · rw [if_pos r, if_pos (show v < n + 1 by omega)]; omega
      · rw [if_neg r, if_neg (show ¬ v < n + 1 by omega)]; omega
def OkF (S : StF) : Prop := (∀ v, -1 ≤ S.lab v ∧ S.lab v < 400) ∧ S.t = cntL S.lab 400 ∧ ∀ j, j < S.t → S.que j < 400
theorem OkF.lo {S : StF} (h : OkF S) : ∀ v, -1 ≤ S.lab v ∧ S.lab v < 400 := h.1
theorem OkF.ct {S : StF} (h : OkF S) : S.t = cntL S.lab 400 := h.2.1
theorem OkF.qu {S : StF} (h : OkF S) : ∀ j, j < S.t → S.que j < 400 := h.2.2
theorem OkF.le {S : StF} (h : OkF S) : S.t ≤ 400 := by rw [h.ct]; exact cntL_le _ _
theorem OkF.pt {S : StF} (h : OkF S) {v : Nat} {p : Int} (hv : v < 400) (hl : S.lab v = -1) (h0 : 0 ≤ p) (h1 : p < 400) : OkF (putF S v p) := by
  refine ⟨fun w => ?_, ?_, fun j hj => ?_⟩
  · show -1 ≤ upz S.lab v p w ∧ upz S.lab v p w < 400
    by_cases q : w = v
    · subst q; rw [upz_eq]; omega
    · rw [upz_ne q]; exact h.lo w
  · show S.t + 1 = cntL (upz S.lab v p) 400
    rw [cntL_up hl (by omega), if_pos hv, h.ct]
  · show upn S.que S.t v j < 400
    have : j < S.t + 1 := hj
    by_cases q : j = S.t
    · subst q; rw [upn_eq]; exact hv
    · rw [upn_ne q]; exact h.qu j (by omega)
theorem OkF.lt {S : StF} (h : OkF S) {v : Nat} (hv : v < 400) (hl : S.lab v = -1) : S.t < 400 := by
  have := (h.pt (p := 0) hv hl (by omega) (by omega)).le
  have e : (putF S v 0).t = S.t + 1 := rfl
  omega
/-- S' is S with more squares of piece p -/
def ExtF (p : Int) (S S' : StF) : Prop := S.t ≤ S'.t ∧ (∀ j, j < S.t → S'.que j = S.que j) ∧ (∀ v, S.lab v ≠ -1 → S'.lab v = S.lab v) ∧ (∀ j, S.t ≤ j → j < S'.t → S'.lab (S'.que j) = p) ∧ (∀ v, v < 400 → S'.lab v ≠ -1 → S.lab v ≠ -1 ∨ ∃ j, S.t ≤ j ∧ j < S'.t ∧ S'.que j = v) ∧ (∀ v, S'.lab v = S.lab v ∨ S'.lab v = p)
theorem ExtF.rf {p : Int} (S : StF) : ExtF p S S := ⟨Nat.le_refl _, fun _ _ => rfl, fun _ _ => rfl, fun j a b => by omega, fun v _ h => Or.inl h, fun _ => Or.inl rfl⟩
theorem ExtF.tr {p : Int} (hp : p ≠ -1) {A B C : StF} (h : ExtF p A B) (g : ExtF p B C) : ExtF p A C := by
  obtain ⟨h1, h2, h3, h4, h5, h6⟩ := h
  obtain ⟨g1, g2, g3, g4, g5, g6⟩ := g
  refine ⟨by omega, fun j hj => by rw [g2 j (by omega), h2 j hj], fun v hv => ?_, fun j a b => ?_, fun v hv q => ?_, fun v => ?_⟩
  · have e := h3 v hv
    rw [g3 v (by rw [e]; exact hv), e]
  · by_cases q : j < B.t
    · have e := h4 j a q
      rw [g2 j q, g3 _ (by rw [e]; exact hp), e]
    · exact g4 j (by omega) b
  · rcases g5 v hv q with q | ⟨j, a, b, c⟩
    · rcases h5 v hv q with q | ⟨j, a, b, c⟩
      · exact Or.inl q
      · exact Or.inr ⟨j, a, by omega, by rw [g2 j b]; exact c⟩
    · exact Or.inr ⟨j, by omega, b, c⟩
  · rcases g6 v with q | q
    · rw [q]; exact h6 v
    · exact Or.inr q
theorem ExtF.pt {S : StF} {v : Nat} {p : Int} (hl : S.lab v = -1) : ExtF p S (putF S v p) := by
  refine ⟨Nat.le_succ _, fun j hj => upn_ne (by omega), fun w hw => upz_ne (fun z => hw (by rw [z]; exact hl)), fun j a b => ?_, fun w hw q => ?_, fun w => ?_⟩
  · obtain rfl : j = S.t := by have : j < S.t + 1 := b; omega
    show upz S.lab v p (upn S.que S.t v S.t) = p
    rw [upn_eq, upz_eq]
  · by_cases z : w = v
    · exact Or.inr ⟨S.t, Nat.le_refl _, Nat.lt_succ_self _, by show upn S.que S.t v S.t = w; rw [upn_eq, z]⟩
    · refine Or.inl ?_
      have : upz S.lab v p w ≠ -1 := q
      rw [upz_ne z] at this
      exact this
  · by_cases z : w = v
    · right
      show upz S.lab v p w = p
      rw [z, upz_eq]
    · left
      exact upz_ne z
theorem stp_ok {H : Nat → Bool} {h0 : Bool} {p : Int} {sq d : Nat} {S : StF} (h : OkF S) (hs : sq < 400) (p0 : 0 ≤ p) (p1 : p < 400) : OkF (stp H h0 p sq d S) ∧ ExtF p S (stp H h0 p sq d S) := by
  unfold stp
  cases hb : nb sq d with
  | none => exact ⟨h, ExtF.rf S⟩
  | some v =>
    by_cases q : S.lab v = -1 ∧ H v = h0
    · simp only [if_pos q]
      exact ⟨h.pt (nb_lt hs hb) q.1 p0 p1, ExtF.pt q.1⟩
    · simp only [if_neg q]
      exact ⟨h, ExtF.rf S⟩
theorem fou_ok {H : Nat → Bool} {h0 : Bool} {p : Int} {sq : Nat} {S : StF} (h : OkF S) (hs : sq < 400) (p0 : 0 ≤ p) (p1 : p < 400) : OkF (fou H h0 p sq S) ∧ ExtF p S (fou H h0 p sq S) := by
  obtain ⟨a1, b1⟩ := stp_ok (H := H) (h0 := h0) (d := 0) h hs p0 p1
  obtain ⟨a2, b2⟩ := stp_ok (H := H) (h0 := h0) (d := 1) a1 hs p0 p1
  obtain ⟨a3, b3⟩ := stp_ok (H := H) (h0 := h0) (d := 2) a2 hs p0 p1
  obtain ⟨a4, b4⟩ := stp_ok (H := H) (h0 := h0) (d := 3) a3 hs p0 p1
  have hp : p ≠ -1 := by omega
  exact ⟨a4, ((b1.tr hp b2).tr hp b3).tr hp b4⟩
theorem bfs_ok {H : Nat → Bool} {h0 : Bool} {p : Int} (p0 : 0 ≤ p) (p1 : p < 400) : ∀ (n h : Nat) (S : StF), OkF S → OkF (bfs H h0 p n h S) ∧ ExtF p S (bfs H h0 p n h S)
  | 0, h, S, ok => ⟨ok, ExtF.rf S⟩
  | n + 1, h, S, ok => by
    unfold bfs
    by_cases q : S.t ≤ h
    · rw [if_pos q]; exact ⟨ok, ExtF.rf S⟩
    · rw [if_neg q]
      obtain ⟨a, b⟩ := fou_ok (H := H) (h0 := h0) ok (ok.qu h (by omega)) p0 p1
      obtain ⟨c, d⟩ := bfs_ok (H := H) (h0 := h0) p0 p1 n (h + 1) _ a
      exact ⟨c, b.tr (by omega) d⟩
theorem fld_ok {H : Nat → Bool} {p : Int} {src : Nat} {S : StF} (h : OkF S) (hs : src < 400) (hl : S.lab src = -1) (p0 : 0 ≤ p) (p1 : p < 400) : OkF (fld H p src S) ∧ ExtF p S (fld H p src S) ∧ S.t < (fld H p src S).t ∧ (fld H p src S).que S.t = src ∧ (fld H p src S).lab src = p := by
  obtain ⟨a, b⟩ := bfs_ok (H := H) (h0 := H src) p0 p1 (400 - S.t) S.t _ (h.pt hs hl p0 p1)
  have q : S.t < (putF S src p).t := Nat.lt_succ_self _
  refine ⟨a, (ExtF.pt hl).tr (by omega) b, Nat.lt_of_lt_of_le q b.1, ?_, ?_⟩
  · unfold fld
    rw [b.2.1 _ q]
    exact upn_eq _ _ _
  · unfold fld
    have e : (putF S src p).lab src = p := upz_eq _ _ _
    rw [b.2.2.1 src (by rw [e]; omega), e]
/-! the scan: piece after piece -/
abbrev ScF : Type := StF × Nat × (Nat → Nat) × (Nat → Nat)
abbrev ScF.S (C : ScF) : StF := C.1
abbrev ScF.P (C : ScF) : Nat := C.2.1
abbrev ScF.start (C : ScF) : Nat → Nat := C.2.2.1
abbrev ScF.first (C : ScF) : Nat → Nat := C.2.2.2
def sc1 (H : Nat → Bool) (s : Nat) (C : ScF) : ScF := if C.S.lab s = -1 then (fld H C.P s C.S, C.P + 1, upn C.start (C.P + 1) (fld H C.P s C.S).t, upn C.first C.P s) else C
def scn (H : Nat → Bool) : Nat → Nat → ScF → ScF
  | 0, _, C => C
  | n + 1, s, C => scn H n (s + 1) (sc1 H s C)
def IC (s : Nat) (C : ScF) : Prop := OkF C.S ∧ C.start C.P = C.S.t ∧ (∀ p, p < C.P → C.start p < C.start (p + 1)) ∧ (∀ p, p < C.P → ∀ j, C.start p ≤ j → j < C.start (p + 1) → C.S.lab (C.S.que j) = p) ∧ (∀ v, v < 400 → C.S.lab v ≠ -1 → ∃ j, j < C.S.t ∧ C.S.que j = v) ∧ (∀ v, v < s → C.S.lab v ≠ -1) ∧ (∀ p, p < C.P → C.S.que (C.start p) = C.first p) ∧ C.start 0 = 0 ∧ (∀ v, C.S.lab v < C.P)
theorem IC.st {s : Nat} {C : ScF} (h : IC s C) : ∀ d p, p + d ≤ C.P → C.start p + d ≤ C.start (p + d)
  | 0, p, _ => Nat.le_refl _
  | d + 1, p, hp => by
    have a := h.st d p (by omega)
    have b := h.2.2.1 (p + d) (by omega)
    rw [← Nat.add_assoc p d 1]
    omega
theorem IC.pt {s : Nat} {C : ScF} (h : IC s C) : C.P ≤ C.S.t := by
  have a := h.st C.P 0 (by omega)
  have b := h.2.1
  have c := h.2.2.2.2.2.2.2.1
  rw [Nat.zero_add] at a
  omega
theorem IC.sm {s : Nat} {C : ScF} (h : IC s C) {p : Nat} (hp : p ≤ C.P) : C.start p ≤ C.S.t := by
  have a := h.st (C.P - p) p (by omega)
  rw [show p + (C.P - p) = C.P by omega, h.2.1] at a
  omega
theorem sc1_ok {H : Nat → Bool} {s : Nat} {C : ScF} (hs : s < 400) (h : IC s C) : IC (s + 1) (sc1 H s C) := by
  have hP := h.pt
  obtain ⟨ok, h2, h3, h4, h5, h6, h7, h8, h9⟩ := id h
  unfold sc1
  by_cases q : C.S.lab s = -1
  · rw [if_pos q]
    have tl := ok.lt hs q
    obtain ⟨f1, ⟨e1, e2, e3, e4, e5, e6⟩, f3, f4, f5⟩ := fld_ok (H := H) (p := (C.P : Int)) ok hs q (by omega) (by omega)
    generalize fld H (C.P : Int) s C.S = S' at f1 e1 e2 e3 e4 e5 e6 f3 f4 f5 ⊢
    have u : ∀ p, p ≤ C.P → upn C.start (C.P + 1) S'.t p = C.start p := fun p hp => upn_ne (by omega)
    refine ⟨f1, upn_eq _ _ _, fun p hp => ?_, fun p hp j a b => ?_, fun v hv z => ?_, fun v hv => ?_, fun p hp => ?_, ?_, fun v => ?_⟩
    · have hp' : p < C.P + 1 := hp
      show upn C.start (C.P + 1) S'.t p < upn C.start (C.P + 1) S'.t (p + 1)
      rw [u p (by omega)]
      by_cases z : p = C.P
      · rw [z, upn_eq, h2]; exact f3
      · rw [u (p + 1) (by omega)]; exact h3 p (by omega)
    · have hp' : p < C.P + 1 := hp
      have a' : upn C.start (C.P + 1) S'.t p ≤ j := a
      have b' : j < upn C.start (C.P + 1) S'.t (p + 1) := b
      rw [u p (by omega)] at a'
      show S'.lab (S'.que j) = p
      by_cases z : p = C.P
      · rw [z, upn_eq] at b'
        rw [z, h2] at a'
        rw [z]
        exact e4 j a' b'
      · rw [u (p + 1) (by omega)] at b'
        have lt := h.sm (p := p + 1) (by omega)
        have e := h4 p (by omega) j a' b'
        rw [e2 j (by omega), e3 _ (by rw [e]; omega), e]
    · rcases e5 v hv z with z | ⟨j, a, b, c⟩
      · obtain ⟨j, a, b⟩ := h5 v hv z
        exact ⟨j, Nat.lt_of_lt_of_le a e1, by show S'.que j = v; rw [e2 j a, b]⟩
      · exact ⟨j, b, c⟩
    · show S'.lab v ≠ -1
      by_cases z : v = s
      · rw [z, f5]; omega
      · rw [e3 v (h6 v (by omega))]; exact h6 v (by omega)
    · have hp' : p < C.P + 1 := hp
      show S'.que (upn C.start (C.P + 1) S'.t p) = upn C.first C.P s p
      rw [u p (by omega)]
      by_cases z : p = C.P
      · rw [z, upn_eq, h2, f4]
      · have lt := h3 p (by omega)
        have lt2 := h.sm (p := p + 1) (by omega)
        rw [upn_ne z, e2 _ (by omega)]; exact h7 p (by omega)
    · show upn C.start (C.P + 1) S'.t 0 = 0
      rw [u 0 (by omega)]; exact h8
    · show S'.lab v < ((C.P + 1 : Nat) : Int)
      rcases e6 v with z | z
      · have := h9 v; rw [z]; omega
      · rw [z]; omega
  · rw [if_neg q]
    refine ⟨ok, h2, h3, h4, h5, fun v hv => ?_, h7, h8, h9⟩
    by_cases z : v = s
    · rw [z]; exact q
    · exact h6 v (by omega)
theorem scn_ok {H : Nat → Bool} : ∀ (n s : Nat) (C : ScF), s + n ≤ 400 → IC s C → IC (s + n) (scn H n s C)
  | 0, s, C, _, h => h
  | n + 1, s, C, hs, h => by
    have := scn_ok (H := H) n (s + 1) _ (by omega) (sc1_ok (H := H) (by omega) h)
    rw [show s + (n + 1) = s + 1 + n by omega]
    exact this
def C0 : ScF := ((fun _ => -1, fun _ => 0, 0), 0, fun _ => 0, fun _ => 0)
theorem cnt0 : ∀ n, cntL (fun _ => -1) n = 0
  | 0 => rfl
  | n + 1 => by simp [cntL, cnt0 n]
theorem C0_ok : IC 0 C0 := ⟨⟨fun v => ⟨Int.le_refl _, (by decide : (-1 : Int) < 400)⟩, (cnt0 400).symm, fun j hj => absurd hj (Nat.not_lt_zero _)⟩, rfl, fun p hp => absurd hp (Nat.not_lt_zero _), fun p hp => absurd hp (Nat.not_lt_zero _), fun v _ h => absurd rfl h, fun v hv => absurd hv (Nat.not_lt_zero _), fun p hp => absurd hp (Nat.not_lt_zero _), rfl, fun v => (by decide : (-1 : Int) < 0)⟩
/-- the pieces of a map -/
def pcs (H : Nat → Bool) : ScF := scn H 400 0 C0
theorem pcs_ok (H : Nat → Bool) : IC 400 (pcs H) := scn_ok 400 0 C0 (by omega) C0_ok

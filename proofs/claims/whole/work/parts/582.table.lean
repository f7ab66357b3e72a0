/-! sets of ends as numbers -/
def bits (k : Nat) : Nat → Bool := fun e => k.testBit e
def ofB (B : Nat → Bool) : Nat := (if B 0 then 1 else 0) + (if B 1 then 2 else 0) + (if B 2 then 4 else 0) + (if B 3 then 8 else 0) + (if B 4 then 16 else 0) + (if B 5 then 32 else 0)
theorem ofB_lt (B : Nat → Bool) : ofB B < 64 := by
  unfold ofB
  cases B 0 <;> cases B 1 <;> cases B 2 <;> cases B 3 <;> cases B 4 <;> cases B 5 <;> decide
theorem ofB_bit (B : Nat → Bool) : ∀ e, e < 6 → (ofB B).testBit e = B e := by
  intro e he
  unfold ofB
  rcases (show e = 0 ∨ e = 1 ∨ e = 2 ∨ e = 3 ∨ e = 4 ∨ e = 5 by omega) with rfl | rfl | rfl | rfl | rfl | rfl <;>
    (cases B 0 <;> cases B 1 <;> cases B 2 <;> cases B 3 <;> cases B 4 <;> cases B 5 <;> rfl)
theorem bits_hi {k e : Nat} (hk : k < 64) (he : 6 ≤ e) : k.testBit e = false := by
  apply Nat.testBit_lt_two_pow
  calc k < 2 ^ 6 := hk
    _ ≤ 2 ^ e := Nat.pow_le_pow_right (by omega) he
theorem bits_ext {a b : Nat} (ha : a < 64) (hb : b < 64) (h : ∀ e, e < 6 → a.testBit e = b.testBit e) : a = b := by
  apply Nat.eq_of_testBit_eq
  intro e
  by_cases q : e < 6
  · exact h e q
  · rw [bits_hi ha (by omega), bits_hi hb (by omega)]
theorem bits_sub : ∀ k, k < 64 → ∀ s, s < 64 → s &&& k = s → ∀ e, e < 6 → (k - s).testBit e = (k.testBit e && !s.testBit e) := by decide +kernel
theorem bits_zero {k : Nat} (hk : k < 64) (h : ∀ e, e < 6 → k.testBit e = false) : k = 0 := bits_ext hk (by omega) (fun e he => by rw [h e he, Nat.zero_testBit])
theorem bits_sub' {k s : Nat} (hk : k < 64) (hs : s < 64) (h : s &&& k = s) (e : Nat) : (k - s).testBit e = (k.testBit e && !s.testBit e) := by
  by_cases q : e < 6
  · exact bits_sub k hk s hs h e q
  · rw [bits_hi (by omega) (by omega), bits_hi hk (by omega)]; rfl
theorem sub_le {k s : Nat} (h : s &&& k = s) : s ≤ k := by rw [← h]; exact Nat.and_le_right
/-- a set within k is a number -/
theorem split_num {k : Nat} {B C : Nat → Bool} (hk : k < 64) (x : ∀ i, bits k i = (B i || C i)) (y : ∀ i, ¬ (B i = true ∧ C i = true)) (nB : ∃ i, B i = true) (nC : ∃ i, C i = true) : ∃ s, 0 < s ∧ s < k ∧ s &&& k = s ∧ (∀ i, bits s i = B i) ∧ ∀ i, bits (k - s) i = C i := by
  have b6 : ∀ i, 6 ≤ i → B i = false ∧ C i = false := fun i hi => by
    have := x i
    unfold bits at this
    rw [bits_hi hk hi] at this
    exact Bool.or_eq_false_iff.mp this.symm
  have e1 : ∀ i, bits (ofB B) i = B i := fun i => by
    unfold bits
    by_cases q : i < 6
    · exact ofB_bit B i q
    · rw [bits_hi (ofB_lt B) (by omega), (b6 i (by omega)).1]
  have e2 : ofB B &&& k = ofB B := by
    apply Nat.eq_of_testBit_eq
    intro i
    rw [Nat.testBit_and]
    have a : (ofB B).testBit i = B i := e1 i
    have b : k.testBit i = (B i || C i) := x i
    rw [a, b]
    cases B i <;> simp
  have e3 : ∀ i, bits (k - ofB B) i = C i := fun i => by
    have := bits_sub' hk (ofB_lt B) e2 i
    have a : (ofB B).testBit i = B i := e1 i
    have b : k.testBit i = (B i || C i) := x i
    unfold bits
    rw [this, a, b]
    have := y i
    clear a b
    revert this
    cases B i <;> cases C i <;> decide
  obtain ⟨i, hi⟩ := nB
  obtain ⟨j, hj⟩ := nC
  have p1 : ofB B ≠ 0 := fun z => by
    have := e1 i
    rw [z, hi] at this
    unfold bits at this
    rw [Nat.zero_testBit] at this
    simp at this
  have p2 : k - ofB B ≠ 0 := fun z => by
    have := e3 j
    rw [z, hj] at this
    unfold bits at this
    rw [Nat.zero_testBit] at this
    simp at this
  exact ⟨ofB B, by omega, by omega, e2, e1, e3⟩
theorem bits_one : ∀ e, e < 6 → ∀ k, k < 64 → (∀ i, i < 6 → k.testBit i = decide (i = e)) → k = 2 ^ e := by
  intro e he k hk h
  apply bits_ext hk
  · rcases (show e = 0 ∨ e = 1 ∨ e = 2 ∨ e = 3 ∨ e = 4 ∨ e = 5 by omega) with rfl | rfl | rfl | rfl | rfl | rfl <;> decide
  · intro i hi
    rw [h i hi, Nat.testBit_two_pow]
    simp [eq_comm]
/-- the row of k is as small as ends and joins ask -/
def LJ (adj : Nat → Nat → Prop) (K P : Nat) (tm : Nat → Nat) (k : Nat) (R : Nat → Nat) : Prop := ∀ v c, v < P → ((∃ e, e < K ∧ (∀ i, bits k i = decide (i = e)) ∧ v = tm e) ∨ ∃ B C b c', (∀ i, bits k i = (B i || C i)) ∧ (∀ i, ¬ (B i = true ∧ C i = true)) ∧ AchE adj K tm B v b ∧ AchE adj K tm C v c' ∧ c = b + c') → R v ≤ c
def TabOk (adj : Nat → Nat → Prop) (K P : Nat) (tm : Nat → Nat) (T : Nat → Nat → Nat) (M : Nat) : Prop := ∀ k, 0 < k → k < M → ∀ p, p < P → MinA adj K tm (bits k) p (T k p)
theorem LJ.of {adj : Nat → Nat → Prop} {K P : Nat} {tm : Nat → Nat} {T : Nat → Nat → Nat} {k : Nat} {R : Nat → Nat} (hK : K ≤ 6) (hk : k < 64) (hT : TabOk adj K P tm T k) (h1 : ∀ e, e < K → k = 2 ^ e → R (tm e) = 0) (h2 : ∀ s, 0 < s → s < k → s &&& k = s → ∀ p, p < P → R p ≤ T s p + T (k - s) p) : LJ adj K P tm k R := by
  intro v c hv h
  rcases h with ⟨e, he, hA, hve⟩ | ⟨B, C, b, c', x, y, z, w, hc⟩
  · have := h1 e he (bits_one e (by omega) k hk (fun i _ => hA i))
    rw [hve, this]; exact Nat.zero_le _
  · obtain ⟨n1, z1⟩ := z
    obtain ⟨n2, w1⟩ := w
    obtain ⟨s, s0, sk, se, s1, s2⟩ := split_num hk x y (Ach.ends n1 B v b z1).1 (Ach.ends n2 C v c' w1).1
    have a := (hT s s0 sk v hv).2 b (AchE.cg ⟨n1, z1⟩ (fun i => (s1 i).symm))
    have b' := (hT (k - s) (by omega) (by omega) v hv).2 c' (AchE.cg ⟨n2, w1⟩ (fun i => (s2 i).symm))
    have := h2 s s0 sk se v hv
    omega
/-- as small as each way with at most i openings -/
def Qd (adj : Nat → Nat → Prop) (K P : Nat) (tm : Nat → Nat) (k i : Nat) (R : Nat → Nat) : Prop := ∀ n v c, Ach adj K tm n (bits k) v c → v < P → c ≤ i → R v ≤ c
theorem Qd.zero {adj : Nat → Nat → Prop} {K P : Nat} {tm : Nat → Nat} {k : Nat} {R : Nat → Nat} (h : LJ adj K P tm k R) : Qd adj K P tm k 0 R := by
  intro n v c a hv hc
  cases n with
  | zero => exact a.elim
  | succ n =>
    rcases a with ⟨e, he, hA, hve, -⟩ | ⟨u, c', -, -, e⟩ | ⟨B, C, b, c', x, y, z, w, e⟩
    · exact h v c hv (Or.inl ⟨e, he, hA, hve⟩)
    · omega
    · exact h v c hv (Or.inr ⟨B, C, b, c', x, y, ⟨n, z⟩, ⟨n, w⟩, e⟩)
theorem Qd.step {adj : Nat → Nat → Prop} {K P : Nat} {tm : Nat → Nat} {k i : Nat} {R R' : Nat → Nat} (h : LJ adj K P tm k R') (ha : ∀ u v, adj u v → u < P) (g : Qd adj K P tm k i R) (hr : ∀ u v, adj u v → v < P → R u ≤ i → R' v ≤ R u + 1) : Qd adj K P tm k (i + 1) R' := by
  intro n v c a hv hc
  cases n with
  | zero => exact a.elim
  | succ n =>
    rcases a with ⟨e, he, hA, hve, -⟩ | ⟨u, c', a1, a2, e⟩ | ⟨B, C, b, c', x, y, z, w, e⟩
    · exact h v c hv (Or.inl ⟨e, he, hA, hve⟩)
    · have := g n u c' a2 (ha u v a1) (by omega)
      have := hr u v a1 hv (by omega)
      omega
    · exact h v c hv (Or.inr ⟨B, C, b, c', x, y, ⟨n, z⟩, ⟨n, w⟩, e⟩)
/-- then the row is the least -/
theorem row_min {adj : Nat → Nat → Prop} {K P : Nat} {tm : Nat → Nat} {k : Nat} {R : Nat → Nat} (hP : 0 < P) (hP4 : P ≤ 400) (hK : K ≤ 6) (hp : ∀ p, 1 ≤ p → p < P → ∃ q, q < p ∧ adj p q ∧ adj q p) (ht : ∀ e, e < K → tm e < P) (hk0 : 0 < k) (hk : k < 2 ^ K) (g : Qd adj K P tm k (P - 1) R) (hi : ∀ p, p < P → R p = INF ∨ AchE adj K tm (bits k) p (R p)) : ∀ p, p < P → MinA adj K tm (bits k) p (R p) ∧ R p < P := by
  intro p hpP
  have h64 : k < 64 := Nat.lt_of_lt_of_le hk (Nat.pow_le_pow_right (by omega) hK)
  obtain ⟨c, lc, n, hc⟩ := span_all (K := K) (tm := tm) hP hp ht hpP (A := bits k) (fun e he => by
    by_cases q : e < K
    · exact q
    · have : k.testBit e = false := by
        apply Nat.testBit_lt_two_pow
        exact Nat.lt_of_lt_of_le hk (Nat.pow_le_pow_right (by omega) (by omega))
      unfold bits at he
      rw [this] at he
      simp at he) (by
    by_cases q : ∃ e, bits k e = true
    · exact q
    · exfalso
      have : k = 0 := bits_zero h64 (fun e _ => by
        cases z : k.testBit e with
        | false => rfl
        | true => exact absurd ⟨e, z⟩ q)
      omega)
  have l := g n p c hc hpP (by omega)
  have iI : INF = 100000000 := rfl
  refine ⟨⟨?_, fun c' ⟨n', h'⟩ => ?_⟩, by omega⟩
  · rcases hi p hpP with z | z
    · omega
    · exact z
  · by_cases z : c' ≤ P - 1
    · exact g n' p c' h' hpP z
    · omega

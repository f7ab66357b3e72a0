/-! walks from square to square, and what they cost -/
def Wq (X : Nat → Nat → Nat) (s : Nat) : Nat → Nat → Nat → Prop
  | 0, v, c => v = s ∧ c = 0
  | n + 1, v, c => ∃ u d c', Wq X s n u c' ∧ d < 4 ∧ u < 400 ∧ nb u d = some v ∧ c = c' + X u d
def Sq (X : Nat → Nat → Nat) (s n : Nat) (f g : Nat → Nat) : Prop := f 0 = s ∧ g 0 = 0 ∧ ∀ i, i < n → ∃ d, d < 4 ∧ f i < 400 ∧ nb (f i) d = some (f (i + 1)) ∧ g (i + 1) = g i + X (f i) d
theorem Wq_seq {X : Nat → Nat → Nat} {s : Nat} : ∀ n v c, Wq X s n v c → ∃ f g, Sq X s n f g ∧ f n = v ∧ g n = c
  | 0, v, c, h => ⟨fun _ => s, fun _ => 0, ⟨rfl, rfl, fun i hi => absurd hi (Nat.not_lt_zero _)⟩, h.1.symm, h.2.symm⟩
  | n + 1, v, c, h => by
    obtain ⟨u, d, c', h1, hd, hu, hb, hc⟩ := h
    obtain ⟨f, g, ⟨a1, a2, a3⟩, e1, e2⟩ := Wq_seq n u c' h1
    refine ⟨upn f (n + 1) v, upn g (n + 1) c, ⟨by rw [upn_ne (by omega)]; exact a1, by rw [upn_ne (by omega)]; exact a2, fun i hi => ?_⟩, upn_eq _ _ _, upn_eq _ _ _⟩
    by_cases q : i = n
    · subst q
      rw [upn_ne (show i ≠ i + 1 by omega), upn_ne (show i ≠ i + 1 by omega), upn_eq, upn_eq, e1, e2]
      exact ⟨d, hd, hu, hb, hc⟩
    · rw [upn_ne (show i ≠ n + 1 by omega), upn_ne (show i ≠ n + 1 by omega), upn_ne (show i + 1 ≠ n + 1 by omega), upn_ne (show i + 1 ≠ n + 1 by omega)]
      exact a3 i (by omega)
theorem Sq.wq {X : Nat → Nat → Nat} {s n : Nat} {f g : Nat → Nat} (h : Sq X s n f g) : ∀ i, i ≤ n → Wq X s i (f i) (g i)
  | 0, _ => ⟨h.1, h.2.1⟩
  | i + 1, hi => by
    obtain ⟨d, a, b, c, e⟩ := h.2.2 i (by omega)
    exact ⟨f i, d, g i, h.wq i (by omega), a, b, c, e⟩
theorem Sq.mono {X : Nat → Nat → Nat} {s n : Nat} {f g : Nat → Nat} (h : Sq X s n f g) : ∀ k i, i + k ≤ n → g i ≤ g (i + k)
  | 0, i, _ => Nat.le_refl _
  | k + 1, i, hi => by
    have a := h.mono k i (by omega)
    obtain ⟨d, -, -, -, e⟩ := h.2.2 (i + k) (by omega)
    rw [← Nat.add_assoc i k 1, e]
    omega
theorem Sq.cut {X : Nat → Nat → Nat} {s n i j : Nat} {f g : Nat → Nat} (h : Sq X s n f g) (hij : i < j) (hj : j ≤ n) (e : f i = f j) : ∀ k, j + k ≤ n → Wq X s (i + k) (f (j + k)) (g (j + k) - (g j - g i))
  | 0, _ => by
    have m := h.mono (j - i) i (by omega)
    rw [show i + (j - i) = j by omega] at m
    have w := h.wq i (by omega)
    show Wq X s i (f j) (g j - (g j - g i))
    rw [← e, show g j - (g j - g i) = g i by omega]
    exact w
  | k + 1, hk => by
    have w := h.cut hij hj e k (by omega)
    obtain ⟨d, a, b, c, e'⟩ := h.2.2 (j + k) (by omega)
    have m := h.mono k j (by omega)
    exact ⟨f (j + k), d, _, w, a, b, c, by rw [← Nat.add_assoc j k 1, e']; omega⟩
theorem pigeon : ∀ (N : Nat) (f : Nat → Nat), (∀ i, i ≤ N → f i < N) → ∃ i j, i < j ∧ j ≤ N ∧ f i = f j
  | 0, f, h => absurd (h 0 (Nat.le_refl _)) (Nat.not_lt_zero _)
  | N + 1, f, h => by
    by_cases q : ∃ i, i < N + 1 ∧ f i = f (N + 1)
    · obtain ⟨i, a, b⟩ := q
      exact ⟨i, N + 1, a, Nat.le_refl _, b⟩
    · have ne : ∀ i, i < N + 1 → f i ≠ f (N + 1) := fun i a b => q ⟨i, a, b⟩
      have hl := h (N + 1) (Nat.le_refl _)
      obtain ⟨i, j, a, b, c⟩ := pigeon N (fun i => if f i < f (N + 1) then f i else f i - 1) (fun i hi => by
        have a := ne i (by omega)
        have b := h i (by omega)
        show (if f i < f (N + 1) then f i else f i - 1) < N
        split <;> omega)
      have a1 := ne i (by omega)
      have a2 := ne j (by omega)
      refine ⟨i, j, a, by omega, ?_⟩
      have c' : (if f i < f (N + 1) then f i else f i - 1) = if f j < f (N + 1) then f j else f j - 1 := c
      split at c' <;> split at c' <;> omega
/-- a walk of 400 steps or more can be shortened -/
theorem Wq_short {X : Nat → Nat → Nat} {s n v c : Nat} (hn : 400 ≤ n) (hv : v < 400) (h : Wq X s n v c) : ∃ n' c', n' < n ∧ c' ≤ c ∧ Wq X s n' v c' := by
  obtain ⟨f, g, S, e1, e2⟩ := Wq_seq n v c h
  obtain ⟨i, j, a, b, e⟩ := pigeon 400 f (fun i hi => by
    by_cases q : i = n
    · rw [q, e1]; exact hv
    · obtain ⟨d, -, z, -⟩ := S.2.2 i (by omega)
      exact z)
  have w := S.cut a (by omega) e (n - j) (by omega)
  rw [show j + (n - j) = n by omega, e1, e2] at w
  exact ⟨i + (n - j), _, by omega, Nat.sub_le _ _, w⟩
/-- the cheapest walk, where a crossing costs C -/
theorem Wq_min {X : Nat → Nat → Nat} {s v C : Nat} (hv : v < 400) : ∀ k, (∃ n c, Wq X s n v c ∧ C * c + n ≤ k) → ∃ n c, Wq X s n v c ∧ n < 400 ∧ ∀ n' c', Wq X s n' v c' → C * c + n ≤ C * c' + n'
  | 0, ⟨n, c, h, hk⟩ => ⟨n, c, h, by omega, fun n' c' _ => by omega⟩
  | k + 1, ⟨n, c, h, hk⟩ => by
    by_cases q : ∃ n c, Wq X s n v c ∧ C * c + n ≤ k
    · exact Wq_min hv k q
    · refine ⟨n, c, h, ?_, fun n' c' h' => ?_⟩
      · by_cases z : n < 400
        · exact z
        · obtain ⟨n', c', a, b, w⟩ := Wq_short (by omega) hv h
          have := Nat.mul_le_mul_left C b
          exact absurd ⟨n', c', w, by omega⟩ q
      · by_cases z : C * c' + n' ≤ k
        · exact absurd ⟨n', c', h', z⟩ q
        · omega
theorem Wq_tr {X : Nat → Nat → Nat} {s u a c1 : Nat} (h : Wq X s a u c1) : ∀ b v c2, Wq X u b v c2 → Wq X s (a + b) v (c1 + c2)
  | 0, v, c2, g => by
    obtain ⟨rfl, rfl⟩ := g
    exact h
  | b + 1, v, c2, g => by
    obtain ⟨w, d, c', g1, x, y, z, e⟩ := g
    exact ⟨w, d, c1 + c', Wq_tr h b w c' g1, x, y, z, by omega⟩
theorem Wq_one {X : Nat → Nat → Nat} {u d v : Nat} (hd : d < 4) (hu : u < 400) (h : nb u d = some v) : Wq X u 1 v (X u d) := ⟨u, d, 0, ⟨rfl, rfl⟩, hd, hu, h, by omega⟩
theorem nb_back : ∀ v, v < 400 → 0 < v → ∃ d u, d < 4 ∧ nb v d = some u ∧ u < v := by
  intro v hv h0
  by_cases q : 0 < v % 20
  · exact ⟨3, v - 1, by omega, by unfold nb; simp [q], by omega⟩
  · exact ⟨0, v - 20, by omega, by unfold nb; rw [if_pos rfl, if_pos (by omega)], by omega⟩
theorem nb_fore : ∀ v, v < 400 → 0 < v → ∃ d u, d < 4 ∧ u < v ∧ nb u d = some v := by
  intro v hv h0
  by_cases q : 0 < v % 20
  · exact ⟨1, v - 1, by omega, by omega, by unfold nb; rw [if_neg (by omega), if_pos rfl, if_pos (by omega), show v - 1 + 1 = v by omega]⟩
  · exact ⟨2, v - 20, by omega, by omega, by unfold nb; rw [if_neg (by omega), if_neg (by omega), if_pos rfl, if_pos (by omega), show v - 20 + 20 = v by omega]⟩
theorem Wq_to0 {X : Nat → Nat → Nat} : ∀ k v, v < k → v < 400 → ∃ n c, Wq X v n 0 c
  | 0, v, h, _ => absurd h (Nat.not_lt_zero _)
  | k + 1, v, h, hv => by
    by_cases q : v = 0
    · subst q; exact ⟨0, 0, rfl, rfl⟩
    · obtain ⟨d, u, hd, hb, hu⟩ := nb_back v hv (by omega)
      obtain ⟨n, c, w⟩ := Wq_to0 (X := X) k u (by omega) (by omega)
      exact ⟨_, _, Wq_tr (Wq_one hd hv hb) _ _ _ w⟩
theorem Wq_from0 {X : Nat → Nat → Nat} : ∀ k v, v < k → v < 400 → ∃ n c, Wq X 0 n v c
  | 0, v, h, _ => absurd h (Nat.not_lt_zero _)
  | k + 1, v, h, hv => by
    by_cases q : v = 0
    · subst q; exact ⟨0, 0, rfl, rfl⟩
    · obtain ⟨d, u, hd, hu, hb⟩ := nb_fore v hv (by omega)
      obtain ⟨n, c, w⟩ := Wq_from0 (X := X) k u (by omega) (by omega)
      exact ⟨n + 1, c + X u d, u, d, c, w, hd, by omega, hb, rfl⟩
theorem Wq_all {X : Nat → Nat → Nat} {s v : Nat} (hs : s < 400) (hv : v < 400) : ∃ n c, Wq X s n v c := by
  obtain ⟨a, b, w⟩ := Wq_to0 (X := X) 400 s hs hs
  obtain ⟨a', b', w'⟩ := Wq_from0 (X := X) 400 v hv hv
  exact ⟨_, _, Wq_tr w _ _ _ w'⟩
/-- dist is the cheapest cost at v -/
def Opt (X : Nat → Nat → Nat) (C s v D : Nat) : Prop := ∃ n c, Wq X s n v c ∧ n < 400 ∧ D = C * c + n ∧ ∀ n' c', Wq X s n' v c' → D ≤ C * c' + n'
theorem Opt.ex {X : Nat → Nat → Nat} {C s v : Nat} (hs : s < 400) (hv : v < 400) : ∃ D, Opt X C s v D := by
  obtain ⟨n, c, w⟩ := Wq_all (X := X) hs hv
  obtain ⟨n', c', a, b, e⟩ := Wq_min (C := C) hv _ ⟨n, c, w, Nat.le_refl _⟩
  exact ⟨_, n', c', a, b, rfl, e⟩
theorem Opt.two {X : Nat → Nat → Nat} {s v D E : Nat} (h : Opt X 400 s v D) (g : Opt X 1000 s v E) : D / 400 = E / 1000 ∧ D % 400 = E % 1000 := by
  obtain ⟨n, c, w, hn, e, o⟩ := h
  obtain ⟨n', c', w', hn', e', o'⟩ := g
  have a := o _ _ w'
  have b := o' _ _ w
  have : c = c' := by omega
  subst this
  omega

/-! the reference's table of openings -/
theorem sub_next : ∀ k, k < 64 → ∀ x, x < 64 → x &&& k = x → ∀ s, s < x → s &&& k = s → s ≤ (x - 1) &&& k := by decide +kernel
theorem and32 : ∀ a, a < 128 → ∀ b, b < 128 → nI a &&& nI b = nI (a &&& b) := by decide +kernel
theorem xor32 : ∀ a, a < 64 → ∀ b, b < 64 → b &&& a = b → nI a ^^^ nI b = nI (a - b) := by decide +kernel
theorem shl32 : ∀ h, h < 7 → jshl 1 (nI h) = nI (2 ^ h) := by decide
theorem and_and (a b : Nat) : (a &&& b) &&& b = a &&& b := by rw [Nat.and_assoc, Nat.and_self]
def MT (m : Mem) (T : Nat → Nat → Nat) (M P : Nat) : Prop := ∀ k, 0 < k → k < M → ∀ p, p < P → gI m 150 (400 * k + p) = nI (T k p)
theorem n_andr {k s : Nat} (hk : k < 64) (hs : 0 < s) (h : s < 64) : (nI s - 1) &&& nI k = nI ((s - 1) &&& k) := by rw [k1, n_sub (by omega), and32 _ (by omega) _ (by omega)]
/-- all ways to split -/
theorem sb_loop {m : Mem} {T : Nat → Nat → Nat} {k p P : Nat} {x2 x3 : Int32} {kx : Mem → Int32 → Option (Int32 × Mem)} (hk : k < 64) (hP : P ≤ 400) (hp : p < P) (R : MT m T k P) (hT : ∀ k p, T k p ≤ INF) : ∀ (B s fu acc : Nat), s ≤ B → s < fu → s < k → s &&& k = s → acc ≤ INF →
    ∃ acc', RM_stiles_L77 x2 x3 (nI k) (nI p) kx fu m (nI acc) (nI s) = kx m (nI acc') ∧ acc' ≤ acc ∧ (∀ s', 0 < s' → s' ≤ s → s' &&& k = s' → acc' ≤ T s' p + T (k - s') p) ∧ (acc' = acc ∨ ∃ s', 0 < s' ∧ s' < k ∧ s' &&& k = s' ∧ acc' = T s' p + T (k - s') p) := by
  intro B
  induction B with
  | zero =>
    intro s fu acc hB hf hs ha hacc
    obtain ⟨f, rfl⟩ : ∃ f, fu = f + 1 := ⟨fu - 1, by omega⟩
    obtain rfl : s = 0 := by omega
    exact ⟨acc, by rw [RM_stiles_L77, if_pos (by decide)], Nat.le_refl _, fun s' a b => by omega, Or.inl rfl⟩
  | succ B ih =>
    intro s fu acc hB hf hs ha hacc
    obtain ⟨f, rfl⟩ : ∃ f, fu = f + 1 := ⟨fu - 1, by omega⟩
    by_cases z : s = 0
    · subst z
      exact ⟨acc, by rw [RM_stiles_L77, if_pos (by decide)], Nat.le_refl _, fun s' a b => by omega, Or.inl rfl⟩
    · have iI : INF = 100000000 := rfl
      have t1 := hT s p
      have t2 := hT (k - s) p
      have le1 : (s - 1) &&& k ≤ s - 1 := Nat.and_le_left
      obtain ⟨acc2, e2⟩ : ∃ a, a = if acc ≤ T s p + T (k - s) p then acc else T s p + T (k - s) p := ⟨_, rfl⟩
      have hacc2 : acc2 ≤ acc ∧ acc2 ≤ T s p + T (k - s) p := by rw [e2]; split <;> omega
      obtain ⟨acc', e, a1, a2, a3⟩ := ih ((s - 1) &&& k) f acc2 (by omega) (by omega) (by omega) (and_and _ _) (by omega)
      refine ⟨acc', ?_, by omega, fun s' h1 h2 h3 => ?_, ?_⟩
      · rw [RM_stiles_L77, if_neg (by rw [k0, n_le (by omega) (by omega)]; omega), xor32 k hk s (by omega) ha, show (400 : Int32) = nI 400 from rfl, n_mul, n_add, if_pos (n_in (by omega) (by omega)), n_mul, n_add, if_pos (n_in (by omega) (by omega)), n_ixn (by omega), n_ixn (by omega), R s (by omega) hs p hp, R (k - s) (by omega) (by omega) p hp, n_add, letV_p]
        by_cases q : acc ≤ T s p + T (k - s) p
        · rw [if_pos (by rw [n_le (by omega) (by omega)]; exact q), RM_stiles_J130, letV_p, n_andr hk (by omega) (by omega)]
          rw [if_pos q] at e2
          rw [← e2, e]
        · rw [if_neg (by rw [n_le (by omega) (by omega)]; exact q), RM_stiles_J130, letV_p, n_andr hk (by omega) (by omega)]
          rw [if_neg q] at e2
          rw [← e2, e]
      · by_cases q : s' = s
        · rw [q]; omega
        · exact a2 s' h1 (sub_next k hk s (by omega) ha s' (by omega) h3) h3
      · rcases a3 with q | q
        · rw [q]
          by_cases y : acc ≤ T s p + T (k - s) p
          · left; rw [e2, if_pos y]
          · right; exact ⟨s, by omega, hs, ha, by rw [e2, if_neg y]⟩
        · exact Or.inr q
abbrev labN (C : ScF) (v : Nat) : Nat := (C.S.lab v).toNat
def SR (m : Mem) (C : ScF) (H : Nat) (hx hy : Nat → Nat) : Prop := (∀ v, v < 400 → gI m 143 v = nI (labN C v)) ∧ gI m 133 33 = nI C.P ∧ ∀ h, h < H → gI m 135 (86 + 3 * h) = nI (hx h) ∧ gI m 135 (86 + 3 * h + 1) = nI (hy h) ∧ hx h < 20 ∧ hy h < 20
abbrev F150 (m m' : Mem) : Prop := Frm [(150, 999999)] [] m m'
theorem SR.fr {m m' : Mem} {C : ScF} {H : Nat} {hx hy : Nat → Nat} (h : SR m C H hx hy) (F : F150 m m') : SR m' C H hx hy := ⟨fun v hv => by rw [F.I 143 v rfl]; exact h.1 v hv, by rw [F.I 133 33 rfl]; exact h.2.1, fun t ht => by rw [F.I 135 _ rfl, F.I 135 _ rfl]; exact h.2.2 t ht⟩
abbrev tmR (C : ScF) (hx hy : Nat → Nat) (h : Nat) : Nat := labN C (20 * hy h + hx h)
/-- the ends -/
theorem se_loop {m : Mem} {C : ScF} {H k p : Nat} {hx hy : Nat → Nat} {x3 : Int32} {kx : Mem → Int32 → Option (Int32 × Mem)} (hk : k < 64) (hH : H ≤ 6) (hl : ∀ v, labN C v < 400) (hp : p < 400) (R : SR m C H hx hy) : ∀ (d h fu acc : Nat), h + d = H → d < fu →
    ∃ val, RM_stiles_L147 (nI H) x3 (nI k) (nI p) kx fu m (nI acc) (nI h) = kx m (nI val) ∧ ((val = 0 ∧ ∃ t, h ≤ t ∧ t < H ∧ k = 2 ^ t ∧ tmR C hx hy t = p) ∨ (val = acc ∧ ¬ ∃ t, h ≤ t ∧ t < H ∧ k = 2 ^ t ∧ tmR C hx hy t = p))
  | 0, h, fu, acc, hd, hf => by
    obtain ⟨f, rfl⟩ : ∃ f, fu = f + 1 := ⟨fu - 1, by omega⟩
    exact ⟨acc, by rw [RM_stiles_L147, if_pos (by rw [n_le (by omega) (by omega)]; omega)], Or.inr ⟨rfl, fun ⟨t, a, b, _⟩ => by omega⟩⟩
  | d + 1, h, fu, acc, hd, hf => by
    obtain ⟨f, rfl⟩ : ∃ f, fu = f + 1 := ⟨fu - 1, by omega⟩
    obtain ⟨r1, r2, r3, r4⟩ := R.2.2 h (by omega)
    have pw : 2 ^ h < 64 := by
      have := Nat.pow_lt_pow_right (a := 2) (by omega) (show h < 6 by omega)
      omega
    have eh : nI h + 1 = nI (h + 1) := by rw [k1, n_add]
    rw [RM_stiles_L147, if_neg (by rw [n_le (by omega) (by omega)]; omega), shl32 h (by omega), eh]
    by_cases q : k = 2 ^ h
    · rw [if_pos (by rw [q]), show (86 : Int32) = nI 86 from rfl, k3, n_mul, n_add, show nI (86 + 3 * h) + 1 = nI (86 + 3 * h + 1) by rw [k1, n_add], if_pos (n_in (by omega) (by omega)), if_pos (n_in (by omega) (by omega)), n_ixn (by omega), n_ixn (by omega), r1, r2, k20, n_mul, n_add, if_pos (n_in (by omega) (by omega)), n_ixn (by omega), R.1 _ (by omega)]
      have hl' := hl (20 * hy h + hx h)
      by_cases z : tmR C hx hy h = p
      · obtain ⟨val, e, o⟩ := se_loop (x3 := x3) (kx := kx) hk hH hl hp R d (h + 1) f 0 (by omega) (by omega)
        refine ⟨0, ?_, Or.inl ⟨rfl, h, Nat.le_refl _, by omega, q, z⟩⟩
        have : val = 0 := o.elim (fun y => y.1) (fun y => y.1)
        rw [this] at e
        rw [if_pos (by rw [n_eq (by omega) (by omega)]; exact z), show (0 : Int32) = nI 0 from k0, e]
      · obtain ⟨val, e, o⟩ := se_loop (x3 := x3) (kx := kx) hk hH hl hp R d (h + 1) f acc (by omega) (by omega)
        have : (∃ t, h + 1 ≤ t ∧ t < H ∧ k = 2 ^ t ∧ tmR C hx hy t = p) ↔ ∃ t, h ≤ t ∧ t < H ∧ k = 2 ^ t ∧ tmR C hx hy t = p := by
          refine ⟨fun ⟨t, a, b⟩ => ⟨t, by omega, b⟩, fun ⟨t, a, b, c, e'⟩ => ?_⟩
          by_cases w : t = h
          · rw [w] at e'; exact absurd e' z
          · exact ⟨t, by omega, b, c, e'⟩
        rw [this] at o
        exact ⟨val, by rw [if_neg (by rw [n_eq (by omega) (by omega)]; exact z), e], o⟩
    · obtain ⟨val, e, o⟩ := se_loop (x3 := x3) (kx := kx) hk hH hl hp R d (h + 1) f acc (by omega) (by omega)
      have : (∃ t, h + 1 ≤ t ∧ t < H ∧ k = 2 ^ t ∧ tmR C hx hy t = p) ↔ ∃ t, h ≤ t ∧ t < H ∧ k = 2 ^ t ∧ tmR C hx hy t = p := by
        refine ⟨fun ⟨t, a, b⟩ => ⟨t, by omega, b⟩, fun ⟨t, a, b, c, e⟩ => ?_⟩
        by_cases w : t = h
        · subst w; exact absurd c q
        · exact ⟨t, by omega, b, c, e⟩
      rw [this] at o
      exact ⟨val, by rw [if_neg (by rw [n_eq (by omega) (by omega)]; exact q), e], o⟩
def RowM (m : Mem) (k P : Nat) (R : Nat → Nat) : Prop := ∀ p, p < P → gI m 150 (400 * k + p) = nI (R p)
/-- the row before it is spread -/
theorem sp_row {C : ScF} {H k : Nat} {hx hy : Nat → Nat} {T : Nat → Nat → Nat} {x3 : Int32} {kx : Mem → Option (Int32 × Mem)} (hk0 : 0 < k) (hk : k < 64) (hH : H ≤ 6) (hP : C.P ≤ 400) (hl : ∀ v, labN C v < 400) (hT : ∀ k p, T k p ≤ INF) : ∀ (d p fu : Nat) (m : Mem) (R : Nat → Nat), p + d = C.P → d < fu → SR m C H hx hy → MT m T k C.P → RowM m k p R → (∀ q, q < p → R q ≤ INF ∧ (∀ s, 0 < s → s < k → s &&& k = s → R q ≤ T s q + T (k - s) q) ∧ (∀ t, t < H → k = 2 ^ t → tmR C hx hy t = q → R q = 0) ∧ (R q = INF ∨ (R q = 0 ∧ ∃ t, t < H ∧ k = 2 ^ t ∧ tmR C hx hy t = q) ∨ ∃ s, 0 < s ∧ s < k ∧ s &&& k = s ∧ R q = T s q + T (k - s) q)) →
    ∃ m' R', RM_stiles_L54 (nI H) x3 (nI k) kx fu m (nI p) = kx m' ∧ MT m' T k C.P ∧ RowM m' k C.P R' ∧ (∀ q, q < C.P → R' q ≤ INF ∧ (∀ s, 0 < s → s < k → s &&& k = s → R' q ≤ T s q + T (k - s) q) ∧ (∀ t, t < H → k = 2 ^ t → tmR C hx hy t = q → R' q = 0) ∧ (R' q = INF ∨ (R' q = 0 ∧ ∃ t, t < H ∧ k = 2 ^ t ∧ tmR C hx hy t = q) ∨ ∃ s, 0 < s ∧ s < k ∧ s &&& k = s ∧ R' q = T s q + T (k - s) q)) ∧ F150 m m'
  | 0, p, fu, m, R, hd, hf, S, M, RR, hR => by
    obtain ⟨f, rfl⟩ : ∃ f, fu = f + 1 := ⟨fu - 1, by omega⟩
    obtain rfl : p = C.P := by omega
    exact ⟨m, R, by rw [RM_stiles_L54, S.2.1, if_pos (by rw [n_le (by omega) (by omega)]; omega)], M, RR, hR, Frm.rf⟩
  | d + 1, p, fu, m, R, hd, hf, S, M, RR, hR => by
    obtain ⟨f, rfl⟩ : ∃ f, fu = f + 1 := ⟨fu - 1, by omega⟩
    have iI : INF = 100000000 := rfl
    have hs0 : (k - 1) &&& k ≤ k - 1 := Nat.and_le_left
    obtain ⟨acc, e1, a1, a2, a3⟩ := sb_loop (p := p) (x2 := nI H) (x3 := x3) (kx := fun m3 y2 => RM_stiles_L147 (nI H) x3 (nI k) (nI p) (fun m5 y4 => if inb ((400 * nI k) + nI p) 51200 then (letM (sI m5 150 (ixn ((400 * nI k) + nI p)) y4) fun m7 =>
      RM_stiles_L54 (nI H) x3 (nI k) kx f m7 (nI p + 1)) else none) FU m3 y2 0) hk hP (by omega) M hT 64 ((k - 1) &&& k) FU INF (by omega) (by unfold FU; omega) (by omega) (and_and _ _) (Nat.le_refl _)
    obtain ⟨val, e2, ev⟩ := se_loop (x3 := x3) (kx := fun m5 y4 => if inb ((400 * nI k) + nI p) 51200 then (letM (sI m5 150 (ixn ((400 * nI k) + nI p)) y4) fun m7 =>
      RM_stiles_L54 (nI H) x3 (nI k) kx f m7 (nI p + 1)) else none) hk hH hl (show p < 400 by omega) S H 0 FU acc (by omega) (by unfold FU; omega)
    rw [show nI 0 = 0 from k0.symm] at e2
    have F1 : F150 m (sI m 150 (400 * k + p) (nI val)) := Frm.sI rfl rfl
    obtain ⟨m2, R2, e3, b1, b2, b3, F2⟩ := sp_row (x3 := x3) (kx := kx) hk0 hk hH hP hl hT d (p + 1) f (sI m 150 (400 * k + p) (nI val)) (upn R p val) (by omega) (by omega) (S.fr F1) (fun k' h0 h1 q hq => by
      rw [gI_sI, if_neg (by omega)]; exact M k' h0 h1 q hq) (fun q hq => by
      rw [gI_sI]
      by_cases z : q = p
      · rw [if_pos ⟨rfl, by omega⟩, z, upn_eq]
      · rw [if_neg (by omega), upn_ne z]; exact RR q (by omega)) (fun q hq => by
      by_cases z : q = p
      · subst z
        rw [upn_eq]
        rcases ev with ⟨z, t, -, t1, t2, t3⟩ | ⟨z, y⟩
        · subst z
          exact ⟨Nat.zero_le _, fun _ _ _ _ => Nat.zero_le _, fun _ _ _ _ => rfl, Or.inr (Or.inl ⟨rfl, t, t1, t2, t3⟩)⟩
        · subst z
          refine ⟨a1, fun s h1 h2 h3 => a2 s h1 (sub_next k hk k hk (Nat.and_self k) s h2 h3) h3, fun t h1 h2 h3 => absurd ⟨t, Nat.zero_le _, h1, h2, h3⟩ y, ?_⟩
          rcases a3 with w | w
          · exact Or.inl w
          · exact Or.inr (Or.inr w)
      · rw [upn_ne z]; exact hR q (by omega))
    refine ⟨m2, R2, ?_, b1, b2, b3, F1.tr F2⟩
    rw [RM_stiles_L54, S.2.1, if_neg (by rw [n_le (by omega) (by omega)]; omega), n_andr hk hk0 hk, letV_p, kINF, e1, e2, show (400 : Int32) = nI 400 from rfl, n_mul, n_add, if_pos (n_in (by omega) (by omega)), n_ixn (by omega), letM_p, k1, n_add, e3]

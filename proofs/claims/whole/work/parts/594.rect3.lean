/-! the class's search, by size -/
def CT (m : Mem) (N v : Nat) (b : Nat → Nat) : Prop := 1 - gI m 36 1 = nI v ∧ gI m 36 2 = nI N ∧ ∀ i, i < N → gI m 37 i = nI (b (3 * i)) ∧ gI m 38 i = nI (b (3 * i + 1)) ∧ gI m 39 i = nI (b (3 * i + 2))
/-- found at a b c d -/
def Fnd (m m' : Mem) (a b c d : Nat) : Prop := gI m' 66 0 = nI a ∧ gI m' 66 1 = nI b ∧ gI m' 66 2 = nI c ∧ gI m' 66 3 = nI d ∧ Frm [(66, 999999)] [] m m'
theorem cq_w {m : Mem} {N v S x y hi : Nat} {b : Nat → Nat} {kx : Mem → Option (Int32 × Mem)} (hb : ∀ i, i < 3 * N → okP b i) (hN : N ≤ 8) (hv : v ≤ 1) (T : CT m N v b) (hS : S ≤ 40) (hx : x < 20) (hy : y < 20) (hh : hi ≤ 20 - x ∧ hi + 1 ≤ S) : ∀ (d w fu : Nat), w + d = hi + 1 → 1 ≤ w → y + S ≤ 20 + w → d < fu →
    (∃ w0 m', w ≤ w0 ∧ w0 ≤ hi ∧ Gq b N v x y (x + w0) (y + S - w0) = true ∧ (∀ w1, w ≤ w1 → w1 < w0 → Gq b N v x y (x + w1) (y + S - w1) = false) ∧ OH_findRectangle_L44 (nI S) (nI x) (nI y) (nI hi) kx fu m (nI w) = some (1, m') ∧ Fnd m m' x y (x + w0) (y + S - w0)) ∨ ((∀ w1, w ≤ w1 → w1 ≤ hi → Gq b N v x y (x + w1) (y + S - w1) = false) ∧ OH_findRectangle_L44 (nI S) (nI x) (nI y) (nI hi) kx fu m (nI w) = kx m)
  | 0, w, fu, hd, h1, h2, hf => by
    obtain ⟨f, rfl⟩ : ∃ f, fu = f + 1 := ⟨fu - 1, by omega⟩
    exact Or.inr ⟨fun w1 a c => by omega, by rw [OH_findRectangle_L44, if_pos (by rw [n_lt (by omega) (by omega)]; omega)]⟩
  | d + 1, w, fu, hd, h1, h2, hf => by
    obtain ⟨f, rfl⟩ : ∃ f, fu = f + 1 := ⟨fu - 1, by omega⟩
    have fe := fitRect_eq (x1 := x) (y1 := y) (x2 := x + w) (y2 := y + S - w) hb hN hv (by omega) (by omega) (by omega) (by omega) T.1 T.2.1 T.2.2
    let m2 := sI (sI (sI (sI m 66 0 (nI x)) 66 1 (nI y)) 66 2 (nI (x + w))) 66 3 (nI (y + S - w))
    have h2' : m2 = sI (sI (sI (sI m 66 0 (nI x)) 66 1 (nI y)) 66 2 (nI (x + w))) 66 3 (nI (y + S - w)) := rfl
    have e0 : OH_findRectangle_L44 (nI S) (nI x) (nI y) (nI hi) kx (f + 1) m (nI w) = if b2i (Gq b N v x y (x + w) (y + S - w)) = 0 then OH_findRectangle_L44 (nI S) (nI x) (nI y) (nI hi) kx f m (nI (w + 1)) else some (1, m2) := by
      rw [OH_findRectangle_L44, if_neg (by rw [n_lt (by omega) (by omega)]; omega), n_add, n_add, n_sub (by omega), fe, bI_s, show nI w + 1 = nI (w + 1) by rw [k1, n_add], if_pos (show inb 0 4 by decide), letM_p, if_pos (show inb 1 4 by decide), letM_p, if_pos (show inb 2 4 by decide), letM_p, if_pos (show inb 3 4 by decide), letM_p]
      rfl
    cases hG : Gq b N v x y (x + w) (y + S - w) with
    | true =>
      left
      refine ⟨w, m2, Nat.le_refl _, by omega, hG, fun w1 a c => by omega, by rw [e0, hG, if_neg (by decide)], ?_, ?_, ?_, ?_, (Frm.sI rfl rfl).tr ((Frm.sI rfl rfl).tr ((Frm.sI rfl rfl).tr (Frm.sI rfl rfl)))⟩
      · rw [h2', gI_sI, if_neg (by omega), gI_sI, if_neg (by omega), gI_sI, if_neg (by omega), gI_sI, if_pos ⟨rfl, rfl⟩]
      · rw [h2', gI_sI, if_neg (by omega), gI_sI, if_neg (by omega), gI_sI, if_pos ⟨rfl, rfl⟩]
      · rw [h2', gI_sI, if_neg (by omega), gI_sI, if_pos ⟨rfl, rfl⟩]
      · rw [h2', gI_sI, if_pos ⟨rfl, rfl⟩]
    | false =>
      rcases cq_w (kx := kx) hb hN hv T hS hx hy hh d (w + 1) f (by omega) (by omega) (by omega) (by omega) with ⟨w0, m', a1, a2, a3, a4, a5, a6⟩ | ⟨a1, a2⟩
      · exact Or.inl ⟨w0, m', by omega, a2, a3, fun w1 x1 x2 => by
          by_cases z : w1 = w
          · rw [z]; exact hG
          · exact a4 w1 (by omega) x2, by rw [e0, hG, if_pos (by decide), a5], a6⟩
      · exact Or.inr ⟨fun w1 x1 x2 => by
          by_cases z : w1 = w
          · rw [z]; exact hG
          · exact a1 w1 (by omega) x2, by rw [e0, hG, if_pos (by decide), a2]⟩
theorem cq_y {m : Mem} {N v S x : Nat} {b : Nat → Nat} {kx : Mem → Option (Int32 × Mem)} (hb : ∀ i, i < 3 * N → okP b i) (hN : N ≤ 8) (hv : v ≤ 1) (T : CT m N v b) (hS2 : 2 ≤ S) (hS : S ≤ 40) (hx : x < 20) : ∀ (d y fu : Nat), y + d = 20 → d < fu →
    (∃ a b' c e m', a = x ∧ y ≤ b' ∧ vR a b' c e ∧ (c - a) + (e - b') = S ∧ Gq b N v a b' c e = true ∧ (∀ b'' c' e', y ≤ b'' → vR x b'' c' e' → (c' - x) + (e' - b'') = S → lxq x b'' c' e' a b' c e → Gq b N v x b'' c' e' = false) ∧ OH_findRectangle_L10 (nI S) (nI x) kx fu m (nI y) = some (1, m') ∧ Fnd m m' a b' c e) ∨ ((∀ b'' c' e', y ≤ b'' → vR x b'' c' e' → (c' - x) + (e' - b'') = S → Gq b N v x b'' c' e' = false) ∧ OH_findRectangle_L10 (nI S) (nI x) kx fu m (nI y) = kx m)
  | 0, y, fu, hd, hf => by
    obtain ⟨f, rfl⟩ : ∃ f, fu = f + 1 := ⟨fu - 1, by omega⟩
    obtain rfl : y = 20 := by omega
    exact Or.inr ⟨fun b'' c' e' a c => by obtain ⟨c1, c2, c3, c4⟩ := c; omega, by rw [OH_findRectangle_L10, if_pos (by decide)]⟩
  | d + 1, y, fu, hd, hf => by
    obtain ⟨f, rfl⟩ : ∃ f, fu = f + 1 := ⟨fu - 1, by omega⟩
    obtain ⟨lo, elo, hlo1, hlo2, hlo3⟩ : ∃ lo, JM_max 1 (nI y + nI S - 20) = nI lo ∧ 1 ≤ lo ∧ y + S ≤ 20 + lo ∧ (lo = 1 ∨ 20 + lo = y + S) := by
      unfold JM_max
      by_cases q : 21 < y + S
      · refine ⟨y + S - 20, ?_, by omega, by omega, by omega⟩
        rw [n_add, k20, n_sub (by omega), if_pos (by rw [k1, n_lt (by omega) (by omega)]; omega)]
      · refine ⟨1, ?_, by omega, by omega, Or.inl rfl⟩
        rw [if_neg]
        · rfl
        · rw [nI_iz, nI_iz, iz_add, show (20 : Int32) = iz 20 from rfl, iz_sub, show (1 : Int32) = iz 1 from rfl, iz_lt (by omega) (by omega)]
          omega
    obtain ⟨hi, ehi⟩ : ∃ hi, hi = min (S - 1) (20 - x) := ⟨_, rfl⟩
    have emin : JM_min (nI S - 1) (20 - nI x) = nI hi := by rw [k1, n_sub (by omega), k20, n_sub (by omega), min32 (by omega) (by omega), ehi]
    have e0 : OH_findRectangle_L10 (nI S) (nI x) kx (f + 1) m (nI y) = OH_findRectangle_L44 (nI S) (nI x) (nI y) (nI hi) (fun m3 => OH_findRectangle_L10 (nI S) (nI x) kx f m3 (nI (y + 1))) FU m (nI lo) := by
      rw [OH_findRectangle_L10, if_neg (by rw [k20, n_le (by omega) (by omega)]; omega), elo, letV_p, emin, letV_p, show nI y + 1 = nI (y + 1) by rw [k1, n_add]]
    have cov : ∀ c' e', vR x y c' e' → (c' - x) + (e' - y) = S → ∃ w, lo ≤ w ∧ w ≤ hi ∧ c' = x + w ∧ e' = y + S - w := fun c' e' vv es => by
      obtain ⟨v1, v2, v3, v4⟩ := vv
      exact ⟨c' - x, by omega, by omega, by omega, by omega⟩
    have gap : lo ≤ hi + 1 ∨ hi + 1 < lo := by omega
    have hw : (∃ w0 m', lo ≤ w0 ∧ w0 ≤ hi ∧ Gq b N v x y (x + w0) (y + S - w0) = true ∧ (∀ w1, lo ≤ w1 → w1 < w0 → Gq b N v x y (x + w1) (y + S - w1) = false) ∧ OH_findRectangle_L44 (nI S) (nI x) (nI y) (nI hi) (fun m3 => OH_findRectangle_L10 (nI S) (nI x) kx f m3 (nI (y + 1))) FU m (nI lo) = some (1, m') ∧ Fnd m m' x y (x + w0) (y + S - w0)) ∨ ((∀ w1, lo ≤ w1 → w1 ≤ hi → Gq b N v x y (x + w1) (y + S - w1) = false) ∧ OH_findRectangle_L44 (nI S) (nI x) (nI y) (nI hi) (fun m3 => OH_findRectangle_L10 (nI S) (nI x) kx f m3 (nI (y + 1))) FU m (nI lo) = OH_findRectangle_L10 (nI S) (nI x) kx f m (nI (y + 1))) := by
      rcases gap with g | g
      · exact cq_w (kx := fun m3 => OH_findRectangle_L10 (nI S) (nI x) kx f m3 (nI (y + 1))) hb hN hv T hS hx (show y < 20 by omega) (show hi ≤ 20 - x ∧ hi + 1 ≤ S by omega) (hi + 1 - lo) lo FU (by omega) hlo1 hlo2 (by unfold FU; omega)
      · right
        refine ⟨fun w1 a c => by omega, ?_⟩
        obtain ⟨g', hg⟩ : ∃ g, FU = g + 1 := ⟨FU - 1, by unfold FU; omega⟩
        rw [hg, OH_findRectangle_L44, if_pos (by rw [n_lt (by omega) (by omega)]; omega)]
    rcases hw with ⟨w0, m', a1, a2, a3, a4, a5, a6⟩ | ⟨a1, a2⟩
    · left
      refine ⟨x, y, x + w0, y + S - w0, m', rfl, Nat.le_refl _, ⟨by omega, by omega, by omega, by omega⟩, by omega, a3, fun b'' c' e' g1 g2 g3 g4 => ?_, by rw [e0, a5], a6⟩
      have : b'' = y := by unfold lxq at g4; omega
      subst this
      obtain ⟨w, c1, c2, c3, c4⟩ := cov c' e' g2 g3
      rw [c3, c4]
      exact a4 w c1 (by unfold lxq at g4; omega)
    · rcases cq_y (kx := kx) hb hN hv T hS2 hS hx d (y + 1) f (by omega) (by omega) with ⟨a, b', c, e, m', r1, r2, r3, r4, r5, r6, r7, r8⟩ | ⟨r1, r2⟩
      · left
        refine ⟨a, b', c, e, m', r1, by omega, r3, r4, r5, fun b'' c' e' g1 g2 g3 g4 => ?_, by rw [e0, a2, r7], r8⟩
        by_cases z : b'' = y
        · subst z
          obtain ⟨w, c1, c2, c3, c4⟩ := cov c' e' g2 g3
          rw [c3, c4]
          exact a1 w c1 c2
        · exact r6 b'' c' e' (by omega) g2 g3 g4
      · right
        refine ⟨fun b'' c' e' g1 g2 g3 => ?_, by rw [e0, a2, r2]⟩
        by_cases z : b'' = y
        · subst z
          obtain ⟨w, c1, c2, c3, c4⟩ := cov c' e' g2 g3
          rw [c3, c4]
          exact a1 w c1 c2
        · exact r1 b'' c' e' (by omega) g2 g3
theorem cq_x {m : Mem} {N v S : Nat} {b : Nat → Nat} (hb : ∀ i, i < 3 * N → okP b i) (hN : N ≤ 8) (hv : v ≤ 1) (T : CT m N v b) (hS2 : 2 ≤ S) (hS : S ≤ 40) : ∀ (d x fu : Nat), x + d = 20 → d < fu →
    (∃ a b' c e m', x ≤ a ∧ vR a b' c e ∧ (c - a) + (e - b') = S ∧ Gq b N v a b' c e = true ∧ (∀ a' b'' c' e', x ≤ a' → vR a' b'' c' e' → (c' - a') + (e' - b'') = S → lxq a' b'' c' e' a b' c e → Gq b N v a' b'' c' e' = false) ∧ OH_findRectangle_L2 (nI S) (fun m1 => some (0, m1)) fu m (nI x) = some (1, m') ∧ Fnd m m' a b' c e) ∨ ((∀ a' b'' c' e', x ≤ a' → vR a' b'' c' e' → (c' - a') + (e' - b'') = S → Gq b N v a' b'' c' e' = false) ∧ OH_findRectangle_L2 (nI S) (fun m1 => some (0, m1)) fu m (nI x) = some (0, m))
  | 0, x, fu, hd, hf => by
    obtain ⟨f, rfl⟩ : ∃ f, fu = f + 1 := ⟨fu - 1, by omega⟩
    obtain rfl : x = 20 := by omega
    exact Or.inr ⟨fun a' b'' c' e' a c => by obtain ⟨c1, c2, c3, c4⟩ := c; omega, by rw [OH_findRectangle_L2, if_pos (by decide)]⟩
  | d + 1, x, fu, hd, hf => by
    obtain ⟨f, rfl⟩ : ∃ f, fu = f + 1 := ⟨fu - 1, by omega⟩
    have e0 : OH_findRectangle_L2 (nI S) (fun m1 => some (0, m1)) (f + 1) m (nI x) = OH_findRectangle_L10 (nI S) (nI x) (fun m1 => OH_findRectangle_L2 (nI S) (fun m1 => some (0, m1)) f m1 (nI (x + 1))) FU m 0 := by
      rw [OH_findRectangle_L2, if_neg (by rw [k20, n_le (by omega) (by omega)]; omega), show nI x + 1 = nI (x + 1) by rw [k1, n_add]]
    rcases cq_y (kx := fun m1 => OH_findRectangle_L2 (nI S) (fun m1 => some (0, m1)) f m1 (nI (x + 1))) hb hN hv T hS2 hS (show x < 20 by omega) 20 0 FU (by omega) (by unfold FU; omega) with ⟨a, b', c, e, m', r1, r2, r3, r4, r5, r6, r7, r8⟩ | ⟨r1, r2⟩
    · left
      refine ⟨a, b', c, e, m', by omega, r3, r4, r5, fun a' b'' c' e' g1 g2 g3 g4 => ?_, by rw [e0]; exact r7, r8⟩
      have : a' = x := by unfold lxq at g4; omega
      subst this
      exact r6 b'' c' e' (by omega) g2 g3 g4
    · rcases cq_x hb hN hv T hS2 hS d (x + 1) f (by omega) (by omega) with ⟨a, b', c, e, m', s1, s3, s4, s5, s6, s7, s8⟩ | ⟨s1, s2⟩
      · left
        refine ⟨a, b', c, e, m', by omega, s3, s4, s5, fun a' b'' c' e' g1 g2 g3 g4 => ?_, by rw [e0]; rw [show nI 0 = 0 from k0.symm] at r2; rw [r2]; exact s7, s8⟩
        by_cases z : a' = x
        · subst z; exact r1 b'' c' e' (by omega) g2 g3
        · exact s6 a' b'' c' e' (by omega) g2 g3 g4
      · right
        refine ⟨fun a' b'' c' e' g1 g2 g3 => ?_, by rw [e0]; rw [show nI 0 = 0 from k0.symm] at r2; rw [r2]; exact s2⟩
        by_cases z : a' = x
        · subst z; exact r1 b'' c' e' (by omega) g2 g3
        · exact s1 a' b'' c' e' (by omega) g2 g3
theorem cq_s {m : Mem} {N v : Nat} {b : Nat → Nat} (hb : ∀ i, i < 3 * N → okP b i) (hN : N ≤ 8) (hv : v ≤ 1) (T : CT m N v b) : ∀ (d S fu : Nat), S + d = 41 → 2 ≤ S → d < fu → (∀ a' b'' c' e', vR a' b'' c' e' → (c' - a') + (e' - b'') < S → Gq b N v a' b'' c' e' = false) →
    (∃ a b' c e m', OH_rectangle_L43 (fun m7 => some ((-1), m7)) fu m (nI S) = some (nI ((c - a) + (e - b')), m') ∧ Fnd m m' a b' c e ∧ Bst (Gq b N v) a b' c e 20 0 0 0) ∨ (Non (Gq b N v) 20 0 0 0 ∧ OH_rectangle_L43 (fun m7 => some ((-1), m7)) fu m (nI S) = some (-1, m))
  | 0, S, fu, hd, h2, hf, hs => by
    obtain ⟨f, rfl⟩ : ∃ f, fu = f + 1 := ⟨fu - 1, by omega⟩
    obtain rfl : S = 41 := by omega
    exact Or.inr ⟨fun a' b' c' d' vv _ => by obtain ⟨v1, v2, v3, v4⟩ := id vv; exact hs _ _ _ _ vv (by omega), by rw [OH_rectangle_L43, if_pos (by decide)]⟩
  | d + 1, S, fu, hd, h2, hf, hs => by
    obtain ⟨f, rfl⟩ : ∃ f, fu = f + 1 := ⟨fu - 1, by omega⟩
    have e0 : OH_rectangle_L43 (fun m7 => some ((-1), m7)) (f + 1) m (nI S) = bV (OH_findRectangle m (nI S)) fun v1 m2 => if v1 = 0 then (OH_rectangle_L43 (fun m7 => some ((-1), m7)) f m2 (nI (S + 1))) else (some (nI S, m2)) := by
      rw [OH_rectangle_L43, if_neg (by rw [show (40 : Int32) = nI 40 from rfl, n_lt (by omega) (by omega)]; omega), show nI S + 1 = nI (S + 1) by rw [k1, n_add]]
    rcases cq_x hb hN hv T h2 (show S ≤ 40 by omega) 20 0 FU (by omega) (by unfold FU; omega) with ⟨a, b', c, e, m', r1, r3, r4, r5, r6, r7, r8⟩ | ⟨r1, r2⟩
    · left
      have eF : OH_findRectangle m (nI S) = some (1, m') := r7
      refine ⟨a, b', c, e, m', by rw [e0, eF, bV_s, if_neg (by decide), r4], r8, r3, r5, ?_, fun a' b'' c' d' vv g l => ?_⟩
      · obtain ⟨v1, v2, v3, v4⟩ := r3
        unfold lxq; omega
      · by_cases z : (c' - a') + (d' - b'') < S
        · rw [hs _ _ _ _ vv z] at g; simp at g
        · by_cases y : (c' - a') + (d' - b'') = S
          · right
            refine ⟨by omega, fun lt => ?_⟩
            rw [r6 a' b'' c' d' (by omega) vv y lt] at g; simp at g
          · left; omega
    · have eF : OH_findRectangle m (nI S) = some (0, m) := r2
      have hs' : ∀ a' b'' c' e', vR a' b'' c' e' → (c' - a') + (e' - b'') < S + 1 → Gq b N v a' b'' c' e' = false := fun a' b'' c' e' vv l => by
        by_cases z : (c' - a') + (e' - b'') = S
        · exact r1 a' b'' c' e' (by omega) vv z
        · exact hs _ _ _ _ vv (by omega)
      rcases cq_s hb hN hv T d (S + 1) f (by omega) (by omega) (by omega) hs' with ⟨a, b', c, e, m', t1, t2, t3⟩ | ⟨t1, t2⟩
      · exact Or.inl ⟨a, b', c, e, m', by rw [e0, eF, bV_s, if_pos rfl, t1], t2, t3⟩
      · exact Or.inr ⟨t1, by rw [e0, eF, bV_s, if_pos rfl, t2]⟩
theorem Bst.uq {G : Nat → Nat → Nat → Nat → Bool} {a b c d a' b' c' d' x y z w : Nat} (h : Bst G a b c d x y z w) (g : Bst G a' b' c' d' x y z w) : a = a' ∧ b = b' ∧ c = c' ∧ d = d' := by
  obtain ⟨h1, h2, h3, h4⟩ := h
  obtain ⟨g1, g2, g3, g4⟩ := g
  have p := h4 _ _ _ _ g1 g2 g3
  have q := g4 _ _ _ _ h1 h2 h3
  have e : (c - a) + (d - b) = (c' - a') + (d' - b') := by rcases p with p | p <;> rcases q with q | q <;> omega
  have p' : ¬ lxq a' b' c' d' a b c d := by rcases p with p | p; omega; exact p.2
  have q' : ¬ lxq a b c d a' b' c' d' := by rcases q with q | q; omega; exact q.2
  unfold lxq at p' q'
  omega

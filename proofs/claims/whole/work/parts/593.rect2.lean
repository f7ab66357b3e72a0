/-! the search for a rectangle -/
def lxq (a b c d x y z w : Nat) : Prop := a < x ∨ (a = x ∧ (b < y ∨ (b = y ∧ (c < z ∨ (c = z ∧ d < w)))))
abbrev vR (a b c d : Nat) : Prop := a < c ∧ c ≤ 20 ∧ b < d ∧ d ≤ 20
/-- the best of those before the place: least first, then first -/
def Bst (G : Nat → Nat → Nat → Nat → Bool) (a b c d x y z w : Nat) : Prop := vR a b c d ∧ G a b c d = true ∧ lxq a b c d x y z w ∧ ∀ a' b' c' d', vR a' b' c' d' → G a' b' c' d' = true → lxq a' b' c' d' x y z w → (c - a) + (d - b) < (c' - a') + (d' - b') ∨ ((c - a) + (d - b) = (c' - a') + (d' - b') ∧ ¬ lxq a' b' c' d' a b c d)
def Non (G : Nat → Nat → Nat → Nat → Bool) (x y z w : Nat) : Prop := ∀ a' b' c' d', vR a' b' c' d' → lxq a' b' c' d' x y z w → G a' b' c' d' = false
/-- what the reference has found so far -/
def RS (G : Nat → Nat → Nat → Nat → Bool) (m0 m : Mem) (best : Int32) (x y z w : Nat) : Prop := (best = -1 ∧ Non G x y z w ∧ (∀ j, gI m 154 j = gI m0 154 j) ∧ gI m 133 49 = gI m0 133 49) ∨ ∃ a b c d, best = nI ((c - a) + (d - b)) ∧ gI m 133 49 = 1 ∧ gI m 154 0 = nI a ∧ gI m 154 1 = nI b ∧ gI m 154 2 = nI c ∧ gI m 154 3 = nI d ∧ Bst G a b c d x y z w
theorem RS.mv {G : Nat → Nat → Nat → Nat → Bool} {m0 m : Mem} {best : Int32} {x y z w x' y' z' w' : Nat} (h : RS G m0 m best x y z w) (e : ∀ a b c d, vR a b c d → (lxq a b c d x y z w ↔ lxq a b c d x' y' z' w')) : RS G m0 m best x' y' z' w' := by
  rcases h with ⟨h1, h2, h3⟩ | ⟨a, b, c, d, h1, h2, h3, h4, h5, h6, g1, g2, g3, g4⟩
  · exact Or.inl ⟨h1, fun a' b' c' d' v l => h2 a' b' c' d' v ((e _ _ _ _ v).mpr l), h3⟩
  · exact Or.inr ⟨a, b, c, d, h1, h2, h3, h4, h5, h6, g1, g2, (e _ _ _ _ g1).mp g3, fun a' b' c' d' v g l => g4 a' b' c' d' v g ((e _ _ _ _ v).mpr l)⟩
/-- RM's cells for the told points -/
def RT (m : Mem) (N v : Nat) (b : Nat → Nat) : Prop := ((v = 0 ∧ gI m 135 5 = 1) ∨ (v = 1 ∧ gI m 135 5 = 0)) ∧ gI m 133 22 = 4 ∧ gI m 133 43 = nI N ∧ ∀ t, t < 3 * N → gI m 152 t = nI (b t)
abbrev LrT : List (Nat × Nat) := [(133, 23), (133, 24), (133, 49), (139, 999999), (140, 999999), (154, 999999)]
theorem RT.fr {m m' : Mem} {N v : Nat} {b : Nat → Nat} (h : RT m N v b) (F : Frm LrT [] m m') : RT m' N v b := ⟨by rw [F.I 135 5 rfl]; exact h.1, by rw [F.I 133 22 rfl]; exact h.2.1, by rw [F.I 133 43 rfl]; exact h.2.2.1, fun t ht => by rw [F.I 152 t rfl]; exact h.2.2.2 t ht⟩
abbrev Gq (b : Nat → Nat) (N v : Nat) : Nat → Nat → Nat → Nat → Bool := fun x y z w => soB b (inR v x y z w) N 0
theorem rq_step {m0 m : Mem} {N v x y z w f : Nat} {b : Nat → Nat} {best : Int32} {kx : Mem → Int32 → Option (Int32 × Mem)} (hb : ∀ i, i < 3 * N → okP b i) (hN : N ≤ 8) (T : RT m N v b) (hv : vR x y z w) (S : RS (Gq b N v) m0 m best x y z w) :
    ∃ m' best', RM_rectangle_L55 (nI x) (nI y) (nI z) kx (f + 1) m best (nI w) = RM_rectangle_L55 (nI x) (nI y) (nI z) kx f m' best' (nI (w + 1)) ∧ RS (Gq b N v) m0 m' best' x y z (w + 1) ∧ Frm LrT [] m m' := by
  obtain ⟨v1, v2, v3, v4⟩ := hv
  have ew : nI w + 1 = nI (w + 1) := by rw [k1, n_add]
  have es : (nI z - nI x + nI w) - nI y = nI ((z - x) + (w - y)) := by rw [n_sub (by omega), n_add, n_sub (by omega)]; congr 1; omega
  have lx1 : ∀ a b c d, lxq a b c d x y z (w + 1) ↔ lxq a b c d x y z w ∨ (a = x ∧ b = y ∧ c = z ∧ d = w) := fun a b c d => by unfold lxq; omega
  obtain ⟨m1, e1, F1⟩ := isBy_eq hb hN T.1 v1 v2 v3 v4 T.2.1 T.2.2.1 T.2.2.2
  have F1' : Frm LrT [] m m1 := F1.mo (wL_sub rfl)
  have k49 : ∀ j, gI m1 154 j = gI m 154 j := fun j => F1.I 154 j rfl
  have k49' : gI m1 133 49 = gI m 133 49 := F1.I 133 49 rfl
  let m2 := sI (sI (sI (sI (sI m1 154 0 (nI x)) 154 1 (nI y)) 154 2 (nI z)) 154 3 (nI w)) 133 49 1
  have h2 : m2 = sI (sI (sI (sI (sI m1 154 0 (nI x)) 154 1 (nI y)) 154 2 (nI z)) 154 3 (nI w)) 133 49 1 := rfl
  have F2 : Frm LrT [] m m2 := F1'.tr ((Frm.sI rfl rfl).tr ((Frm.sI rfl rfl).tr ((Frm.sI rfl rfl).tr ((Frm.sI rfl rfl).tr (Frm.sI rfl rfl)))))
  have J : RM_rectangle_J83 (RM_rectangle_L55 (nI x) (nI y) (nI z) kx f) kx m best (nI x) (nI y) (nI z) (nI w) (nI ((z - x) + (w - y))) = if Gq b N v x y z w = true then RM_rectangle_L55 (nI x) (nI y) (nI z) kx f m2 (nI ((z - x) + (w - y))) (nI (w + 1)) else RM_rectangle_L55 (nI x) (nI y) (nI z) kx f m1 best (nI (w + 1)) := by
    rw [RM_rectangle_J83, e1, bV_s, ew]
    show (if b2i (Gq b N v x y z w) = 0 then _ else _) = _
    cases Gq b N v x y z w with
    | false => rw [if_pos (by decide), if_neg (by decide)]
    | true => rw [if_neg (by decide), if_pos (by decide), letM_p, if_pos (by decide), letM_p, if_pos (by decide), letM_p, if_pos (by decide), letM_p, letM_p, if_pos rfl]; rfl
  have rcd : ∀ hG : Gq b N v x y z w = true, (∀ a' b' c' d', vR a' b' c' d' → Gq b N v a' b' c' d' = true → lxq a' b' c' d' x y z w → (z - x) + (w - y) < (c' - a') + (d' - b')) → RS (Gq b N v) m0 m2 (nI ((z - x) + (w - y))) x y z (w + 1) := by
    intro hG hm
    refine Or.inr ⟨x, y, z, w, rfl, by rw [h2, gI_sI, if_pos ⟨rfl, rfl⟩], by rw [h2, gI_sI, if_neg (by omega), gI_sI, if_neg (by omega), gI_sI, if_neg (by omega), gI_sI, if_neg (by omega), gI_sI, if_pos ⟨rfl, rfl⟩], by rw [h2, gI_sI, if_neg (by omega), gI_sI, if_neg (by omega), gI_sI, if_neg (by omega), gI_sI, if_pos ⟨rfl, rfl⟩], by rw [h2, gI_sI, if_neg (by omega), gI_sI, if_neg (by omega), gI_sI, if_pos ⟨rfl, rfl⟩], by rw [h2, gI_sI, if_neg (by omega), gI_sI, if_pos ⟨rfl, rfl⟩], ⟨v1, v2, v3, v4⟩, hG, (lx1 _ _ _ _).mpr (Or.inr ⟨rfl, rfl, rfl, rfl⟩), fun a' b' c' d' vv g l => ?_⟩
    rcases (lx1 _ _ _ _).mp l with l | ⟨rfl, rfl, rfl, rfl⟩
    · exact Or.inl (hm _ _ _ _ vv g l)
    · exact Or.inr ⟨rfl, fun z => by unfold lxq at z; omega⟩
  rcases S with ⟨h1, hn, hk, hk'⟩ | ⟨a, b', c, d, h1, g49, g0, g1', g2', g3', p1, p2, p3, p4⟩
  · have e0 : RM_rectangle_L55 (nI x) (nI y) (nI z) kx (f + 1) m best (nI w) = RM_rectangle_J83 (RM_rectangle_L55 (nI x) (nI y) (nI z) kx f) kx m best (nI x) (nI y) (nI z) (nI w) (nI ((z - x) + (w - y))) := by
      rw [RM_rectangle_L55, if_neg (by rw [k20, n_lt (by omega) (by omega)]; omega), es, letV_p, h1, if_pos (by decide)]
    cases hG : Gq b N v x y z w with
    | true =>
      refine ⟨m2, _, by rw [e0, J, hG, if_pos rfl], rcd hG (fun a' b' c' d' vv g l => ?_), F2⟩
      rw [hn _ _ _ _ vv l] at g; simp at g
    | false =>
      refine ⟨m1, best, by rw [e0, J, hG, if_neg (by decide)], Or.inl ⟨h1, fun a' b' c' d' vv l => ?_, fun j => by rw [k49 j, hk j], by rw [k49', hk']⟩, F1'⟩
      rcases (lx1 _ _ _ _).mp l with l | ⟨rfl, rfl, rfl, rfl⟩
      · exact hn _ _ _ _ vv l
      · exact hG
  · obtain ⟨q1, q2, q3, q4⟩ := p1
    have kept : ∀ m', (∀ j, gI m' 154 j = gI m 154 j) → gI m' 133 49 = gI m 133 49 → (Gq b N v x y z w = true → (c - a) + (d - b') ≤ (z - x) + (w - y)) → RS (Gq b N v) m0 m' best x y z (w + 1) := by
      intro m' r1 r2 r3
      refine Or.inr ⟨a, b', c, d, h1, by rw [r2]; exact g49, by rw [r1]; exact g0, by rw [r1]; exact g1', by rw [r1]; exact g2', by rw [r1]; exact g3', ⟨q1, q2, q3, q4⟩, p2, (lx1 _ _ _ _).mpr (Or.inl p3), fun a' b'' c' d' vv g l => ?_⟩
      rcases (lx1 _ _ _ _).mp l with l | ⟨rfl, rfl, rfl, rfl⟩
      · exact p4 _ _ _ _ vv g l
      · have := r3 g
        by_cases t : (c - a) + (d - b') < (c' - a') + (d' - b'')
        · exact Or.inl t
        · exact Or.inr ⟨by omega, fun z => by unfold lxq at z p3; omega⟩
    have c1 : ¬ nI ((c - a) + (d - b')) < 0 := by rw [k0, n_lt (by omega) (by omega)]; omega
    have c2 : (nI ((c - a) + (d - b')) ≤ nI ((z - x) + (w - y))) ↔ (c - a) + (d - b') ≤ (z - x) + (w - y) := n_le (by omega) (by omega)
    by_cases t : (c - a) + (d - b') ≤ (z - x) + (w - y)
    · refine ⟨m, best, ?_, kept m (fun _ => rfl) rfl (fun _ => t), Frm.rf⟩
      rw [RM_rectangle_L55, if_neg (by rw [k20, n_lt (by omega) (by omega)]; omega), es, letV_p, h1, if_neg c1, if_pos (c2.mpr t), ew]
    · have e0 : RM_rectangle_L55 (nI x) (nI y) (nI z) kx (f + 1) m best (nI w) = RM_rectangle_J83 (RM_rectangle_L55 (nI x) (nI y) (nI z) kx f) kx m best (nI x) (nI y) (nI z) (nI w) (nI ((z - x) + (w - y))) := by
        rw [RM_rectangle_L55, if_neg (by rw [k20, n_lt (by omega) (by omega)]; omega), es, letV_p, h1, if_neg c1, if_neg (fun y => t (c2.mp y))]
      cases hG : Gq b N v x y z w with
      | true =>
        refine ⟨m2, _, by rw [e0, J, hG, if_pos rfl], rcd hG (fun a' b'' c' d' vv g l => ?_), F2⟩
        rcases p4 _ _ _ _ vv g l with u | ⟨u, _⟩ <;> omega
      | false => exact ⟨m1, best, by rw [e0, J, hG, if_neg (by decide)], kept m1 k49 k49' (fun y => by rw [hG] at y; simp at y), F1'⟩
theorem rq_w {m0 : Mem} {N v x y z : Nat} {b : Nat → Nat} {kx : Mem → Int32 → Option (Int32 × Mem)} (hb : ∀ i, i < 3 * N → okP b i) (hN : N ≤ 8) (h1 : x < z) (h2 : z ≤ 20) : ∀ (d w fu : Nat) (m : Mem) (best : Int32), w + d = 21 → y < w → d < fu → RT m N v b → RS (Gq b N v) m0 m best x y z w →
    ∃ m' best', RM_rectangle_L55 (nI x) (nI y) (nI z) kx fu m best (nI w) = kx m' best' ∧ RS (Gq b N v) m0 m' best' x y z 21 ∧ Frm LrT [] m m'
  | 0, w, fu, m, best, hd, hw, hf, T, S => by
    obtain ⟨f, rfl⟩ : ∃ f, fu = f + 1 := ⟨fu - 1, by omega⟩
    obtain rfl : w = 21 := by omega
    exact ⟨m, best, by rw [RM_rectangle_L55, if_pos (by decide)], S, Frm.rf⟩
  | d + 1, w, fu, m, best, hd, hw, hf, T, S => by
    obtain ⟨f, rfl⟩ : ∃ f, fu = f + 1 := ⟨fu - 1, by omega⟩
    obtain ⟨m1, b1, e1, S1, F1⟩ := rq_step (f := f) (kx := kx) hb hN T ⟨h1, h2, hw, by omega⟩ S
    obtain ⟨m2, b2, e2, S2, F2⟩ := rq_w (x := x) (y := y) (z := z) (v := v) (kx := kx) hb hN h1 h2 d (w + 1) f m1 b1 (by omega) (by omega) (by omega) (T.fr F1) S1
    exact ⟨m2, b2, by rw [e1, e2], S2, F1.tr F2⟩
theorem rq_z {m0 : Mem} {N v x y : Nat} {b : Nat → Nat} {kx : Mem → Int32 → Option (Int32 × Mem)} (hb : ∀ i, i < 3 * N → okP b i) (hN : N ≤ 8) (hy : y < 20) : ∀ (d z fu : Nat) (m : Mem) (best : Int32), z + d = 21 → x < z → d < fu → RT m N v b → RS (Gq b N v) m0 m best x y z (y + 1) →
    ∃ m' best', RM_rectangle_L43 (nI x) (nI y) kx fu m best (nI z) = kx m' best' ∧ RS (Gq b N v) m0 m' best' x y 21 (y + 1) ∧ Frm LrT [] m m'
  | 0, z, fu, m, best, hd, hz, hf, T, S => by
    obtain ⟨f, rfl⟩ : ∃ f, fu = f + 1 := ⟨fu - 1, by omega⟩
    obtain rfl : z = 21 := by omega
    exact ⟨m, best, by rw [RM_rectangle_L43, if_pos (by decide)], S, Frm.rf⟩
  | d + 1, z, fu, m, best, hd, hz, hf, T, S => by
    obtain ⟨f, rfl⟩ : ∃ f, fu = f + 1 := ⟨fu - 1, by omega⟩
    obtain ⟨m1, b1, e1, S1, F1⟩ := rq_w (kx := fun m3 y2 => RM_rectangle_L43 (nI x) (nI y) kx f m3 y2 (nI z + 1)) hb hN hz (show z ≤ 20 by omega) (20 - y) (y + 1) FU m best (by omega) (by omega) (by unfold FU; omega) T S
    obtain ⟨m2, b2, e2, S2, F2⟩ := rq_z (x := x) (y := y) (v := v) (kx := kx) hb hN hy d (z + 1) f m1 b1 (by omega) (by omega) (by omega) (T.fr F1) (S1.mv (fun a b' c e vv => by unfold lxq; omega))
    refine ⟨m2, b2, ?_, S2, F1.tr F2⟩
    rw [RM_rectangle_L43, if_neg (by rw [k20, n_lt (by omega) (by omega)]; omega), show nI y + 1 = nI (y + 1) by rw [k1, n_add], letV_p, e1, show nI z + 1 = nI (z + 1) by rw [k1, n_add], e2]
theorem rq_y {m0 : Mem} {N v x : Nat} {b : Nat → Nat} {kx : Mem → Int32 → Option (Int32 × Mem)} (hb : ∀ i, i < 3 * N → okP b i) (hN : N ≤ 8) (hx : x < 20) : ∀ (d y fu : Nat) (m : Mem) (best : Int32), y + d = 20 → d < fu → RT m N v b → RS (Gq b N v) m0 m best x y 0 0 →
    ∃ m' best', RM_rectangle_L32 (nI x) kx fu m best (nI y) = kx m' best' ∧ RS (Gq b N v) m0 m' best' x 20 0 0 ∧ Frm LrT [] m m'
  | 0, y, fu, m, best, hd, hf, T, S => by
    obtain ⟨f, rfl⟩ : ∃ f, fu = f + 1 := ⟨fu - 1, by omega⟩
    obtain rfl : y = 20 := by omega
    exact ⟨m, best, by rw [RM_rectangle_L32, if_pos (by decide)], S, Frm.rf⟩
  | d + 1, y, fu, m, best, hd, hf, T, S => by
    obtain ⟨f, rfl⟩ : ∃ f, fu = f + 1 := ⟨fu - 1, by omega⟩
    obtain ⟨m1, b1, e1, S1, F1⟩ := rq_z (x := x) (kx := fun m3 y2 => RM_rectangle_L32 (nI x) kx f m3 y2 (nI y + 1)) hb hN (show y < 20 by omega) (20 - x) (x + 1) FU m best (by omega) (by omega) (by unfold FU; omega) T (S.mv (fun a b' c e vv => by unfold lxq; omega))
    obtain ⟨m2, b2, e2, S2, F2⟩ := rq_y (x := x) (v := v) (kx := kx) hb hN hx d (y + 1) f m1 b1 (by omega) (by omega) (T.fr F1) (S1.mv (fun a b' c e vv => by unfold lxq; omega))
    refine ⟨m2, b2, ?_, S2, F1.tr F2⟩
    rw [RM_rectangle_L32, if_neg (by rw [k20, n_le (by omega) (by omega)]; omega), show nI x + 1 = nI (x + 1) by rw [k1, n_add], letV_p, e1, show nI y + 1 = nI (y + 1) by rw [k1, n_add], e2]
theorem rq_x {m0 : Mem} {N v : Nat} {b : Nat → Nat} {kx : Mem → Int32 → Option (Int32 × Mem)} (hb : ∀ i, i < 3 * N → okP b i) (hN : N ≤ 8) : ∀ (d x fu : Nat) (m : Mem) (best : Int32), x + d = 20 → d < fu → RT m N v b → RS (Gq b N v) m0 m best x 0 0 0 →
    ∃ m' best', RM_rectangle_L24 kx fu m best (nI x) = kx m' best' ∧ RS (Gq b N v) m0 m' best' 20 0 0 0 ∧ Frm LrT [] m m'
  | 0, x, fu, m, best, hd, hf, T, S => by
    obtain ⟨f, rfl⟩ : ∃ f, fu = f + 1 := ⟨fu - 1, by omega⟩
    obtain rfl : x = 20 := by omega
    exact ⟨m, best, by rw [RM_rectangle_L24, if_pos (by decide)], S, Frm.rf⟩
  | d + 1, x, fu, m, best, hd, hf, T, S => by
    obtain ⟨f, rfl⟩ : ∃ f, fu = f + 1 := ⟨fu - 1, by omega⟩
    obtain ⟨m1, b1, e1, S1, F1⟩ := rq_y (kx := fun m2 y1 => RM_rectangle_L24 kx f m2 y1 (nI x + 1)) hb hN (show x < 20 by omega) 20 0 FU m best (by omega) (by unfold FU; omega) T S
    obtain ⟨m2, b2, e2, S2, F2⟩ := rq_x (v := v) (kx := kx) hb hN d (x + 1) f m1 b1 (by omega) (by omega) (T.fr F1) (S1.mv (fun a b' c e vv => by unfold lxq; omega))
    refine ⟨m2, b2, ?_, S2, F1.tr F2⟩
    rw [show nI 0 = 0 from k0.symm] at e1
    rw [RM_rectangle_L24, if_neg (by rw [k20, n_le (by omega) (by omega)]; omega), e1, show nI x + 1 = nI (x + 1) by rw [k1, n_add], e2]

/-! least -/
def SI (X : Nat → Nat → Nat) (s i r : Nat) (D q : Nat → Nat) (L : Nat) : Prop := JD 400 X s D ∧ (∀ u d v, u < 400 → d < 4 → nb u d = some v → inQ q L u ∨ D v ≤ D u + wt 400 X u d) ∧ LW 400 X s i D ∧ (∀ n c u d v, n ≤ i → u < 400 → d < 4 → Wq X s n u c → nb u d = some v → inQ q r u ∨ D v ≤ 400 * c + n + wt 400 X u d) ∧ r ≤ L ∧ (399 ≤ i → L = r)
theorem SI.next {X : Nat → Nat → Nat} {s i : Nat} {D q : Nat → Nat} {L : Nat} (h : SI X s i 0 D q L) (hL : 0 < L) : i < 399 ∧ SI X s (i + 1) L D q L := by
  obtain ⟨h1, h2, h3, h4, h5, h6⟩ := h
  have hi : i < 399 := by
    by_cases z : 399 ≤ i
    · have := h6 z; omega
    · omega
  have W : LW 400 X s (i + 1) D := by
    intro n c v hn hv w
    cases n with
    | zero => exact h3 0 c v (by omega) hv w
    | succ n =>
      obtain ⟨u, d, c', w', hd, hu, hb, e⟩ := w
      rcases h4 n c' u d v (by omega) hu hd w' hb with ⟨j, a, _⟩ | z
      · omega
      · rw [e, Nat.mul_add]
        unfold wt at z
        omega
  refine ⟨hi, h1, h2, W, fun n c u d v hn hu hd w hb => ?_, Nat.le_refl _, fun _ => rfl⟩
  rcases h2 u d v hu hd hb with z | z
  · exact Or.inl z
  · have := W n c u hn hu w
    exact Or.inr (by omega)
theorem SI.pop {X : Nat → Nat → Nat} {s i r : Nat} {D q q' : Nat → Nat} {L L' : Nat} (h : SI X s i r D q L) (hr : 1 ≤ r) (h0 : q 0 < 400) (hL : L - 1 ≤ L') (hq : ∀ j, j < L - 1 → q' j = q (j + 1)) (hc : ∀ v, rl4 400 X (q 0) D v ≠ D v → inQ q' L' v) (hn : ch4 400 X (q 0) D = false → L' = L - 1) : SI X s i (r - 1) (rl4 400 X (q 0) D) q' L' := by
  obtain ⟨h1, h2, h3, h4, h5, h6⟩ := h
  have l4 := rl4_le 400 X (q 0) D
  have u4 : rl4 400 X (q 0) D (q 0) = D (q 0) := by unfold rl4; rw [rlx_u, rlx_u, rlx_u, rlx_u]
  refine ⟨h1.r4 h0, fun u d v hu hd hb => ?_, fun n c v a b w => Nat.le_trans (l4 v) (h3 n c v a b w), fun n c u d v a hu hd w hb => ?_, by omega, fun z => ?_⟩
  · by_cases z : u = q 0
    · subst z
      right
      rw [u4]
      exact rl4_v hd hb
    · by_cases y : rl4 400 X (q 0) D u = D u
      · rcases h2 u d v hu hd hb with ⟨j, a, b⟩ | x
        · left
          have j0 : j ≠ 0 := fun e => z (by rw [← b, e])
          exact ⟨j - 1, by omega, by rw [hq _ (by omega), show j - 1 + 1 = j by omega, b]⟩
        · right
          rw [y]
          exact Nat.le_trans (l4 v) x
      · exact Or.inl (hc u y)
  · rcases h4 n c u d v a hu hd w hb with ⟨j, x, y⟩ | x
    · by_cases z : j = 0
      · subst z
        subst y
        right
        have b := h3 n c _ a h0 w
        have e := rl4_v (C := 400) (X := X) (D := D) hd hb
        omega
      · left
        exact ⟨j - 1, by omega, by rw [hq _ (by omega), show j - 1 + 1 = j by omega, y]⟩
    · exact Or.inr (Nat.le_trans (l4 v) x)
  · have c := cha_yes h1 (h3.all z) 1 (q 0) (by omega)
    have c' : (ch4 400 X (q 0) D || false) = false := c
    rw [Bool.or_false] at c'
    have := hn c'
    have := h6 z
    omega
theorem sp_pop {m : Mem} {D q : Nat → Nat} {n L h k f : Nat} {U V : Nat → Int} {x3 : Int32} {kx : Mem → Option (Int32 × Mem)} (R : QM m D q L h) (hD : ∀ v, D v ≤ INF) (hn : n ≤ 12) (G : GX m n U V) (hL : 0 < L) (hk : k < 1000000) :
    ∃ m' q' L' h', WK_cheapest_L36 5 x3 kx (f + 1) m (nI k) = WK_cheapest_L36 5 x3 kx f m' (nI (k + 1)) ∧ QM m' (rl4 400 (stX U V n) (q 0) D) q' L' h' ∧ L - 1 ≤ L' ∧ (∀ j, j < L - 1 → q' j = q (j + 1)) ∧ (∀ v, rl4 400 (stX U V n) (q 0) D v ≠ D v → inQ q' L' v) ∧ (ch4 400 (stX U V n) (q 0) D = false → L' = L - 1) ∧ GX m' n U V := by
  have hle := R.le
  obtain ⟨r1, r2, r3, r4, r5, r6, r7, r8⟩ := id R
  have hu := r7 0 hL
  have e29 : gI m 29 h = nI (q 0) := by
    have := r6 0 hL
    rw [Nat.add_zero, Nat.mod_eq_of_lt r4] at this
    exact this
  obtain ⟨h', eh⟩ : ∃ h', h' = (h + 1) % 400 := ⟨_, rfl⟩
  let m2 := sI (sI (sI m 26 7 (nI h')) 26 8 (nI (L - 1))) 30 (q 0) 0
  have h2 : m2 = sI (sI (sI m 26 7 (nI h')) 26 8 (nI (L - 1))) 30 (q 0) 0 := rfl
  have R2 : QM m2 D (fun j => q (j + 1)) (L - 1) h' := by
    refine ⟨fun v hv => by rw [h2, gI_sI, if_neg (by omega), gI_sI, if_neg (by omega), gI_sI, if_neg (by omega)]; exact r1 v hv, fun v hv => ?_, by rw [h2, gI_sI, if_neg (by omega), gI_sI, if_neg (by omega), gI_sI, if_pos ⟨rfl, rfl⟩], by omega, by rw [h2, gI_sI, if_neg (by omega), gI_sI, if_pos ⟨rfl, rfl⟩], fun j hj => ?_, fun j hj => r7 _ (by omega), fun i j a b => r8 _ _ (by omega) (by omega)⟩
    · rw [h2, gI_sI]
      by_cases z : v = q 0
      · right
        rw [if_pos ⟨rfl, z⟩]
        refine ⟨rfl, fun ⟨j, a, b⟩ => ?_⟩
        exact r8 0 (j + 1) (by omega) (by omega) (by rw [← z]; exact b.symm)
      · rw [if_neg (fun y => z y.2), gI_sI, if_neg (by omega), gI_sI, if_neg (by omega)]
        have e : inQ (fun j => q (j + 1)) (L - 1) v ↔ inQ q L v := by
          refine ⟨fun ⟨j, a, b⟩ => ⟨j + 1, by omega, b⟩, fun ⟨j, a, b⟩ => ?_⟩
          have j0 : j ≠ 0 := fun y => z (by rw [← b, y])
          exact ⟨j - 1, by omega, by show q (j - 1 + 1) = v; rw [show j - 1 + 1 = j by omega]; exact b⟩
        rw [e]
        exact r2 v hv
    · rw [h2, gI_sI, if_neg (by omega), gI_sI, if_neg (by omega), gI_sI, if_neg (by omega)]
      have := r6 (j + 1) (by omega)
      rw [show (h' + j) % 400 = (h + (j + 1)) % 400 by omega]
      exact this
  have F2 : Frm W_WK_cheapest [] m m2 := (Frm.sI rfl rfl).tr ((Frm.sI rfl rfl).tr (Frm.sI rfl rfl))
  have oz' : ∀ c, c < 11 → ∀ k, wL W_WK_cheapest c k = false := by
    intro c hc k
    unfold wL
    rw [List.any_eq_false]
    have : ∀ q ∈ W_WK_cheapest, 11 ≤ q.1 := by decide
    intro q hq
    have := this q hq
    simp only [Bool.and_eq_true, beq_iff_eq, not_and]
    intro h; omega
  have G2 := G.fr F2 oz'
  obtain ⟨m3, q', L', e3, R3, l3, p3, c3, n3, F3⟩ := on_four R2 hD hn G2 hu
  refine ⟨m3, q', L', h', ?_, R3, l3, p3, c3, n3, G2.fr F3 oz⟩
  have g8 : gI (sI m 26 7 (nI h')) 26 8 = nI L := by rw [gI_sI, if_neg (by omega), r5]
  have J : WK_cheapest_J84 (WK_cheapest_L36 5 x3 kx f) kx m 5 x3 (nI k) (nI (q 0)) (nI h') = WK_cheapest_L36 5 x3 kx f m3 (nI (k + 1)) := by
    rw [WK_cheapest_J84, letM_p, g8, k1, n_sub (by omega), letM_p, if_pos (n_in hu (by omega)), n_ixn (by omega), letM_p, ← h2, e3, bM_s, n_add]
  rw [WK_cheapest_L36, if_neg (by rw [show (1000000 : Int32) = nI 1000000 from rfl, n_le (by omega) (by omega)]; omega), r5, if_neg (by rw [k0, n_le (by omega) (by omega)]; omega), r3, if_pos (n_in r4 (by omega)), n_ixn (by omega), e29, letV_p, show nI h + 1 = nI (h + 1) by rw [k1, n_add]]
  by_cases z : 400 ≤ h + 1
  · rw [if_pos (by rw [show (400 : Int32) = nI 400 from rfl, n_le (by omega) (by omega)]; exact z), ← J, show h' = 0 by omega]
    rfl
  · rw [if_neg (by rw [show (400 : Int32) = nI 400 from rfl, n_le (by omega) (by omega)]; exact z), ← J, show h' = h + 1 by omega]
theorem sp_loop {n s : Nat} {U V : Nat → Int} {x3 : Int32} {kx : Mem → Option (Int32 × Mem)} (hn : n ≤ 12) : ∀ (B k i r fu : Nat) (m : Mem) (D q : Nat → Nat) (L h : Nat), 400 * (400 - i) + r ≤ B → k + B ≤ 200000 → B < fu → i ≤ 399 → QM m D q L h → GX m n U V → SI (stX U V n) s i r D q L →
    ∃ m' D', WK_cheapest_L36 5 x3 kx fu m (nI k) = kx m' ∧ (∀ v, v < 400 → gI m' 28 v = nI (D' v)) ∧ JD 400 (stX U V n) s D' ∧ ∀ n' c v, v < 400 → Wq (stX U V n) s n' v c → D' v ≤ 400 * c + n' := by
  intro B
  induction B with
  | zero => intro k i r fu m D q L h hB hk hf hi R G S; omega
  | succ B ih =>
    intro k i r fu m D q L h hB hk hf hi R G S
    obtain ⟨f, rfl⟩ : ∃ f, fu = f + 1 := ⟨fu - 1, by omega⟩
    have hle := R.le
    by_cases hL : L = 0
    · subst hL
      refine ⟨m, D, ?_, R.1, S.1, LW.fix S.1.1 (fun u d v hu hd hb => ?_)⟩
      · rw [WK_cheapest_L36, if_neg (by rw [show (1000000 : Int32) = nI 1000000 from rfl, n_le (by omega) (by omega)]; omega), R.2.2.2.2.1, if_pos (by decide)]
      · rcases S.2.1 u d v hu hd hb with ⟨j, a, _⟩ | z
        · omega
        · exact z
    · have main : ∀ i r, 400 * (400 - i) + r ≤ B + 1 → i ≤ 399 → 1 ≤ r → SI (stX U V n) s i r D q L → ∃ m' D', WK_cheapest_L36 5 x3 kx (f + 1) m (nI k) = kx m' ∧ (∀ v, v < 400 → gI m' 28 v = nI (D' v)) ∧ JD 400 (stX U V n) s D' ∧ ∀ n' c v, v < 400 → Wq (stX U V n) s n' v c → D' v ≤ 400 * c + n' := by
        intro i r hB hi hr S
        obtain ⟨m1, q1, L1, h1, e1, R1, l1, p1, c1, n1, G1⟩ := sp_pop (x3 := x3) (kx := kx) (f := f) R S.1.2.1 hn G (show 0 < L by omega) (show k < 1000000 by omega)
        have S1 := S.pop hr (R.2.2.2.2.2.2.1 0 (by omega)) l1 p1 c1 n1
        obtain ⟨m2, D2, e2, a, b, c⟩ := ih (k + 1) i (r - 1) f m1 _ q1 L1 h1 (by omega) (by omega) (by omega) hi R1 G1 S1
        exact ⟨m2, D2, by rw [e1, e2], a, b, c⟩
      by_cases hr : r = 0
      · subst hr
        obtain ⟨hi', S'⟩ := S.next (by omega)
        exact main (i + 1) L (by omega) (by omega) (by omega) S'
      · exact main i r hB hi (by omega) S
/-- the class's cheapest -/
theorem cheapest_eq {m : Mem} {n s t : Nat} {U V : Nat → Int} (hn : n ≤ 12) (G : GX m n U V) (hs : s < 400) (ht : t < 400) : ∃ m' D, WK_cheapest m 5 (nI s) (nI t) = some (nI D, m') ∧ Opt (stX U V n) 400 s t D ∧ Frm W_WK_cheapest [] m m' := by
  obtain ⟨m1, e1, a1, F1⟩ := fill_eq (m := m) (a := 28) (L := 400) (v := 100000000) rfl (by omega)
  obtain ⟨m2, e2, a2, F2⟩ := fill_eq (m := m1) (a := 30) (L := 400) (v := 0) rfl (by omega)
  let m4 := sI (sI m2 26 7 0) 26 8 0
  have h4 : m4 = sI (sI m2 26 7 0) 26 8 0 := rfl
  have g4 : ∀ c j, c ≠ 26 → gI m4 c j = gI m2 c j := fun c j z => by rw [h4, gI_sI, if_neg (fun y => z y.1), gI_sI, if_neg (fun y => z y.1)]
  have R4 : QM m4 (fun _ => INF) (fun _ => 0) 0 0 := by
    refine ⟨fun v hv => by rw [g4 _ _ (by omega), a2, if_neg (by omega), a1, if_pos ⟨rfl, hv⟩]; rfl, fun v hv => Or.inr ⟨by rw [g4 _ _ (by omega), a2, if_pos ⟨rfl, hv⟩], fun ⟨j, a, _⟩ => absurd a (Nat.not_lt_zero _)⟩, by rw [h4, gI_sI, if_neg (by omega), gI_sI, if_pos ⟨rfl, rfl⟩]; rfl, by omega, by rw [h4, gI_sI, if_pos ⟨rfl, rfl⟩]; rfl, fun j hj => absurd hj (Nat.not_lt_zero _), fun j hj => absurd hj (Nat.not_lt_zero _), fun i j _ hj => absurd hj (Nat.not_lt_zero _)⟩
  have G4 : GX m4 n U V := by
    obtain ⟨T, O, GR⟩ := G
    refine ⟨T, O, fun r c hr hc => ?_⟩
    have k : ∀ c j, c < 11 → gI m4 c j = gI m c j := fun c j hc => by rw [g4 _ _ (by omega), a2, if_neg (by omega), a1, if_neg (by omega)]
    rw [k _ _ (by omega), k _ _ (by omega), k _ _ (by omega), k _ _ (by omega)]
    exact GR r c hr hc
  obtain ⟨m5, q, L, e5, R5, l5, p5, c5, n5, F5⟩ := offer_ok (v := s) (x := 0) R4 (fun _ => Nat.le_refl _) hs (by omega)
  rw [if_pos (show 0 < INF by decide)] at R5
  have hq := c5 (show 0 < INF by decide)
  -- the ring holds s alone
  have SI0 : SI (stX U V n) s 0 L (upn (fun _ => INF) s 0) q L := by
    have d0 : ∀ u, u ≠ s → upn (fun _ => INF) s 0 u = INF := fun u z => upn_ne z
    refine ⟨⟨upn_eq _ _ _, fun v => ?_, fun v hv => ?_⟩, fun u d v hu hd hb => ?_, fun n c v a b w => ?_, fun n' c u d v a hu hd w hb => ?_, Nat.le_refl _, fun z => by omega⟩
    · by_cases z : v = s
      · rw [z, upn_eq]; exact Nat.zero_le _
      · rw [d0 v z]; exact Nat.le_refl _
    · by_cases z : v = s
      · right; rw [z, upn_eq]; exact ⟨0, 0, ⟨rfl, rfl⟩, rfl⟩
      · left; exact d0 v z
    · by_cases z : u = s
      · left; rw [z]; exact hq
      · right
        rw [d0 u z]
        by_cases y : v = s
        · rw [y, upn_eq]; exact Nat.zero_le _
        · rw [d0 v y]; omega
    · obtain rfl : n = 0 := by omega
      rw [w.1, upn_eq]; exact Nat.zero_le _
    · obtain rfl : n' = 0 := by omega
      left; rw [w.1]; exact hq
  have hL := R5.le
  obtain ⟨m6, D, e6, a6, j6, o6⟩ := sp_loop (x3 := nI t) (kx := fun m9 => if inb (nI t) 400 then (some ((gI m9 28 (ixn (nI t))), m9)) else none) hn 160400 0 0 L FU m5 _ q L 0 (by omega) (by omega) (by unfold FU; omega) (by omega) R5 (G4.fr F5 oz) SI0
  have eR : WK_cheapest m 5 (nI s) (nI t) = some (nI (D t), m6) := by
    rw [show nI 0 = 0 from k0.symm] at e5 e6
    rw [WK_cheapest, e1, bM_s, e2, bM_s, letM_p, letM_p, ← h4, e5, bM_s, e6, if_pos (n_in ht (by omega)), n_ixn (by omega), a6 t ht]
  exact ⟨m6, D t, eR, j6.opt (by omega) (fun u d => stX_le hn) hs ht o6, WK_cheapest_fr (wL_sub rfl) m _ _ _ _ eR⟩

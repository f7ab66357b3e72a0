/-! corners: corner_cases, canMove; moved -/
def pv (n c : Nat) : Nat := if c = 0 then n - 1 else c - 1
theorem pv_lt {n c : Nat} (h : c < n) : pv n c < n := by unfold pv; split <;> omega
theorem pv_mod {n c : Nat} (h : c < n) : (c + n - 1) % n = pv n c := by
  unfold pv
  split
  · next q => subst q; rw [Nat.mod_eq_of_lt (by omega)]; omega
  · rw [show c + n - 1 = (c - 1) + n by omega, Nat.add_mod_right, Nat.mod_eq_of_lt (by omega)]
theorem nx_mod {n c : Nat} (h : c < n) : (c + 1) % n = nx n c := by
  unfold nx
  split
  · next q => exact Nat.mod_eq_of_lt q
  · rw [show c + 1 = n by omega, Nat.mod_self]
theorem nx_pv {n c : Nat} (h : c < n) : nx n (pv n c) = c := by unfold nx pv; split <;> split <;> omega
theorem pv_nx {n c : Nat} (h : c < n) : pv n (nx n c) = c := by unfold nx pv; split <;> split <;> omega
theorem before_eq {m : Mem} {o n c : Nat} {X Y : Nat → Int} (h : PolyC m o n X Y) (hc : c < n) : LN_before m o (nI c) = nI (pv n c) := by
  have hn := h.2.1
  unfold LN_before pv
  rw [h.1]
  by_cases q : c = 0
  · rw [if_pos q, if_pos (by rw [k0, n_le (by omega) (by omega)]; omega), k1, n_sub (by omega)]
  · rw [if_neg q, if_neg (by rw [k0, n_le (by omega) (by omega)]; omega), k1, n_sub (by omega)]
def atP (X Y : Nat → Int) (j a b : Nat) : Bool := decide (X j = a) && decide (Y j = b)
theorem izn_eq {z : Int} {a : Nat} (hz : bd 100 z) (ha : a ≤ 20) : (iz z = nI a) ↔ z = a := by rw [nI_iz, iz_eq (by omega) (by omega)]
theorem LN_isAt_eq {m : Mem} {o n j a b : Nat} {X Y : Nat → Int} (h : PolyC m o n X Y) (hj : j < n) (ha : a ≤ 20) (hb : b ≤ 20) : LN_isAt m o (nI j) (nI a) (nI b) = some (b2i (atP X Y j a b)) := by
  have hn := h.2.1
  obtain ⟨a1, a2, a3, a4⟩ := h.2.2 j hj
  unfold LN_isAt atP
  rw [if_pos (n_in (by omega) (by omega)), n_ixn (by omega), a1, a2]
  simp only [izn_eq a3 ha, izn_eq a4 hb]
  by_cases p : X j = a <;> by_cases q : Y j = b <;> simp [p, q, b2i]
theorem RM_isAt_eq {m m1 : Mem} {k n j a b : Nat} {X Y : Nat → Int} (D : LineD m k n X Y) (hk : k < 3) (h1 : ∀ j, gI m1 135 j = gI m 135 j) (hj : j < n) (ha : a ≤ 20) (hb : b ≤ 20) : RM_isAt m1 (nI k) (nI j) (nI a) (nI b) = some (b2i (atP X Y j a b)) := by
  have hn := D.2.1
  obtain ⟨a1, a2, a3, a4⟩ := D.2.2.2.1 j hj
  have e1 : (14 + (24 * nI k)) + (2 * nI j) = nI (14 + 24 * k + 2 * j) := by rw [k14, k24, k2, n_mul, n_mul, n_add, n_add]
  have e2 : nI (14 + 24 * k + 2 * j) + 1 = nI (14 + 24 * k + 2 * j + 1) := by rw [k1, n_add]
  unfold RM_isAt atP
  rw [e1, e2, if_pos (n_in (by omega) (by omega)), if_pos (n_in (by omega) (by omega)), n_ixn (by omega), n_ixn (by omega), h1, h1, a1, a2]
  simp only [izn_eq (show bd 100 (X j) by omega) ha, izn_eq (show bd 100 (Y j) by omega) hb]
  by_cases p : X j = a <;> by_cases q : Y j = b <;> simp [p, q, b2i]
theorem corner_cases {m : Mem} (h : Inv m) (x i : Int32) : (PH_hasCorner m (gN m 13) x i = some 0 ∧ ∀ m1, (∀ j, gI m1 135 j = gI m 135 j) → RM_isCorner m1 x i = some 0) ∨ ∃ k n X Y c, k < 3 ∧ k < ixn (gI m 135 0) ∧ x = nI k ∧ LineD m k n X Y ∧ c < n ∧ i = nI c ∧ PH_hasCorner m (gN m 13) x i = some 1 ∧ ∀ m1, (∀ j, gI m1 135 j = gI m 135 j) → RM_isCorner m1 x i = some 1 := by
  rcases line_cases h x with ⟨h1, h2⟩ | ⟨k, hk, hk2, rfl, h1, h2⟩
  · refine Or.inl ⟨by rw [PH_hasCorner, h1, if_pos rfl], fun m1 q => ?_⟩
    simp only [RM_isCorner, h2 _ (q 0), bI, if_pos]
  · obtain ⟨n, X, Y, D⟩ := lineD h hk2
    have hn := D.2.1
    have hn3 := D.1
    have eC : PH_hasCorner m (gN m 13) (nI k) i = if i < 0 then some 0 else if nI n ≤ i then some 0 else some 1 := by
      rw [PH_hasCorner, h1, if_neg (by decide), if_pos (n_in hk (by omega)), n_ixn (by omega), D.2.2.2.2.1.1]
    have eR : ∀ m1, (∀ j, gI m1 135 j = gI m 135 j) → RM_isCorner m1 (nI k) i = if RM_isIn i 0 (nI (n - 1)) = 0 then some 0 else some 1 := by
      intro m1 q
      simp only [RM_isCorner, h2 _ (q 0), bI]
      rw [if_neg (by decide), show 11 + nI k = nI (11 + k) by rw [k11, n_add], if_pos (n_in (show 11 + k < 116 by omega) (by omega)), n_ixn (by omega), q, D.2.2.1, k1, n_sub (by omega)]
    rcases spl i n (by omega) with hx | ⟨hx, hx2⟩ | ⟨c, hc, rfl⟩
    · exact Or.inl ⟨by rw [eC, if_pos hx], fun m1 q => by rw [eR m1 q, isIn_lo hx, if_pos rfl]⟩
    · exact Or.inl ⟨by rw [eC, if_neg hx, if_pos hx2], fun m1 q => by rw [eR m1 q, isIn_hi (n := n - 1) (by omega) (by rw [show n - 1 + 1 = n by omega]; exact hx2), if_pos rfl]⟩
    · refine Or.inr ⟨k, n, X, Y, c, hk, hk2, rfl, D, hc, rfl, ?_, fun m1 q => ?_⟩
      · rw [eC, if_neg (by rw [k0, n_lt (by omega) (by omega)]; omega), if_neg (by rw [n_le (by omega) (by omega)]; omega)]
      · rw [eR m1 q, show RM_isIn (nI c) 0 (nI (n - 1)) = 1 from isIn_in (a := 0) (b := n - 1) (Nat.zero_le _) (by omega) (by omega), if_neg (by decide)]
theorem canMove_cases {m : Mem} {k n c : Nat} {X Y : Nat → Int} (hk : k < 3) (D : LineD m k n X Y) (hc : c < n) (hC : PH_hasCorner m (gN m 13) (nI k) (nI c) = some 1) (x y : Int32) :
    (OH_canMove m (nI k) (nI c) x y = some 0 ∧ ∀ m1, (∀ j, gI m1 135 j = gI m 135 j) → RM_canMove m1 (nI k) (nI c) x y = some 0) ∨ ∃ a b : Nat, a ≤ 20 ∧ b ≤ 20 ∧ x = nI a ∧ y = nI b ∧ atP X Y c a b = false ∧ atP X Y (pv n c) a b = false ∧ atP X Y (nx n c) a b = false ∧ OH_canMove m (nI k) (nI c) x y = some 1 ∧ ∀ m1, (∀ j, gI m1 135 j = gI m 135 j) → RM_canMove m1 (nI k) (nI c) x y = some 1 := by
  have hn := D.2.1
  have eR : ∀ m1, (∀ j, gI m1 135 j = gI m 135 j) → gI m1 135 (11 + k) = nI n := fun m1 q => by rw [q]; exact D.2.2.1
  have e11 : 11 + nI k = nI (11 + k) := by rw [k11, n_add]
  have hin : inb (nI (11 + k)) 116 := n_in (by omega) (by omega)
  rcases isPoint_eq x y with ⟨h3, h4⟩ | ⟨a, b, ha, hb, rfl, rfl, h3, h4⟩
  · refine Or.inl ⟨?_, fun m1 q => ?_⟩
    · simp only [OH_canMove, hC, bI, h3, if_pos, ite_self]
    · simp only [RM_canMove, letV, h4, e11, if_pos hin, if_pos]
  · have pc := pv_lt hc
    have nc := nx_lt hc
    have eO : OH_canMove m (nI k) (nI c) (nI a) (nI b) = some (b2i (!(atP X Y c a b) && (!(atP X Y (pv n c) a b) && !(atP X Y (nx n c) a b)))) := by
      simp only [OH_canMove, hC, bI, h3, LN_mayStandAt]
      rw [if_neg (by decide), if_neg (by decide), if_pos (n_in hk (by omega)), n_ixn (by omega), before_eq D.2.2.2.2.1 hc, LN_after_eq D.2.2.2.2.1 hc, LN_isAt_eq D.2.2.2.2.1 hc ha hb, LN_isAt_eq D.2.2.2.2.1 pc ha hb, LN_isAt_eq D.2.2.2.2.1 nc ha hb]
      simp only [bI]
      cases atP X Y c a b <;> cases atP X Y (pv n c) a b <;> cases atP X Y (nx n c) a b <;> rfl
    have eM : ∀ m1, (∀ j, gI m1 135 j = gI m 135 j) → RM_canMove m1 (nI k) (nI c) (nI a) (nI b) = some (b2i (!(atP X Y c a b) && (!(atP X Y (pv n c) a b) && !(atP X Y (nx n c) a b)))) := by
      intro m1 q
      have z1 : ¬ nI n = 0 := by rw [k0, n_eq (by omega) (by omega)]; omega
      simp only [RM_canMove, letV, h4, e11, if_pos hin, n_ixn (show 11 + k < 2147483648 by omega), eR m1 q]
      rw [if_neg (by decide), if_pos z1, show nI c + 1 = nI (c + 1) by rw [k1, n_add], show nI c + nI n - 1 = nI (c + n - 1) by rw [n_add, k1, n_sub (by omega)], irm_n (by omega) (by omega) (by omega), irm_n (by omega) (by omega) (by omega), nx_mod hc, pv_mod hc, RM_isAt_eq D hk q hc ha hb, RM_isAt_eq D hk q pc ha hb, RM_isAt_eq D hk q nc ha hb]
      simp only [bI]
      cases atP X Y c a b <;> cases atP X Y (pv n c) a b <;> cases atP X Y (nx n c) a b <;> rfl
    cases z : (!(atP X Y c a b) && (!(atP X Y (pv n c) a b) && !(atP X Y (nx n c) a b))) with
    | false => rw [z] at eO; exact Or.inl ⟨eO, fun m1 q => by rw [eM m1 q, z]; rfl⟩
    | true =>
      rw [z] at eO
      simp only [Bool.and_eq_true, Bool.not_eq_true'] at z
      exact Or.inr ⟨a, b, ha, hb, rfl, rfl, z.1, z.2.1, z.2.2, eO, fun m1 q => by rw [eM m1 q]; simp [z, b2i]⟩

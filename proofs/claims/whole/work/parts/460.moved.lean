/-! moved -/
theorem maps_eqR {m1 : Mem} {k n : Nat} {X Y : Nat → Int} (hn3 : 3 ≤ n) (hn : n ≤ 12) (hk : k < 3) (h11 : gI m1 135 (11 + k) = nI n) (hX : ∀ i, i < n → gI m1 135 (14 + 24 * k + 2 * i) = iz (X i) ∧ gI m1 135 (14 + 24 * k + 2 * i + 1) = iz (Y i) ∧ (0 ≤ X i ∧ X i ≤ 20) ∧ (0 ≤ Y i ∧ Y i ≤ 20)) :
    ∃ v m', RM_maps m1 (nI k) = some (v, m') ∧ (∀ s, s < 400 → gI m' 141 s = b2i (hisS (gI m1 135 4) (gI m1 135 5) (clz n X) (clz n Y) n s)) ∧ Frm W_RM_maps [] m1 m' := by
  obtain ⟨m2, l1, l2, F2⟩ := looks_eq (m := m1) (X := X) (Y := Y) hn (by omega) hk h11 (fun j hj => by
    obtain ⟨d1, d2, d3, d4⟩ := hX j hj
    exact ⟨d1, d2, by omega, by omega⟩)
  obtain ⟨m', e, hh, F⟩ := maps_loop (lw := gI m1 135 4) (ed := gI m1 135 5) (kx := fun m4 y3 => some (y3, m4)) 400 0 FU 0 m2 (by omega) (by unfold FU; omega) l2 (by rw [F2.I 135 4 rfl]) (by rw [F2.I 135 5 rfl]) (fun s hs => by omega)
  rw [Int.zero_add, show iz 0 = 0 from i0.symm, show nI 0 = 0 from k0.symm] at e
  have eM : RM_maps m1 (nI k) = some (iz (sumN (fun s => bz (hisS (gI m1 135 4) (gI m1 135 5) (clz n X) (clz n Y) n s)) 0 400), m') := by
    unfold RM_maps
    rw [l1]
    simp only [bM]
    exact e
  exact ⟨_, m', eM, hh, RM_maps_fr (wL_sub rfl) m1 _ _ eM⟩
theorem puts_eq {m : Mem} {k c : Nat} (hk : k < 3) (hc : c < 12) (x y : Int32) : RM_puts m (nI k) (nI c) x y = some (sI (sI m 135 (14 + 24 * k + 2 * c) x) 135 (14 + 24 * k + 2 * c + 1) y) := by
  have e1 : (14 + (24 * nI k)) + (2 * nI c) = nI (14 + 24 * k + 2 * c) := by rw [k14, k24, k2, n_mul, n_mul, n_add, n_add]
  have e2 : nI (14 + 24 * k + 2 * c) + 1 = nI (14 + 24 * k + 2 * c + 1) := by rw [k1, n_add]
  simp only [RM_puts, letM, e1, e2, if_pos (n_in (show 14 + 24 * k + 2 * c < 116 by omega) (by omega)), if_pos (n_in (show 14 + 24 * k + 2 * c + 1 < 116 by omega) (by omega)), n_ixn (show 14 + 24 * k + 2 * c < 2147483648 by omega), n_ixn (show 14 + 24 * k + 2 * c + 1 < 2147483648 by omega)]
abbrev L3 : List (Nat × Nat) := [(63, 999999), (64, 999999), (65, 999999)]
theorem copyFrom_eq {m : Mem} {o : Nat} (ho : 66 ≤ o) : ∃ m', LN_copyFrom m 63 o = some m' ∧ gI m' 63 1 = gI m o 1 ∧ (∀ j, j < 12 → gI m' 64 j = gI m (o + 1) j ∧ gI m' 65 j = gI m (o + 2) j) ∧ Frm L3 [] m m' := by
  refine ⟨_, rfl, ?_, fun j hj => ⟨?_, ?_⟩, ?_⟩
  · rw [gI_cpI, if_neg (by omega), gI_cpI, if_neg (by omega), gI_sI, if_pos ⟨rfl, rfl⟩, gI_sJ]
  · have : ixn 0 = 0 := rfl
    have t : ixn 12 = 12 := rfl
    rw [gI_cpI, if_neg (by omega), gI_cpI, if_pos (by omega), gI_sI, if_neg (by omega), gI_sJ]
    congr 1; omega
  · have : ixn 0 = 0 := rfl
    have t : ixn 12 = 12 := rfl
    rw [gI_cpI, if_pos (by omega), gI_cpI, if_neg (by omega), gI_sI, if_neg (by omega), gI_sJ]
    congr 1; omega
  · exact (Frm.sJ rfl rfl).tr ((Frm.sI rfl rfl).tr ((Frm.cI rfl (fun _ => rfl)).tr (Frm.cI rfl (fun _ => rfl))))
theorem L94_loop {x1 x2 x5 x6 x7 : Int32} {H : Nat → Bool} {kx : Mem → Option (Int32 × Mem)} :
    ∀ (d i fu : Nat) (m : Mem), i + d = 400 → d < fu → (∀ s, s < 400 → gI m 141 s = b2i (H s)) → (∀ s, s < i → gI m 142 s = b2i (H s)) → ∃ m', RM_moved_L94 x1 x2 x5 x6 x7 kx fu m (nI i) = kx m' ∧ (∀ s, s < 400 → gI m' 142 s = b2i (H s)) ∧ Frm [(142, 999999)] [] m m'
  | 0, i, fu, m, hd, hf, h1, h2 => by
    obtain ⟨f, rfl⟩ : ∃ f, fu = f + 1 := ⟨fu - 1, by omega⟩
    obtain rfl : i = 400 := by omega
    exact ⟨m, by rw [RM_moved_L94, if_pos (by decide)], h2, Frm.rf⟩
  | d + 1, i, fu, m, hd, hf, h1, h2 => by
    obtain ⟨f, rfl⟩ : ∃ f, fu = f + 1 := ⟨fu - 1, by omega⟩
    have F0 : Frm [(142, 999999)] [] m (sI m 142 i (b2i (H i))) := Frm.sI rfl rfl
    obtain ⟨m', e, a, F⟩ := L94_loop (x1 := x1) (x2 := x2) (x5 := x5) (x6 := x6) (x7 := x7) (kx := kx) (H := H) d (i + 1) f (sI m 142 i (b2i (H i))) (by omega) (by omega) (fun s hs => by rw [gI_sI, if_neg (by omega)]; exact h1 s hs) (fun s hs => by
      rw [gI_sI]
      by_cases q : s = i
      · rw [if_pos ⟨rfl, q⟩, q]
      · rw [if_neg (fun z => q z.2)]; exact h2 s (by omega))
    refine ⟨m', ?_, a, F0.tr F⟩
    have hb : gI m 141 i &&& 1 = b2i (H i) := by rw [h1 i (by omega)]; cases H i <;> decide
    rw [RM_moved_L94, if_neg (by rw [k400, n_le (by omega) (by omega)]; omega), if_pos (n_in (show i < 400 by omega) (by omega)), n_ixn (by omega), hb, show nI i + 1 = nI (i + 1) by rw [k1, n_add]]
    exact e
def mvI (e h h' : Bool) : Int := bz ((h == e) && (h' != e))
theorem L144_loop {m : Mem} {e : Bool} {H H' : Nat → Bool} (h1 : ∀ s, s < 400 → gI m 141 s = b2i (H s)) (h2 : ∀ s, s < 400 → gI m 142 s = b2i (H' s)) {kx : Mem → Int32 → Option (Int32 × Mem)} :
    ∀ (d i fu : Nat) (c : Int), i + d = 400 → d < fu → RM_moved_L144 (b2i e) kx fu m (iz c) (nI i) = kx m (iz (c + sumN (fun s => mvI e (H s) (H' s)) i d))
  | 0, i, fu, c, hd, hf => by
    obtain ⟨f, rfl⟩ : ∃ f, fu = f + 1 := ⟨fu - 1, by omega⟩
    obtain rfl : i = 400 := by omega
    rw [RM_moved_L144, if_pos (by decide)]
    simp [sumN]
  | d + 1, i, fu, c, hd, hf => by
    obtain ⟨f, rfl⟩ : ∃ f, fu = f + 1 := ⟨fu - 1, by omega⟩
    have ih := L144_loop (e := e) h1 h2 (kx := kx) d (i + 1) f (c + mvI e (H i) (H' i)) (by omega) (by omega)
    rw [RM_moved_L144, if_neg (by rw [k400, n_le (by omega) (by omega)]; omega), if_pos (n_in (show i < 400 by omega) (by omega)), n_ixn (by omega), h1 i (by omega), h2 i (by omega)]
    simp only [RM_moved_J188, letV]
    rw [show nI i + 1 = nI (i + 1) by rw [k1, n_add], sumN, ← Int.add_assoc, ← ih, i0, i1, iz_add, iz_add]
    unfold mvI
    cases e <;> cases H i <;> cases H' i <;> rfl
theorem L98_loop {m : Mem} {e : Bool} {H H' : Nat → Bool} (h1 : ∀ s, s < 400 → gI m 6 s = b2i (H s)) (h2 : ∀ s, s < 400 → gI m 12 s = b2i (H' s)) {kx : Mem → Int32 → Option (Int32 × Mem)} :
    ∀ (d i fu : Nat) (c : Int), i + d = 400 → d < fu → OH_moved_L98 (b2i e) kx fu m (iz c) (nI i) = kx m (iz (c + sumN (fun s => mvI e (H s) (H' s)) i d))
  | 0, i, fu, c, hd, hf => by
    obtain ⟨f, rfl⟩ : ∃ f, fu = f + 1 := ⟨fu - 1, by omega⟩
    obtain rfl : i = 400 := by omega
    rw [OH_moved_L98, if_pos (by decide)]
    simp [sumN]
  | d + 1, i, fu, c, hd, hf => by
    obtain ⟨f, rfl⟩ : ∃ f, fu = f + 1 := ⟨fu - 1, by omega⟩
    have ih := L98_loop (e := e) h1 h2 (kx := kx) d (i + 1) f (c + mvI e (H i) (H' i)) (by omega) (by omega)
    rw [OH_moved_L98, if_neg (by rw [k400, n_le (by omega) (by omega)]; omega), if_pos (n_in (show i < 400 by omega) (by omega)), n_ixn (by omega), h1 i (by omega), h2 i (by omega)]
    rw [show nI i + 1 = nI (i + 1) by rw [k1, n_add], sumN, ← Int.add_assoc, ← ih, i1, iz_add]
    have z : ∀ c : Int, iz (c + 0) = iz c := fun c => by rw [Int.add_zero]
    unfold mvI
    cases e <;> cases H i <;> cases H' i <;> simp [b2i, bz]
theorem Frm.drop {m m' : Mem} (F : Frm ((135, 999999) :: Lsc) [] m m') (h : ∀ j, gI m' 135 j = gI m 135 j ∧ gJ m' 135 j = gJ m 135 j) : Frm Lsc [] m m' := by
  refine ⟨fun c k a b => ?_, F.2⟩
  by_cases q : c = 135
  · subst q; exact h k
  · apply F.1 c k _ b
    unfold wL at a ⊢
    rw [List.any_cons, a]
    simp
    intro z
    exact absurd z.symm q

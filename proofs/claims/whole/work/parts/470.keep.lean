/-! what can be undone: keep -/
theorem k812 : (812 : Int32) = nI 812 := by decide
theorem letV_o (a : Int32) (f : Int32 → Option Mem) : letV a f = f a := rfl
theorem letM_o (a : Mem) (f : Mem → Option Mem) : letM a f = f a := rfl
theorem rk_shift {u : Nat} {kx : Mem → Option Mem} : ∀ (d i fu : Nat) (m : Mem), i + d = 812 → d < fu → ∃ m', RM_keep_L11 kx fu m (nI i) = kx m' ∧ (∀ s, i ≤ s → s < 812 → gI m' 151 s = gI m 151 (s + 116)) ∧ (∀ s, s < i → gI m' 151 s = gI m 151 s) ∧ Frm [(151, 999999)] [] m m'
  | 0, i, fu, m, hd, hf => by
    obtain ⟨f, rfl⟩ : ∃ f, fu = f + 1 := ⟨fu - 1, by omega⟩
    obtain rfl : i = 812 := by omega
    exact ⟨m, by rw [RM_keep_L11, if_pos (by decide)], fun s a b => by omega, fun s _ => rfl, Frm.rf⟩
  | d + 1, i, fu, m, hd, hf => by
    obtain ⟨f, rfl⟩ : ∃ f, fu = f + 1 := ⟨fu - 1, by omega⟩
    have F0 : Frm [(151, 999999)] [] m (sI m 151 i (gI m 151 (i + 116))) := Frm.sI rfl rfl
    obtain ⟨m', e, a, b, F⟩ := rk_shift (u := u) (kx := kx) d (i + 1) f (sI m 151 i (gI m 151 (i + 116))) (by omega) (by omega)
    refine ⟨m', ?_, fun s h1 h2 => ?_, fun s h => ?_, F0.tr F⟩
    · rw [RM_keep_L11, if_neg (by rw [k812, n_le (by omega) (by omega)]; omega), k116, n_add, if_pos (n_in (by omega) (by omega)), if_pos (n_in (by omega) (by omega)), n_ixn (by omega), n_ixn (by omega), show nI i + 1 = nI (i + 1) by rw [k1, n_add]]
      exact e
    · by_cases q : s = i
      · rw [b s (by omega), gI_sI, if_pos ⟨rfl, q⟩, q]
      · rw [a s (by omega) h2, gI_sI, if_neg (by omega)]
    · rw [b s (by omega), gI_sI, if_neg (by omega)]
theorem rk_row {u : Nat} (hu : u < 8) {kx : Mem → Option Mem} : ∀ (d i fu : Nat) (m : Mem), i + d = 116 → d < fu → gI m 133 40 = nI u → ∃ m', RM_keep_L47 kx fu m (nI i) = kx m' ∧ (∀ s, i ≤ s → s < 116 → gI m' 151 (116 * u + s) = gI m 135 s) ∧ (∀ s, s < 116 * u + i → gI m' 151 s = gI m 151 s) ∧ Frm [(151, 999999)] [] m m'
  | 0, i, fu, m, hd, hf, h40 => by
    obtain ⟨f, rfl⟩ : ∃ f, fu = f + 1 := ⟨fu - 1, by omega⟩
    obtain rfl : i = 116 := by omega
    exact ⟨m, by rw [RM_keep_L47, if_pos (by decide)], fun s a b => by omega, fun s _ => rfl, Frm.rf⟩
  | d + 1, i, fu, m, hd, hf, h40 => by
    obtain ⟨f, rfl⟩ : ∃ f, fu = f + 1 := ⟨fu - 1, by omega⟩
    have F0 : Frm [(151, 999999)] [] m (sI m 151 (116 * u + i) (gI m 135 i)) := Frm.sI rfl rfl
    obtain ⟨m', e, a, b, F⟩ := rk_row hu (kx := kx) d (i + 1) f (sI m 151 (116 * u + i) (gI m 135 i)) (by omega) (by omega) (by rw [gI_sI, if_neg (by omega)]; exact h40)
    refine ⟨m', ?_, fun s h1 h2 => ?_, fun s h => ?_, F0.tr F⟩
    · rw [RM_keep_L47, if_neg (by rw [k116, n_le (by omega) (by omega)]; omega), if_pos (n_in (by omega) (by omega)), h40, k116, n_mul, n_add, if_pos (n_in (by omega) (by omega)), n_ixn (by omega), n_ixn (by omega), show nI i + 1 = nI (i + 1) by rw [k1, n_add]]
      exact e
    · by_cases q : s = i
      · rw [b _ (by omega), gI_sI, if_pos ⟨rfl, by omega⟩, q]
      · rw [a s (by omega) h2, gI_sI, if_neg (by omega)]
    · rw [b s (by omega), gI_sI, if_neg (by omega)]
def u7 (u : Nat) : Nat := if u < 8 then u else 7
theorem keepR {m : Mem} {u : Nat} (hu : u ≤ 8) (h40 : gI m 133 40 = nI u) : ∃ m', RM_keep m = some m' ∧ gI m' 133 40 = nI (u7 u + 1) ∧ (∀ v, v < u7 u → ∀ s, s < 116 → gI m' 151 (116 * v + s) = gI m 151 (116 * (v + (u - u7 u)) + s)) ∧ (∀ s, s < 116 → gI m' 151 (116 * u7 u + s) = gI m 135 s) ∧ Frm [(133, 40), (151, 999999)] [] m m' := by
  have J : ∀ (m : Mem) (u : Nat), u < 8 → gI m 133 40 = nI u → ∃ m', RM_keep_J45 m = some m' ∧ gI m' 133 40 = nI (u + 1) ∧ (∀ s, s < 116 → gI m' 151 (116 * u + s) = gI m 135 s) ∧ (∀ s, s < 116 * u → gI m' 151 s = gI m 151 s) ∧ Frm [(133, 40), (151, 999999)] [] m m' := by
    intro m u hu h
    obtain ⟨m', e, a, b, F⟩ := rk_row hu (kx := fun m1 => letM (sI m1 133 40 ((gI m1 133 40) + 1)) fun m2 => some m2) 116 0 FU m (by omega) (by unfold FU; omega) h
    rw [show nI 0 = 0 from k0.symm] at e
    have eJ : RM_keep_J45 m = some (sI m' 133 40 (gI m' 133 40 + 1)) := by
      unfold RM_keep_J45
      rw [e]
      simp only [letM]
    refine ⟨sI m' 133 40 (gI m' 133 40 + 1), eJ, ?_, fun s hs => ?_, fun s hs => ?_, (F.mo (wL_sub rfl)).tr (Frm.sI rfl rfl)⟩
    · rw [gI_sI, if_pos ⟨rfl, rfl⟩, F.I 133 40 rfl, h, k1, n_add]
    · rw [gI_sI, if_neg (by omega)]; exact a s (by omega) hs
    · rw [gI_sI, if_neg (by omega)]; exact b s (by omega)
  unfold RM_keep
  rw [h40]
  by_cases q : u < 8
  · obtain ⟨m', e, a, b, c, F⟩ := J m u q h40
    have : u7 u = u := if_pos q
    rw [this, if_neg (by rw [show (8 : Int32) = nI 8 by decide, n_eq (by omega) (by omega)]; omega)]
    refine ⟨m', e, a, fun v hv s hs => ?_, b, F⟩
    rw [c _ (by omega)]
    congr 1; omega
  · obtain rfl : u = 8 := by omega
    obtain ⟨m1, e1, a1, b1, F1⟩ := rk_shift (u := 0) (kx := fun m1 => letM (sI m1 133 40 7) fun m2 => RM_keep_J45 m2) 812 0 FU m (by omega) (by unfold FU; omega)
    obtain ⟨m', e, a, b, c, F⟩ := J (sI m1 133 40 7) 7 (by omega) (by rw [gI_sI, if_pos ⟨rfl, rfl⟩]; decide)
    rw [show nI 0 = 0 from k0.symm] at e1
    have e8 : RM_keep_L11 (fun m1 => letM (sI m1 133 40 7) fun m2 => RM_keep_J45 m2) FU m 0 = some m' := by
      rw [e1, letM_o]; exact e
    rw [if_pos (by decide), show u7 8 = 7 from rfl]
    refine ⟨m', e8, a, fun v hv s hs => ?_, fun s hs => ?_, (F1.mo (wL_sub rfl)).tr ((Frm.sI (show sI m1 133 40 7 = _ from rfl) rfl).tr F)⟩
    · rw [c _ (by omega), gI_sI, if_neg (by omega), a1 _ (by omega) (by omega), show 116 * v + s + 116 = 116 * (v + (8 - 7)) + s by omega]
    · rw [b s hs, gI_sI, if_neg (by omega), F1.I 135 s rfl]
theorem cpok_n {v : Nat} (h : v + 12 ≤ 584) : cpok 0 (nI v) 12 12 584 := by
  refine ⟨by decide, by rw [k0, n_lt (by omega) (by omega)]; omega, by decide, by decide, ?_⟩
  rw [n_ixn (by omega), show ixn 12 = 12 from rfl]; exact h
theorem ak_step {m : Mem} {p k b : Nat} {kx : Mem → Option Mem} {f : Nat} (hk : k < 3) (hb : b + 73 ≤ 584) (hp : 68 ≤ p) :
    ∃ m', AC_keep_L52 p (nI b) kx (f + 1) m (nI k) = AC_keep_L52 p (nI b) kx f m' (nI (k + 1)) ∧ (∀ i, i < 12 → gI m' 4 (b + 1 + 24 * k + i) = gI m (p + 2 + 3 * k + 1) i ∧ gI m' 4 (b + 1 + 24 * k + 12 + i) = gI m (p + 2 + 3 * k + 2) i) ∧ (∀ s, s < b + 1 + 24 * k → gI m' 4 s = gI m 4 s) ∧ Frm [(4, 999999)] [] m m' := by
  have e1 : nI b + 1 + nI k * 24 = nI (b + 1 + k * 24) := by rw [k1, k24, n_add, n_mul, n_add]
  have e2 : nI (b + 1 + k * 24) + 12 = nI (b + 1 + k * 24 + 12) := by rw [k12, n_add]
  have t : ixn 12 = 12 := rfl
  have t0 : ixn 0 = 0 := rfl
  refine ⟨cpI (cpI m (p + 2 + 3 * k + 1) 0 4 (b + 1 + k * 24) 12) (p + 2 + 3 * k + 2) 0 4 (b + 1 + k * 24 + 12) 12, ?_, fun i hi => ⟨?_, ?_⟩, fun s hs => ?_, (Frm.cI rfl (fun _ => rfl)).tr (Frm.cI rfl (fun _ => rfl))⟩
  · rw [AC_keep_L52, if_neg (by rw [k3, n_le (by omega) (by omega)]; omega)]
    simp only [letV, letM]
    rw [e1, e2, if_pos (n_in hk (by omega)), if_pos (cpok_n (by omega)), if_pos (cpok_n (by omega)), n_ixn (by omega), n_ixn (by omega), n_ixn (by omega), t, t0, show nI k + 1 = nI (k + 1) by rw [k1, n_add]]
  · rw [gI_cpI, if_neg (by omega), gI_cpI, if_pos (by omega)]; congr 1; omega
  · rw [gI_cpI, if_pos (by omega), gI_cpI, if_neg (by omega)]; congr 1; omega
  · rw [gI_cpI, if_neg (by omega), gI_cpI, if_neg (by omega)]
theorem keepC {m : Mem} {u p : Nat} (hu : u ≤ 8) (hp : 68 ≤ p) (h1 : gI m 3 1 = nI u) : ∃ m', AC_keep m p = some m' ∧ gI m' 3 1 = nI (u7 u + 1) ∧ (∀ v, v < u7 u → ∀ s, s < 73 → gI m' 4 (73 * v + s) = gI m 4 (73 * (v + (u - u7 u)) + s)) ∧ gI m' 4 (73 * u7 u) = gI m p 12 ∧ (∀ k, k < 3 → ∀ i, i < 12 → gI m' 4 (73 * u7 u + 1 + 24 * k + i) = gI m (p + 2 + 3 * k + 1) i ∧ gI m' 4 (73 * u7 u + 1 + 24 * k + 12 + i) = gI m (p + 2 + 3 * k + 2) i) ∧ Frm [(3, 1), (4, 999999)] [] m m' := by
  have J : ∀ (m : Mem) (u : Nat), u < 8 → gI m 3 1 = nI u → ∃ m', AC_keep_J32 m p = some m' ∧ gI m' 3 1 = nI (u + 1) ∧ (∀ s, s < 73 * u → gI m' 4 s = gI m 4 s) ∧ gI m' 4 (73 * u) = gI m p 12 ∧ (∀ k, k < 3 → ∀ i, i < 12 → gI m' 4 (73 * u + 1 + 24 * k + i) = gI m (p + 2 + 3 * k + 1) i ∧ gI m' 4 (73 * u + 1 + 24 * k + 12 + i) = gI m (p + 2 + 3 * k + 2) i) ∧ Frm [(3, 1), (4, 999999)] [] m m' := by
    intro m u hu h
    obtain ⟨f, hf⟩ : ∃ f, FU = f + 1 + 1 + 1 + 1 := ⟨FU - 4, by unfold FU; omega⟩
    have F0 : Frm [(4, 999999)] [] m (sI m 4 (73 * u) (gI m p 12)) := Frm.sI rfl rfl
    have ro : ∀ (a b : Mem), Frm [(4, 999999)] [] a b → ∀ d j, 68 ≤ d → gI b d j = gI a d j := fun a b F d j hd => F.I d j (by unfold wL; simp; omega)
    obtain ⟨m1, e1, a1, b1, F1⟩ := ak_step (m := sI m 4 (73 * u) (gI m p 12)) (kx := fun m4 => letM (sI m4 3 1 ((gI m4 3 1) + 1)) fun m5 => some m5) (f := f + 1 + 1 + 1) (k := 0) (by omega) (show 73 * u + 73 ≤ 584 by omega) hp
    obtain ⟨m2, e2, a2, b2, F2⟩ := ak_step (m := m1) (kx := fun m4 => letM (sI m4 3 1 ((gI m4 3 1) + 1)) fun m5 => some m5) (f := f + 1 + 1) (k := 1) (by omega) (show 73 * u + 73 ≤ 584 by omega) hp
    obtain ⟨m3, e3, a3, b3, F3⟩ := ak_step (m := m2) (kx := fun m4 => letM (sI m4 3 1 ((gI m4 3 1) + 1)) fun m5 => some m5) (f := f + 1) (k := 2) (by omega) (show 73 * u + 73 ≤ 584 by omega) hp
    have FF : Frm [(4, 999999)] [] m m3 := F0.tr (F1.tr (F2.tr F3))
    have eA : AC_keep_J32 m p = some (sI m3 3 1 (gI m3 3 1 + 1)) := by
      rw [AC_keep_J32, letV_o, h, k73, n_mul, Nat.mul_comm, if_pos (n_in (by omega) (by omega)), n_ixn (by omega), letM_o, hf, show (0 : Int32) = nI 0 from k0, e1, e2, e3, AC_keep_L52, if_pos (by decide), letM_o]
    refine ⟨_, eA, ?_, fun s hs => ?_, ?_, fun k hk i hi => ?_, (FF.mo (wL_sub rfl)).tr (Frm.sI rfl rfl)⟩
    · rw [gI_sI, if_pos ⟨rfl, rfl⟩, FF.I 3 1 rfl, h, k1, n_add]
    · rw [gI_sI, if_neg (by omega), b3 s (by omega), b2 s (by omega), b1 s (by omega), gI_sI, if_neg (by omega)]
    · rw [gI_sI, if_neg (by omega), b3 _ (by omega), b2 _ (by omega), b1 _ (by omega), gI_sI, if_pos ⟨rfl, rfl⟩]
    · rw [gI_sI, if_neg (by omega), gI_sI, if_neg (by omega)]
      rcases (show k = 0 ∨ k = 1 ∨ k = 2 by omega) with rfl | rfl | rfl
      · rw [b3 _ (by omega), b2 _ (by omega), b3 _ (by omega), b2 _ (by omega), (a1 i hi).1, (a1 i hi).2, ro _ _ F0 _ _ (by omega), ro _ _ F0 _ _ (by omega)]
        exact ⟨rfl, rfl⟩
      · rw [b3 _ (by omega), b3 _ (by omega), (a2 i hi).1, (a2 i hi).2, ro _ _ (F0.tr F1) _ _ (by omega), ro _ _ (F0.tr F1) _ _ (by omega)]
        exact ⟨rfl, rfl⟩
      · rw [(a3 i hi).1, (a3 i hi).2, ro _ _ (F0.tr (F1.tr F2)) _ _ (by omega), ro _ _ (F0.tr (F1.tr F2)) _ _ (by omega)]
        exact ⟨rfl, rfl⟩
  unfold AC_keep
  rw [h1]
  by_cases q : u < 8
  · obtain ⟨m', e, a, b, c, d, F⟩ := J m u q h1
    have : u7 u = u := if_pos q
    rw [this, if_pos (by rw [k8, n_lt (by omega) (by omega)]; exact q)]
    refine ⟨m', e, a, fun v hv s hs => ?_, c, d, F⟩
    rw [b _ (by omega)]
    congr 1; omega
  · obtain rfl : u = 8 := by omega
    have ro : ∀ d j, 68 ≤ d → gI (sI (cpI m 4 73 4 0 511) 3 1 7) d j = gI m d j := fun d j hd => by rw [gI_sI, if_neg (by omega), gI_cpI, if_neg (by omega)]
    obtain ⟨m', e, a, b, c, d, F⟩ := J (sI (cpI m 4 73 4 0 511) 3 1 7) 7 (by omega) (by rw [gI_sI, if_pos ⟨rfl, rfl⟩]; decide)
    rw [if_neg (by decide), show u7 8 = 7 from rfl]
    have e8 : (letM (cpI m 4 (ixn 73) 4 (ixn 0) (ixn 511)) fun m1 => letM (sI m1 3 1 7) fun m2 => AC_keep_J32 m2 p) = some m' := by
      rw [letM_o, letM_o, show ixn 73 = 73 from rfl, show ixn 0 = 0 from rfl, show ixn 511 = 511 from rfl]
      exact e
    refine ⟨m', e8, a, fun v hv s hs => ?_, ?_, fun k hk i hi => ?_, (Frm.cI rfl (fun _ => rfl)).tr ((Frm.sI rfl rfl).tr F)⟩
    · rw [b _ (by omega), gI_sI, if_neg (by omega), gI_cpI, if_pos (by omega), show 73 + (73 * v + s - 0) = 73 * (v + (8 - 7)) + s by omega]
    · rw [c, ro _ _ hp]
    · rw [(d k hk i hi).1, (d k hk i hi).2, ro _ _ (by omega), ro _ _ (by omega)]
      exact ⟨rfl, rfl⟩

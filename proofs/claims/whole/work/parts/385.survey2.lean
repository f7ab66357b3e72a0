theorem GRel.cong {m : Mem} {g : Nat} {E S T O E' S' T' O' : Int → Int → Int} (h : GRel m g E S T O) (h1 : ∀ r c, E r c = E' r c) (h2 : ∀ r c, S r c = S' r c) (h3 : ∀ r c, T r c = T' r c) (h4 : ∀ r c, O r c = O' r c) : GRel m g E' S' T' O' := by
  intro r c hr hc
  rw [← h1, ← h2, ← h3, ← h4]
  exact h r c hr hc
theorem cr_loop {g o n u l : Nat} {X Y : Nat → Int} {S : Int → Int → Int} {t : Int} {kx : Mem → Option Mem} (ho : g + 6 ≤ o) (hX : box X n) (hY : box Y n) (hu : u < n) (hl : l < n) (hul : Y u ≤ Y l) :
    ∀ (d k fu : Nat) (m : Mem) (E T O : Int → Int → Int), (k : Int) + d = Y l - Y u → d < fu → GRel m g E S T O → PolyC m o n X Y →
      ∃ m', GR_crossRows_L22 g o (nI u) (nI l) (iz t) (iz (Y u)) (iz (Y l - Y u)) kx fu m (nI k) = kx m' ∧
        GRel m' g (fun r c => E r c + if Y u + k ≤ r ∧ r < Y l ∧ colz (X u) (Y u) (X l) (Y l) r = c then 1 else 0) S (fun r c => T r c + if Y u + k ≤ r ∧ r < Y l ∧ colz (X u) (Y u) (X l) (Y l) r = c then t else 0) (fun r c => if (Y u + k ≤ r ∧ r < Y l) ∧ alz (X u) (Y u) (X l) (Y l) r = (c - X u) * (2 * (Y l - Y u)) then 1 else O r c) ∧ Frm [] [(g, 6)] m m'
  | 0, k, fu, m, E, T, O, hd, hf, hG, hP => by
    obtain ⟨f, rfl⟩ : ∃ f, fu = f + 1 := ⟨fu - 1, by omega⟩
    have y1 := hY u hu; have y2 := hY l hl
    refine ⟨m, by rw [GR_crossRows_L22, if_pos (by rw [nI_iz, iz_le (by omega) (by omega)]; omega)], ?_, Frm.rf⟩
    refine hG.cong (fun r c => ?_) (fun _ _ => rfl) (fun r c => ?_) (fun r c => ?_)
    · rw [if_neg (by omega)]; omega
    · rw [if_neg (by omega)]; omega
    · rw [if_neg (by omega)]
  | d + 1, k, fu, m, E, T, O, hd, hf, hG, hP => by
    obtain ⟨f, rfl⟩ : ∃ f, fu = f + 1 := ⟨fu - 1, by omega⟩
    obtain ⟨m1, e1, G1, F1⟩ := cr_step (kx := kx) (t := t) (f := f) hG hP ho hX hY hu hl (show (k : Int) < Y l - Y u by omega)
    obtain ⟨m2, e2, G2, F2⟩ := cr_loop (kx := kx) (t := t) (S := S) ho hX hY hu hl hul d (k + 1) f m1 _ _ _ (by omega) (by omega) G1 (hP.fr F1 ho)
    refine ⟨m2, e1.trans e2, ?_, F1.tr F2⟩
    refine G2.cong (fun r c => ?_) (fun _ _ => rfl) (fun r c => ?_) (fun r c => ?_)
    · by_cases h1 : r = Y u + k
      · rw [if_neg (c := Y u + ((k + 1 : Nat) : Int) ≤ r ∧ _) (by omega)]
        by_cases h2 : colz (X u) (Y u) (X l) (Y l) r = c
        · rw [if_pos ⟨h1, h2⟩, if_pos (by omega)]; omega
        · rw [if_neg (fun q => h2 q.2), if_neg (fun q => h2 q.2.2)]; omega
      · rw [if_neg (fun q => h1 q.1)]
        by_cases h2 : Y u + k ≤ r ∧ r < Y l ∧ colz (X u) (Y u) (X l) (Y l) r = c
        · rw [if_pos h2, if_pos (by omega)]; omega
        · rw [if_neg h2, if_neg (by omega)]; omega
    · by_cases h1 : r = Y u + k
      · rw [if_neg (c := Y u + ((k + 1 : Nat) : Int) ≤ r ∧ _) (by omega)]
        by_cases h2 : colz (X u) (Y u) (X l) (Y l) r = c
        · rw [if_pos ⟨h1, h2⟩, if_pos (by omega)]; omega
        · rw [if_neg (fun q => h2 q.2), if_neg (fun q => h2 q.2.2)]; omega
      · rw [if_neg (fun q => h1 q.1)]
        by_cases h2 : Y u + k ≤ r ∧ r < Y l ∧ colz (X u) (Y u) (X l) (Y l) r = c
        · rw [if_pos h2, if_pos (by omega)]; omega
        · rw [if_neg h2, if_neg (by omega)]; omega
    · by_cases h2 : alz (X u) (Y u) (X l) (Y l) r = (c - X u) * (2 * (Y l - Y u))
      · by_cases h1 : r = Y u + k
        · rw [if_neg (c := (Y u + ((k + 1 : Nat) : Int) ≤ r ∧ _) ∧ _) (by omega), if_pos ⟨h1, h2⟩, if_pos ⟨by omega, h2⟩]
        · rw [if_neg (c := r = Y u + k ∧ _) (fun q => h1 q.1)]
          by_cases h3 : Y u + k ≤ r ∧ r < Y l
          · rw [if_pos ⟨by omega, h2⟩, if_pos ⟨h3, h2⟩]
          · rw [if_neg (fun q => by have := q.1; omega), if_neg (fun q => h3 q.1)]
      · rw [if_neg (fun q => h2 q.2), if_neg (fun q => h2 q.2), if_neg (fun q => h2 q.2)]
theorem crossRows_eq {m : Mem} {g o n u l : Nat} {X Y : Nat → Int} {E S T O : Int → Int → Int} {t : Int} (ho : g + 6 ≤ o) (hX : box X n) (hY : box Y n) (hu : u < n) (hl : l < n) (hul : Y u ≤ Y l) (hG : GRel m g E S T O) (hP : PolyC m o n X Y) :
    ∃ m', GR_crossRows m g o (nI u) (nI l) (iz t) = some m' ∧ GRel m' g (fun r c => E r c + if Y u ≤ r ∧ r < Y l ∧ colz (X u) (Y u) (X l) (Y l) r = c then 1 else 0) S (fun r c => T r c + if Y u ≤ r ∧ r < Y l ∧ colz (X u) (Y u) (X l) (Y l) r = c then t else 0) (fun r c => if (Y u ≤ r ∧ r < Y l) ∧ alz (X u) (Y u) (X l) (Y l) r = (c - X u) * (2 * (Y l - Y u)) then 1 else O r c) ∧ Frm [] [(g, 6)] m m' := by
  have hn := hP.2.1
  have y1 := hY u hu; have y2 := hY l hl
  obtain ⟨m', e, G, F⟩ := cr_loop (kx := fun m5 => some m5) (t := t) ho hX hY hu hl hul (Y l - Y u).toNat 0 FU m E T O (by omega) (by unfold FU; omega) hG hP
  refine ⟨m', ?_, ?_, F⟩
  · simp only [GR_crossRows, letV]
    rw [if_pos (n_in (show u < 12 by omega) (by omega)), if_pos (n_in (show l < 12 by omega) (by omega)), n_ixn (by omega), n_ixn (by omega), (hP.2.2 u hu).2.1, (hP.2.2 l hl).2.1, iz_sub]
    exact e
  · simpa using G
theorem cc_step {m : Mem} {g o n u l k f : Nat} {X Y : Nat → Int} {E S T O : Int → Int → Int} {kx : Mem → Option Mem} (hG : GRel m g E S T O) (hP : PolyC m o n X Y) (ho : g + 6 ≤ o) (hX : box X n) (hY : box Y n) (hu : u < n) (hl : l < n) (hk : (k : Int) < X l - X u) :
    ∃ m', GR_crossColumns_L22 g o (nI u) (nI l) (iz (X u)) (iz (X l - X u)) kx (f + 1) m (nI k) = GR_crossColumns_L22 g o (nI u) (nI l) (iz (X u)) (iz (X l - X u)) kx f m' (nI (k + 1)) ∧
      GRel m' g E (fun r c => S r c + if c = X u + k ∧ colz (Y u) (X u) (Y l) (X l) c = r then 1 else 0) T O ∧ Frm [] [(g, 6)] m m' := by
  have hn := hP.2.1
  obtain ⟨a1, a2, -, -⟩ := hP.2.2 u hu
  obtain ⟨b1, b2, -, -⟩ := hP.2.2 l hl
  have xu := hX u hu; have xl := hX l hl; have yu := hY u hu; have yl := hY l hl
  have hr : X u ≤ X u + k ∧ X u + k < X l := by omega
  have cb := colz_bd (ux := Y u) (lx := Y l) hr yu yl
  have ab := al_bd (ux := Y u) (lx := Y l) hr yu yl xu.1 xl.2
  generalize hcol : colz (Y u) (X u) (Y l) (X l) (X u + k) = col at *
  generalize hal : alz (Y u) (X u) (Y l) (X l) (X u + k) = al at *
  have e1 : ((2 * nI k + 1) * (iz (Y l) - iz (Y u))) - iz (X l - X u) = iz al := by
    rw [i2, i1, nI_iz, iz_mul, iz_add, iz_sub, iz_mul, iz_sub, ← hal]
    congr 1
    unfold alz
    rw [show X u + (k : Int) - X u = (k : Int) by omega]
  have e2 : 2 * iz (X l - X u) = iz (2 * (X l - X u)) := by rw [i2, iz_mul]
  have e3 : iz (Y u) + JM_floorDiv (iz al - 1) (iz (2 * (X l - X u))) = iz col := by
    rw [i1, iz_sub, fdiv_iz (by omega) (by omega) (by omega), iz_add, ← hcol, ← hal]
    rfl
  have e4 : OH_squareAt (iz (X u) + nI k) (iz col) = iz (20 * col + (X u + k)) := by
    unfold OH_squareAt
    rw [k20, nI_iz, nI_iz, iz_add, iz_mul, iz_add]
    congr 1; omega
  have e5 : ¬ iz (2 * (X l - X u)) = 0 := by rw [i0, iz_eq (by omega) (by omega)]; omega
  have e7 : nI k + 1 = nI (k + 1) := by rw [k1, n_add]
  have c1 : ¬ iz (X l - X u) ≤ nI k := by rw [nI_iz, iz_le (by omega) (by omega)]; omega
  have c2 : (iz col < 0) ↔ col < 0 := by rw [i0, iz_lt (by omega) (by omega)]
  have c3 : ¬ (20 : Int32) ≤ iz col := by rw [k20, nI_iz, iz_le (by omega) (by omega)]; omega
  rw [GR_crossColumns_L22, if_neg c1, if_pos (n_in (show l < 12 by omega) (by omega)), if_pos (n_in (show u < 12 by omega) (by omega)), n_ixn (show l < 2147483648 by omega), n_ixn (show u < 2147483648 by omega), a2, b2]
  simp only [letV, letM, e1, e2, e3, e4, if_pos e5, c2, if_neg c3, e7]
  by_cases d0 : col < 0
  · refine ⟨m, by rw [if_pos d0], ?_, Frm.rf⟩
    intro r c hr hc
    have q := hG r c hr hc
    refine ⟨q.1, ?_, q.2.2⟩
    dsimp only
    rw [q.2.1, if_neg (fun z => by have z2 := z.2; rw [z.1, hcol] at z2; omega), Int.add_zero]
  · rw [if_neg d0]
    have q6 : iz (20 * col + (X u + k)) = nI (20 * col + (X u + k)).toNat := by rw [nI_iz]; congr 1; omega
    have hq : (20 * col + (X u + k)).toNat < 400 := by omega
    have ein : ixn (iz (20 * col + (X u + k))) = (20 * col + (X u + k)).toNat := by rw [q6, n_ixn (by omega)]
    rw [if_pos (by rw [q6]; exact n_in hq (by omega)), ein]
    generalize hs : (20 * col + (X u + k)).toNat = s at *
    refine ⟨sI m (g + 3) s (gI m (g + 3) s + 1), rfl, ?_, Frm.sIr rfl (cov6 (by omega))⟩
    intro r c hr hc
    have q := hG r c hr hc
    have ee : (20 * r + c = s) ↔ ((c : Int) = X u + k ∧ colz (Y u) (X u) (Y l) (X l) c = r) := by
      constructor
      · intro z
        have z1 : (c : Int) = X u + k := by omega
        exact ⟨z1, by rw [z1, hcol]; omega⟩
      · rintro ⟨z1, z2⟩
        rw [z1, hcol] at z2
        omega
    refine ⟨?_, ?_, ?_, ?_⟩
    · rw [gI_sI, if_neg (by omega)]; exact q.1
    · dsimp only; rw [gI_sI]
      by_cases z : 20 * r + c = s
      · rw [if_pos ⟨rfl, z⟩, if_pos (ee.mp z), ← z, q.2.1, i1, iz_add]
      · rw [if_neg (fun y => z y.2), if_neg (fun y => z (ee.mpr y)), q.2.1, Int.add_zero]
    · rw [gI_sI, if_neg (by omega)]; exact q.2.2.1
    · rw [gI_sI, if_neg (by omega)]; exact q.2.2.2
theorem cc_loop {g o n u l : Nat} {X Y : Nat → Int} {E T O : Int → Int → Int} {kx : Mem → Option Mem} (ho : g + 6 ≤ o) (hX : box X n) (hY : box Y n) (hu : u < n) (hl : l < n) (hul : X u ≤ X l) :
    ∀ (d k fu : Nat) (m : Mem) (S : Int → Int → Int), (k : Int) + d = X l - X u → d < fu → GRel m g E S T O → PolyC m o n X Y →
      ∃ m', GR_crossColumns_L22 g o (nI u) (nI l) (iz (X u)) (iz (X l - X u)) kx fu m (nI k) = kx m' ∧
        GRel m' g E (fun r c => S r c + if X u + k ≤ c ∧ c < X l ∧ colz (Y u) (X u) (Y l) (X l) c = r then 1 else 0) T O ∧ Frm [] [(g, 6)] m m'
  | 0, k, fu, m, S, hd, hf, hG, hP => by
    obtain ⟨f, rfl⟩ : ∃ f, fu = f + 1 := ⟨fu - 1, by omega⟩
    have y1 := hX u hu; have y2 := hX l hl
    refine ⟨m, by rw [GR_crossColumns_L22, if_pos (by rw [nI_iz, iz_le (by omega) (by omega)]; omega)], ?_, Frm.rf⟩
    refine hG.cong (fun _ _ => rfl) (fun r c => ?_) (fun _ _ => rfl) (fun _ _ => rfl)
    rw [if_neg (by omega)]; omega
  | d + 1, k, fu, m, S, hd, hf, hG, hP => by
    obtain ⟨f, rfl⟩ : ∃ f, fu = f + 1 := ⟨fu - 1, by omega⟩
    obtain ⟨m1, e1, G1, F1⟩ := cc_step (kx := kx) (f := f) hG hP ho hX hY hu hl (show (k : Int) < X l - X u by omega)
    obtain ⟨m2, e2, G2, F2⟩ := cc_loop (kx := kx) (E := E) (T := T) (O := O) ho hX hY hu hl hul d (k + 1) f m1 _ (by omega) (by omega) G1 (hP.fr F1 ho)
    refine ⟨m2, e1.trans e2, ?_, F1.tr F2⟩
    refine G2.cong (fun _ _ => rfl) (fun r c => ?_) (fun _ _ => rfl) (fun _ _ => rfl)
    by_cases h1 : c = X u + k
    · rw [if_neg (c := X u + ((k + 1 : Nat) : Int) ≤ c ∧ _) (by omega)]
      by_cases h2 : colz (Y u) (X u) (Y l) (X l) c = r
      · rw [if_pos ⟨h1, h2⟩, if_pos (by omega)]; omega
      · rw [if_neg (fun q => h2 q.2), if_neg (fun q => h2 q.2.2)]; omega
    · rw [if_neg (fun q => h1 q.1)]
      by_cases h2 : X u + k ≤ c ∧ c < X l ∧ colz (Y u) (X u) (Y l) (X l) c = r
      · rw [if_pos h2, if_pos (by omega)]; omega
      · rw [if_neg h2, if_neg (by omega)]; omega
theorem crossColumns_eq {m : Mem} {g o n u l : Nat} {X Y : Nat → Int} {E S T O : Int → Int → Int} (ho : g + 6 ≤ o) (hX : box X n) (hY : box Y n) (hu : u < n) (hl : l < n) (hul : X u ≤ X l) (hG : GRel m g E S T O) (hP : PolyC m o n X Y) :
    ∃ m', GR_crossColumns m g o (nI u) (nI l) = some m' ∧ GRel m' g E (fun r c => S r c + if X u ≤ c ∧ c < X l ∧ colz (Y u) (X u) (Y l) (X l) c = r then 1 else 0) T O ∧ Frm [] [(g, 6)] m m' := by
  have hn := hP.2.1
  have y1 := hX u hu; have y2 := hX l hl
  obtain ⟨m', e, G, F⟩ := cc_loop (kx := fun m5 => some m5) ho hX hY hu hl hul (X l - X u).toNat 0 FU m S (by omega) (by unfold FU; omega) hG hP
  refine ⟨m', ?_, ?_, F⟩
  · simp only [GR_crossColumns, letV]
    rw [if_pos (n_in (show u < 12 by omega) (by omega)), if_pos (n_in (show l < 12 by omega) (by omega)), n_ixn (by omega), n_ixn (by omega), (hP.2.2 u hu).1, (hP.2.2 l hl).1, iz_sub]
    exact e
  · simpa using G

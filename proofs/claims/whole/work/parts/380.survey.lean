/-! SURVEY: the class draws a line over the squares -/
def GRel (m : Mem) (g : Nat) (E S T O : Int → Int → Int) : Prop := ∀ r c : Nat, r < 20 → c < 20 → gI m (g + 2) (20 * r + c) = iz (E r c) ∧ gI m (g + 3) (20 * r + c) = iz (S r c) ∧ gI m (g + 4) (20 * r + c) = iz (T r c) ∧ gI m (g + 5) (20 * r + c) = iz (O r c)
theorem PolyC.fr {m m' : Mem} {g o n : Nat} {X Y : Nat → Int} (hF : Frm [] [(g, 6)] m m') (ho : g + 6 ≤ o) (h : PolyC m o n X Y) : PolyC m' o n X Y := by
  have key : ∀ c k, g + 6 ≤ c → gI m' c k = gI m c k := fun c k hc => (hF.1 c k rfl (fun q hq => by rw [List.mem_singleton] at hq; subst hq; exact Or.inr hc)).1
  refine ⟨by rw [key _ _ ho]; exact h.1, h.2.1, fun i hi => ?_⟩
  rw [key _ _ (by omega), key _ _ (by omega)]
  exact h.2.2 i hi
def box (X : Nat → Int) (n : Nat) : Prop := ∀ i, i < n → 0 ≤ X i ∧ X i ≤ 20
theorem cov6 {g j : Nat} (h : j < 6) : Cov [(g, 6)] (g + j) 1 := ⟨(g, 6), List.mem_singleton.mpr rfl, by show g ≤ g + j; omega, by show g + j + 1 ≤ g + 6; omega⟩
theorem al_bd {ux uy lx ly r : Int} (h : uy ≤ r ∧ r < ly) (h1 : 0 ≤ ux ∧ ux ≤ 20) (h2 : 0 ≤ lx ∧ lx ≤ 20) (h3 : 0 ≤ uy) (h4 : ly ≤ 20) : bd 2000 (alz ux uy lx ly r) := by
  have := mbd (a := 2 * (r - uy) + 1) (b := lx - ux) (A := 41) (B := 20) (by omega) (by omega)
  unfold alz
  constructor <;> omega
set_option maxHeartbeats 4000000 in
theorem cr_step {m : Mem} {g o n u l k f : Nat} {X Y : Nat → Int} {E S T O : Int → Int → Int} {t : Int} {kx : Mem → Option Mem} (hG : GRel m g E S T O) (hP : PolyC m o n X Y) (ho : g + 6 ≤ o) (hX : box X n) (hY : box Y n) (hu : u < n) (hl : l < n) (hk : (k : Int) < Y l - Y u) :
    ∃ m', GR_crossRows_L22 g o (nI u) (nI l) (iz t) (iz (Y u)) (iz (Y l - Y u)) kx (f + 1) m (nI k) = GR_crossRows_L22 g o (nI u) (nI l) (iz t) (iz (Y u)) (iz (Y l - Y u)) kx f m' (nI (k + 1)) ∧
      GRel m' g (fun r c => E r c + if r = Y u + k ∧ colz (X u) (Y u) (X l) (Y l) r = c then 1 else 0) S (fun r c => T r c + if r = Y u + k ∧ colz (X u) (Y u) (X l) (Y l) r = c then t else 0) (fun r c => if r = Y u + k ∧ alz (X u) (Y u) (X l) (Y l) r = (c - X u) * (2 * (Y l - Y u)) then 1 else O r c) ∧ Frm [] [(g, 6)] m m' := by
  have hn := hP.2.1
  obtain ⟨a1, a2, -, -⟩ := hP.2.2 u hu
  obtain ⟨b1, b2, -, -⟩ := hP.2.2 l hl
  have xu := hX u hu; have xl := hX l hl; have yu := hY u hu; have yl := hY l hl
  have hr : Y u ≤ Y u + k ∧ Y u + k < Y l := by omega
  have cb := colz_bd (ux := X u) (lx := X l) hr xu xl
  have ab := al_bd (ux := X u) (lx := X l) hr xu xl yu.1 yl.2
  have hai := fun c => alz_iff (ux := X u) (uy := Y u) (lx := X l) (ly := Y l) (c := c) (r := Y u + k) (by omega)
  generalize hcol : colz (X u) (Y u) (X l) (Y l) (Y u + k) = col at *
  generalize hal : alz (X u) (Y u) (X l) (Y l) (Y u + k) = al at *
  have e1 : ((2 * nI k + 1) * (iz (X l) - iz (X u))) - iz (Y l - Y u) = iz al := by
    rw [i2, i1, nI_iz, iz_mul, iz_add, iz_sub, iz_mul, iz_sub, ← hal]
    congr 1
    unfold alz
    rw [show Y u + (k : Int) - Y u = (k : Int) by omega]
  have e2 : 2 * iz (Y l - Y u) = iz (2 * (Y l - Y u)) := by rw [i2, iz_mul]
  have e3 : iz (X u) + JM_floorDiv (iz al - 1) (iz (2 * (Y l - Y u))) = iz col := by
    rw [i1, iz_sub, fdiv_iz (by omega) (by omega) (by omega), iz_add, ← hcol, ← hal]
    rfl
  have e4 : OH_squareAt (iz col) (iz (Y u) + nI k) = iz (20 * (Y u + k) + col) := by
    unfold OH_squareAt
    rw [k20, nI_iz, nI_iz, iz_add, iz_mul, iz_add]
    congr 1; omega
  have e5 : ¬ iz (2 * (Y l - Y u)) = 0 := by rw [i0, iz_eq (by omega) (by omega)]; omega
  have e6 : (iz col + 1) = iz (col + 1) := by rw [i1, iz_add]
  have e7 : nI k + 1 = nI (k + 1) := by rw [k1, n_add]
  have c1 : ¬ iz (Y l - Y u) ≤ nI k := by rw [nI_iz, iz_le (by omega) (by omega)]; omega
  have c2 : (iz col < 0) ↔ col < 0 := by rw [i0, iz_lt (by omega) (by omega)]
  have c3 : ¬ (20 : Int32) ≤ iz col := by rw [k20, nI_iz, iz_le (by omega) (by omega)]; omega
  have c4 : ¬ (iz (col + 1) < 0) := by rw [i0, iz_lt (by omega) (by omega)]; omega
  have c5 : ((20 : Int32) ≤ iz (col + 1)) ↔ 20 ≤ col + 1 := by rw [k20, nI_iz, iz_le (by omega) (by omega)]; omega
  have c6 : (JM_floorMod (iz al) (iz (2 * (Y l - Y u))) = 0) ↔ 2 * (Y l - Y u) ∣ al := fmod_iz (by omega) (by omega) (by omega)
  have e8 : (iz (20 * (Y u + k) + col) + 1) = iz (20 * (Y u + k) + (col + 1)) := by rw [i1, iz_add]; congr 1; omega
  -- the second half
  have J : ∀ (m1 : Mem) (kr : Mem → Int32 → Option Mem) (kx : Mem → Option Mem), ∃ m', GR_crossRows_J121 kr kx m1 g o (nI u) (nI l) (iz t) (iz (Y u)) (iz (Y l - Y u)) (nI k) (iz al) (iz col) (iz (20 * (Y u + k) + col)) = kr m' (nI (k + 1)) ∧ (m' = if col + 1 < 20 ∧ 2 * (Y l - Y u) ∣ al then sI m1 (g + 5) (20 * (Y u + k) + (col + 1)).toNat 1 else m1) := by
    intro m1 kr kx
    unfold GR_crossRows_J121
    simp only [e2, e6, e7, e8, if_neg c4, c5, c6, letM, if_pos e5]
    by_cases d1 : 20 ≤ col + 1
    · exact ⟨m1, by rw [if_pos d1], by rw [if_neg (by omega)]⟩
    · rw [if_neg d1]
      by_cases d2 : 2 * (Y l - Y u) ∣ al
      · have q : iz (20 * (Y u + k) + (col + 1)) = nI (20 * (Y u + k) + (col + 1)).toNat := by rw [nI_iz]; congr 1; omega
        refine ⟨sI m1 (g + 5) (20 * (Y u + k) + (col + 1)).toNat 1, ?_, by rw [if_pos ⟨by omega, d2⟩]⟩
        rw [if_pos d2, q, if_pos (n_in (by omega) (by omega)), n_ixn (by omega)]
      · exact ⟨m1, by rw [if_neg d2], by rw [if_neg (fun q => d2 q.2)]⟩
  have hO : ∀ (m1 m' : Mem), (∀ r c : Nat, r < 20 → c < 20 → gI m1 (g + 5) (20 * r + c) = iz (O r c)) → (m' = if col + 1 < 20 ∧ 2 * (Y l - Y u) ∣ al then sI m1 (g + 5) (20 * (Y u + k) + (col + 1)).toNat 1 else m1) → (∀ r c : Nat, r < 20 → c < 20 → gI m' (g + 5) (20 * r + c) = iz (if (r : Int) = Y u + k ∧ alz (X u) (Y u) (X l) (Y l) r = ((c : Int) - X u) * (2 * (Y l - Y u)) then 1 else O r c)) ∧ (∀ d j, d ≠ g + 5 → gI m' d j = gI m1 d j) ∧ Frm [] [(g, 6)] m1 m' := by
    intro m1 m' h1 hm
    subst hm
    by_cases d1 : col + 1 < 20 ∧ 2 * (Y l - Y u) ∣ al
    · rw [if_pos d1]
      refine ⟨fun r c hr hc => ?_, fun d j hd => by rw [gI_sI, if_neg (fun q => hd q.1)], Frm.sIr rfl (cov6 (by omega))⟩
      rw [gI_sI]
      by_cases d2 : (r : Int) = Y u + k
      · rw [d2, hal]
        by_cases d3 : (c : Int) = col + 1
        · rw [if_pos ⟨rfl, by omega⟩, if_pos ⟨rfl, (hai c).mpr ⟨d3, d1.2⟩⟩]; exact i1
        · rw [if_neg (fun q => by have := q.2; omega), if_neg (fun q => d3 ((hai c).mp q.2).1), h1 r c hr hc, d2]
      · rw [if_neg (fun q => by have := q.2; omega), if_neg (fun q => d2 q.1), h1 r c hr hc]
    · rw [if_neg d1]
      refine ⟨fun r c hr hc => ?_, fun _ _ _ => rfl, Frm.rf⟩
      by_cases d2 : (r : Int) = Y u + k
      · rw [d2, hal, if_neg (fun q => d1 ⟨by have := ((hai c).mp q.2).1; omega, ((hai c).mp q.2).2⟩), h1 r c hr hc, d2]
      · rw [if_neg (fun q => d2 q.1), h1 r c hr hc]
  have ej : n_ixn (show u < 2147483648 by omega) = n_ixn (show u < 2147483648 by omega) := rfl
  rw [GR_crossRows_L22, if_neg c1, if_pos (n_in (show l < 12 by omega) (by omega)), if_pos (n_in (show u < 12 by omega) (by omega)), n_ixn (show l < 2147483648 by omega), n_ixn (show u < 2147483648 by omega), a1, b1]
  simp only [letV, letM, e1, e2, e3, e4, if_pos e5, c2, if_neg c3]
  by_cases d0 : col < 0
  · rw [if_pos d0]
    obtain ⟨m', j1, j2⟩ := J m (GR_crossRows_L22 g o (nI u) (nI l) (iz t) (iz (Y u)) (iz (Y l - Y u)) kx f) kx
    obtain ⟨o1, o2, o3⟩ := hO m m' (fun r c hr hc => (hG r c hr hc).2.2.2) j2
    refine ⟨m', j1, fun r c hr hc => ?_, o3⟩
    have q := hG r c hr hc
    refine ⟨?_, ?_, ?_, o1 r c hr hc⟩
    · dsimp only; rw [o2 _ _ (by omega), q.1, if_neg (fun z => by have z2 := z.2; rw [z.1, hcol] at z2; omega), Int.add_zero]
    · rw [o2 _ _ (by omega)]; exact q.2.1
    · dsimp only; rw [o2 _ _ (by omega), q.2.2.1, if_neg (fun z => by have z2 := z.2; rw [z.1, hcol] at z2; omega), Int.add_zero]
  · rw [if_neg d0]
    have q6 : iz (20 * (Y u + k) + col) = nI (20 * (Y u + k) + col).toNat := by rw [nI_iz]; congr 1; omega
    have hq : (20 * (Y u + k) + col).toNat < 400 := by omega
    have ein : ixn (iz (20 * (Y u + k) + col)) = (20 * (Y u + k) + col).toNat := by rw [q6, n_ixn (by omega)]
    rw [if_pos (by rw [q6]; exact n_in hq (by omega)), ein]
    generalize hs : (20 * (Y u + k) + col).toNat = s at *
    obtain ⟨m', j1, j2⟩ := J (sI (sI m (g + 2) s (gI m (g + 2) s + 1)) (g + 4) s (gI (sI m (g + 2) s (gI m (g + 2) s + 1)) (g + 4) s + iz t)) (GR_crossRows_L22 g o (nI u) (nI l) (iz t) (iz (Y u)) (iz (Y l - Y u)) kx f) kx
    obtain ⟨o1, o2, o3⟩ := hO _ m' (fun r c hr hc => by rw [gI_sI, if_neg (by omega), gI_sI, if_neg (by omega)]; exact (hG r c hr hc).2.2.2) j2
    refine ⟨m', j1, fun r c hr hc => ?_, ((Frm.sIr rfl (cov6 (by omega))).tr (Frm.sIr rfl (cov6 (by omega)))).tr o3⟩
    have q := hG r c hr hc
    have ee : (20 * r + c = s) ↔ ((r : Int) = Y u + k ∧ colz (X u) (Y u) (X l) (Y l) r = c) := by
      constructor
      · intro z
        have z1 : (r : Int) = Y u + k := by omega
        exact ⟨z1, by rw [z1, hcol]; omega⟩
      · rintro ⟨z1, z2⟩
        rw [z1, hcol] at z2
        omega
    refine ⟨?_, ?_, ?_, o1 r c hr hc⟩
    · dsimp only; rw [o2 _ _ (by omega), gI_sI, if_neg (by omega), gI_sI]
      by_cases z : 20 * r + c = s
      · rw [if_pos ⟨rfl, z⟩, if_pos (ee.mp z), ← z, q.1, i1, iz_add]
      · rw [if_neg (fun y => z y.2), if_neg (fun y => z (ee.mpr y)), q.1, Int.add_zero]
    · rw [o2 _ _ (by omega), gI_sI, if_neg (by omega), gI_sI, if_neg (by omega)]; exact q.2.1
    · dsimp only; rw [o2 _ _ (by omega), gI_sI]
      by_cases z : 20 * r + c = s
      · rw [if_pos ⟨rfl, z⟩, if_pos (ee.mp z), ← z, gI_sI, if_neg (by omega), q.2.2.1, iz_add]
      · rw [if_neg (fun y => z y.2), if_neg (fun y => z (ee.mpr y)), gI_sI, if_neg (by omega), q.2.2.1, Int.add_zero]

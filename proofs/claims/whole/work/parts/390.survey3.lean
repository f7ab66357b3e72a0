/-- what an edge adds: crossed on the way east, and so signed -/
def cE (ax ay bx by' r c : Int) : Int := if ay < by' then (if ay ≤ r ∧ r < by' ∧ colz ax ay bx by' r = c then 1 else 0) else (if by' ≤ r ∧ r < ay ∧ colz bx by' ax ay r = c then 1 else 0)
def cT (ax ay bx by' r c : Int) : Int := if ay < by' then (if ay ≤ r ∧ r < by' ∧ colz ax ay bx by' r = c then 1 else 0) else (if by' ≤ r ∧ r < ay ∧ colz bx by' ax ay r = c then -1 else 0)
def sE (U V : Nat → Int) (r c : Int) : Nat → Int
  | 0 => 0
  | i + 1 => sE U V r c i + cE (U i) (V i) (U (i + 1)) (V (i + 1)) r c
def sT (U V : Nat → Int) (r c : Int) : Nat → Int
  | 0 => 0
  | i + 1 => sT U V r c i + cT (U i) (V i) (U (i + 1)) (V (i + 1)) r c
def onM (U V : Nat → Int) (r c : Int) (i : Nat) : Bool := onP (fun i => 2 * U i) (fun i => 2 * V i) (2 * c + 1) (2 * r + 1) i
theorem onZ_mid (ax ay bx by' c r : Int) : onZ (2 * ax) (2 * ay) (2 * bx) (2 * by') (2 * c + 1) (2 * r + 1) = if ay < by' then decide ((ay ≤ r ∧ r < by') ∧ alz ax ay bx by' r = (c - ax) * (2 * (by' - ay))) else decide ((by' ≤ r ∧ r < ay) ∧ alz bx by' ax ay r = (c - bx) * (2 * (ay - by'))) := by
  by_cases h : ay < by'
  · rw [if_pos h, onZ_down h]
  · rw [if_neg h]
    by_cases h2 : by' < ay
    · rw [onZ_rev, onZ_down h2]
    · obtain rfl : ay = by' := by omega
      rw [onZ_flat, decide_eq_false (by omega)]
theorem sv_edge {m : Mem} {g o n i f : Nat} {X Y : Nat → Int} {lw ed : Int32} {kx : Mem → Option Mem} (ho : g + 6 ≤ o) (hX : box X n) (hY : box Y n) (hi : i < n) (hP : PolyC m o n X Y)
    (hG : GRel m g (fun r c => sE (clz n X) (clz n Y) r c i) (fun r c => sE (clz n Y) (clz n X) c r i) (fun r c => sT (clz n X) (clz n Y) r c i) (fun r c => if onM (clz n X) (clz n Y) r c i then 1 else 0)) :
    ∃ m', GR_survey_L35 g o lw ed kx (f + 1) m (nI i) = GR_survey_L35 g o lw ed kx f m' (nI (i + 1)) ∧ GRel m' g (fun r c => sE (clz n X) (clz n Y) r c (i + 1)) (fun r c => sE (clz n Y) (clz n X) c r (i + 1)) (fun r c => sT (clz n X) (clz n Y) r c (i + 1)) (fun r c => if onM (clz n X) (clz n Y) r c (i + 1) then 1 else 0) ∧ Frm [] [(g, 6)] m m' := by
  have hn := hP.2.1
  have hj := nx_lt hi
  have eX : clz n X i = X i := clz_lt hi
  have eY : clz n Y i = Y i := clz_lt hi
  have eX2 : clz n X (i + 1) = X (nx n i) := clz_nx hi
  have eY2 : clz n Y (i + 1) = Y (nx n i) := clz_nx hi
  have e7 : nI i + 1 = nI (i + 1) := by rw [k1, n_add]
  have x1 := hX i hi; have x2 := hX _ hj; have y1 := hY i hi; have y2 := hY _ hj
  -- rows
  have rows : ∃ m1, (if (gI m (o + 2) (nx n i)) ≤ (gI m (o + 2) i) then GR_crossRows m g o (nI (nx n i)) (nI i) (-1) else GR_crossRows m g o (nI i) (nI (nx n i)) 1) = some m1 ∧ GRel m1 g (fun r c => sE (clz n X) (clz n Y) r c (i + 1)) (fun r c => sE (clz n Y) (clz n X) c r i) (fun r c => sT (clz n X) (clz n Y) r c (i + 1)) (fun r c => if onM (clz n X) (clz n Y) r c (i + 1) then 1 else 0) ∧ Frm [] [(g, 6)] m m1 := by
    rw [(hP.2.2 i hi).2.1, (hP.2.2 _ hj).2.1]
    by_cases hc : Y (nx n i) ≤ Y i
    · rw [if_pos (by rw [iz_le (by omega) (by omega)]; exact hc), im1]
      obtain ⟨m1, q1, q2, q3⟩ := crossRows_eq (t := -1) ho hX hY hj hi hc hG hP
      refine ⟨m1, q1, q2.cong (fun r c => ?_) (fun _ _ => rfl) (fun r c => ?_) (fun r c => ?_), q3⟩
      · simp only [sE, cE]; rw [eX, eY, eX2, eY2, if_neg (show ¬ Y i < Y (nx n i) by omega)]
      · simp only [sT, cT]; rw [eX, eY, eX2, eY2, if_neg (show ¬ Y i < Y (nx n i) by omega)]
      · have : onM (clz n X) (clz n Y) r c (i + 1) = (onM (clz n X) (clz n Y) r c i || decide ((Y (nx n i) ≤ r ∧ r < Y i) ∧ alz (X (nx n i)) (Y (nx n i)) (X i) (Y i) r = (c - X (nx n i)) * (2 * (Y i - Y (nx n i))))) := by
          unfold onM; simp only [onP]; rw [onZ_mid, eX, eY, eX2, eY2, if_neg (show ¬ Y i < Y (nx n i) by omega)]
        rw [this]
        by_cases hz : (Y (nx n i) ≤ r ∧ r < Y i) ∧ alz (X (nx n i)) (Y (nx n i)) (X i) (Y i) r = (c - X (nx n i)) * (2 * (Y i - Y (nx n i)))
        · rw [if_pos hz, decide_eq_true hz, Bool.or_true, if_pos rfl]
        · rw [if_neg hz, decide_eq_false hz, Bool.or_false]
    · rw [if_neg (by rw [iz_le (by omega) (by omega)]; exact hc), i1]
      obtain ⟨m1, q1, q2, q3⟩ := crossRows_eq (t := 1) ho hX hY hi hj (by omega) hG hP
      refine ⟨m1, q1, q2.cong (fun r c => ?_) (fun _ _ => rfl) (fun r c => ?_) (fun r c => ?_), q3⟩
      · simp only [sE, cE]; rw [eX, eY, eX2, eY2, if_pos (show Y i < Y (nx n i) by omega)]
      · simp only [sT, cT]; rw [eX, eY, eX2, eY2, if_pos (show Y i < Y (nx n i) by omega)]
      · have : onM (clz n X) (clz n Y) r c (i + 1) = (onM (clz n X) (clz n Y) r c i || decide ((Y i ≤ r ∧ r < Y (nx n i)) ∧ alz (X i) (Y i) (X (nx n i)) (Y (nx n i)) r = (c - X i) * (2 * (Y (nx n i) - Y i)))) := by
          unfold onM; simp only [onP]; rw [onZ_mid, eX, eY, eX2, eY2, if_pos (show Y i < Y (nx n i) by omega)]
        rw [this]
        by_cases hz : (Y i ≤ r ∧ r < Y (nx n i)) ∧ alz (X i) (Y i) (X (nx n i)) (Y (nx n i)) r = (c - X i) * (2 * (Y (nx n i) - Y i))
        · rw [if_pos hz, decide_eq_true hz, Bool.or_true, if_pos rfl]
        · rw [if_neg hz, decide_eq_false hz, Bool.or_false]
  obtain ⟨m1, r1', r2, r3⟩ := rows
  have hP1 := hP.fr r3 ho
  have cols : ∃ m2, (if (gI m1 (o + 1) (nx n i)) ≤ (gI m1 (o + 1) i) then GR_crossColumns m1 g o (nI (nx n i)) (nI i) else GR_crossColumns m1 g o (nI i) (nI (nx n i))) = some m2 ∧ GRel m2 g (fun r c => sE (clz n X) (clz n Y) r c (i + 1)) (fun r c => sE (clz n Y) (clz n X) c r (i + 1)) (fun r c => sT (clz n X) (clz n Y) r c (i + 1)) (fun r c => if onM (clz n X) (clz n Y) r c (i + 1) then 1 else 0) ∧ Frm [] [(g, 6)] m1 m2 := by
    rw [(hP1.2.2 i hi).1, (hP1.2.2 _ hj).1]
    by_cases hc : X (nx n i) ≤ X i
    · rw [if_pos (by rw [iz_le (by omega) (by omega)]; exact hc)]
      obtain ⟨m2, q1, q2, q3⟩ := crossColumns_eq ho hX hY hj hi hc r2 hP1
      refine ⟨m2, q1, q2.cong (fun _ _ => rfl) (fun r c => ?_) (fun _ _ => rfl) (fun _ _ => rfl), q3⟩
      simp only [sE, cE]; rw [eX, eY, eX2, eY2, if_neg (show ¬ X i < X (nx n i) by omega)]
    · rw [if_neg (by rw [iz_le (by omega) (by omega)]; exact hc)]
      obtain ⟨m2, q1, q2, q3⟩ := crossColumns_eq ho hX hY hi hj (by omega) r2 hP1
      refine ⟨m2, q1, q2.cong (fun _ _ => rfl) (fun r c => ?_) (fun _ _ => rfl) (fun _ _ => rfl), q3⟩
      simp only [sE, cE]; rw [eX, eY, eX2, eY2, if_pos (show X i < X (nx n i) by omega)]
  obtain ⟨m2, t1, t2, t3⟩ := cols
  refine ⟨m2, ?_, t2, r3.tr t3⟩
  rw [GR_survey_L35, hP.1, if_neg (by rw [n_le (by omega) (by omega)]; omega)]
  simp only [letV]
  rw [LN_after_eq hP hi, if_pos (n_in (show i < 12 by omega) (by omega)), if_pos (n_in (show nx n i < 12 by omega) (by omega)), n_ixn (by omega), n_ixn (by omega)]
  have J : ∀ kr kx, GR_survey_J92 kr kx m1 g o lw ed (nI i) (nI (nx n i)) = kr m2 (nI (i + 1)) := by
    intro kr kx
    unfold GR_survey_J92
    rw [if_pos (n_in (show i < 12 by omega) (by omega)), if_pos (n_in (show nx n i < 12 by omega) (by omega)), n_ixn (by omega), n_ixn (by omega), e7]
    by_cases hc : (gI m1 (o + 1) (nx n i)) ≤ (gI m1 (o + 1) i)
    · rw [if_pos hc] at t1 ⊢; rw [t1]; rfl
    · rw [if_neg hc] at t1 ⊢; rw [t1]; rfl
  by_cases hc : (gI m (o + 2) (nx n i)) ≤ (gI m (o + 2) i)
  · rw [if_pos hc] at r1' ⊢; rw [r1']; exact J _ kx
  · rw [if_neg hc] at r1' ⊢; rw [r1']; exact J _ kx
theorem sv_loop {g o n : Nat} {X Y : Nat → Int} {lw ed : Int32} {kx : Mem → Option Mem} (ho : g + 6 ≤ o) (hX : box X n) (hY : box Y n) :
    ∀ (d i fu : Nat) (m : Mem), i + d = n → d < fu → PolyC m o n X Y → GRel m g (fun r c => sE (clz n X) (clz n Y) r c i) (fun r c => sE (clz n Y) (clz n X) c r i) (fun r c => sT (clz n X) (clz n Y) r c i) (fun r c => if onM (clz n X) (clz n Y) r c i then 1 else 0) →
      ∃ m', GR_survey_L35 g o lw ed kx fu m (nI i) = kx m' ∧ GRel m' g (fun r c => sE (clz n X) (clz n Y) r c n) (fun r c => sE (clz n Y) (clz n X) c r n) (fun r c => sT (clz n X) (clz n Y) r c n) (fun r c => if onM (clz n X) (clz n Y) r c n then 1 else 0) ∧ Frm [] [(g, 6)] m m'
  | 0, i, fu, m, hd, hf, hP, hG => by
    obtain ⟨f, rfl⟩ : ∃ f, fu = f + 1 := ⟨fu - 1, by omega⟩
    have hn := hP.2.1
    obtain rfl : i = n := by omega
    exact ⟨m, by rw [GR_survey_L35, hP.1, if_pos (by rw [n_le (by omega) (by omega)]; omega)], hG, Frm.rf⟩
  | d + 1, i, fu, m, hd, hf, hP, hG => by
    obtain ⟨f, rfl⟩ : ∃ f, fu = f + 1 := ⟨fu - 1, by omega⟩
    obtain ⟨m1, e1, G1, F1⟩ := sv_edge (lw := lw) (ed := ed) (kx := kx) (f := f) ho hX hY (show i < n by omega) hP hG
    obtain ⟨m2, e2, G2, F2⟩ := sv_loop (lw := lw) (ed := ed) (kx := kx) ho hX hY d (i + 1) f m1 (by omega) (by omega) (hP.fr F1 ho) G1
    exact ⟨m2, e1.trans e2, G2, F1.tr F2⟩
/-! fill -/
theorem fl_loop {a L : Nat} {v : Int32} {kx : Mem → Option Mem} (hs : shp a = (100, L)) (hL : L < 2147483648) :
    ∀ (d i fu : Nat) (m : Mem), i + d = L → d < fu → ∃ m', JA_fill_L5 a v (nI L) kx fu m (nI i) = kx m' ∧ (∀ c j, gI m' c j = if c = a ∧ i ≤ j ∧ j < L then v else gI m c j) ∧ (∀ c j, gJ m' c j = gJ m c j) ∧ m'.2.2 = m.2.2
  | 0, i, fu, m, hd, hf => by
    obtain ⟨f, rfl⟩ : ∃ f, fu = f + 1 := ⟨fu - 1, by omega⟩
    exact ⟨m, by rw [JA_fill_L5, if_pos (by rw [n_le (by omega) (by omega)]; omega)], fun c j => by rw [if_neg (by omega)], fun _ _ => rfl, rfl⟩
  | d + 1, i, fu, m, hd, hf => by
    obtain ⟨f, rfl⟩ : ∃ f, fu = f + 1 := ⟨fu - 1, by omega⟩
    obtain ⟨m', e, h1, h2, h3⟩ := fl_loop (v := v) (kx := kx) hs hL d (i + 1) f (sI m a i v) (by omega) (by omega)
    refine ⟨m', ?_, fun c j => ?_, fun c j => by rw [h2, gJ_sI], h3⟩
    · rw [JA_fill_L5, if_neg (by rw [n_le (by omega) (by omega)]; omega), hs, if_pos (n_in (by omega) (by omega)), n_ixn (by omega), show nI i + 1 = nI (i + 1) by rw [k1, n_add]]
      exact e
    · rw [h1, gI_sI]
      by_cases hc : c = a
      · by_cases hj : j = i
        · rw [if_neg (by omega), if_pos ⟨hc, hj⟩, if_pos (by omega)]
        · by_cases hr : i ≤ j ∧ j < L
          · rw [if_pos (by omega), if_pos (by omega)]
          · rw [if_neg (by omega), if_neg (by omega), if_neg (by omega)]
      · rw [if_neg (fun q => hc q.1), if_neg (fun q => hc q.1), if_neg (fun q => hc q.1)]
theorem fill_eq {m : Mem} {a L : Nat} {v : Int32} (hs : shp a = (100, L)) (hL : L < 100000) : ∃ m', JA_fill m a v = some m' ∧ (∀ c j, gI m' c j = if c = a ∧ j < L then v else gI m c j) ∧ Frm [] [(a, 1)] m m' := by
  obtain ⟨m', e, h1, h2, h3⟩ := fl_loop (v := v) (kx := fun m2 => some m2) hs (by omega) L 0 FU m (by omega) (by unfold FU; omega)
  refine ⟨m', ?_, fun c j => by rw [h1]; simp, fun c k _ hR => ⟨?_, h2 c k⟩, h3⟩
  · unfold JA_fill letV
    rw [hs]
    exact e
  · rw [h1, if_neg]
    have := hR (a, 1) (List.mem_singleton.mpr rfl)
    dsimp only at this
    omega

def rndM (U V : Nat → Int) (r c : Int) (n : Nat) : Int := rndP (fun i => 2 * U i) (fun i => 2 * V i) (2 * c + 1) (2 * r + 1) n
def hisM (lw ed : Int32) (U V : Nat → Int) (r c : Int) (n : Nat) : Bool := hisP lw ed (fun i => 2 * U i) (fun i => 2 * V i) (2 * c + 1) (2 * r + 1) n
theorem r1_suf (ax ay bx by' c r : Int) : r1 (2 * ax) (2 * ay) (2 * bx) (2 * by') (2 * c + 1) (2 * r + 1) = r1 (2 * ax) (2 * ay) (2 * bx) (2 * by') (2 * (c + 1) + 1) (2 * r + 1) + cT ax ay bx by' r c := by
  rw [r1_mid, r1_mid]
  unfold cT
  by_cases h : ay < by'
  · rw [if_pos h]
    by_cases h1 : ay ≤ r ∧ r < by'
    · rw [if_pos h1, if_pos h1]
      by_cases h2 : colz ax ay bx by' r = c
      · rw [if_pos (by omega), if_neg (by omega), if_pos ⟨h1.1, h1.2, h2⟩]; omega
      · rw [if_neg (c := ay ≤ r ∧ _) (fun q => h2 q.2.2)]
        by_cases h3 : c ≤ colz ax ay bx by' r
        · rw [if_pos h3, if_pos (by omega)]; omega
        · rw [if_neg h3, if_neg (by omega)]; omega
    · rw [if_neg h1, if_neg h1, if_neg (by omega), if_neg (by omega), if_neg (fun q => h1 ⟨q.1, q.2.1⟩)]; omega
  · simp only [if_neg h, if_neg (show ¬ (ay ≤ r ∧ r < by') by omega)]
    by_cases h1 : by' ≤ r ∧ r < ay
    · rw [if_pos h1, if_pos h1]
      by_cases h2 : colz bx by' ax ay r = c
      · rw [if_pos (by omega), if_neg (by omega), if_pos ⟨h1.1, h1.2, h2⟩]; omega
      · rw [if_neg (c := by' ≤ r ∧ _) (fun q => h2 q.2.2)]
        by_cases h3 : c ≤ colz bx by' ax ay r
        · rw [if_pos h3, if_pos (by omega)]; omega
        · rw [if_neg h3, if_neg (by omega)]; omega
    · rw [if_neg h1, if_neg h1, if_neg (fun q => h1 ⟨q.1, q.2.1⟩)]; omega
theorem rnd_suf (U V : Nat → Int) (r c : Int) : ∀ n : Nat, rndM U V r c n = rndM U V r (c + 1) n + sT U V r c n
  | 0 => rfl
  | n + 1 => by
    have h := rnd_suf U V r c n
    unfold rndM at h ⊢
    simp only [rndP, sT]
    rw [h, r1_suf]
    omega
theorem rnd_20 (U V : Nat → Int) (r : Int) : ∀ n : Nat, (∀ i, i ≤ n → (0 ≤ U i ∧ U i ≤ 20)) → rndM U V r 20 n = 0
  | 0, _ => rfl
  | n + 1, hU => by
    have h := rnd_20 U V r n (fun i hi => hU i (by omega))
    have a := hU n (by omega)
    have b := hU (n + 1) (by omega)
    unfold rndM at h ⊢
    simp only [rndP]
    rw [h, r1_mid]
    split
    · rename_i q
      have := colz_bd (ux := U n) (lx := U (n + 1)) q a b
      rw [if_neg (by omega)]; rfl
    · split
      · rename_i q
        have := colz_bd (ux := U (n + 1)) (lx := U n) q b a
        rw [if_neg (by omega)]; rfl
      · rfl
theorem clz_box {n : Nat} {X : Nat → Int} (h : box X n) (hn : n = 0 → X 0 = 0) : ∀ i, 0 ≤ clz n X i ∧ clz n X i ≤ 20 := by
  intro i
  unfold clz
  split
  · exact h i (by assumption)
  · rcases Nat.eq_zero_or_pos n with h0 | h0
    · rw [hn h0]; omega
    · exact h 0 h0
theorem own_loop {g r n : Nat} {U V : Nat → Int} {E S : Int → Int → Int} {lw ed : Int32} {kx : Mem → Option Mem} (hr : r < 20) (hn : n ≤ 12) (hed : ed = 0 ∨ ed = 1) :
    ∀ (d fu : Nat) (m : Mem), d ≤ 20 → d < fu → GRel m g E S (fun r c => sT U V r c n) (fun r c => if onM U V r c n then 1 else 0) →
      ∃ m', GR_ownRow_L11 g (nI (20 * r)) lw ed kx fu m (iz (rndM U V r d n)) (iz (20 * r + d - 1)) = kx m' ∧ (∀ c : Nat, c < d → gI m' (g + 1) (20 * r + c) = b2i (hisM lw ed U V r c n)) ∧ (∀ s : Nat, (s < 20 * r ∨ 20 * r + d ≤ s) → gI m' (g + 1) s = gI m (g + 1) s) ∧ (∀ c j, c ≠ g + 1 → gI m' c j = gI m c j) ∧ Frm [] [(g, 6)] m m'
  | 0, fu, m, hd, hf, hG => by
    obtain ⟨f, rfl⟩ : ∃ f, fu = f + 1 := ⟨fu - 1, by omega⟩
    exact ⟨m, by rw [GR_ownRow_L11, if_pos (by rw [nI_iz, iz_lt (by omega) (by omega)]; omega)], fun c hc => by omega, fun _ _ => rfl, fun _ _ _ => rfl, Frm.rf⟩
  | d + 1, fu, m, hd, hf, hG => by
    obtain ⟨f, rfl⟩ : ∃ f, fu = f + 1 := ⟨fu - 1, by omega⟩
    have q := hG r d hr (by omega)
    have ei : iz (20 * (r : Int) + ((d + 1 : Nat) : Int) - 1) = nI (20 * r + d) := by rw [nI_iz]; congr 1; omega
    have es : nI (20 * r + d) + -1 = iz (20 * (r : Int) + d - 1) := by rw [im1, nI_iz, iz_add]; congr 1
    have et : iz (rndM U V r ((d + 1 : Nat) : Int) n) + gI m (g + 4) (20 * r + d) = iz (rndM U V r d n) := by
      rw [q.2.2.1, iz_add, rnd_suf U V r d n]; rfl
    have hb : bd 12 (rndM U V r d n) := by
      have := rndP_bd (fun i => 2 * U i) (fun i => 2 * V i) (2 * (d : Int) + 1) (2 * (r : Int) + 1) n
      unfold rndM; omega
    have hv : ∃ v, v = b2i (hisM lw ed U V r d n) ∧ GR_ownRow_L11 g (nI (20 * r)) lw ed kx (f + 1) m (iz (rndM U V r ((d + 1 : Nat) : Int) n)) (nI (20 * r + d)) = GR_ownRow_L11 g (nI (20 * r)) lw ed kx f (sI m (g + 1) (20 * r + d) v) (iz (rndM U V r d n)) (iz (20 * (r : Int) + d - 1)) := by
      rw [GR_ownRow_L11, if_neg (by rw [n_lt (by omega) (by omega)]; omega), if_pos (n_in (by omega) (by omega)), n_ixn (by omega)]
      simp only [letV, letM, et, es, q.2.2.2, OH_isHis_eq (law := lw) (show bd 20 (rndM U V r d n) by omega)]
      unfold hisM hisP
      rw [show onP (fun i => 2 * U i) (fun i => 2 * V i) (2 * (d : Int) + 1) (2 * (r : Int) + 1) n = onM U V r d n from rfl, show rndP (fun i => 2 * U i) (fun i => 2 * V i) (2 * (d : Int) + 1) (2 * (r : Int) + 1) n = rndM U V r d n from rfl]
      cases onM U V r d n with
      | true =>
        rw [if_neg (show ¬ iz (if true = true then 1 else 0) = 0 by decide)]
        refine ⟨ed, ?_, rfl⟩
        rcases hed with rfl | rfl <;> rfl
      | false =>
        rw [if_pos (show iz (if false = true then 1 else 0) = 0 by decide), if_neg (show ¬ false = true by decide)]
        generalize (if lw = 0 then decide (rndM U V r d n % 2 = 1) else if lw = 1 then decide (rndM U V r d n ≠ 0) else decide (0 < rndM U V r d n)) = b
        cases b with
        | true => exact ⟨1, rfl, by rw [if_neg (by decide)]⟩
        | false => exact ⟨0, rfl, by rw [if_pos (by decide)]⟩
    obtain ⟨v, hv1, hv2⟩ := hv
    have G1 : GRel (sI m (g + 1) (20 * r + d) v) g E S (fun r c => sT U V r c n) (fun r c => if onM U V r c n then 1 else 0) := by
      intro a b ha hb
      rw [gI_sI, if_neg (by omega), gI_sI, if_neg (by omega), gI_sI, if_neg (by omega), gI_sI, if_neg (by omega)]
      exact hG a b ha hb
    obtain ⟨m', e, h1, h2, h3, h4⟩ := own_loop (E := E) (S := S) (lw := lw) (ed := ed) (kx := kx) hr hn hed d f (sI m (g + 1) (20 * r + d) v) (by omega) (by omega) G1
    refine ⟨m', by rw [ei, hv2]; exact e, fun c hc => ?_, fun s hs => ?_, fun c j hc => ?_, (Frm.sIr rfl (cov6 (by omega))).tr h4⟩
    · by_cases hcd : c = d
      · subst hcd; rw [h2 _ (by omega), gI_sI, if_pos ⟨rfl, rfl⟩]; exact hv1
      · exact h1 c (by omega)
    · rw [h2 s (by omega), gI_sI, if_neg (by omega)]
    · rw [h3 c j hc, gI_sI, if_neg (fun z => hc z.1)]
theorem GRel.keep {m m' : Mem} {g : Nat} {E S T O : Int → Int → Int} (h : GRel m g E S T O) (h3 : ∀ c j, c ≠ g + 1 → gI m' c j = gI m c j) : GRel m' g E S T O := by
  intro r c hr hc
  rw [h3 _ _ (by omega), h3 _ _ (by omega), h3 _ _ (by omega), h3 _ _ (by omega)]
  exact h r c hr hc
theorem rows_loop {g n : Nat} {U V : Nat → Int} {E S : Int → Int → Int} {lw ed : Int32} (hn : n ≤ 12) (hed : ed = 0 ∨ ed = 1) (hU : ∀ i, 0 ≤ U i ∧ U i ≤ 20) :
    ∀ (d r fu : Nat) (m : Mem), r + d = 20 → d < fu → GRel m g E S (fun r c => sT U V r c n) (fun r c => if onM U V r c n then 1 else 0) → (∀ a c : Nat, a < r → c < 20 → gI m (g + 1) (20 * a + c) = b2i (hisM lw ed U V a c n)) →
      ∃ m', GR_survey_L139 g lw ed (fun m10 => some m10) fu m (nI r) = some m' ∧ (∀ a c : Nat, a < 20 → c < 20 → gI m' (g + 1) (20 * a + c) = b2i (hisM lw ed U V a c n)) ∧ GRel m' g E S (fun r c => sT U V r c n) (fun r c => if onM U V r c n then 1 else 0) ∧ Frm [] [(g, 6)] m m'
  | 0, r, fu, m, hd, hf, hG, hh => by
    obtain ⟨f, rfl⟩ : ∃ f, fu = f + 1 := ⟨fu - 1, by omega⟩
    obtain rfl : r = 20 := by omega
    exact ⟨m, by rw [GR_survey_L139, if_pos (by decide)], hh, hG, Frm.rf⟩
  | d + 1, r, fu, m, hd, hf, hG, hh => by
    obtain ⟨f, rfl⟩ : ∃ f, fu = f + 1 := ⟨fu - 1, by omega⟩
    obtain ⟨m1, e, h1, h2, h3, h4⟩ := own_loop (r := r) (lw := lw) (ed := ed) (kx := fun m2 => some m2) (by omega) hn hed 20 FU m (by omega) (by unfold FU; omega) hG
    have er : GR_ownRow m g (nI r * 20) lw ed = some m1 := by
      unfold GR_ownRow letV
      rw [show nI r * 20 = nI (20 * r) by rw [k20, n_mul, Nat.mul_comm]]
      have e0 : (0 : Int32) = iz (rndM U V r ((20 : Nat) : Int) n) := by rw [show ((20 : Nat) : Int) = 20 from rfl, rnd_20 U V r n (fun i _ => hU i)]; exact i0
      have e1 : (nI (20 * r) + 20) - 1 = iz (20 * (r : Int) + ((20 : Nat) : Int) - 1) := by rw [k20, n_add, i1, nI_iz, iz_sub]; congr 1
      rw [e1]
      conv => lhs; rw [e0]
      exact e
    have G1 := hG.keep h3
    obtain ⟨m2, e2, p1, p2, p3⟩ := rows_loop (E := E) (S := S) (lw := lw) (ed := ed) hn hed hU d (r + 1) f m1 (by omega) (by omega) G1 (fun a c ha hc => by
      by_cases har : a = r
      · subst har; exact h1 c hc
      · rw [h2 _ (by omega)]; exact hh a c (by omega) hc)
    refine ⟨m2, ?_, p1, p2, h4.tr p3⟩
    rw [GR_survey_L139, if_neg (by rw [k20, n_le (by omega) (by omega)]; omega), er, show nI r + 1 = nI (r + 1) by rw [k1, n_add]]
    exact e2
theorem survey_eq {m : Mem} {g o n : Nat} {X Y : Nat → Int} {lw ed : Int32} (hg : shp g = (1, 0)) (ho : g + 6 ≤ o) (hX : box X n) (hY : box Y n) (hn0 : n = 0 → X 0 = 0) (hP : PolyC m o n X Y) (hed : ed = 0 ∨ ed = 1) :
    ∃ m', GR_survey m g o lw ed = some m' ∧ (∀ r c : Nat, r < 20 → c < 20 → gI m' (g + 1) (20 * r + c) = b2i (hisM lw ed (clz n X) (clz n Y) r c n)) ∧ GRel m' g (fun r c => sE (clz n X) (clz n Y) r c n) (fun r c => sE (clz n Y) (clz n X) c r n) (fun r c => sT (clz n X) (clz n Y) r c n) (fun r c => if onM (clz n X) (clz n Y) r c n then 1 else 0) ∧ Frm [] [(g, 6)] m m' := by
  have hn := hP.2.1
  have up : ∀ j, j < 6 → ∀ a b : Mem, Frm [] [(g + j, 1)] a b → Frm [] [(g, 6)] a b := fun j hj a b h => h.up (fa1 (Or.inl (cov6 hj)))
  obtain ⟨m1, e1, f1, F1⟩ := fill_eq (m := m) (v := 0) (shc_1_1 hg) (by omega)
  obtain ⟨m2, e2, f2, F2⟩ := fill_eq (m := m1) (v := 0) (shc_1_2 hg) (by omega)
  obtain ⟨m3, e3, f3, F3⟩ := fill_eq (m := m2) (v := 0) (shc_1_3 hg) (by omega)
  obtain ⟨m4, e4, f4, F4⟩ := fill_eq (m := m3) (v := 0) (shc_1_4 hg) (by omega)
  have F : Frm [] [(g, 6)] m m4 := (up 2 (by omega) _ _ F1).tr ((up 3 (by omega) _ _ F2).tr ((up 4 (by omega) _ _ F3).tr (up 5 (by omega) _ _ F4)))
  have G0 : GRel m4 g (fun r c => sE (clz n X) (clz n Y) r c 0) (fun r c => sE (clz n Y) (clz n X) c r 0) (fun r c => sT (clz n X) (clz n Y) r c 0) (fun r c => if onM (clz n X) (clz n Y) r c 0 then 1 else 0) := by
    intro r c hr hc
    refine ⟨?_, ?_, ?_, ?_⟩
    · rw [f4, if_neg (by omega), f3, if_neg (by omega), f2, if_neg (by omega), f1, if_pos ⟨rfl, by omega⟩]; exact i0
    · rw [f4, if_neg (by omega), f3, if_neg (by omega), f2, if_pos ⟨rfl, by omega⟩]; exact i0
    · rw [f4, if_neg (by omega), f3, if_pos ⟨rfl, by omega⟩]; exact i0
    · rw [f4, if_pos ⟨rfl, by omega⟩]; exact i0
  obtain ⟨m5, e5, G5, F5⟩ := sv_loop (lw := lw) (ed := ed) (kx := fun m9 => GR_survey_L139 g lw ed (fun m10 => some m10) FU m9 0) ho hX hY n 0 FU m4 (by omega) (by unfold FU; omega) (hP.fr F ho) G0
  obtain ⟨m6, e6, h6, G6, F6⟩ := rows_loop (lw := lw) (ed := ed) hn hed (clz_box hX hn0) 20 0 FU m5 (by omega) (by unfold FU; omega) G5 (fun a c ha => by omega)
  refine ⟨m6, ?_, h6, G6, F.tr (F5.tr F6)⟩
  unfold GR_survey
  rw [e1]; dsimp only [bM]
  rw [e2]; dsimp only
  rw [e3]; dsimp only
  rw [e4]; dsimp only
  exact e5.trans e6

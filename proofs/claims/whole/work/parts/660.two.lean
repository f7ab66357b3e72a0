/-! by night: two corners, the class -/
def K6 (m : Mem) (i x y j x' y' : Nat) : Mem := sI (sI (sI (sI (sI (sI m 41 0 (nI i)) 41 1 (nI x)) 41 2 (nI y)) 41 3 (nI j)) 41 4 (nI x')) 41 5 (nI y')
theorem K6_fr (m : Mem) (i x y j x' y' : Nat) : Frm Lfd [] m (K6 m i x y j x' y') := (Frm.sI rfl rfl).tr ((Frm.sI rfl rfl).tr ((Frm.sI rfl rfl).tr ((Frm.sI rfl rfl).tr ((Frm.sI rfl rfl).tr (Frm.sI rfl rfl)))))
theorem keepTwo_eq {m : Mem} {i j vi vj x y x' y' : Nat} (hi : vi < 576) (hj : vj < 576) (h1 : gI m 49 vi = nI x) (h2 : gI m 50 vi = nI y) (h3 : gI m 49 vj = nI x') (h4 : gI m 50 vj = nI y') : ∃ m1, NI_keepFirstTwo m (nI i) (nI vi) (nI j) (nI vj) = some m1 ∧ if gI m 40 17 = 0 then m1 = K6 m i x y j x' y' else m1 = m := by
  by_cases q : gI m 40 17 = 0
  · refine ⟨_, ?_, by rw [if_pos q]⟩
    have F : Frm Lfd [] m (sI (sI (sI m 41 (3 * 0) (nI i)) 41 (3 * 0 + 1) (nI x)) 41 (3 * 0 + 2) (nI y)) := (Frm.sI rfl rfl).tr ((Frm.sI rfl rfl).tr (Frm.sI rfl rfl))
    have e1 := keepFirst_eq (s := 0) (c := i) (by omega) hi h1 h2
    have e2 := keepFirst_eq (m := sI (sI (sI m 41 (3 * 0) (nI i)) 41 (3 * 0 + 1) (nI x)) 41 (3 * 0 + 2) (nI y)) (s := 1) (c := j) (by omega) hj (by rw [F.I 49 _ rfl]; exact h3) (by rw [F.I 50 _ rfl]; exact h4)
    rw [show nI 0 = 0 from rfl] at e1
    rw [show nI 1 = 1 from rfl] at e2
    rw [NI_keepFirstTwo, if_pos q, e1, bM_s, e2, bM_s]
    rfl
  · exact ⟨m, by rw [NI_keepFirstTwo, if_neg q], by rw [if_neg q]⟩
theorem SCn.two {m0 m : Mem} {s : Ac} (h : SCn m0 m s) (hk : okA s) (hb : s.1 < 2147483648) {k i x y j x' y' : Nat} : ∀ m1, (if gI m 40 17 = 0 then m1 = K6 m i x y j x' y' else m1 = m) → SCn m0 (sI m1 40 17 (nI (s.1 + k))) (ac s (k, some [i, x, y, j, x', y'])) ∧ gI m1 40 17 = nI s.1 ∧ Frm Lfd [] m m1 := by
  intro m1 h1
  have e0 : (gI m 40 17 = 0) ↔ s.1 = 0 := by rw [h.1, k0, n_eq hb (by omega)]
  by_cases q : s.1 = 0
  · rw [if_pos (e0.mpr q)] at h1
    have hn := hk.mp q
    subst h1
    refine ⟨⟨?_, fun z => ?_, fun w hw i' v hv => ?_⟩, ?_, K6_fr ..⟩
    · rw [gI_sI, if_pos ⟨rfl, rfl⟩]; rfl
    · simp [_root_.Jvm.Pilot.COddHayLaw_law_r4503_43f9b3.ac] at z
    · have e : w = [i, x, y, j, x', y'] := by simp [_root_.Jvm.Pilot.COddHayLaw_law_r4503_43f9b3.ac, hn] at hw; exact hw.symm
      subst e
      rw [gI_sI, if_neg (by omega)]
      unfold K6
      rw [gI_sI, gI_sI, gI_sI, gI_sI, gI_sI, gI_sI]
      match i', hv with
      | 0, hv => cases hv; rfl
      | 1, hv => cases hv; rfl
      | 2, hv => cases hv; rfl
      | 3, hv => cases hv; rfl
      | 4, hv => cases hv; rfl
      | 5, hv => cases hv; rfl
    · unfold K6; rw [gI_sI, if_neg (by omega), gI_sI, if_neg (by omega), gI_sI, if_neg (by omega), gI_sI, if_neg (by omega), gI_sI, if_neg (by omega), gI_sI, if_neg (by omega)]; exact h.1
  · rw [if_neg (fun z => q (e0.mp z))] at h1
    subst h1
    obtain ⟨w0, hw0⟩ : ∃ w, s.2 = some w := by
      cases z : s.2 with
      | none => exact absurd (hk.mpr z) q
      | some w => exact ⟨w, rfl⟩
    refine ⟨⟨?_, fun z => ?_, fun w hw i v hv => ?_⟩, h.1, Frm.rf⟩
    · rw [gI_sI, if_pos ⟨rfl, rfl⟩]; rfl
    · simp [_root_.Jvm.Pilot.COddHayLaw_law_r4503_43f9b3.ac, hw0] at z
    · have e : w0 = w := by simp [_root_.Jvm.Pilot.COddHayLaw_law_r4503_43f9b3.ac, hw0] at hw; exact hw
      subst e
      rw [gI_sI, if_neg (by omega)]
      exact h.2.2 _ hw0 i v hv
/-! apart -/
abbrev g2n (b : Nat → Nat) (N n : Nat) (lw ed : Int32) (X Y : Nat → Int) (i j : Nat) (κ l : Ky) : Bool := alN (fit1 b lw ed (rtR b N n X Y i j + κ.1 + l.1) (rtO b N n X Y i j ||| κ.2 ||| l.2)) N 0
abbrev a2n (b : Nat → Nat) (N n r : Nat) (lw ed : Int32) (X Y : Nat → Int) (i j : Nat) (k l : Kd) : Ac := oneI (g2n b N n lw ed X Y i j k.1 l.1) (k.2.1 * l.2.1) [i, (pg (plA r X Y i) k.2.2).1, (pg (plA r X Y i) k.2.2).2, j, (pg (plA r X Y j) l.2.2).1, (pg (plA r X Y j) l.2.2).2]
theorem ap_in {N n r i j ik : Nat} {b : Nat → Nat} {lw ed x3 : Int32} {X Y : Nat → Int} {m0 : Mem} {kx : Mem → Option Mem} {k : Kd} (H : NXc N n b ed X Y) (hr : 1 ≤ r ∧ r ≤ 3) (hi : i < n) (hj : j < n) (hik : (kdA b N n r X Y i)[ik]? = some k) (hik2 : ik < 48) : ∀ (suf pre : List Kd) (fu : Nat) (m : Mem) (s : Ac), kdA b N n r X Y j = pre ++ suf → suf.length < fu → TXn m b N n r lw ed X Y → RTn m b N n X Y i j → SCn m0 m s → okA s → (ac s (acL (a2n b N n r lw ed X Y i j k) suf)).1 < 2147483648 → ∃ m', NI_tryApart_L77 (nI i) (nI j) x3 (nI (48 * j + (kdA b N n r X Y j).length)) (nI (48 * i + ik)) (rtR b N n X Y i j + k.1.1) (rtO b N n X Y i j ||| k.1.2) kx fu m (nI (48 * j + pre.length)) = kx m' ∧ SCn m0 m' (ac s (acL (a2n b N n r lw ed X Y i j k) suf)) ∧ Frm Lfd [] m m'
  | [], pre, fu, m, s, hs, hf, hT, hR, hS, hk, hb => by
    obtain ⟨f, rfl⟩ : ∃ f, fu = f + 1 := ⟨fu - 1, by omega⟩
    have hl := kdA_len b N n hr X Y j
    have hn := H.2.2.1
    rw [List.append_nil] at hs
    exact ⟨m, by rw [NI_tryApart_L77, if_pos (by rw [hs] at hl ⊢; rw [n_le (by omega) (by omega)]; exact Nat.le_refl _)], by rw [acL, ac_0]; exact hS, Frm.rf⟩
  | l :: suf, pre, fu, m, s, hs, hf, hT, hR, hS, hk, hb => by
    obtain ⟨f, rfl⟩ : ∃ f, fu = f + 1 := ⟨fu - 1, by omega⟩
    have hn := H.2.2.1
    have hl := kdA_len b N n hr X Y j
    have hpi := plA_len hr X Y i
    have hpj := plA_len hr X Y j
    have hlen : (kdA b N n r X Y j).length = pre.length + (suf.length + 1) := by rw [hs, List.length_append]; rfl
    have hq : (kdA b N n r X Y j)[pre.length]? = some l := by rw [hs, List.getElem?_append_right (Nat.le_refl _), Nat.sub_self]; rfl
    obtain ⟨Pi, Ki⟩ := hT.2.2 i hi
    obtain ⟨Pj, Kj⟩ := hT.2.2 j hj
    obtain ⟨g1, g2, g3, g4⟩ := Kj.2 _ _ hq
    obtain ⟨f1, f2, f3, f4⟩ := Ki.2 _ _ hik
    obtain ⟨k1', k2'⟩ := ksP_P (b := b) (N := N) (n := n) (X := X) (Y := Y) (c := j) (ps := plA r X Y j) l (by have := List.mem_of_getElem? hq; exact this)
    obtain ⟨k3', k4'⟩ := ksP_P (b := b) (N := N) (n := n) (X := X) (Y := Y) (c := i) (ps := plA r X Y i) k (by have := List.mem_of_getElem? hik; exact this)
    obtain ⟨p1, p2, -⟩ := Pj.2 _ _ (pg_get k2')
    obtain ⟨p3, p4, -⟩ := Pi.2 _ _ (pg_get k4')
    have ei : nI (48 * j + pre.length) + 1 = nI (48 * j + (pre ++ [l]).length) := by rw [k1, n_add, List.length_append]; rfl
    simp only [acL] at hb ⊢
    rw [← ac_as] at hb ⊢
    have hb0 : s.1 < 2147483648 := by simp only [ac] at hb; omega
    obtain ⟨m1, em1, hm1⟩ := keepTwo_eq (m := m) (i := i) (j := j) (vi := 48 * i + k.2.2) (vj := 48 * j + l.2.2) (by omega) (by omega) p3 p4 p1 p2
    obtain ⟨S1, s17, F1⟩ := hS.two (k := k.2.1 * l.2.1) hk hb0 m1 hm1
    have F2 : Frm Lfd [] m (sI m1 40 17 (nI (s.1 + k.2.1 * l.2.1))) := F1.tr (Frm.sI rfl rfl)
    have g61 : gI m1 61 (48 * j + pre.length) = nI l.2.1 := by rw [F1.I 61 _ rfl, g3]
    have f61 : gI m1 61 (48 * i + ik) = nI k.2.1 := by rw [F1.I 61 _ rfl, f3]
    have e0 : NI_tryApart_L77 (nI i) (nI j) x3 (nI (48 * j + (kdA b N n r X Y j).length)) (nI (48 * i + ik)) (rtR b N n X Y i j + k.1.1) (rtO b N n X Y i j ||| k.1.2) kx (f + 1) m (nI (48 * j + pre.length)) = if b2i (g2n b N n lw ed X Y i j k.1 l.1) = 0 then NI_tryApart_L77 (nI i) (nI j) x3 (nI (48 * j + (kdA b N n r X Y j).length)) (nI (48 * i + ik)) (rtR b N n X Y i j + k.1.1) (rtO b N n X Y i j ||| k.1.2) kx f m (nI (48 * j + (pre ++ [l]).length)) else NI_tryApart_L77 (nI i) (nI j) x3 (nI (48 * j + (kdA b N n r X Y j).length)) (nI (48 * i + ik)) (rtR b N n X Y i j + k.1.1) (rtO b N n X Y i j ||| k.1.2) kx f (sI m1 40 17 (nI (s.1 + k.2.1 * l.2.1))) (nI (48 * j + (pre ++ [l]).length)) := by
      rw [NI_tryApart_L77, if_neg (by rw [n_le (by omega) (by omega)]; omega), if_pos (n_in (by omega) (by omega)), n_ixn (show 48 * j + pre.length < 2147483648 by omega), g1, g2, g4, fit_eq hT.1.1 H.1 H.2.2.2.1, bI_s, ei, if_pos (n_in (show 48 * i + ik < 576 by omega) (by omega)), n_ixn (show 48 * i + ik < 2147483648 by omega), f4, em1, bM_s, f61, g61, s17, n_mul, n_add, letM_o]
    rw [e0]
    cases z : g2n b N n lw ed X Y i j k.1 l.1 with
    | false =>
      have ea : a2n b N n r lw ed X Y i j k l = ac0 := by unfold a2n oneI; rw [z, if_neg (by decide)]
      rw [ea, ac_0] at hb ⊢
      obtain ⟨m', e, S, F⟩ := ap_in (kx := kx) (x3 := x3) H hr hi hj hik hik2 suf (pre ++ [l]) f m s (by rw [hs, List.append_assoc]; rfl) (by simp only [List.length_cons] at hf; omega) hT hR hS hk hb
      exact ⟨m', by rw [if_pos (show b2i false = 0 from rfl)]; exact e, S, F⟩
    | true =>
      have ea : a2n b N n r lw ed X Y i j k l = (k.2.1 * l.2.1, some [i, (pg (plA r X Y i) k.2.2).1, (pg (plA r X Y i) k.2.2).2, j, (pg (plA r X Y j) l.2.2).1, (pg (plA r X Y j) l.2.2).2]) := by unfold a2n oneI; rw [z, if_pos rfl]
      have hp1 : 1 ≤ k.2.1 * l.2.1 := Nat.mul_pos k3' k1'
      rw [ea] at hb ⊢
      obtain ⟨m', e, S, F⟩ := ap_in (kx := kx) (x3 := x3) H hr hi hj hik hik2 suf (pre ++ [l]) f _ _ (by rw [hs, List.append_assoc]; rfl) (by simp only [List.length_cons] at hf; omega) (hT.fr (F2.mo (wL_sub rfl))) (hR.fr F2) S1 (hk.ac (by rw [← ea]; exact okA_one hp1)) hb
      refine ⟨m', ?_, S, F2.tr F⟩
      rw [if_neg (show ¬ b2i true = 0 by decide)]
      exact e
theorem a2_ok {N n r i j : Nat} {b : Nat → Nat} {lw ed : Int32} {X Y : Nat → Int} {k : Kd} (hk : k ∈ kdA b N n r X Y i) : okA (acL (a2n b N n r lw ed X Y i j k) (kdA b N n r X Y j)) :=
  okA_L _ (fun l hl => okA_one (Nat.mul_pos (ksP_P k hk).1 (ksP_P l hl).1))
theorem ap_out {N n r i j : Nat} {b : Nat → Nat} {lw ed : Int32} {X Y : Nat → Int} {m0 : Mem} {kx : Mem → Option Mem} (H : NXc N n b ed X Y) (hr : 1 ≤ r ∧ r ≤ 3) (hi : i < n) (hj : j < n) : ∀ (suf pre : List Kd) (fu : Nat) (m : Mem) (s : Ac), kdA b N n r X Y i = pre ++ suf → suf.length < fu → TXn m b N n r lw ed X Y → RTn m b N n X Y i j → SCn m0 m s → okA s → (ac s (acL (fun k => acL (a2n b N n r lw ed X Y i j k) (kdA b N n r X Y j)) suf)).1 < 2147483648 → ∃ m', NI_tryApart_L31 (nI i) (nI j) (nI (48 * i + (kdA b N n r X Y i).length)) (nI (48 * j + (kdA b N n r X Y j).length)) kx fu m (nI (48 * i + pre.length)) = kx m' ∧ SCn m0 m' (ac s (acL (fun k => acL (a2n b N n r lw ed X Y i j k) (kdA b N n r X Y j)) suf)) ∧ Frm Lfd [] m m'
  | [], pre, fu, m, s, hs, hf, hT, hR, hS, hk, hb => by
    obtain ⟨f, rfl⟩ : ∃ f, fu = f + 1 := ⟨fu - 1, by omega⟩
    have hl := kdA_len b N n hr X Y i
    have hn := H.2.2.1
    rw [List.append_nil] at hs
    exact ⟨m, by rw [NI_tryApart_L31, if_pos (by rw [hs] at hl ⊢; rw [n_le (by omega) (by omega)]; exact Nat.le_refl _)], by rw [acL, ac_0]; exact hS, Frm.rf⟩
  | k :: suf, pre, fu, m, s, hs, hf, hT, hR, hS, hk, hb => by
    obtain ⟨f, rfl⟩ : ∃ f, fu = f + 1 := ⟨fu - 1, by omega⟩
    have hn := H.2.2.1
    have hl := kdA_len b N n hr X Y i
    have hlen : (kdA b N n r X Y i).length = pre.length + (suf.length + 1) := by rw [hs, List.length_append]; rfl
    have hq : (kdA b N n r X Y i)[pre.length]? = some k := by rw [hs, List.getElem?_append_right (Nat.le_refl _), Nat.sub_self]; rfl
    obtain ⟨g1, g2, g3, g4⟩ := (hT.2.2 i hi).2.2 _ _ hq
    have ei : nI (48 * i + pre.length) + 1 = nI (48 * i + (pre ++ [k]).length) := by rw [k1, n_add, List.length_append]; rfl
    have e48 : nI j * 48 = nI (48 * j + ([] : List Kd).length) := by rw [show (48 : Int32) = nI 48 from rfl, n_mul]; congr 1; simp; omega
    simp only [acL] at hb ⊢
    rw [← ac_as] at hb ⊢
    have hb0 : (ac s (acL (a2n b N n r lw ed X Y i j k) (kdA b N n r X Y j))).1 < 2147483648 := by simp only [ac] at hb ⊢; omega
    obtain ⟨m1, e1, S1, F1⟩ := ap_in (m0 := m0) (x3 := nI (48 * i + (kdA b N n r X Y i).length)) (kx := fun m5 => NI_tryApart_L31 (nI i) (nI j) (nI (48 * i + (kdA b N n r X Y i).length)) (nI (48 * j + (kdA b N n r X Y j).length)) kx f m5 (nI (48 * i + pre.length) + 1)) H hr hi hj hq (by omega) (kdA b N n r X Y j) [] FU m s rfl (by have := kdA_len b N n hr X Y j; unfold FU; omega) hT hR hS hk hb0
    obtain ⟨m', e, S, F⟩ := ap_out (kx := kx) H hr hi hj suf (pre ++ [k]) f m1 _ (by rw [hs, List.append_assoc]; rfl) (by simp only [List.length_cons] at hf; omega) (hT.fr (F1.mo (wL_sub rfl))) (hR.fr F1) S1 (hk.ac (a2_ok (by rw [hs]; simp))) hb
    refine ⟨m', ?_, S, F1.tr F⟩
    rw [NI_tryApart_L31, if_neg (by rw [n_le (by omega) (by omega)]; omega), if_pos (n_in (by omega) (by omega)), n_ixn (by omega), g1, g2, hR.1, hR.2, letL_o, letV_o, letV_o, e48, e1, ei]
    exact e
theorem tryApart_eq {N n r i j : Nat} {b : Nat → Nat} {lw ed : Int32} {X Y : Nat → Int} {m0 m : Mem} {s : Ac} (H : NXc N n b ed X Y) (hr : 1 ≤ r ∧ r ≤ 3) (hi : i < n) (hj : j < n) (hT : TXn m b N n r lw ed X Y) (hR : RTn m b N n X Y i j) (hS : SCn m0 m s) (hk : okA s) (hb : (ac s (acL (fun k => acL (a2n b N n r lw ed X Y i j k) (kdA b N n r X Y j)) (kdA b N n r X Y i))).1 < 2147483648) : ∃ m', NI_tryApart m (nI i) (nI j) = some m' ∧ SCn m0 m' (ac s (acL (fun k => acL (a2n b N n r lw ed X Y i j k) (kdA b N n r X Y j)) (kdA b N n r X Y i))) ∧ Frm Lfd [] m m' := by
  have hn := H.2.2.1
  obtain ⟨m', e, S, F⟩ := ap_out (kx := fun m6 => some m6) H hr hi hj (kdA b N n r X Y i) [] FU m s rfl (by have := kdA_len b N n hr X Y i; unfold FU; omega) hT hR hS hk hb
  have e48 : nI i * 48 = nI (48 * i + ([] : List Kd).length) := by rw [show (48 : Int32) = nI 48 from rfl, n_mul]; congr 1; simp; omega
  refine ⟨m', ?_, S, F⟩
  rw [NI_tryApart, if_pos (n_in (by omega) (by omega)), n_ixn (by omega), (hT.2.2 i hi).2.1, letV_o, if_pos (n_in (by omega) (by omega)), n_ixn (by omega), (hT.2.2 j hj).2.1, letV_o, letV_o, c48, c48, e48]
  exact e

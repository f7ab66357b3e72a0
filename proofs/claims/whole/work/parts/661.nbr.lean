/-! by night: two corners with an edge between, the class -/
theorem rtR_cm (b : Nat → Nat) (N n : Nat) (X Y : Nat → Int) (i j : Nat) : rtR b N n X Y i j = rtR b N n X Y j i ∧ rtO b N n X Y i j = rtO b N n X Y j i := by
  have e : skN n i j = skN n j i := funext (fun e => skN_cm n i j e)
  unfold rtR rtO
  rw [e]
  exact ⟨rfl, rfl⟩
def fbn (b : Nat → Nat) (N n : Nat) (lw ed : Int32) (X Y : Nat → Int) (a c : Nat) (p q : Pl) : Bool := (!(atP X Y (pv n a) p.1 p.2) && (!(atP X Y (nx n c) q.1 q.2) && !(decide (p = q)))) && alN (fitE b lw ed (rtR b N n X Y a c + cmR b N n X Y a p.1 p.2 + goR b N n X Y c q.1 q.2) (rtO b N n X Y a c ||| cmO b N n X Y a p.1 p.2 ||| goO b N n X Y c q.1 q.2) p.1 p.2 q.1 q.2) N 0
theorem fitBetween_eq {N n r a c ka kc : Nat} {b : Nat → Nat} {lw ed : Int32} {X Y : Nat → Int} {m : Mem} {p q : Pl} (H : NXc N n b ed X Y) (hr : 1 ≤ r ∧ r ≤ 3) (ha : a < n) (hc : c < n) (hT : TXn m b N n r lw ed X Y) (hR : RTn m b N n X Y a c) (hp : (plA r X Y a)[ka]? = some p) (hq : (plA r X Y c)[kc]? = some q) (h1 : ka < 48) (h2 : kc < 48) : NI_fitBetween m (nI a) (nI (48 * a + ka)) (nI c) (nI (48 * c + kc)) = some (b2i (fbn b N n lw ed X Y a c p q)) := by
  have hn := H.2.2.1
  obtain ⟨a1, a2, a3, a4, a5, a6⟩ := (hT.2.2 a ha).1.2 _ _ hp
  obtain ⟨c1, c2, c3, c4, c5, c6⟩ := (hT.2.2 c hc).1.2 _ _ hq
  obtain ⟨o1, o2⟩ := pls_ok (List.mem_of_getElem? hp)
  obtain ⟨o3, o4⟩ := pls_ok (List.mem_of_getElem? hq)
  have q1 : (nI p.1 = nI q.1) ↔ p.1 = q.1 := n_eq (by omega) (by omega)
  have q2 : (nI p.2 = nI q.2) ↔ p.2 = q.2 := n_eq (by omega) (by omega)
  have hB : B4 (p.1 : Int) (p.2 : Int) (q.1 : Int) (q.2 : Int) := by unfold B4; omega
  have eJ : NI_fitBetween_J96 m (nI (48 * a + ka)) (nI (48 * c + kc)) = some (b2i (alN (fitE b lw ed (rtR b N n X Y a c + cmR b N n X Y a p.1 p.2 + goR b N n X Y c q.1 q.2) (rtO b N n X Y a c ||| cmO b N n X Y a p.1 p.2 ||| goO b N n X Y c q.1 q.2) p.1 p.2 q.1 q.2) N 0)) := by
    rw [NI_fitBetween_J96, if_pos (n_in (show 48 * a + ka < 576 by omega) (by omega)), if_pos (n_in (show 48 * c + kc < 576 by omega) (by omega)), letL_i, letV_i, n_ixn (show 48 * a + ka < 2147483648 by omega), n_ixn (show 48 * c + kc < 2147483648 by omega), a1, a2, a3, a4, c1, c2, c5, c6, hR.1, hR.2, nI_iz, nI_iz, nI_iz, nI_iz, fitW_eq hT.1.1 H.1 H.2.2.2.1 hB, bI_s, if_pos b2i_z]
  rw [NI_fitBetween, eJ, if_pos (n_in (show 48 * a + ka < 576 by omega) (by omega)), n_ixn (show 48 * a + ka < 2147483648 by omega), a1, a2, before_eq hT.1.2 ha, LN_isAt_eq hT.1.2 (pv_lt ha) o1 o2, bI_s, if_pos (n_in (show 48 * c + kc < 576 by omega) (by omega)), n_ixn (show 48 * c + kc < 2147483648 by omega), c1, c2, LN_after_eq hT.1.2 hc, LN_isAt_eq hT.1.2 (nx_lt hc) o3 o4, bI_s]
  unfold fbn
  cases atP X Y (pv n a) p.1 p.2 with
  | true => rfl
  | false =>
    cases atP X Y (nx n c) q.1 q.2 with
    | true => rfl
    | false =>
      rw [if_pos (show b2i false = 0 from rfl), if_pos (show b2i false = 0 from rfl)]
      by_cases e1 : p.1 = q.1
      · by_cases e2 : p.2 = q.2
        · rw [if_pos (q1.mpr e1), if_pos (q2.mpr e2), decide_eq_true (Prod.ext e1 e2)]; rfl
        · rw [if_pos (q1.mpr e1), if_neg (fun z => e2 (q2.mp z)), decide_eq_false (fun z => e2 (by rw [z]))]
          simp only [Bool.not_false, Bool.true_and]
      · rw [if_neg (fun z => e1 (q1.mp z)), decide_eq_false (fun z => e1 (by rw [z]))]
        simp only [Bool.not_false, Bool.true_and]
abbrev a3n (b : Nat → Nat) (N n : Nat) (lw ed : Int32) (X Y : Nat → Int) (ld : Bool) (i j : Nat) (p q : Pl) : Ac := oneI (if ld then fbn b N n lw ed X Y i j p q else fbn b N n lw ed X Y j i q p) 1 [i, p.1, p.2, j, q.1, q.2]
theorem nb_in {N n r i j ik : Nat} {b : Nat → Nat} {lw ed x3 : Int32} {X Y : Nat → Int} {ld : Bool} {m0 : Mem} {kx : Mem → Option Mem} {p : Pl} (H : NXc N n b ed X Y) (hr : 1 ≤ r ∧ r ≤ 3) (hi : i < n) (hj : j < n) (hik : (plA r X Y i)[ik]? = some p) (hik2 : ik < 48) : ∀ (suf pre : List Pl) (fu : Nat) (m : Mem) (s : Ac), plA r X Y j = pre ++ suf → suf.length < fu → TXn m b N n r lw ed X Y → RTn m b N n X Y i j → SCn m0 m s → okA s → (ac s (acL (a3n b N n lw ed X Y ld i j p) suf)).1 < 2147483648 → ∃ m', NI_tryNeighbours_L62 (nI i) (nI j) x3 (nI (48 * j + (plA r X Y j).length)) (b2i ld) (nI (48 * i + ik)) kx fu m (nI (48 * j + pre.length)) = kx m' ∧ SCn m0 m' (ac s (acL (a3n b N n lw ed X Y ld i j p) suf)) ∧ Frm Lfd [] m m'
  | [], pre, fu, m, s, hs, hf, hT, hR, hS, hk, hb => by
    obtain ⟨f, rfl⟩ : ∃ f, fu = f + 1 := ⟨fu - 1, by omega⟩
    have hl := plA_len hr X Y j
    have hn := H.2.2.1
    rw [List.append_nil] at hs
    exact ⟨m, by rw [NI_tryNeighbours_L62, if_pos (by rw [hs] at hl ⊢; rw [n_le (by omega) (by omega)]; exact Nat.le_refl _)], by rw [acL, ac_0]; exact hS, Frm.rf⟩
  | q :: suf, pre, fu, m, s, hs, hf, hT, hR, hS, hk, hb => by
    obtain ⟨f, rfl⟩ : ∃ f, fu = f + 1 := ⟨fu - 1, by omega⟩
    have hn := H.2.2.1
    have hl := plA_len hr X Y j
    have hlen : (plA r X Y j).length = pre.length + (suf.length + 1) := by rw [hs, List.length_append]; rfl
    have hq : (plA r X Y j)[pre.length]? = some q := by rw [hs, List.getElem?_append_right (Nat.le_refl _), Nat.sub_self]; rfl
    obtain ⟨p1, p2, -⟩ := (hT.2.2 j hj).1.2 _ _ hq
    obtain ⟨p3, p4, -⟩ := (hT.2.2 i hi).1.2 _ _ hik
    have ei : nI (48 * j + pre.length) + 1 = nI (48 * j + (pre ++ [q]).length) := by rw [k1, n_add, List.length_append]; rfl
    simp only [acL] at hb ⊢
    rw [← ac_as] at hb ⊢
    have hb0 : s.1 < 2147483648 := by simp only [ac] at hb; omega
    obtain ⟨m1, em1, hm1⟩ := keepTwo_eq (m := m) (i := i) (j := j) (vi := 48 * i + ik) (vj := 48 * j + pre.length) (by omega) (by omega) p3 p4 p1 p2
    obtain ⟨S1, s17, F1⟩ := hS.two (k := 1) hk hb0 m1 hm1
    have F2 : Frm Lfd [] m (sI m1 40 17 (nI (s.1 + 1))) := F1.tr (Frm.sI rfl rfl)
    have hR' : RTn m b N n X Y j i := ⟨by rw [hR.1]; exact (rtR_cm b N n X Y i j).1, by rw [hR.2]; exact (rtR_cm b N n X Y i j).2⟩
    have eJ : NI_tryNeighbours_J103 (NI_tryNeighbours_L62 (nI i) (nI j) x3 (nI (48 * j + (plA r X Y j).length)) (b2i ld) (nI (48 * i + ik)) kx f) kx m (nI i) (nI j) x3 (nI (48 * j + (plA r X Y j).length)) (b2i ld) (nI (48 * i + ik)) (nI (48 * j + pre.length)) = NI_tryNeighbours_L62 (nI i) (nI j) x3 (nI (48 * j + (plA r X Y j).length)) (b2i ld) (nI (48 * i + ik)) kx f (sI m1 40 17 (nI (s.1 + 1))) (nI (48 * j + (pre ++ [q]).length)) := by
      rw [NI_tryNeighbours_J103, em1, bM_s, s17, ei, k1, n_add, letM_o]
    have e0 : NI_tryNeighbours_L62 (nI i) (nI j) x3 (nI (48 * j + (plA r X Y j).length)) (b2i ld) (nI (48 * i + ik)) kx (f + 1) m (nI (48 * j + pre.length)) = if b2i (if ld then fbn b N n lw ed X Y i j p q else fbn b N n lw ed X Y j i q p) = 0 then NI_tryNeighbours_L62 (nI i) (nI j) x3 (nI (48 * j + (plA r X Y j).length)) (b2i ld) (nI (48 * i + ik)) kx f m (nI (48 * j + (pre ++ [q]).length)) else NI_tryNeighbours_L62 (nI i) (nI j) x3 (nI (48 * j + (plA r X Y j).length)) (b2i ld) (nI (48 * i + ik)) kx f (sI m1 40 17 (nI (s.1 + 1))) (nI (48 * j + (pre ++ [q]).length)) := by
      rw [NI_tryNeighbours_L62, if_neg (by rw [n_le (by omega) (by omega)]; omega), eJ, ei]
      cases ld with
      | false => rw [if_pos (show b2i false = 0 from rfl), fitBetween_eq H hr hj hi hT hR' hq hik (by omega) hik2, bI_s]; rfl
      | true => rw [if_neg (show ¬ b2i true = 0 by decide), fitBetween_eq H hr hi hj hT hR hik hq hik2 (by omega), bI_s]; rfl
    rw [e0]
    cases z : (if ld then fbn b N n lw ed X Y i j p q else fbn b N n lw ed X Y j i q p) with
    | false =>
      have ea : a3n b N n lw ed X Y ld i j p q = ac0 := by unfold a3n oneI; rw [z, if_neg (by decide)]
      rw [ea, ac_0] at hb ⊢
      obtain ⟨m', e, S, F⟩ := nb_in (kx := kx) (x3 := x3) H hr hi hj hik hik2 suf (pre ++ [q]) f m s (by rw [hs, List.append_assoc]; rfl) (by simp only [List.length_cons] at hf; omega) hT hR hS hk hb
      exact ⟨m', by rw [if_pos (show b2i false = 0 from rfl)]; exact e, S, F⟩
    | true =>
      have ea : a3n b N n lw ed X Y ld i j p q = (1, some [i, p.1, p.2, j, q.1, q.2]) := by unfold a3n oneI; rw [z, if_pos rfl]
      rw [ea] at hb ⊢
      obtain ⟨m', e, S, F⟩ := nb_in (kx := kx) (x3 := x3) H hr hi hj hik hik2 suf (pre ++ [q]) f _ _ (by rw [hs, List.append_assoc]; rfl) (by simp only [List.length_cons] at hf; omega) (hT.fr (F2.mo (wL_sub rfl))) (hR.fr F2) S1 (hk.ac (by rw [← ea]; exact okA_one (Nat.le_refl 1))) hb
      refine ⟨m', ?_, S, F2.tr F⟩
      rw [if_neg (show ¬ b2i true = 0 by decide)]
      exact e
theorem nb_out {N n r i j : Nat} {b : Nat → Nat} {lw ed : Int32} {X Y : Nat → Int} {ld : Bool} {m0 : Mem} {kx : Mem → Option Mem} (H : NXc N n b ed X Y) (hr : 1 ≤ r ∧ r ≤ 3) (hi : i < n) (hj : j < n) : ∀ (suf pre : List Pl) (fu : Nat) (m : Mem) (s : Ac), plA r X Y i = pre ++ suf → suf.length < fu → TXn m b N n r lw ed X Y → RTn m b N n X Y i j → SCn m0 m s → okA s → (ac s (acL (fun p => acL (a3n b N n lw ed X Y ld i j p) (plA r X Y j)) suf)).1 < 2147483648 → ∃ m', NI_tryNeighbours_L50 (nI i) (nI j) (nI (48 * i + (plA r X Y i).length)) (nI (48 * j + (plA r X Y j).length)) (b2i ld) kx fu m (nI (48 * i + pre.length)) = kx m' ∧ SCn m0 m' (ac s (acL (fun p => acL (a3n b N n lw ed X Y ld i j p) (plA r X Y j)) suf)) ∧ Frm Lfd [] m m'
  | [], pre, fu, m, s, hs, hf, hT, hR, hS, hk, hb => by
    obtain ⟨f, rfl⟩ : ∃ f, fu = f + 1 := ⟨fu - 1, by omega⟩
    have hl := plA_len hr X Y i
    have hn := H.2.2.1
    rw [List.append_nil] at hs
    exact ⟨m, by rw [NI_tryNeighbours_L50, if_pos (by rw [hs] at hl ⊢; rw [n_le (by omega) (by omega)]; exact Nat.le_refl _)], by rw [acL, ac_0]; exact hS, Frm.rf⟩
  | p :: suf, pre, fu, m, s, hs, hf, hT, hR, hS, hk, hb => by
    obtain ⟨f, rfl⟩ : ∃ f, fu = f + 1 := ⟨fu - 1, by omega⟩
    have hn := H.2.2.1
    have hl := plA_len hr X Y i
    have hlen : (plA r X Y i).length = pre.length + (suf.length + 1) := by rw [hs, List.length_append]; rfl
    have hq : (plA r X Y i)[pre.length]? = some p := by rw [hs, List.getElem?_append_right (Nat.le_refl _), Nat.sub_self]; rfl
    have ei : nI (48 * i + pre.length) + 1 = nI (48 * i + (pre ++ [p]).length) := by rw [k1, n_add, List.length_append]; rfl
    have e48 : nI j * 48 = nI (48 * j + ([] : List Pl).length) := by rw [show (48 : Int32) = nI 48 from rfl, n_mul]; congr 1; simp; omega
    simp only [acL] at hb ⊢
    rw [← ac_as] at hb ⊢
    have hb0 : (ac s (acL (a3n b N n lw ed X Y ld i j p) (plA r X Y j))).1 < 2147483648 := by simp only [ac] at hb ⊢; omega
    obtain ⟨m1, e1, S1, F1⟩ := nb_in (m0 := m0) (ld := ld) (x3 := nI (48 * i + (plA r X Y i).length)) (kx := fun m2 => NI_tryNeighbours_L50 (nI i) (nI j) (nI (48 * i + (plA r X Y i).length)) (nI (48 * j + (plA r X Y j).length)) (b2i ld) kx f m2 (nI (48 * i + pre.length) + 1)) H hr hi hj hq (by omega) (plA r X Y j) [] FU m s rfl (by have := plA_len hr X Y j; unfold FU; omega) hT hR hS hk hb0
    obtain ⟨m', e, S, F⟩ := nb_out (kx := kx) H hr hi hj suf (pre ++ [p]) f m1 _ (by rw [hs, List.append_assoc]; rfl) (by simp only [List.length_cons] at hf; omega) (hT.fr (F1.mo (wL_sub rfl))) (hR.fr F1) S1 (hk.ac (okA_L _ (fun q _ => okA_one (Nat.le_refl 1)))) hb
    refine ⟨m', ?_, S, F1.tr F⟩
    rw [NI_tryNeighbours_L50, if_neg (by rw [n_le (by omega) (by omega)]; omega), letV_o, e48, e1, ei]
    exact e
theorem tryNeighbours_eq {N n r i j : Nat} {b : Nat → Nat} {lw ed : Int32} {X Y : Nat → Int} {m0 m : Mem} {s : Ac} (H : NXc N n b ed X Y) (hr : 1 ≤ r ∧ r ≤ 3) (hi : i < n) (hj : j < n) (hT : TXn m b N n r lw ed X Y) (hR : RTn m b N n X Y i j) (hS : SCn m0 m s) (hk : okA s) (hb : (ac s (acL (fun p => acL (a3n b N n lw ed X Y (decide (nx n i = j)) i j p) (plA r X Y j)) (plA r X Y i))).1 < 2147483648) : ∃ m', NI_tryNeighbours m (nI i) (nI j) = some m' ∧ SCn m0 m' (ac s (acL (fun p => acL (a3n b N n lw ed X Y (decide (nx n i = j)) i j p) (plA r X Y j)) (plA r X Y i))) ∧ Frm Lfd [] m m' := by
  have hn := H.2.2.1
  have hx := nx_lt hi
  obtain ⟨m', e, S, F⟩ := nb_out (kx := fun m2 => some m2) H hr hi hj (plA r X Y i) [] FU m s rfl (by have := plA_len hr X Y i; unfold FU; omega) hT hR hS hk hb
  have e48 : nI i * 48 = nI (48 * i + ([] : List Pl).length) := by rw [show (48 : Int32) = nI 48 from rfl, n_mul]; congr 1; simp; omega
  refine ⟨m', ?_, S, F⟩
  rw [NI_tryNeighbours, if_pos (n_in (by omega) (by omega)), n_ixn (by omega), (hT.2.2 i hi).1.1, letV_o, if_pos (n_in (by omega) (by omega)), n_ixn (by omega), (hT.2.2 j hj).1.1, letV_o, LN_after_eq hT.1.2 hi, NI_tryNeighbours_J42, NI_tryNeighbours_J42, letV_o, letV_o, c48, c48, e48]
  by_cases q : nx n i = j
  · rw [if_pos (by rw [q])]; rw [decide_eq_true q] at e; exact e
  · rw [if_neg (by rw [n_eq (by omega) (by omega)]; exact q)]; rw [decide_eq_false q] at e; exact e
/-- what the class finds with corners i and j -/
def A2n (b : Nat → Nat) (N n r : Nat) (lw ed : Int32) (X Y : Nat → Int) (i j : Nat) : Ac := if nx n i = j ∨ nx n j = i then acL (fun p => acL (a3n b N n lw ed X Y (decide (nx n i = j)) i j p) (plA r X Y j)) (plA r X Y i) else acL (fun k => acL (a2n b N n r lw ed X Y i j k) (kdA b N n r X Y j)) (kdA b N n r X Y i)
theorem A2n_ok (b : Nat → Nat) (N n r : Nat) (lw ed : Int32) (X Y : Nat → Int) (i j : Nat) : okA (A2n b N n r lw ed X Y i j) := by
  unfold A2n
  split
  · exact okA_L _ (fun p _ => okA_L _ (fun q _ => okA_one (Nat.le_refl 1)))
  · exact okA_L _ (fun k hk => a2_ok hk)
theorem tryTwo_eq {N n r i j : Nat} {b : Nat → Nat} {lw ed : Int32} {X Y : Nat → Int} {m0 m : Mem} {s : Ac} (H : NXc N n b ed X Y) (hr : 1 ≤ r ∧ r ≤ 3) (hi : i < n) (hj : j < n) (hT : TXn m b N n r lw ed X Y) (hS : SCn m0 m s) (hk : okA s) (hb : (ac s (A2n b N n r lw ed X Y i j)).1 < 2147483648) : ∃ m', NI_tryTwo m (nI i) (nI j) = some m' ∧ SCn m0 m' (ac s (A2n b N n r lw ed X Y i j)) ∧ Frm Ltr [] m m' := by
  have hn := H.2.2.1
  have hx := nx_lt hi
  have hy := nx_lt hj
  obtain ⟨m1, e1, r1, r2, F1⟩ := leaveOut_eq H (fun e he => skN_iff H.2.2.1 hi hj he) hT.1 hT.2.1
  have T1 := hT.fr (F1.mo (wL_sub rfl))
  have S1 : SCn m0 m1 s := by unfold SCn at *; rw [F1.I 40 17 rfl]; simp only [fun i => F1.I 41 i rfl]; exact hS
  have c1 : (nI (nx n i) = nI j) ↔ nx n i = j := n_eq (by omega) (by omega)
  have c2 : (nI (nx n j) = nI i) ↔ nx n j = i := n_eq (by omega) (by omega)
  rw [NI_tryTwo, e1, bM_s, LN_after_eq T1.1.2 hi, LN_after_eq T1.1.2 hj, NI_tryTwo_J30]
  unfold A2n at hb ⊢
  by_cases q : nx n i = j ∨ nx n j = i
  · rw [if_pos q] at hb ⊢
    obtain ⟨m', e, S, F⟩ := tryNeighbours_eq H hr hi hj T1 ⟨r1, r2⟩ S1 hk hb
    refine ⟨m', ?_, S, (F1.mo (wL_sub rfl)).tr (F.mo (wL_sub rfl))⟩
    rw [e, bM_s]
    by_cases z : nx n i = j
    · rw [if_pos (c1.mpr z)]
    · rw [if_neg (fun w => z (c1.mp w)), if_pos (c2.mpr (q.resolve_left z))]
  · rw [if_neg q] at hb ⊢
    obtain ⟨m', e, S, F⟩ := tryApart_eq H hr hi hj T1 ⟨r1, r2⟩ S1 hk hb
    refine ⟨m', ?_, S, (F1.mo (wL_sub rfl)).tr (F.mo (wL_sub rfl))⟩
    rw [if_neg (fun w => q (Or.inl (c1.mp w))), if_neg (fun w => q (Or.inr (c2.mp w))), e, bM_s]

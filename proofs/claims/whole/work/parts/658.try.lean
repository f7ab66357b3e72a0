/-! by night: sorting all, trying -/
def mayP (n : Nat) (X Y : Nat → Int) (c : Nat) (p : Pl) : Bool := !(atP X Y (pv n c) p.1 p.2) && !(atP X Y (nx n c) p.1 p.2)
theorem mayN_eq {m : Mem} {n c : Nat} {X Y : Nat → Int} {p : Pl} (h : PolyC m 42 n X Y) (hc : c < n) (h1 : p.1 ≤ 20) (h2 : p.2 ≤ 20) : LN_mayStandAt m 42 (nI c) (nI p.1) (nI p.2) = some (b2i (mayP n X Y c p)) := by
  unfold LN_mayStandAt mayP
  rw [before_eq h hc, LN_after_eq h hc, LN_isAt_eq h (pv_lt hc) h1 h2, LN_isAt_eq h (nx_lt hc) h1 h2, bI_s, bI_s]
  cases atP X Y (pv n c) p.1 p.2 <;> cases atP X Y (nx n c) p.1 p.2 <;> rfl
def pg (ps : List Pl) (k : Nat) : Pl := ps.getD k (0, 0)
theorem pg_get {ps : List Pl} {k : Nat} (h : k < ps.length) : ps[k]? = some (pg ps k) := by
  unfold pg
  rw [List.getD_eq_getElem?_getD, List.getElem?_eq_getElem h]; rfl
def Qk (n : Nat) (X Y : Nat → Int) (c : Nat) (ps : List Pl) (t : Nat) : List Nat := (List.range t).filter (fun k => mayP n X Y c (pg ps k))
def ksP (b : Nat → Nat) (N n : Nat) (X Y : Nat → Int) (c : Nat) (ps : List Pl) (t : Nat) : List Kd := kinds (fun k => keyP b N n X Y c (pg ps k)) [] (Qk n X Y c ps t)
theorem Qk_len (n : Nat) (X Y : Nat → Int) (c : Nat) (ps : List Pl) (t : Nat) : (Qk n X Y c ps t).length ≤ t := by
  have := List.length_filter_le (fun k => mayP n X Y c (pg ps k)) (List.range t)
  rw [List.length_range] at this
  exact this
theorem ksP_len (b : Nat → Nat) (N n : Nat) (X Y : Nat → Int) (c : Nat) (ps : List Pl) (t : Nat) : (ksP b N n X Y c ps t).length ≤ t := by
  have h1 := kinds_len (fun k => keyP b N n X Y c (pg ps k)) (Qk n X Y c ps t) []
  have h2 := Qk_len n X Y c ps t
  unfold ksP
  simp only [List.length_nil] at h1
  omega
theorem ksP_succ (b : Nat → Nat) (N n : Nat) (X Y : Nat → Int) (c : Nat) (ps : List Pl) (t : Nat) : ksP b N n X Y c ps (t + 1) = if mayP n X Y c (pg ps t) then addK (keyP b N n X Y c (pg ps t)) t (ksP b N n X Y c ps t) else ksP b N n X Y c ps t := by
  unfold ksP Qk
  rw [List.range_succ, List.filter_append, kinds_app]
  cases z : mayP n X Y c (pg ps t) with
  | true => simp [z, kinds]
  | false => simp [z, kinds]
theorem PLm.fr {m m' : Mem} {N n : Nat} {b : Nat → Nat} {X Y : Nat → Int} {c : Nat} {ps : List Pl} {L : List (Nat × Nat)} (h : PLm m N n b X Y c ps) (F : Frm L [] m m') (hw : ∀ d j, 48 ≤ d → d ≤ 56 → wL L d j = false) : PLm m' N n b X Y c ps := by
  refine ⟨by rw [F.I _ _ (hw 48 c (by omega) (by omega))]; exact h.1, fun k p e => ?_⟩
  unfold PLk
  rw [F.I _ _ (hw 49 _ (by omega) (by omega)), F.I _ _ (hw 50 _ (by omega) (by omega)), F.J _ _ (hw 52 _ (by omega) (by omega)), F.I _ _ (hw 53 _ (by omega) (by omega)), F.J _ _ (hw 55 _ (by omega) (by omega)), F.I _ _ (hw 56 _ (by omega) (by omega))]
  exact h.2 k p e
theorem KDm.fr {m m' : Mem} {c : Nat} {ks : List Kd} {L : List (Nat × Nat)} (h : KDm m c ks) (F : Frm L [] m m') (hw : ∀ d j, 58 ≤ d → d ≤ 62 → wL L d j = false) : KDm m' c ks := by
  refine ⟨by rw [F.I _ _ (hw 60 c (by omega) (by omega))]; exact h.1, fun k p e => ?_⟩
  unfold KDk
  rw [F.J _ _ (hw 58 _ (by omega) (by omega)), F.I _ _ (hw 59 _ (by omega) (by omega)), F.I _ _ (hw 61 _ (by omega) (by omega)), F.I _ _ (hw 62 _ (by omega) (by omega))]
  exact h.2 k p e
theorem wsk {d j : Nat} (h1 : d ≤ 57) : wL W_NI_sortKinds d j = false := by
  unfold wL
  rw [List.any_eq_false]
  have : ∀ q ∈ W_NI_sortKinds, 58 ≤ q.1 := by decide +kernel
  intro q hq
  have := this q hq
  simp only [Bool.and_eq_true, beq_iff_eq, not_and]
  intro h; omega
theorem srt_loop {N n c : Nat} {b : Nat → Nat} {lw ed : Int32} {X Y : Nat → Int} {ps : List Pl} {kx : Mem → Option Mem} (H : NXc N n b ed X Y) (hc : c < n) (hl : ps.length ≤ 48) (ho : ∀ p ∈ ps, p.1 ≤ 20 ∧ p.2 ≤ 20) : ∀ (d t fu : Nat) (m : Mem), t + d = ps.length → d < fu → CXn m N n b lw ed X Y → PLm m N n b X Y c ps → KDm m c (ksP b N n X Y c ps t) → ∃ m', NI_sortKinds_L9 (nI c) kx fu m (nI t) = kx m' ∧ PLm m' N n b X Y c ps ∧ KDm m' c (ksP b N n X Y c ps ps.length) ∧ FC c m m'
  | 0, t, fu, m, hd, hf, hC, hP, hK => by
    obtain ⟨f, rfl⟩ : ∃ f, fu = f + 1 := ⟨fu - 1, by omega⟩
    have hn := H.2.2.1
    obtain rfl : t = ps.length := by omega
    exact ⟨m, by rw [NI_sortKinds_L9, if_pos (n_in (by omega) (by omega)), n_ixn (by omega), hP.1, if_pos (by rw [n_le (by omega) (by omega)]; omega)], hP, hK, FC.rf⟩
  | d + 1, t, fu, m, hd, hf, hC, hP, hK => by
    obtain ⟨f, rfl⟩ : ∃ f, fu = f + 1 := ⟨fu - 1, by omega⟩
    have hn := H.2.2.1
    have hg := pg_get (show t < ps.length by omega)
    have hm : pg ps t ∈ ps := List.mem_of_getElem? hg
    obtain ⟨o1, o2⟩ := ho _ hm
    obtain ⟨p1, p2, -⟩ := hP.2 _ _ hg
    have et : nI t + 1 = nI (t + 1) := by rw [k1, n_add]
    have hlen := ksP_len b N n X Y c ps t
    have e0 : NI_sortKinds_L9 (nI c) kx (f + 1) m (nI t) = if b2i (mayP n X Y c (pg ps t)) = 0 then NI_sortKinds_L9 (nI c) kx f m (nI (t + 1)) else bM (NI_sortKind m (nI c) (nI (48 * c + t))) fun m6 => NI_sortKinds_L9 (nI c) kx f m6 (nI (t + 1)) := by
      rw [NI_sortKinds_L9, if_pos (n_in (by omega) (by omega)), n_ixn (by omega), hP.1, if_neg (by rw [n_le (by omega) (by omega)]; omega), letV_o, c48, if_pos (n_in (by omega) (by omega)), n_ixn (by omega), p1, p2, mayN_eq hC.2 hc o1 o2, bI_s, et]
    rw [e0]
    have es := ksP_succ b N n X Y c ps t
    cases z : mayP n X Y c (pg ps t) with
    | false =>
      rw [z, if_neg (by decide)] at es
      rw [if_pos (show b2i false = 0 from rfl)]
      exact srt_loop (kx := kx) H hc hl ho d (t + 1) f m (by omega) (by omega) hC hP (by rw [es]; exact hK)
    | true =>
      rw [z, if_pos rfl] at es
      obtain ⟨m1, e1, K1, F1, G1⟩ := sortKind_eq (show c < 12 by omega) hP (show t < 48 by omega) hg hK (by omega)
      obtain ⟨m', e, P', K', F'⟩ := srt_loop (kx := kx) H hc hl ho d (t + 1) f m1 (by omega) (by omega) (hC.fr (F1.1.mo (wL_sub rfl))) (hP.fr G1 (fun d j a b => wsk (by omega))) (by rw [es]; exact K1)
      exact ⟨m', by rw [if_neg (show ¬ b2i true = 0 by decide), e1, bM_s]; exact e, P', K', F1.tr F'⟩
theorem sortKinds_eq {N n c : Nat} {b : Nat → Nat} {lw ed : Int32} {X Y : Nat → Int} {ps : List Pl} {m : Mem} (H : NXc N n b ed X Y) (hc : c < n) (hl : ps.length ≤ 48) (ho : ∀ p ∈ ps, p.1 ≤ 20 ∧ p.2 ≤ 20) (hC : CXn m N n b lw ed X Y) (hP : PLm m N n b X Y c ps) : ∃ m', NI_sortKinds m (nI c) = some m' ∧ PLm m' N n b X Y c ps ∧ KDm m' c (ksP b N n X Y c ps ps.length) ∧ FC c m m' := by
  have hn := H.2.2.1
  have F0 : FC c m (sI m 60 c 0) := FC.sI rfl (fun _ h => absurd rfl h) (fun _ => rfl)
  have G0 : Frm W_NI_sortKinds [] m (sI m 60 c 0) := Frm.sI rfl rfl
  obtain ⟨m', e, P, K, F⟩ := srt_loop (kx := fun m3 => some m3) H hc hl ho ps.length 0 FU (sI m 60 c 0) (by omega) (by unfold FU; omega) (hC.fr (F0.1.mo (wL_sub rfl))) (hP.fr G0 (fun d j a b => wsk (by omega))) ⟨by rw [gI_sI, if_pos ⟨rfl, rfl⟩]; rfl, fun i k h => by simp [ksP, Qk, kinds] at h⟩
  exact ⟨m', by rw [NI_sortKinds, if_pos (n_in (by omega) (by omega)), n_ixn (by omega), letM_o]; exact e, P, K, F0.tr F⟩
/-- all places, all kinds of a corner -/
abbrev plA (r : Nat) (X Y : Nat → Int) (c : Nat) : List Pl := pls r X Y c ((2 * r + 1) * (2 * r + 1))
abbrev kdA (b : Nat → Nat) (N n r : Nat) (X Y : Nat → Int) (c : Nat) : List Kd := ksP b N n X Y c (plA r X Y c) (plA r X Y c).length
theorem plA_len {r : Nat} (hr : 1 ≤ r ∧ r ≤ 3) (X Y : Nat → Int) (c : Nat) : (plA r X Y c).length ≤ 48 := by
  have := pls_len r X Y c ((2 * r + 1) * (2 * r + 1))
  show (pls r X Y c ((2 * r + 1) * (2 * r + 1))).length ≤ 48
  rcases (show r = 1 ∨ r = 2 ∨ r = 3 by omega) with rfl | rfl | rfl <;> rw [if_pos (by omega)] at this <;> omega
def ALm (m : Mem) (b : Nat → Nat) (N n r : Nat) (X Y : Nat → Int) (t : Nat) : Prop := ∀ c, c < t → PLm m N n b X Y c (plA r X Y c) ∧ KDm m c (kdA b N n r X Y c)
theorem al_loop {N n r : Nat} {b : Nat → Nat} {lw ed : Int32} {X Y : Nat → Int} {kx : Mem → Option (Int32 × Mem)} (H : NXc N n b ed X Y) (hr : 1 ≤ r ∧ r ≤ 3) : ∀ (d c fu : Nat) (m : Mem), c + d = n → d < fu → CXn m N n b lw ed X Y → ALm m b N n r X Y c → ∃ m', NI_search_L54 (nI r) kx fu m (nI c) = kx m' ∧ ALm m' b N n r X Y n ∧ Frm Lpk [] m m'
  | 0, c, fu, m, hd, hf, hC, hA => by
    obtain ⟨f, rfl⟩ : ∃ f, fu = f + 1 := ⟨fu - 1, by omega⟩
    have hn := H.2.2.1
    obtain rfl : c = n := by omega
    exact ⟨m, by rw [NI_search_L54, hC.2.1, if_pos (by rw [n_le (by omega) (by omega)]; omega)], hA, Frm.rf⟩
  | d + 1, c, fu, m, hd, hf, hC, hA => by
    obtain ⟨f, rfl⟩ : ∃ f, fu = f + 1 := ⟨fu - 1, by omega⟩
    have hn := H.2.2.1
    have hc : c < n := by omega
    have et : nI c + 1 = nI (c + 1) := by rw [k1, n_add]
    have hl := plA_len hr X Y
    obtain ⟨m1, e1, P1, F1⟩ := seePlaces_eq H hr hc hC
    obtain ⟨m2, e2, P2, K2, F2⟩ := sortKinds_eq H hc (hl c) (fun p hp => pls_ok hp) (hC.fr (F1.1.mo (wL_sub rfl))) P1
    have F := F1.tr F2
    obtain ⟨m', e, A, G⟩ := al_loop (kx := kx) H hr d (c + 1) f m2 (by omega) (by omega) (hC.fr (F.1.mo (wL_sub rfl))) (fun c' h' => by
      by_cases z : c' = c
      · subst z; exact ⟨P2, K2⟩
      · obtain ⟨a1, a2⟩ := hA c' (by omega)
        exact ⟨a1.fc (hl c') F (by omega), a2.fc (Nat.le_trans (ksP_len ..) (hl c')) F (by omega)⟩)
    exact ⟨m', by rw [NI_search_L54, hC.2.1, if_neg (by rw [n_le (by omega) (by omega)]; omega), e1, bM_s, e2, bM_s, et]; exact e, A, F.1.tr G⟩

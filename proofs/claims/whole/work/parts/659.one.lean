/-! by night: counts, the first found; one corner -/
theorem acL_filter {α : Type} (a : α → Ac) (q : α → Bool) : ∀ l, acL a (l.filter q) = acL (fun x => if q x then a x else ac0) l
  | [] => rfl
  | x :: l => by
    simp only [acL]
    cases z : q x with
    | true => rw [List.filter_cons_of_pos z, if_pos rfl, acL, acL_filter a q l]
    | false => rw [List.filter_cons_of_neg (by rw [z]; decide), if_neg (by decide), ac_l, acL_filter a q l]
theorem acL_fm {α β : Type} (a : β → Ac) (f : α → Option β) : ∀ l, acL a (l.filterMap f) = acL (fun x => match f x with | none => ac0 | some p => a p) l
  | [] => rfl
  | x :: l => by
    simp only [acL]
    cases z : f x with
    | none => rw [List.filterMap_cons_none z, ac_l, acL_fm a f l]
    | some p => rw [List.filterMap_cons_some z, acL, acL_fm a f l]
theorem acL_map {α β : Type} (a : β → Ac) (f : α → β) : ∀ l, acL a (l.map f) = acL (fun x => a (f x)) l
  | [] => rfl
  | x :: l => by simp only [List.map_cons, acL]; rw [acL_map a f l]
theorem acL_pg (a : Pl → Ac) (ps : List Pl) : acL (fun k => a (pg ps k)) (List.range ps.length) = acL a ps := by
  have e : (List.range ps.length).map (pg ps) = ps := by
    apply List.ext_getElem?
    intro i
    rw [List.getElem?_map]
    rcases Nat.lt_or_ge i ps.length with h | h
    · rw [List.getElem?_range h, pg_get h]; rfl
    · rw [List.getElem?_eq_none (by rw [List.length_range]; exact h), List.getElem?_eq_none h]; rfl
  rw [← acL_map a (pg ps), e]
theorem acL_bd {α : Type} {a : α → Ac} {B : Nat} : ∀ l : List α, (∀ x ∈ l, (a x).1 ≤ B) → (acL a l).1 ≤ B * l.length
  | [], _ => by simp [acL]
  | x :: l, h => by
    have h1 := h x (List.mem_cons_self ..)
    have h2 := acL_bd l (fun y hy => h y (List.mem_cons_of_mem _ hy))
    simp only [acL, ac, List.length_cons, Nat.mul_add]
    omega
def okA (s : Ac) : Prop := s.1 = 0 ↔ s.2 = none
theorem okA.ac {s t : Ac} (h : okA s) (k : okA t) : okA (ac s t) := by
  unfold okA _root_.Jvm.Pilot.COddHayLaw_law_r4503_43f9b3.ac at *
  simp only [Option.or_eq_none_iff]
  rw [← h, ← k]
  omega
theorem okA_0 : okA ac0 := by unfold okA; simp
theorem okA_one {g : Bool} {c : Nat} {w : List Nat} (h : 1 ≤ c) : okA (oneI g c w) := by
  unfold okA oneI
  cases g
  · simp
  · simp; omega
theorem okA_L {α : Type} {a : α → Ac} : ∀ l : List α, (∀ x ∈ l, okA (a x)) → okA (acL a l)
  | [], _ => okA_0
  | x :: l, h => (h x (List.mem_cons_self ..)).ac (okA_L l (fun y hy => h y (List.mem_cons_of_mem _ hy)))
theorem addK_P {P : Nat → Prop} {κ : Ky} {p : Nat} (hp : P p) : ∀ ks : List Kd, (∀ k ∈ ks, 1 ≤ k.2.1 ∧ P k.2.2) → ∀ k ∈ addK κ p ks, 1 ≤ k.2.1 ∧ P k.2.2
  | [], _, k, hk => by
    simp only [addK, List.mem_singleton] at hk
    subst hk; exact ⟨Nat.le_refl _, hp⟩
  | q :: t, h, k, hk => by
    have hq := h q (List.mem_cons_self ..)
    unfold addK at hk
    split at hk
    · rcases List.mem_cons.mp hk with rfl | hk
      · exact ⟨by simp, hq.2⟩
      · exact h k (List.mem_cons_of_mem _ hk)
    · rcases List.mem_cons.mp hk with rfl | hk
      · exact hq
      · exact addK_P hp t (fun y hy => h y (List.mem_cons_of_mem _ hy)) k hk
theorem kinds_P {P : Nat → Prop} {key : Nat → Ky} : ∀ (Q : List Nat) (ks : List Kd), (∀ p ∈ Q, P p) → (∀ k ∈ ks, 1 ≤ k.2.1 ∧ P k.2.2) → ∀ k ∈ kinds key ks Q, 1 ≤ k.2.1 ∧ P k.2.2
  | [], _, _, h => h
  | p :: Q, ks, hQ, h => kinds_P Q _ (fun q hq => hQ q (List.mem_cons_of_mem _ hq)) (addK_P (hQ p (List.mem_cons_self ..)) ks h)
theorem ksP_P {b : Nat → Nat} {N n : Nat} {X Y : Nat → Int} {c t : Nat} {ps : List Pl} : ∀ k ∈ ksP b N n X Y c ps t, 1 ≤ k.2.1 ∧ k.2.2 < t := by
  unfold ksP
  exact kinds_P (P := fun p => p < t) (Qk n X Y c ps t) [] (fun p hp => by
    unfold Qk at hp
    exact List.mem_range.mp (List.mem_filter.mp hp).1) (fun k hk => absurd hk (List.not_mem_nil))
theorem kdA_len (b : Nat → Nat) (N n : Nat) {r : Nat} (hr : 1 ≤ r ∧ r ≤ 3) (X Y : Nat → Int) (c : Nat) : (kdA b N n r X Y c).length ≤ 48 := Nat.le_trans (ksP_len b N n X Y c (plA r X Y c) (plA r X Y c).length) (plA_len hr X Y c)
/-- what the class has found -/
def SCn (m0 m : Mem) (s : Ac) : Prop := gI m 40 17 = nI s.1 ∧ (s.2 = none → ∀ i, gI m 41 i = gI m0 41 i) ∧ ∀ w, s.2 = some w → ∀ i x, w[i]? = some x → gI m 41 i = nI x
theorem keepFirst_eq {m : Mem} {s c v x y : Nat} (hs : s ≤ 1) (hv : v < 576) (h1 : gI m 49 v = nI x) (h2 : gI m 50 v = nI y) : NI_keepFirst m (nI s) (nI c) (nI v) = some (sI (sI (sI m 41 (3 * s) (nI c)) 41 (3 * s + 1) (nI x)) 41 (3 * s + 2) (nI y)) := by
  have e : nI s * 3 = nI (3 * s) := by rw [k3, n_mul]; congr 1; omega
  have g1 : gI (sI m 41 (3 * s) (nI c)) 49 v = nI x := by rw [gI_sI, if_neg (by omega), h1]
  have g2 : gI (sI (sI m 41 (3 * s) (nI c)) 41 (3 * s + 1) (nI x)) 50 v = nI y := by rw [gI_sI, if_neg (by omega), gI_sI, if_neg (by omega), h2]
  rw [NI_keepFirst, e, if_pos (n_in (show 3 * s < 6 by omega) (by omega)), n_ixn (by omega), letM_o, if_pos (n_in hv (by omega)), k1, n_add, if_pos (n_in (show 3 * s + 1 < 6 by omega) (by omega)), n_ixn (show 3 * s + 1 < 2147483648 by omega), n_ixn (show v < 2147483648 by omega), g1, letM_o, k2, n_add, if_pos (n_in (show 3 * s + 2 < 6 by omega) (by omega)), n_ixn (show 3 * s + 2 < 2147483648 by omega), g2, letM_o]
abbrev Lfd : List (Nat × Nat) := [(40, 17), (41, 999999)]
theorem SCn.one {m0 m : Mem} {s : Ac} (h : SCn m0 m s) (hk : okA s) (hb : s.1 < 2147483648) {c k x y : Nat} : ∀ m1, (if gI m 40 17 = 0 then m1 = sI (sI (sI m 41 0 (nI c)) 41 1 (nI x)) 41 2 (nI y) else m1 = m) → SCn m0 (sI m1 40 17 (nI (s.1 + k))) (ac s (k, some [c, x, y])) ∧ gI m1 40 17 = nI s.1 ∧ Frm Lfd [] m m1 := by
  intro m1 h1
  have e0 : (gI m 40 17 = 0) ↔ s.1 = 0 := by rw [h.1, k0, n_eq hb (by omega)]
  by_cases q : s.1 = 0
  · rw [if_pos (e0.mpr q)] at h1
    have hn := hk.mp q
    subst h1
    refine ⟨⟨?_, fun z => ?_, fun w hw i v hv => ?_⟩, ?_, (Frm.sI rfl rfl).tr ((Frm.sI rfl rfl).tr (Frm.sI rfl rfl))⟩
    · rw [gI_sI, if_pos ⟨rfl, rfl⟩]; rfl
    · simp [_root_.Jvm.Pilot.COddHayLaw_law_r4503_43f9b3.ac] at z
    · have e : w = [c, x, y] := by simp [_root_.Jvm.Pilot.COddHayLaw_law_r4503_43f9b3.ac, hn] at hw; exact hw.symm
      subst e
      rw [gI_sI, if_neg (by omega), gI_sI, gI_sI, gI_sI]
      match i, hv with
      | 0, hv => cases hv; rfl
      | 1, hv => cases hv; rfl
      | 2, hv => cases hv; rfl
    · rw [gI_sI, if_neg (by omega), gI_sI, if_neg (by omega), gI_sI, if_neg (by omega)]; exact h.1
  · rw [if_neg (fun z => q (e0.mp z))] at h1
    subst h1
    obtain ⟨w0, hw0⟩ : ∃ w, s.2 = some w := by
      cases z : s.2 with
      | none => exact absurd (hk.mpr z) q
      | some w => exact ⟨w, rfl⟩
    refine ⟨⟨?_, fun z => ?_, fun w hw i v hv => ?_⟩, h.1, Frm.rf⟩
    · rw [gI_sI, if_pos ⟨rfl, rfl⟩]; rfl
    · simp [_root_.Jvm.Pilot.COddHayLaw_law_r4503_43f9b3.ac, hw0] at z
    · have e : w0 = w := by simp [_root_.Jvm.Pilot.COddHayLaw_law_r4503_43f9b3.ac, hw0] at hw; exact hw
      subst e
      rw [gI_sI, if_neg (by omega)]
      exact h.2.2 _ hw0 i v hv
/-- all that is known while corners are tried -/
def TXn (m : Mem) (b : Nat → Nat) (N n r : Nat) (lw ed : Int32) (X Y : Nat → Int) : Prop := CXn m N n b lw ed X Y ∧ EDm m N n b X Y n ∧ ALm m b N n r X Y n
abbrev Ltr : List (Nat × Nat) := [(40, 15), (40, 16), (40, 17), (41, 999999)]
theorem ltr_w {c j : Nat} (h : c < 40 ∨ 42 ≤ c) : wL Ltr c j = false := by
  unfold wL
  rw [List.any_eq_false]
  have : ∀ q ∈ Ltr, (40 ≤ q.1 ∧ q.1 ≤ 41) := by decide +kernel
  intro q hq
  have := this q hq
  simp only [Bool.and_eq_true, beq_iff_eq, not_and]
  intro h; omega
theorem TXn.fr {m m' : Mem} {b : Nat → Nat} {N n r : Nat} {lw ed : Int32} {X Y : Nat → Int} (h : TXn m b N n r lw ed X Y) (F : Frm Ltr [] m m') : TXn m' b N n r lw ed X Y := ⟨h.1.fr (F.mo (wL_sub rfl)), fun e he => by rw [F.J _ _ (ltr_w (by omega)), F.I _ _ (ltr_w (by omega))]; exact h.2.1 e he, fun c hc => ⟨(h.2.2 c hc).1.fr F (fun d j _ _ => ltr_w (by omega)), (h.2.2 c hc).2.fr F (fun d j _ _ => ltr_w (by omega))⟩⟩
def RTn (m : Mem) (b : Nat → Nat) (N n : Nat) (X Y : Nat → Int) (i j : Nat) : Prop := gJ m 40 15 = rtR b N n X Y i j ∧ gI m 40 16 = rtO b N n X Y i j
theorem RTn.fr {m m' : Mem} {b : Nat → Nat} {N n : Nat} {X Y : Nat → Int} {i j : Nat} (h : RTn m b N n X Y i j) (F : Frm Lfd [] m m') : RTn m' b N n X Y i j := by
  unfold RTn at *
  rw [F.J _ _ rfl, F.I _ _ rfl]; exact h
abbrev g1n (b : Nat → Nat) (N n : Nat) (lw ed : Int32) (X Y : Nat → Int) (c : Nat) (κ : Ky) : Bool := alN (fit1 b lw ed (rtR b N n X Y c c + κ.1) (rtO b N n X Y c c ||| κ.2)) N 0
abbrev a1n (b : Nat → Nat) (N n : Nat) (lw ed : Int32) (X Y : Nat → Int) (c : Nat) (ps : List Pl) (k : Kd) : Ac := oneI (g1n b N n lw ed X Y c k.1) k.2.1 [c, (pg ps k.2.2).1, (pg ps k.2.2).2]
theorem t1_loop {N n r c : Nat} {b : Nat → Nat} {lw ed : Int32} {X Y : Nat → Int} {m0 : Mem} {kx : Mem → Option Mem} (H : NXc N n b ed X Y) (hr : 1 ≤ r ∧ r ≤ 3) (hc : c < n) : ∀ (suf pre : List Kd) (fu : Nat) (m : Mem) (s : Ac), kdA b N n r X Y c = pre ++ suf → suf.length < fu → TXn m b N n r lw ed X Y → RTn m b N n X Y c c → SCn m0 m s → okA s → (ac s (acL (a1n b N n lw ed X Y c (plA r X Y c)) suf)).1 < 2147483648 → ∃ m', NI_tryOne_L23 (nI c) (nI (48 * c + (kdA b N n r X Y c).length)) kx fu m (nI (48 * c + pre.length)) = kx m' ∧ SCn m0 m' (ac s (acL (a1n b N n lw ed X Y c (plA r X Y c)) suf)) ∧ Frm Lfd [] m m'
  | [], pre, fu, m, s, hs, hf, hT, hR, hS, hk, hb => by
    obtain ⟨f, rfl⟩ : ∃ f, fu = f + 1 := ⟨fu - 1, by omega⟩
    have hl := kdA_len b N n hr X Y c
    have hn := H.2.2.1
    rw [List.append_nil] at hs
    exact ⟨m, by rw [NI_tryOne_L23, if_pos (by rw [hs] at hl ⊢; rw [n_le (by omega) (by omega)]; exact Nat.le_refl _)], by rw [acL, ac_0]; exact hS, Frm.rf⟩
  | k :: suf, pre, fu, m, s, hs, hf, hT, hR, hS, hk, hb => by
    obtain ⟨f, rfl⟩ : ∃ f, fu = f + 1 := ⟨fu - 1, by omega⟩
    have hn := H.2.2.1
    have hl := kdA_len b N n hr X Y c
    have hpl := plA_len hr X Y c
    have hlen : (kdA b N n r X Y c).length = pre.length + (suf.length + 1) := by rw [hs, List.length_append]; rfl
    have hq : (kdA b N n r X Y c)[pre.length]? = some k := by rw [hs, List.getElem?_append_right (Nat.le_refl _), Nat.sub_self]; rfl
    obtain ⟨P, K⟩ := hT.2.2 c hc
    obtain ⟨g1, g2, g3, g4⟩ := K.2 _ _ hq
    obtain ⟨k1', k2'⟩ := ksP_P (b := b) (N := N) (n := n) (X := X) (Y := Y) (c := c) (ps := plA r X Y c) k (by have := List.mem_of_getElem? hq; exact this)
    obtain ⟨p1, p2, -⟩ := P.2 _ _ (pg_get k2')
    have ei : nI (48 * c + pre.length) + 1 = nI (48 * c + (pre ++ [k]).length) := by rw [k1, n_add, List.length_append]; rfl
    simp only [acL] at hb ⊢
    rw [← ac_as] at hb ⊢
    have hb0 : s.1 < 2147483648 := by simp only [ac] at hb; omega
    have e0 : NI_tryOne_L23 (nI c) (nI (48 * c + (kdA b N n r X Y c).length)) kx (f + 1) m (nI (48 * c + pre.length)) = if b2i (g1n b N n lw ed X Y c k.1) = 0 then NI_tryOne_L23 (nI c) (nI (48 * c + (kdA b N n r X Y c).length)) kx f m (nI (48 * c + (pre ++ [k]).length)) else (if gI m 40 17 = 0 then NI_tryOne_J85 (NI_tryOne_L23 (nI c) (nI (48 * c + (kdA b N n r X Y c).length)) kx f) kx (sI (sI (sI m 41 0 (nI c)) 41 1 (nI (pg (plA r X Y c) k.2.2).1)) 41 2 (nI (pg (plA r X Y c) k.2.2).2)) (nI c) (nI (48 * c + (kdA b N n r X Y c).length)) (nI (48 * c + pre.length)) else NI_tryOne_J85 (NI_tryOne_L23 (nI c) (nI (48 * c + (kdA b N n r X Y c).length)) kx f) kx m (nI c) (nI (48 * c + (kdA b N n r X Y c).length)) (nI (48 * c + pre.length))) := by
      rw [NI_tryOne_L23, if_neg (by rw [n_le (by omega) (by omega)]; omega), if_pos (n_in (by omega) (by omega)), n_ixn (by omega), g1, g2, g4, hR.1, hR.2, fit_eq hT.1.1 H.1 H.2.2.2.1, bI_s, ei, show (0 : Int32) = nI 0 from rfl, keepFirst_eq (s := 0) (by omega) (by omega) p1 p2, bM_s]
    rw [e0]
    cases z : g1n b N n lw ed X Y c k.1 with
    | false =>
      have ea : a1n b N n lw ed X Y c (plA r X Y c) k = ac0 := by unfold a1n oneI; rw [z, if_neg (by decide)]
      rw [ea, ac_0] at hb ⊢
      obtain ⟨m', e, S, F⟩ := t1_loop (kx := kx) H hr hc suf (pre ++ [k]) f m s (by rw [hs, List.append_assoc]; rfl) (by simp only [List.length_cons] at hf; omega) hT hR hS hk hb
      exact ⟨m', by rw [if_pos (show b2i false = 0 from rfl)]; exact e, S, F⟩
    | true =>
      have ea : a1n b N n lw ed X Y c (plA r X Y c) k = (k.2.1, some [c, (pg (plA r X Y c) k.2.2).1, (pg (plA r X Y c) k.2.2).2]) := by unfold a1n oneI; rw [z, if_pos rfl]
      obtain ⟨m1, hm1, eq1⟩ : ∃ m1, (if gI m 40 17 = 0 then m1 = sI (sI (sI m 41 0 (nI c)) 41 1 (nI (pg (plA r X Y c) k.2.2).1)) 41 2 (nI (pg (plA r X Y c) k.2.2).2) else m1 = m) ∧ (if gI m 40 17 = 0 then NI_tryOne_J85 (NI_tryOne_L23 (nI c) (nI (48 * c + (kdA b N n r X Y c).length)) kx f) kx (sI (sI (sI m 41 0 (nI c)) 41 1 (nI (pg (plA r X Y c) k.2.2).1)) 41 2 (nI (pg (plA r X Y c) k.2.2).2)) (nI c) (nI (48 * c + (kdA b N n r X Y c).length)) (nI (48 * c + pre.length)) else NI_tryOne_J85 (NI_tryOne_L23 (nI c) (nI (48 * c + (kdA b N n r X Y c).length)) kx f) kx m (nI c) (nI (48 * c + (kdA b N n r X Y c).length)) (nI (48 * c + pre.length))) = NI_tryOne_J85 (NI_tryOne_L23 (nI c) (nI (48 * c + (kdA b N n r X Y c).length)) kx f) kx m1 (nI c) (nI (48 * c + (kdA b N n r X Y c).length)) (nI (48 * c + pre.length)) := by
        by_cases q : gI m 40 17 = 0
        · exact ⟨_, by rw [if_pos q], by rw [if_pos q]⟩
        · exact ⟨m, by rw [if_neg q], by rw [if_neg q]⟩
      obtain ⟨S1, s17, F1⟩ := hS.one (k := k.2.1) hk hb0 m1 hm1
      have F2 : Frm Lfd [] m (sI m1 40 17 (nI (s.1 + k.2.1))) := F1.tr (Frm.sI rfl rfl)
      rw [ea] at hb ⊢
      obtain ⟨m', e, S, F⟩ := t1_loop (kx := kx) H hr hc suf (pre ++ [k]) f _ _ (by rw [hs, List.append_assoc]; rfl) (by simp only [List.length_cons] at hf; omega) (hT.fr (F2.mo (wL_sub rfl))) (hR.fr F2) S1 (hk.ac (by rw [← ea]; exact okA_one k1')) hb
      refine ⟨m', ?_, S, F2.tr F⟩
      have g61 : gI m1 61 (48 * c + pre.length) = nI k.2.1 := by rw [F1.I 61 _ rfl, g3]
      rw [if_neg (show ¬ b2i true = 0 by decide), eq1, NI_tryOne_J85, if_pos (n_in (by omega) (by omega)), n_ixn (by omega), g61, s17, n_add, letM_o, ei]
      exact e
theorem tryOne_eq {N n r c : Nat} {b : Nat → Nat} {lw ed : Int32} {X Y : Nat → Int} {m0 m : Mem} {s : Ac} (H : NXc N n b ed X Y) (hr : 1 ≤ r ∧ r ≤ 3) (hc : c < n) (hT : TXn m b N n r lw ed X Y) (hS : SCn m0 m s) (hk : okA s) (hb : (ac s (acL (a1n b N n lw ed X Y c (plA r X Y c)) (kdA b N n r X Y c))).1 < 2147483648) : ∃ m', NI_tryOne m (nI c) = some m' ∧ SCn m0 m' (ac s (acL (a1n b N n lw ed X Y c (plA r X Y c)) (kdA b N n r X Y c))) ∧ Frm Ltr [] m m' := by
  have hn := H.2.2.1
  obtain ⟨m1, e1, r1, r2, F1⟩ := leaveOut_eq H (fun e he => skN_iff H.2.2.1 hc hc he) hT.1 hT.2.1
  have T1 := hT.fr (F1.mo (wL_sub rfl))
  obtain ⟨m', e, S, F⟩ := t1_loop (m0 := m0) (kx := fun m6 => some m6) H hr hc (kdA b N n r X Y c) [] FU m1 s rfl (by have := kdA_len b N n hr X Y c; unfold FU; omega) T1 ⟨r1, r2⟩ (by unfold SCn at *; rw [F1.I 40 17 rfl]; simp only [fun i => F1.I 41 i rfl]; exact hS) hk hb
  have e48 : nI c * 48 = nI (48 * c + ([] : List Kd).length) := by rw [show (48 : Int32) = nI 48 from rfl, n_mul]; congr 1; simp; omega
  refine ⟨m', ?_, S, (F1.mo (wL_sub rfl)).tr (F.mo (wL_sub rfl))⟩
  rw [NI_tryOne, e1, bM_s, if_pos (n_in (by omega) (by omega)), n_ixn (by omega), (T1.2.2 c hc).2.1, letV_o, letV_o, c48, e48]
  exact e

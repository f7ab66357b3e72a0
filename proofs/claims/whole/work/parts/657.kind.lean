/-! by night: all places, their kinds -/
theorem isP_iz {x y : Int} (hx : bd 1000 x) (hy : bd 1000 y) : OH_isPoint (iz x) (iz y) = b2i (decide (0 ≤ x ∧ x ≤ 20 ∧ 0 ≤ y ∧ y ≤ 20)) := by
  unfold OH_isPoint
  have e20 : (20 : Int32) = iz 20 := by decide
  simp only [i0, e20, iz_lt (show R31 x by omega) (show R31 0 by omega), iz_lt (show R31 20 by omega) (show R31 x by omega), iz_lt (show R31 y by omega) (show R31 0 by omega), iz_lt (show R31 20 by omega) (show R31 y by omega)]
  by_cases a : x < 0
  · rw [if_pos a, decide_eq_false (by omega)]; rfl
  · by_cases c : 20 < x
    · rw [if_neg a, if_pos c, decide_eq_false (by omega)]; rfl
    · by_cases d : y < 0
      · rw [if_neg a, if_neg c, if_pos d, decide_eq_false (by omega)]; rfl
      · by_cases e : 20 < y
        · rw [if_neg a, if_neg c, if_neg d, if_pos e, decide_eq_false (by omega)]; rfl
        · rw [if_neg a, if_neg c, if_neg d, if_neg e, decide_eq_true (by omega)]; rfl
theorem grid {r u v : Nat} (hr : 1 ≤ r ∧ r ≤ 3) (hu : u < 2 * r + 1) (hv : v < 2 * r + 1) : (u * (2 * r + 1) + v) / (2 * r + 1) = u ∧ (u * (2 * r + 1) + v) % (2 * r + 1) = v ∧ (u * (2 * r + 1) + v = (2 * r + 1) * (2 * r + 1) / 2 ↔ u = r ∧ v = r) ∧ u * (2 * r + 1) + v < 49 ∧ ((2 * r + 1) * (2 * r + 1) / 2 < u * (2 * r + 1) + v ∨ u * (2 * r + 1) + v < 48) := by
  rcases (show r = 1 ∨ r = 2 ∨ r = 3 by omega) with rfl | rfl | rfl <;> refine ⟨?_, ?_, ?_, ?_, ?_⟩ <;> omega
theorem sp_in {N n r u c : Nat} {b : Nat → Nat} {lw ed : Int32} {X Y : Nat → Int} {kx : Mem → Option Mem} (H : NXc N n b ed X Y) (hr : 1 ≤ r ∧ r ≤ 3) (hu : u < 2 * r + 1) (hc : c < n) : ∀ (d v fu : Nat) (m : Mem), v + d = 2 * r + 1 → d < fu → CXn m N n b lw ed X Y → PLm m N n b X Y c (pls r X Y c (u * (2 * r + 1) + v)) → ∃ m', NI_seePlaces_L19 (nI c) (nI r) (iz ((u : Int) - r)) kx fu m (iz ((v : Int) - r)) = kx m' ∧ PLm m' N n b X Y c (pls r X Y c (u * (2 * r + 1) + (2 * r + 1))) ∧ FC c m m'
  | 0, v, fu, m, hd, hf, hC, hP => by
    obtain ⟨f, rfl⟩ : ∃ f, fu = f + 1 := ⟨fu - 1, by omega⟩
    obtain rfl : v = 2 * r + 1 := by omega
    exact ⟨m, by rw [NI_seePlaces_L19, if_pos (by rw [nI_iz, iz_lt (by omega) (by omega)]; omega)], hP, FC.rf⟩
  | d + 1, v, fu, m, hd, hf, hC, hP => by
    obtain ⟨f, rfl⟩ : ∃ f, fu = f + 1 := ⟨fu - 1, by omega⟩
    have hn := H.2.2.1
    obtain ⟨t1, t2, t3, t4, t5⟩ := grid hr hu (show v < 2 * r + 1 by omega)
    obtain ⟨q1, q2⟩ := H.2.2.2.2.2 c hc
    obtain ⟨a1, a2, -, -⟩ := hC.2.2.2 c hc
    have hlen := pls_len r X Y c (u * (2 * r + 1) + v)
    have hlt : (pls r X Y c (u * (2 * r + 1) + v)).length < 48 := by
      rcases t5 with t5 | t5
      · rw [if_pos t5] at hlen; omega
      · omega
    have ev : iz ((v : Int) - r) + 1 = iz (((v + 1 : Nat) : Int) - r) := by rw [i1, iz_add]; congr 1; omega
    have ex : iz (X c) + iz ((u : Int) - r) = iz (X c + (u : Int) - r) := by rw [iz_add]; congr 1; omega
    have ey : iz (Y c) + iz ((v : Int) - r) = iz (Y c + (v : Int) - r) := by rw [iz_add]; congr 1; omega
    have su : (iz ((u : Int) - r) = 0) ↔ u = r := by rw [i0, iz_eq (by omega) (by omega)]; omega
    have sv : (iz ((v : Int) - r) = 0) ↔ v = r := by rw [i0, iz_eq (by omega) (by omega)]; omega
    have e0 : ∀ R, NI_seePlaces_L19 (nI c) (nI r) (iz ((u : Int) - r)) kx (f + 1) m (iz ((v : Int) - r)) = R ↔ (if u = r ∧ v = r then NI_seePlaces_J39 (NI_seePlaces_L19 (nI c) (nI r) (iz ((u : Int) - r)) kx f) kx m (nI c) (nI r) (iz ((u : Int) - r)) (iz ((v : Int) - r)) 0 else NI_seePlaces_J39 (NI_seePlaces_L19 (nI c) (nI r) (iz ((u : Int) - r)) kx f) kx m (nI c) (nI r) (iz ((u : Int) - r)) (iz ((v : Int) - r)) 1) = R := by
      intro R
      rw [NI_seePlaces_L19, if_neg (by rw [nI_iz, iz_lt (by omega) (by omega)]; omega)]
      by_cases z1 : u = r
      · by_cases z2 : v = r
        · rw [if_pos (su.mpr z1), if_pos (sv.mpr z2), if_pos ⟨z1, z2⟩]
        · rw [if_pos (su.mpr z1), if_neg (fun z => z2 (sv.mp z)), if_neg (fun z => z2 z.2)]
      · rw [if_neg (fun z => z1 (su.mp z)), if_neg (fun z => z1 z.1)]
    have eS : u * (2 * r + 1) + v + 1 = u * (2 * r + 1) + (v + 1) := by omega
    have pp := pls_succ r X Y c (u * (2 * r + 1) + v)
    rw [eS] at pp
    by_cases z : u = r ∧ v = r
    · have en : plc r X Y c (u * (2 * r + 1) + v) = none := by unfold plc; rw [if_pos (t3.mpr z)]
      rw [en] at pp
      simp only [Option.toList_none, List.append_nil] at pp
      obtain ⟨m', e, P, F⟩ := sp_in (kx := kx) H hr hu hc d (v + 1) f m (by omega) (by omega) hC (by rw [pp]; exact hP)
      exact ⟨m', by rw [e0, if_pos z, NI_seePlaces_J39, if_pos rfl, ev]; exact e, P, F⟩
    · have eJ : NI_seePlaces_J39 (NI_seePlaces_L19 (nI c) (nI r) (iz ((u : Int) - r)) kx f) kx m (nI c) (nI r) (iz ((u : Int) - r)) (iz ((v : Int) - r)) 1 = (if b2i (decide (0 ≤ X c + (u : Int) - r ∧ X c + (u : Int) - r ≤ 20 ∧ 0 ≤ Y c + (v : Int) - r ∧ Y c + (v : Int) - r ≤ 20)) = 0 then NI_seePlaces_L19 (nI c) (nI r) (iz ((u : Int) - r)) kx f m (iz (((v + 1 : Nat) : Int) - r)) else bM (NI_seePlace m (nI c) (iz (X c + (u : Int) - r)) (iz (Y c + (v : Int) - r))) fun m2 => NI_seePlaces_L19 (nI c) (nI r) (iz ((u : Int) - r)) kx f m2 (iz (((v + 1 : Nat) : Int) - r))) := by
        rw [NI_seePlaces_J39, if_neg (by decide), if_pos (n_in (by omega) (by omega)), n_ixn (by omega), a1, a2, ex, ey, isP_iz (by omega) (by omega), hP.1, ev, if_neg (show ¬ (48 : Int32) ≤ nI (pls r X Y c (u * (2 * r + 1) + v)).length by rw [show (48 : Int32) = nI 48 from rfl, n_le (by omega) (by omega)]; omega)]
      have en : plc r X Y c (u * (2 * r + 1) + v) = if 0 ≤ X c + (u : Int) - r ∧ X c + (u : Int) - r ≤ 20 ∧ 0 ≤ Y c + (v : Int) - r ∧ Y c + (v : Int) - r ≤ 20 then some ((X c + (u : Int) - r).toNat, (Y c + (v : Int) - r).toNat) else none := by unfold plc; rw [if_neg (fun w => z (t3.mp w)), t1, t2]
      by_cases w : 0 ≤ X c + (u : Int) - r ∧ X c + (u : Int) - r ≤ 20 ∧ 0 ≤ Y c + (v : Int) - r ∧ Y c + (v : Int) - r ≤ 20
      · rw [if_pos w] at en
        rw [en] at pp
        simp only [Option.toList_some] at pp
        obtain ⟨m1, e1, P1, F1⟩ := seePlace_eq (p := ((X c + (u : Int) - r).toNat, (Y c + (v : Int) - r).toNat)) H hC hc hP hlt (by simp only; omega) (by simp only; omega)
        rw [show nI (X c + (u : Int) - r).toNat = iz (X c + (u : Int) - r) by rw [nI_iz]; congr 1; omega, show nI (Y c + (v : Int) - r).toNat = iz (Y c + (v : Int) - r) by rw [nI_iz]; congr 1; omega] at e1
        obtain ⟨m', e, P, F⟩ := sp_in (kx := kx) H hr hu hc d (v + 1) f m1 (by omega) (by omega) (hC.fr (F1.1.mo (wL_sub rfl))) (by rw [pp]; exact P1)
        exact ⟨m', by rw [e0, if_neg z, eJ, if_neg (by rw [decide_eq_true w]; decide), e1, bM_s]; exact e, P, F1.tr F⟩
      · rw [if_neg w] at en
        rw [en] at pp
        simp only [Option.toList_none, List.append_nil] at pp
        obtain ⟨m', e, P, F⟩ := sp_in (kx := kx) H hr hu hc d (v + 1) f m (by omega) (by omega) hC (by rw [pp]; exact hP)
        exact ⟨m', by rw [e0, if_neg z, eJ, if_pos (by rw [decide_eq_false w]; rfl)]; exact e, P, F⟩
theorem sp_out {N n r c : Nat} {b : Nat → Nat} {lw ed : Int32} {X Y : Nat → Int} {kx : Mem → Option Mem} (H : NXc N n b ed X Y) (hr : 1 ≤ r ∧ r ≤ 3) (hc : c < n) : ∀ (d u fu : Nat) (m : Mem), u + d = 2 * r + 1 → d < fu → CXn m N n b lw ed X Y → PLm m N n b X Y c (pls r X Y c (u * (2 * r + 1))) → ∃ m', NI_seePlaces_L10 (nI c) (nI r) kx fu m (iz ((u : Int) - r)) = kx m' ∧ PLm m' N n b X Y c (pls r X Y c ((2 * r + 1) * (2 * r + 1))) ∧ FC c m m'
  | 0, u, fu, m, hd, hf, hC, hP => by
    obtain ⟨f, rfl⟩ : ∃ f, fu = f + 1 := ⟨fu - 1, by omega⟩
    obtain rfl : u = 2 * r + 1 := by omega
    exact ⟨m, by rw [NI_seePlaces_L10, if_pos (by rw [nI_iz, iz_lt (by omega) (by omega)]; omega)], hP, FC.rf⟩
  | d + 1, u, fu, m, hd, hf, hC, hP => by
    obtain ⟨f, rfl⟩ : ∃ f, fu = f + 1 := ⟨fu - 1, by omega⟩
    obtain ⟨m1, e1, P1, F1⟩ := sp_in (kx := fun m2 => NI_seePlaces_L10 (nI c) (nI r) kx f m2 (iz ((u : Int) - r) + 1)) H hr (show u < 2 * r + 1 by omega) hc (2 * r + 1) 0 FU m (by omega) (by unfold FU; omega) hC hP
    have es : u * (2 * r + 1) + (2 * r + 1) = (u + 1) * (2 * r + 1) := by rw [Nat.add_mul, Nat.one_mul]
    rw [es] at P1
    obtain ⟨m', e, P, F⟩ := sp_out (kx := kx) H hr hc d (u + 1) f m1 (by omega) (by omega) (hC.fr (F1.1.mo (wL_sub rfl))) P1
    have eu : iz ((u : Int) - r) + 1 = iz (((u + 1 : Nat) : Int) - r) := by rw [i1, iz_add]; congr 1; omega
    have en : -(nI r) = iz (((0 : Nat) : Int) - r) := by rw [nI_iz, iz_neg]; congr 1; omega
    refine ⟨m', ?_, P, F1.tr F⟩
    rw [NI_seePlaces_L10, if_neg (by rw [nI_iz, iz_lt (by omega) (by omega)]; omega), letV_o, en, e1, eu]
    exact e
theorem seePlaces_eq {N n r c : Nat} {b : Nat → Nat} {lw ed : Int32} {X Y : Nat → Int} {m : Mem} (H : NXc N n b ed X Y) (hr : 1 ≤ r ∧ r ≤ 3) (hc : c < n) (hC : CXn m N n b lw ed X Y) : ∃ m', NI_seePlaces m (nI c) (nI r) = some m' ∧ PLm m' N n b X Y c (pls r X Y c ((2 * r + 1) * (2 * r + 1))) ∧ FC c m m' := by
  have hn := H.2.2.1
  have F0 : FC c m (sI m 48 c 0) := FC.sI rfl (fun h _ => absurd rfl h) (fun _ => rfl)
  obtain ⟨m', e, P, F⟩ := sp_out (kx := fun m4 => some m4) H hr hc (2 * r + 1) 0 FU (sI m 48 c 0) (by omega) (by unfold FU; omega) (hC.fr (F0.1.mo (wL_sub rfl))) (by
    rw [Nat.zero_mul]
    exact ⟨by rw [gI_sI, if_pos ⟨rfl, rfl⟩]; rfl, fun k p h => by simp [pls] at h⟩)
  have en : -(nI r) = iz (((0 : Nat) : Int) - r) := by rw [nI_iz, iz_neg]; congr 1; omega
  refine ⟨m', ?_, P, F0.tr F⟩
  rw [NI_seePlaces, if_pos (n_in (by omega) (by omega)), n_ixn (by omega), letM_o, letV_o, en]
  exact e
/-! kinds -/
abbrev keyP (b : Nat → Nat) (N n : Nat) (X Y : Nat → Int) (c : Nat) (p : Pl) : Ky := (cmR b N n X Y c p.1 p.2 + goR b N n X Y c p.1 p.2, cmO b N n X Y c p.1 p.2 ||| goO b N n X Y c p.1 p.2)
theorem mid_get {α : Type} {s t : List α} {x x' y : α} {j : Nat} (h : (s ++ x :: t)[j]? = some y) : (j ≠ s.length ∧ (s ++ x' :: t)[j]? = some y) ∨ (j = s.length ∧ y = x) := by
  rcases Nat.lt_or_ge j s.length with q | q
  · rw [List.getElem?_append_left q] at h
    exact Or.inl ⟨by omega, by rw [List.getElem?_append_left q]; exact h⟩
  · rw [List.getElem?_append_right q] at h
    by_cases z : j - s.length = 0
    · rw [z] at h; cases h; exact Or.inr ⟨by omega, rfl⟩
    · obtain ⟨w, hw⟩ : ∃ w, j - s.length = w + 1 := ⟨j - s.length - 1, by omega⟩
      rw [hw] at h
      exact Or.inl ⟨by omega, by rw [List.getElem?_append_right q, hw]; exact h⟩
theorem sk_loop {m : Mem} {c k : Nat} {ks : List Kd} {κ : Ky} {kx : Mem → Option Mem} (hc : c < 12) (hK : KDm m c ks) (hl : ks.length < 48) (hkx : ∃ m', kx m = some m' ∧ KDm m' c (ks ++ [(κ, 1, k)]) ∧ FC c m m' ∧ Frm W_NI_sortKinds [] m m') (x2 : Int32) : ∀ (suf pre : List Kd) (fu : Nat), ks = pre ++ suf → suf.length < fu → ∃ m', NI_sortKind_L60 (nI c) x2 κ.1 κ.2 (nI (48 * c + ks.length)) kx fu m (nI (48 * c + pre.length)) = some m' ∧ KDm m' c (pre ++ addK κ k suf) ∧ FC c m m' ∧ Frm W_NI_sortKinds [] m m'
  | [], pre, fu, hs, hf => by
    obtain ⟨f, rfl⟩ : ∃ f, fu = f + 1 := ⟨fu - 1, by omega⟩
    obtain rfl : ks = pre := by rw [hs, List.append_nil]
    obtain ⟨m', e, K, F, G⟩ := hkx
    exact ⟨m', by rw [NI_sortKind_L60, if_pos (by rw [n_le (by omega) (by omega)]; omega)]; exact e, K, F, G⟩
  | q :: suf, pre, fu, hs, hf => by
    obtain ⟨f, rfl⟩ : ∃ f, fu = f + 1 := ⟨fu - 1, by omega⟩
    have hlen : ks.length = pre.length + (suf.length + 1) := by rw [hs, List.length_append]; rfl
    have hq : ks[pre.length]? = some q := by rw [hs, List.getElem?_append_right (Nat.le_refl _), Nat.sub_self]; rfl
    obtain ⟨g1, g2, g3, g4⟩ := hK.2 _ _ hq
    have ei : nI (48 * c + pre.length) + 1 = nI (48 * c + (pre ++ [q]).length) := by rw [k1, n_add, List.length_append]; rfl
    have e0 : NI_sortKind_L60 (nI c) x2 κ.1 κ.2 (nI (48 * c + ks.length)) kx (f + 1) m (nI (48 * c + pre.length)) = if q.1 = κ then some (sI m 61 (48 * c + pre.length) (nI (q.2.1 + 1))) else NI_sortKind_L60 (nI c) x2 κ.1 κ.2 (nI (48 * c + ks.length)) kx f m (nI (48 * c + (pre ++ [q]).length)) := by
      rw [NI_sortKind_L60, if_neg (by rw [n_le (by omega) (by omega)]; omega), if_pos (n_in (by omega) (by omega)), n_ixn (by omega), g1, g2, g3, ei, k1, n_add]
      by_cases z : q.1 = κ
      · rw [if_pos ((cmp0 _ _).mpr (by rw [z])), if_pos (by rw [z]), if_pos z, letM_o]
      · rw [if_neg z]
        by_cases w : q.1.1 = κ.1
        · rw [if_pos ((cmp0 _ _).mpr w), if_neg (fun y => z (Prod.ext w y))]
        · rw [if_neg (fun y => w ((cmp0 _ _).mp y))]
    rw [e0]
    unfold addK
    by_cases z : q.1 = κ
    · rw [if_pos z, if_pos z]
      refine ⟨_, rfl, ⟨?_, fun j y h => ?_⟩, FC.sI rfl (fun _ _ => by omega) (fun h => by omega), Frm.sI rfl rfl⟩
      · rw [gI_sI, if_neg (by omega), hK.1, hlen, List.length_append]; rfl
      · rcases mid_get (x' := q) h with ⟨h1, h2⟩ | ⟨rfl, rfl⟩
        · rw [← hs] at h2
          have := hK.2 j y h2
          unfold KDk at *
          rw [gJ_sI, gI_sI, if_neg (by omega), gI_sI, if_neg (by omega), gI_sI, if_neg (by omega)]
          exact this
        · unfold KDk
          rw [gJ_sI, gI_sI, if_neg (by omega), gI_sI, if_pos ⟨rfl, rfl⟩, gI_sI, if_neg (by omega), g1, g2, g4, z]
          exact ⟨rfl, rfl, rfl, rfl⟩
    · rw [if_neg z, if_neg z]
      obtain ⟨m', e, K, F⟩ := sk_loop (m := m) (c := c) (k := k) (ks := ks) (κ := κ) (kx := kx) hc hK hl hkx x2 suf (pre ++ [q]) f (by rw [hs, List.append_assoc]; rfl) (by simp only [List.length_cons] at hf; omega)
      exact ⟨m', e, by rw [List.append_assoc] at K; exact K, F⟩
theorem sortKind_eq {N n : Nat} {b : Nat → Nat} {X Y : Nat → Int} {m : Mem} {c k : Nat} {ks : List Kd} {ps : List Pl} {p : Pl} (hc : c < 12) (hP : PLm m N n b X Y c ps) (hk : k < 48) (hp : ps[k]? = some p) (hK : KDm m c ks) (hl : ks.length < 48) : ∃ m', NI_sortKind m (nI c) (nI (48 * c + k)) = some m' ∧ KDm m' c (addK (keyP b N n X Y c p) k ks) ∧ FC c m m' ∧ Frm W_NI_sortKinds [] m m' := by
  obtain ⟨p1, p2, p3, p4, p5, p6⟩ := hP.2 k p hp
  have e48 : nI c * 48 = nI (48 * c + ([] : List Kd).length) := by rw [show (48 : Int32) = nI 48 from rfl, n_mul]; congr 1; simp; omega
  have ev : nI c * 48 + nI ks.length = nI (48 * c + ks.length) := c48 c ks.length
  have hap : ∃ m', (fun m7 => if inb (nI c) 12 then (if 48 ≤ (gI m7 60 (ixn (nI c))) then (some m7)
  else (if inb (nI (48 * c + ks.length)) 576 then (letM (sJ m7 58 (ixn (nI (48 * c + ks.length))) (cmR b N n X Y c p.1 p.2 + goR b N n X Y c p.1 p.2)) fun m10 =>
  letM (sI m10 59 (ixn (nI (48 * c + ks.length))) (cmO b N n X Y c p.1 p.2 ||| goO b N n X Y c p.1 p.2)) fun m11 =>
  letM (sI m11 61 (ixn (nI (48 * c + ks.length))) 1) fun m12 =>
  letM (sI m12 62 (ixn (nI (48 * c + ks.length))) (nI (48 * c + k))) fun m13 =>
  letM (sI m13 60 (ixn (nI c)) ((gI m13 60 (ixn (nI c))) + 1)) fun m14 =>
  some m14) else none)) else none) m = some m' ∧ KDm m' c (ks ++ [(keyP b N n X Y c p, 1, k)]) ∧ FC c m m' ∧ Frm W_NI_sortKinds [] m m' := by
    let v := 48 * c + ks.length
    have hv : v = 48 * c + ks.length := rfl
    let m13 := sI (sI (sI (sJ m 58 v (cmR b N n X Y c p.1 p.2 + goR b N n X Y c p.1 p.2)) 59 v (cmO b N n X Y c p.1 p.2 ||| goO b N n X Y c p.1 p.2)) 61 v 1) 62 v (nI (48 * c + k))
    have h13 : m13 = sI (sI (sI (sJ m 58 v (cmR b N n X Y c p.1 p.2 + goR b N n X Y c p.1 p.2)) 59 v (cmO b N n X Y c p.1 p.2 ||| goO b N n X Y c p.1 p.2)) 61 v 1) 62 v (nI (48 * c + k)) := rfl
    have g60 : gI m13 60 c = nI ks.length := by rw [← hK.1]; rfl
    have F13 : FC c m m13 := (FC.sJ rfl (fun _ _ => by omega)).tr ((FC.sI rfl (fun _ _ => by omega) (fun h => by omega)).tr ((FC.sI rfl (fun _ _ => by omega) (fun h => by omega)).tr (FC.sI rfl (fun _ _ => by omega) (fun h => by omega))))
    have G13 : Frm W_NI_sortKinds [] m m13 := (Frm.sJ rfl rfl).tr ((Frm.sI rfl rfl).tr ((Frm.sI rfl rfl).tr (Frm.sI rfl rfl)))
    refine ⟨sI m13 60 c (nI (ks.length + 1)), ?_, ⟨?_, fun j y h => ?_⟩, F13.tr (FC.sI rfl (fun _ h => absurd rfl h) (fun _ => rfl)), G13.tr (Frm.sI rfl rfl)⟩
    · show (if inb (nI c) 12 then _ else none) = _
      rw [if_pos (n_in hc (by omega)), n_ixn (show c < 2147483648 by omega), hK.1, if_neg (by rw [show (48 : Int32) = nI 48 from rfl, n_le (by omega) (by omega)]; omega), if_pos (n_in (show 48 * c + ks.length < 576 by omega) (by omega)), n_ixn (by omega), letM_o, letM_o, letM_o, letM_o]
      show letM (sI m13 60 c (gI m13 60 c + 1)) _ = _
      rw [g60, k1, n_add, letM_o]
    · rw [gI_sI, if_pos ⟨rfl, rfl⟩, List.length_append]; rfl
    · rcases cat_get h with ⟨l, e⟩ | ⟨rfl, rfl⟩
      · have := hK.2 j y e
        unfold KDk at *
        rw [gI_sI, if_neg (by omega), gI_sI, if_neg (by omega), gI_sI, if_neg (by omega), gJ_sI, h13, gI_sI, if_neg (by omega), gI_sI, if_neg (by omega), gI_sI, if_neg (by omega), gI_sJ, gJ_sI, gJ_sI, gJ_sI, gJ_sJ, if_neg (by omega), gI_sI, if_neg (by omega), gI_sI, if_neg (by omega), gI_sI, if_neg (by omega), gI_sJ, gI_sI, if_neg (by omega), gI_sI, if_neg (by omega), gI_sI, if_neg (by omega), gI_sJ]
        exact this
      · refine ⟨?_, ?_, ?_, ?_⟩
        · show gJ (sI m13 60 c _) 58 v = _
          rw [gJ_sI, h13, gJ_sI, gJ_sI, gJ_sI, gJ_sJ, if_pos ⟨rfl, rfl⟩]
        · show gI (sI m13 60 c _) 59 v = _
          rw [gI_sI, if_neg (by omega), h13, gI_sI, if_neg (by omega), gI_sI, if_neg (by omega), gI_sI, if_pos ⟨rfl, rfl⟩]
        · show gI (sI m13 60 c _) 61 v = _
          rw [gI_sI, if_neg (by omega), h13, gI_sI, if_neg (by omega), gI_sI, if_pos ⟨rfl, rfl⟩]; rfl
        · show gI (sI m13 60 c _) 62 v = _
          rw [gI_sI, if_neg (by omega), h13, gI_sI, if_pos ⟨rfl, rfl⟩]
  rw [NI_sortKind, if_pos (n_in (show 48 * c + k < 576 by omega) (by omega)), letL_o, letV_o, n_ixn (show 48 * c + k < 2147483648 by omega), p3, p4, p5, p6, if_pos (n_in hc (by omega)), letV_o, letV_o, n_ixn (show c < 2147483648 by omega), hK.1, ev, e48]
  rw [n_ixn (show c < 2147483648 by omega)] at hap
  exact sk_loop (κ := keyP b N n X Y c p) hc hK hl hap _ ks [] FU rfl (by unfold FU; omega)

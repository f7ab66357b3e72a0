/-! by night: places of a corner -/
abbrev Pl : Type := Nat × Nat
def plc (r : Nat) (X Y : Nat → Int) (c t : Nat) : Option Pl :=
  if t = (2 * r + 1) * (2 * r + 1) / 2 then none
  else if 0 ≤ X c + ((t / (2 * r + 1) : Nat) : Int) - r ∧ X c + ((t / (2 * r + 1) : Nat) : Int) - r ≤ 20 ∧ 0 ≤ Y c + ((t % (2 * r + 1) : Nat) : Int) - r ∧ Y c + ((t % (2 * r + 1) : Nat) : Int) - r ≤ 20 then
    some ((X c + ((t / (2 * r + 1) : Nat) : Int) - r).toNat, (Y c + ((t % (2 * r + 1) : Nat) : Int) - r).toNat)
  else none
def pls (r : Nat) (X Y : Nat → Int) (c t : Nat) : List Pl := (List.range t).filterMap (plc r X Y c)
theorem pls_succ (r : Nat) (X Y : Nat → Int) (c t : Nat) : pls r X Y c (t + 1) = pls r X Y c t ++ (plc r X Y c t).toList := by
  unfold pls
  rw [List.range_succ, List.filterMap_append]
  congr 1
theorem pls_len (r : Nat) (X Y : Nat → Int) (c : Nat) : ∀ t, (pls r X Y c t).length + (if (2 * r + 1) * (2 * r + 1) / 2 < t then 1 else 0) ≤ t
  | 0 => by simp [pls]
  | t + 1 => by
    have ih := pls_len r X Y c t
    rw [pls_succ, List.length_append]
    by_cases q : t = (2 * r + 1) * (2 * r + 1) / 2
    · have e : plc r X Y c t = none := by unfold plc; rw [if_pos q]
      rw [e]
      simp only [Option.toList_none, List.length_nil]
      rw [if_pos (by omega)]
      rw [if_neg (by omega)] at ih
      omega
    · have e : (plc r X Y c t).toList.length ≤ 1 := by cases plc r X Y c t <;> simp
      by_cases q2 : (2 * r + 1) * (2 * r + 1) / 2 < t
      · rw [if_pos (by omega)]; rw [if_pos q2] at ih; omega
      · rw [if_neg (by omega)]; rw [if_neg q2] at ih; omega
theorem pls_ok {r : Nat} {X Y : Nat → Int} {c : Nat} {t : Nat} {p : Pl} (h : p ∈ pls r X Y c t) : p.1 ≤ 20 ∧ p.2 ≤ 20 := by
  unfold pls at h
  rw [List.mem_filterMap] at h
  obtain ⟨a, _, h⟩ := h
  unfold plc at h
  split at h
  · cases h
  · split at h
    · next q => cases h; constructor <;> simp only <;> omega
    · cases h
def PLk (m : Mem) (N n : Nat) (b : Nat → Nat) (X Y : Nat → Int) (c k : Nat) (p : Pl) : Prop := gI m 49 (48 * c + k) = nI p.1 ∧ gI m 50 (48 * c + k) = nI p.2 ∧ gJ m 52 (48 * c + k) = cmR b N n X Y c p.1 p.2 ∧ gI m 53 (48 * c + k) = cmO b N n X Y c p.1 p.2 ∧ gJ m 55 (48 * c + k) = goR b N n X Y c p.1 p.2 ∧ gI m 56 (48 * c + k) = goO b N n X Y c p.1 p.2
def PLm (m : Mem) (N n : Nat) (b : Nat → Nat) (X Y : Nat → Int) (c : Nat) (ps : List Pl) : Prop := gI m 48 c = nI ps.length ∧ ∀ k p, ps[k]? = some p → PLk m N n b X Y c k p
def KDk (m : Mem) (c i : Nat) (k : Kd) : Prop := gJ m 58 (48 * c + i) = k.1.1 ∧ gI m 59 (48 * c + i) = k.1.2 ∧ gI m 61 (48 * c + i) = nI k.2.1 ∧ gI m 62 (48 * c + i) = nI (48 * c + k.2.2)
def KDm (m : Mem) (c : Nat) (ks : List Kd) : Prop := gI m 60 c = nI ks.length ∧ ∀ i k, ks[i]? = some k → KDk m c i k
def Lpk : List (Nat × Nat) := [(48, 999999), (49, 999999), (50, 999999), (52, 999999), (53, 999999), (55, 999999), (56, 999999), (58, 999999), (59, 999999), (60, 999999), (61, 999999), (62, 999999)]
/-- nothing but what belongs to corner c -/
def FC (c : Nat) (m m' : Mem) : Prop := Frm Lpk [] m m' ∧ (∀ d j, d ≠ 48 → d ≠ 60 → j < 48 * c → gI m' d j = gI m d j ∧ gJ m' d j = gJ m d j) ∧ ∀ j, j ≠ c → gI m' 48 j = gI m 48 j ∧ gI m' 60 j = gI m 60 j
theorem FC.rf {c : Nat} {m : Mem} : FC c m m := ⟨Frm.rf, fun _ _ _ _ _ => ⟨rfl, rfl⟩, fun _ _ => ⟨rfl, rfl⟩⟩
theorem FC.tr {c : Nat} {m m1 m2 : Mem} (h : FC c m m1) (k : FC c m1 m2) : FC c m m2 := ⟨h.1.tr k.1, fun d j a e f => ⟨(k.2.1 d j a e f).1.trans (h.2.1 d j a e f).1, (k.2.1 d j a e f).2.trans (h.2.1 d j a e f).2⟩, fun j a => ⟨(k.2.2 j a).1.trans (h.2.2 j a).1, (k.2.2 j a).2.trans (h.2.2 j a).2⟩⟩
theorem FC.sI {c d k : Nat} {m : Mem} {x : Int32} (hw : wL Lpk d k = true) (h1 : d ≠ 48 → d ≠ 60 → 48 * c ≤ k) (h2 : d = 48 ∨ d = 60 → k = c) : FC c m (sI m d k x) :=
  ⟨Frm.sI rfl hw, fun d' j a e f => ⟨by rw [gI_sI, if_neg (fun z => by have := h1 (by omega) (by omega); omega)], gJ_sI ..⟩, fun j a => ⟨by rw [gI_sI, if_neg (fun z => by have := h2 (by omega); omega)], by rw [gI_sI, if_neg (fun z => by have := h2 (by omega); omega)]⟩⟩
theorem FC.sJ {c d k : Nat} {m : Mem} {x : Int64} (hw : wL Lpk d k = true) (h1 : d ≠ 48 → d ≠ 60 → 48 * c ≤ k) : FC c m (sJ m d k x) :=
  ⟨Frm.sJ rfl hw, fun d' j a e f => ⟨gI_sJ .., by rw [gJ_sJ, if_neg (fun z => by have := h1 (by omega) (by omega); omega)]⟩, fun j a => ⟨gI_sJ .., gI_sJ ..⟩⟩
theorem PLm.fc {m m' : Mem} {N n : Nat} {b : Nat → Nat} {X Y : Nat → Int} {c c' : Nat} {ps : List Pl} (h : PLm m N n b X Y c' ps) (hl : ps.length ≤ 48) (F : FC c m m') (hc : c' < c) : PLm m' N n b X Y c' ps := by
  refine ⟨by rw [(F.2.2 c' (by omega)).1]; exact h.1, fun k p e => ?_⟩
  have hk : k < ps.length := by
    rcases Nat.lt_or_ge k ps.length with q | q
    · exact q
    · rw [List.getElem?_eq_none q] at e; cases e
  have g : ∀ d, d ≠ 48 → d ≠ 60 → gI m' d (48 * c' + k) = gI m d (48 * c' + k) ∧ gJ m' d (48 * c' + k) = gJ m d (48 * c' + k) := fun d a b => F.2.1 d _ a b (by omega)
  unfold PLk
  rw [(g 49 (by omega) (by omega)).1, (g 50 (by omega) (by omega)).1, (g 52 (by omega) (by omega)).2, (g 53 (by omega) (by omega)).1, (g 55 (by omega) (by omega)).2, (g 56 (by omega) (by omega)).1]
  exact h.2 k p e
theorem KDm.fc {m m' : Mem} {c c' : Nat} {ks : List Kd} (h : KDm m c' ks) (hl : ks.length ≤ 48) (F : FC c m m') (hc : c' < c) : KDm m' c' ks := by
  refine ⟨by rw [(F.2.2 c' (by omega)).2]; exact h.1, fun k p e => ?_⟩
  have hk : k < ks.length := by
    rcases Nat.lt_or_ge k ks.length with q | q
    · exact q
    · rw [List.getElem?_eq_none q] at e; cases e
  have g : ∀ d, d ≠ 48 → d ≠ 60 → gI m' d (48 * c' + k) = gI m d (48 * c' + k) ∧ gJ m' d (48 * c' + k) = gJ m d (48 * c' + k) := fun d a b => F.2.1 d _ a b (by omega)
  unfold KDk
  rw [(g 58 (by omega) (by omega)).2, (g 59 (by omega) (by omega)).1, (g 61 (by omega) (by omega)).1, (g 62 (by omega) (by omega)).1]
  exact h.2 k p e
theorem cat_get {α : Type} {s : List α} {x p : α} {k : Nat} (h : (s ++ [x])[k]? = some p) : (k < s.length ∧ s[k]? = some p) ∨ (k = s.length ∧ p = x) := by
  rcases Nat.lt_or_ge k s.length with q | q
  · rw [List.getElem?_append_left q] at h; exact Or.inl ⟨q, h⟩
  · rw [List.getElem?_append_right q] at h
    by_cases z : k - s.length = 0
    · rw [z] at h; cases h; exact Or.inr ⟨by omega, rfl⟩
    · obtain ⟨w, hw⟩ : ∃ w, k - s.length = w + 1 := ⟨k - s.length - 1, by omega⟩
      rw [hw] at h; cases h
theorem c48 (c k : Nat) : nI c * 48 + nI k = nI (48 * c + k) := by rw [show (48 : Int32) = nI 48 from rfl, n_mul, n_add]; congr 1; omega
theorem seePlace_eq {N n : Nat} {b : Nat → Nat} {lw ed : Int32} {X Y : Nat → Int} {m : Mem} {c : Nat} {ps : List Pl} {p : Pl} (H : NXc N n b ed X Y) (hC : CXn m N n b lw ed X Y) (hc : c < n) (hP : PLm m N n b X Y c ps) (hl : ps.length < 48) (h1 : p.1 ≤ 20) (h2 : p.2 ≤ 20) : ∃ m', NI_seePlace m (nI c) (nI p.1) (nI p.2) = some m' ∧ PLm m' N n b X Y c (ps ++ [p]) ∧ FC c m m' := by
  have hn := H.2.2.1
  have hpv := pv_lt hc
  have hnx := nx_lt hc
  obtain ⟨a1, a2, a3, a4⟩ := hC.2.2.2 _ hpv
  obtain ⟨b1, b2, b3, b4⟩ := hC.2.2.2 _ hnx
  obtain ⟨q1, q2⟩ := H.2.2.2.2.2 _ hpv
  obtain ⟨q3, q4⟩ := H.2.2.2.2.2 _ hnx
  have B1 : B4 (X (pv n c)) (Y (pv n c)) (p.1 : Int) (p.2 : Int) := by unfold B4; omega
  have B2 : B4 (p.1 : Int) (p.2 : Int) (X (nx n c)) (Y (nx n c)) := by unfold B4; omega
  let v := 48 * c + ps.length
  have hv : v = 48 * c + ps.length := rfl
  let m7 := sI (sI m 49 v (nI p.1)) 50 v (nI p.2)
  let m11 := sJ m7 52 v (cmR b N n X Y c p.1 p.2)
  let m14 := sI m11 53 v (cmO b N n X Y c p.1 p.2)
  let m18 := sJ m14 55 v (goR b N n X Y c p.1 p.2)
  let m21 := sI m18 56 v (goO b N n X Y c p.1 p.2)
  let m22 := sI m21 48 c (nI (ps.length + 1))
  have F7 : FC c m m7 := (FC.sI rfl (fun _ _ => by omega) (fun _ => by omega)).tr (FC.sI rfl (fun _ _ => by omega) (fun _ => by omega))
  have F11 : FC c m m11 := F7.tr (FC.sJ rfl (fun _ _ => by omega))
  have F14 : FC c m m14 := F11.tr (FC.sI rfl (fun _ _ => by omega) (fun _ => by omega))
  have F18 : FC c m m18 := F14.tr (FC.sJ rfl (fun _ _ => by omega))
  have F21 : FC c m m21 := F18.tr (FC.sI rfl (fun _ _ => by omega) (fun _ => by omega))
  have F22 : FC c m m22 := F21.tr (FC.sI rfl (fun h _ => absurd rfl h) (fun _ => rfl))
  have w43 : ∀ m', FC c m m' → ∀ j, gI m' 43 j = gI m 43 j ∧ gI m' 44 j = gI m 44 j := fun m' F j => ⟨F.1.I 43 j rfl, F.1.I 44 j rfl⟩
  have cx : ∀ m', FC c m m' → CXn m' N n b lw ed X Y := fun m' F => hC.fr (F.1.mo (wL_sub rfl))
  refine ⟨m22, ?_, ⟨?_, ?_⟩, F22⟩
  · have g48 : gI m21 48 c = nI ps.length := by rw [← hP.1]; rfl
    have ev : nI c * 48 + nI ps.length = nI v := c48 c ps.length
    have e1 : PT_roundsBy m7 (iz (X (pv n c))) (iz (Y (pv n c))) (nI p.1) (nI p.2) = some (cmR b N n X Y c p.1 p.2) := by rw [nI_iz, nI_iz]; exact roundsBy_eq (cx _ F7).1 H.1 H.2.2.2.1 B1
    have e2 : PT_onBy m11 (iz (X (pv n c))) (iz (Y (pv n c))) (nI p.1) (nI p.2) = some (cmO b N n X Y c p.1 p.2) := by rw [nI_iz, nI_iz]; exact onBy_eq (cx _ F11).1 H.1 H.2.2.2.1 B1
    have e3 : PT_roundsBy m14 (nI p.1) (nI p.2) (iz (X (nx n c))) (iz (Y (nx n c))) = some (goR b N n X Y c p.1 p.2) := by rw [nI_iz, nI_iz]; exact roundsBy_eq (cx _ F14).1 H.1 H.2.2.2.1 B2
    have e4 : PT_onBy m18 (nI p.1) (nI p.2) (iz (X (nx n c))) (iz (Y (nx n c))) = some (goO b N n X Y c p.1 p.2) := by rw [nI_iz, nI_iz]; exact onBy_eq (cx _ F18).1 H.1 H.2.2.2.1 B2
    rw [NI_seePlace, if_pos (n_in (by omega) (by omega)), n_ixn (by omega), hP.1, letV_o, ev, letV_o, before_eq hC.2 hc, letV_o, LN_after_eq hC.2 hc, if_pos (n_in (show v < 576 by omega) (by omega)), n_ixn (by omega), letM_o, letM_o, if_pos (n_in (show pv n c < 12 by omega) (by omega)), n_ixn (by omega), (w43 m7 F7 _).1, (w43 m7 F7 _).2, a1, a2, e1, bL_s, letM_o, (w43 m11 F11 _).1, (w43 m11 F11 _).2, a1, a2, e2, bI_s, letM_o, if_pos (n_in (show nx n c < 12 by omega) (by omega)), n_ixn (by omega), (w43 m14 F14 _).1, (w43 m14 F14 _).2, b1, b2, e3, bL_s, letM_o, (w43 m18 F18 _).1, (w43 m18 F18 _).2, b1, b2, e4, bI_s, letM_o, g48, k1, n_add, letM_o]
  · show gI (sI m21 48 c (nI (ps.length + 1))) 48 c = _
    rw [gI_sI, if_pos ⟨rfl, rfl⟩, List.length_append]; rfl
  · intro k q e
    rcases cat_get e with ⟨l, e⟩ | ⟨rfl, rfl⟩
    · have o := hP.2 k q e
      have g : ∀ d, d ≠ 48 → gI m22 d (48 * c + k) = gI m d (48 * c + k) ∧ gJ m22 d (48 * c + k) = gJ m d (48 * c + k) := fun d z => by
        constructor
        · show gI (sI (sI (sJ (sI (sJ (sI (sI m 49 v (nI p.1)) 50 v (nI p.2)) 52 v (cmR b N n X Y c p.1 p.2)) 53 v (cmO b N n X Y c p.1 p.2)) 55 v (goR b N n X Y c p.1 p.2)) 56 v (goO b N n X Y c p.1 p.2)) 48 c (nI (ps.length + 1))) d (48 * c + k) = _
          rw [gI_sI, if_neg (by omega), gI_sI, if_neg (by omega), gI_sJ, gI_sI, if_neg (by omega), gI_sJ, gI_sI, if_neg (by omega), gI_sI, if_neg (by omega)]
        · show gJ (sI (sI (sJ (sI (sJ (sI (sI m 49 v (nI p.1)) 50 v (nI p.2)) 52 v (cmR b N n X Y c p.1 p.2)) 53 v (cmO b N n X Y c p.1 p.2)) 55 v (goR b N n X Y c p.1 p.2)) 56 v (goO b N n X Y c p.1 p.2)) 48 c (nI (ps.length + 1))) d (48 * c + k) = _
          rw [gJ_sI, gJ_sI, gJ_sJ, if_neg (by omega), gJ_sI, gJ_sJ, if_neg (by omega), gJ_sI, gJ_sI]
      unfold PLk
      rw [(g 49 (by omega)).1, (g 50 (by omega)).1, (g 52 (by omega)).2, (g 53 (by omega)).1, (g 55 (by omega)).2, (g 56 (by omega)).1]
      exact o
    · refine ⟨?_, ?_, ?_, ?_, ?_, ?_⟩
      · show gI (sI (sI (sJ (sI (sJ (sI (sI m 49 v (nI q.1)) 50 v (nI q.2)) 52 v (cmR b N n X Y c q.1 q.2)) 53 v (cmO b N n X Y c q.1 q.2)) 55 v (goR b N n X Y c q.1 q.2)) 56 v (goO b N n X Y c q.1 q.2)) 48 c (nI (ps.length + 1))) 49 v = _
        rw [gI_sI, if_neg (by omega), gI_sI, if_neg (by omega), gI_sJ, gI_sI, if_neg (by omega), gI_sJ, gI_sI, if_neg (by omega), gI_sI, if_pos ⟨rfl, rfl⟩]
      · show gI (sI (sI (sJ (sI (sJ (sI (sI m 49 v (nI q.1)) 50 v (nI q.2)) 52 v (cmR b N n X Y c q.1 q.2)) 53 v (cmO b N n X Y c q.1 q.2)) 55 v (goR b N n X Y c q.1 q.2)) 56 v (goO b N n X Y c q.1 q.2)) 48 c (nI (ps.length + 1))) 50 v = _
        rw [gI_sI, if_neg (by omega), gI_sI, if_neg (by omega), gI_sJ, gI_sI, if_neg (by omega), gI_sJ, gI_sI, if_pos ⟨rfl, rfl⟩]
      · show gJ (sI (sI (sJ (sI (sJ (sI (sI m 49 v (nI q.1)) 50 v (nI q.2)) 52 v (cmR b N n X Y c q.1 q.2)) 53 v (cmO b N n X Y c q.1 q.2)) 55 v (goR b N n X Y c q.1 q.2)) 56 v (goO b N n X Y c q.1 q.2)) 48 c (nI (ps.length + 1))) 52 v = _
        rw [gJ_sI, gJ_sI, gJ_sJ, if_neg (by omega), gJ_sI, gJ_sJ, if_pos ⟨rfl, rfl⟩]
      · show gI (sI (sI (sJ (sI (sJ (sI (sI m 49 v (nI q.1)) 50 v (nI q.2)) 52 v (cmR b N n X Y c q.1 q.2)) 53 v (cmO b N n X Y c q.1 q.2)) 55 v (goR b N n X Y c q.1 q.2)) 56 v (goO b N n X Y c q.1 q.2)) 48 c (nI (ps.length + 1))) 53 v = _
        rw [gI_sI, if_neg (by omega), gI_sI, if_neg (by omega), gI_sJ, gI_sI, if_pos ⟨rfl, rfl⟩]
      · show gJ (sI (sI (sJ (sI (sJ (sI (sI m 49 v (nI q.1)) 50 v (nI q.2)) 52 v (cmR b N n X Y c q.1 q.2)) 53 v (cmO b N n X Y c q.1 q.2)) 55 v (goR b N n X Y c q.1 q.2)) 56 v (goO b N n X Y c q.1 q.2)) 48 c (nI (ps.length + 1))) 55 v = _
        rw [gJ_sI, gJ_sI, gJ_sJ, if_pos ⟨rfl, rfl⟩]
      · show gI (sI (sI (sJ (sI (sJ (sI (sI m 49 v (nI q.1)) 50 v (nI q.2)) 52 v (cmR b N n X Y c q.1 q.2)) 53 v (cmO b N n X Y c q.1 q.2)) 55 v (goR b N n X Y c q.1 q.2)) 56 v (goO b N n X Y c q.1 q.2)) 48 c (nI (ps.length + 1))) 56 v = _
        rw [gI_sI, if_neg (by omega), gI_sI, if_pos ⟨rfl, rfl⟩]

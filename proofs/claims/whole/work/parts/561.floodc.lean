/-! the class's flood -/
def CA (m : Mem) (S : StF) : Prop := (∀ s, s < 400 → gI m 18 s = iz (S.lab s)) ∧ ∀ j, j < S.t → gI m 19 j = nI (S.que j)
abbrev L189 : List (Nat × Nat) := [(18, 999999), (19, 999999)]
theorem b2i_inj {a b : Bool} : (b2i a = b2i b) ↔ a = b := by cases a <;> cases b <;> decide
theorem lab_m1 {z : Int} (h : -1 ≤ z ∧ z < 400) : (iz z = -1) ↔ z = -1 := by rw [show (-1 : Int32) = iz (-1) from rfl, iz_eq (by omega) (by omega)]
theorem CA.pt {m : Mem} {S : StF} {v P : Nat} (h : CA m S) : CA (sI (sI m 18 v (nI P)) 19 S.t (nI v)) (putF S v P) := by
  refine ⟨fun s hs => ?_, fun j hj => ?_⟩
  · show _ = iz (upz S.lab v P s)
    rw [gI_sI, if_neg (by omega), gI_sI]
    by_cases q : s = v
    · rw [if_pos ⟨rfl, q⟩, q, upz_eq, nI_iz]
    · rw [if_neg (fun z => q z.2), upz_ne q]; exact h.1 s hs
  · show _ = nI (upn S.que S.t v j)
    have hj' : j < S.t + 1 := hj
    rw [gI_sI]
    by_cases q : j = S.t
    · rw [if_pos ⟨rfl, q⟩, q, upn_eq]
    · rw [if_neg (fun z => q z.2), gI_sI, if_neg (by omega), upn_ne q]; exact h.2 j (by omega)
theorem fa_step {m : Mem} {S : StF} {H : Nat → Bool} {src h d P f : Nat} {kx : Mem → Int32 → Option (Int32 × Mem)} (R : CA m S) (ok : OkF S) (hh : h < S.t) (hd : d < 4) (hs : src < 400) (h17 : gI m 17 0 = nI P) (h6 : ∀ s, s < 400 → gI m 6 s = b2i (H s)) :
    ∃ m', PC_flood_L37 6 (nI src) (nI h) kx (f + 1) m (nI S.t) (nI d) = PC_flood_L37 6 (nI src) (nI h) kx f m' (nI (stp H (H src) P (S.que h) d S).t) (nI (d + 1)) ∧ CA m' (stp H (H src) P (S.que h) d S) ∧ Frm L189 [] m m' := by
  have hq := ok.qu h hh
  have hle := ok.le
  have e0 : ∀ x, PC_flood_L37 6 (nI src) (nI h) kx (f + 1) m (nI S.t) (nI d) = x ↔ letV (enc (nb (S.que h) d)) (fun v2 =>
      if v2 < 0 then (PC_flood_L37 6 (nI src) (nI h) kx f m (nI S.t) (nI (d + 1)))
      else (if inb v2 400 then (if (gI m 18 (ixn v2)) = (-1) then (if inb (nI src) 400 then (if (gI m 6 (ixn v2)) = (gI m 6 (ixn (nI src))) then (if 400 ≤ nI S.t then (PC_flood_L37 6 (nI src) (nI h) kx f m (nI S.t) (nI (d + 1)))
      else (letM (sI m 18 (ixn v2) (gI m 17 0)) fun m5 =>
      if inb (nI S.t) 400 then (letM (sI m5 19 (ixn (nI S.t)) v2) fun m7 =>
      PC_flood_L37 6 (nI src) (nI h) kx f m7 (nI S.t + 1) (nI (d + 1))) else none))
      else (PC_flood_L37 6 (nI src) (nI h) kx f m (nI S.t) (nI (d + 1)))) else none)
      else (PC_flood_L37 6 (nI src) (nI h) kx f m (nI S.t) (nI (d + 1)))) else none)) = x := by
    intro x
    rw [PC_flood_L37, if_neg (by rw [k3, n_lt (by omega) (by omega)]; omega), if_pos (n_in (by omega) (by omega)), n_ixn (by omega), R.2 h hh, step_nb hq hd, show nI d + 1 = nI (d + 1) by rw [k1, n_add]]
  unfold stp
  cases hb : nb (S.que h) d with
  | none =>
    refine ⟨m, ?_, R, Frm.rf⟩
    rw [e0, hb, letV_p, if_pos (by decide)]
  | some v =>
    have hv := nb_lt hq hb
    have e1 : enc (some v) = nI v := rfl
    have c1 : ¬ nI v < 0 := by rw [k0, n_lt (by omega) (by omega)]; omega
    have c2 : (gI m 18 v = -1) ↔ S.lab v = -1 := by rw [R.1 v hv, lab_m1 (ok.lo v)]
    have c3 : (gI m 6 v = gI m 6 src) ↔ H v = H src := by rw [h6 v hv, h6 src hs, b2i_inj]
    by_cases q1 : S.lab v = -1
    · by_cases q2 : H v = H src
      · have tl := ok.lt hv q1
        refine ⟨sI (sI m 18 v (nI P)) 19 S.t (nI v), ?_, by simp only [if_pos (And.intro q1 q2)]; exact R.pt, (Frm.sI rfl rfl).tr (Frm.sI rfl rfl)⟩
        rw [e0, hb, letV_p, e1, if_neg c1, if_pos (n_in hv (by omega)), n_ixn (by omega), if_pos (c2.mpr q1), if_pos (n_in hs (by omega)), n_ixn (by omega), if_pos (c3.mpr q2), if_neg (by rw [show (400 : Int32) = nI 400 from rfl, n_le (by omega) (by omega)]; omega), letM_p, if_pos (n_in tl (by omega)), n_ixn (by omega), letM_p, h17, k1, n_add]
        simp only [if_pos (And.intro q1 q2)]
        rfl
      · refine ⟨m, ?_, by simp only [if_neg (fun z : S.lab v = -1 ∧ H v = H src => q2 z.2)]; exact R, Frm.rf⟩
        rw [e0, hb, letV_p, e1, if_neg c1, if_pos (n_in hv (by omega)), n_ixn (by omega), if_pos (c2.mpr q1), if_pos (n_in hs (by omega)), n_ixn (by omega), if_neg (fun z => q2 (c3.mp z))]
        simp only [if_neg (fun z : S.lab v = -1 ∧ H v = H src => q2 z.2)]
    · refine ⟨m, ?_, by simp only [if_neg (fun z : S.lab v = -1 ∧ H v = H src => q1 z.1)]; exact R, Frm.rf⟩
      rw [e0, hb, letV_p, e1, if_neg c1, if_pos (n_in hv (by omega)), n_ixn (by omega), if_neg (fun z => q1 (c2.mp z))]
      simp only [if_neg (fun z : S.lab v = -1 ∧ H v = H src => q1 z.1)]
theorem fa_four {m : Mem} {S : StF} {H : Nat → Bool} {src h P : Nat} {kx : Mem → Int32 → Option (Int32 × Mem)} (R : CA m S) (ok : OkF S) (hh : h < S.t) (hs : src < 400) (hP : P < 400) (h17 : gI m 17 0 = nI P) (h6 : ∀ s, s < 400 → gI m 6 s = b2i (H s)) :
    ∃ m', PC_flood_L37 6 (nI src) (nI h) kx FU m (nI S.t) 0 = kx m' (nI (fou H (H src) P (S.que h) S).t) ∧ CA m' (fou H (H src) P (S.que h) S) ∧ Frm L189 [] m m' := by
  obtain ⟨f, hf⟩ : ∃ f, FU = f + 1 + 1 + 1 + 1 + 1 := ⟨FU - 5, by unfold FU; omega⟩
  have hq := ok.qu h hh
  obtain ⟨o1, x1⟩ := stp_ok (H := H) (h0 := H src) (p := (P : Int)) (sq := S.que h) (d := 0) ok hq (by omega) (by omega)
  obtain ⟨m1, e1, r1, F1⟩ := fa_step (f := f + 1 + 1 + 1 + 1) (kx := kx) (d := 0) R ok hh (by omega) hs h17 h6
  generalize hS1 : stp H (H src) (P : Int) (S.que h) 0 S = S1 at o1 x1 e1 r1
  have q1 : S1.que h = S.que h := x1.2.1 h hh
  have t1 : h < S1.t := Nat.lt_of_lt_of_le hh x1.1
  obtain ⟨o2, x2⟩ := stp_ok (H := H) (h0 := H src) (p := (P : Int)) (sq := S1.que h) (d := 1) o1 (by rw [q1]; exact hq) (by omega) (by omega)
  obtain ⟨m2, e2, r2, F2⟩ := fa_step (f := f + 1 + 1 + 1) (kx := kx) (d := 1) (P := P) r1 o1 t1 (by omega) hs (by rw [F1.I 17 0 rfl]; exact h17) (fun s hs => by rw [F1.I 6 s rfl]; exact h6 s hs)
  generalize hS2 : stp H (H src) (P : Int) (S1.que h) 1 S1 = S2 at o2 x2 e2 r2
  have q2 : S2.que h = S.que h := (x2.2.1 h t1).trans q1
  have t2 : h < S2.t := Nat.lt_of_lt_of_le t1 x2.1
  have F12 := F1.tr F2
  obtain ⟨o3, x3⟩ := stp_ok (H := H) (h0 := H src) (p := (P : Int)) (sq := S2.que h) (d := 2) o2 (by rw [q2]; exact hq) (by omega) (by omega)
  obtain ⟨m3, e3, r3, F3⟩ := fa_step (f := f + 1 + 1) (kx := kx) (d := 2) (P := P) r2 o2 t2 (by omega) hs (by rw [F12.I 17 0 rfl]; exact h17) (fun s hs => by rw [F12.I 6 s rfl]; exact h6 s hs)
  generalize hS3 : stp H (H src) (P : Int) (S2.que h) 2 S2 = S3 at o3 x3 e3 r3
  have q3 : S3.que h = S.que h := (x3.2.1 h t2).trans q2
  have t3 : h < S3.t := Nat.lt_of_lt_of_le t2 x3.1
  have F13 := F12.tr F3
  obtain ⟨m4, e4, r4, F4⟩ := fa_step (f := f + 1) (kx := kx) (d := 3) (P := P) r3 o3 t3 (by omega) hs (by rw [F13.I 17 0 rfl]; exact h17) (fun s hs => by rw [F13.I 6 s rfl]; exact h6 s hs)
  have eF : fou H (H src) (P : Int) (S.que h) S = stp H (H src) (P : Int) (S3.que h) 3 S3 := by
    unfold fou
    rw [hS1, ← q1, hS2, q1, ← q2, hS3, q2, q3]
  rw [eF]
  refine ⟨m4, ?_, r4, F13.tr F4⟩
  rw [hf, show (0 : Int32) = nI 0 from k0, e1, e2, e3, e4, PC_flood_L37, if_pos (by decide)]
theorem fa_bfs {H : Nat → Bool} {src P : Nat} {kx : Mem → Int32 → Option (Int32 × Mem)} (hs : src < 400) (hP : P < 400) : ∀ (n h fu : Nat) (m : Mem) (S : StF), h + n = 400 → n < fu → CA m S → OkF S → gI m 17 0 = nI P → (∀ s, s < 400 → gI m 6 s = b2i (H s)) →
    ∃ m', PC_flood_L27 6 (nI src) kx fu m (nI S.t) (nI h) = kx m' (nI (bfs H (H src) P n h S).t) ∧ CA m' (bfs H (H src) P n h S) ∧ Frm L189 [] m m'
  | 0, h, fu, m, S, hn, hf, R, ok, h17, h6 => by
    obtain ⟨f, rfl⟩ : ∃ f, fu = f + 1 := ⟨fu - 1, by omega⟩
    have hle := ok.le
    exact ⟨m, by rw [PC_flood_L27, if_pos (by rw [n_le (by omega) (by omega)]; omega)]; rfl, R, Frm.rf⟩
  | n + 1, h, fu, m, S, hn, hf, R, ok, h17, h6 => by
    obtain ⟨f, rfl⟩ : ∃ f, fu = f + 1 := ⟨fu - 1, by omega⟩
    have hle := ok.le
    unfold bfs
    by_cases q : S.t ≤ h
    · rw [if_pos q]
      exact ⟨m, by rw [PC_flood_L27, if_pos (by rw [n_le (by omega) (by omega)]; exact q)], R, Frm.rf⟩
    · rw [if_neg q]
      obtain ⟨m1, e1, r1, F1⟩ := fa_four (kx := fun m2 y1 => PC_flood_L27 6 (nI src) kx f m2 y1 (nI h + 1)) R ok (show h < S.t by omega) hs hP h17 h6
      obtain ⟨o1, -⟩ := fou_ok (H := H) (h0 := H src) (p := (P : Int)) ok (ok.qu h (by omega)) (by omega) (by omega)
      obtain ⟨m2, e2, r2, F2⟩ := fa_bfs (kx := kx) hs hP n (h + 1) f m1 _ (by omega) (by omega) r1 o1 (by rw [F1.I 17 0 rfl]; exact h17) (fun s hs => by rw [F1.I 6 s rfl]; exact h6 s hs)
      refine ⟨m2, ?_, r2, F1.tr F2⟩
      rw [PC_flood_L27, if_neg (by rw [n_le (by omega) (by omega)]; exact q), e1, k1, n_add, e2]
theorem fa_flood {m : Mem} {S : StF} {H : Nat → Bool} {src P : Nat} (hs : src < 400) (hP : P < 400) (R : CA m S) (ok : OkF S) (hl : S.lab src = -1) (h17 : gI m 17 0 = nI P) (h6 : ∀ s, s < 400 → gI m 6 s = b2i (H s)) :
    ∃ m', PC_flood m 6 (nI src) (nI S.t) = some (nI (fld H P src S).t, m') ∧ CA m' (fld H P src S) ∧ Frm L189 [] m m' := by
  have tl := ok.lt hs hl
  have F0 : Frm L189 [] m (sI (sI m 18 src (nI P)) 19 S.t (nI src)) := (Frm.sI rfl rfl).tr (Frm.sI rfl rfl)
  obtain ⟨m1, e1, r1, F1⟩ := fa_bfs (H := H) (src := src) (P := P) (kx := fun m6 y5 => some (y5, m6)) hs hP (400 - S.t) S.t FU _ (putF S src P) (by omega) (by unfold FU; omega) R.pt (ok.pt hs hl (by omega) (by omega)) (by rw [F0.I 17 0 rfl]; exact h17) (fun s hs => by rw [F0.I 6 s rfl]; exact h6 s hs)
  refine ⟨m1, ?_, r1, F0.tr F1⟩
  rw [PC_flood, if_pos (n_in hs (by omega)), n_ixn (by omega), letM_p, h17, if_pos (n_in tl (by omega)), n_ixn (by omega), letM_p, k1, n_add]
  exact e1
def CC (m : Mem) (C : ScF) : Prop := CA m C.S ∧ gI m 17 0 = nI C.P ∧ ∀ p, p < C.P → gI m 20 p = nI (C.start p)
abbrev L1720 : List (Nat × Nat) := [(17, 0), (18, 999999), (19, 999999), (20, 999999)]
theorem fa_scan {H : Nat → Bool} {kx : Mem → Int32 → Option Mem} : ∀ (n s fu : Nat) (m : Mem) (C : ScF), s + n = 400 → n < fu → CC m C → IC s C → (∀ s, s < 400 → gI m 6 s = b2i (H s)) →
    ∃ m', PC_find_L17 5 kx fu m (nI C.S.t) (nI s) = kx m' (nI (scn H n s C).S.t) ∧ CC m' (scn H n s C) ∧ Frm L1720 [] m m'
  | 0, s, fu, m, C, hn, hf, R, I, h6 => by
    obtain ⟨f, rfl⟩ : ∃ f, fu = f + 1 := ⟨fu - 1, by omega⟩
    obtain rfl : s = 400 := by omega
    exact ⟨m, by rw [PC_find_L17, if_pos (by decide)]; rfl, R, Frm.rf⟩
  | n + 1, s, fu, m, C, hn, hf, R, I, h6 => by
    obtain ⟨f, rfl⟩ : ∃ f, fu = f + 1 := ⟨fu - 1, by omega⟩
    have ok := I.1
    have hle := ok.le
    have I' := sc1_ok (H := H) (by omega) I
    have hP := I.pt
    unfold scn
    have c2 : (gI m 18 s = -1) ↔ C.S.lab s = -1 := by rw [R.1.1 s (by omega), lab_m1 (ok.lo s)]
    have e0 : PC_find_L17 5 kx (f + 1) m (nI C.S.t) (nI s) = if (gI m 18 s) = (-1) then (if inb (gI m 17 0) 401 then (letM (sI m 20 (ixn (gI m 17 0)) (nI C.S.t)) fun m3 =>
        bV (PC_flood m3 6 (nI s) (nI C.S.t)) fun v4 m5 =>
        letM (sI m5 17 0 ((gI m5 17 0) + 1)) fun m7 =>
        PC_find_L17 5 kx f m7 v4 (nI (s + 1))) else none)
        else (PC_find_L17 5 kx f m (nI C.S.t) (nI (s + 1))) := by
      rw [PC_find_L17, if_neg (by rw [show (400 : Int32) = nI 400 from rfl, n_le (by omega) (by omega)]; omega), if_pos (n_in (by omega) (by omega)), n_ixn (by omega), show nI s + 1 = nI (s + 1) by rw [k1, n_add]]
    by_cases q : C.S.lab s = -1
    · have tl := ok.lt (show s < 400 by omega) q
      have eS : sc1 H s C = (fld H C.P s C.S, C.P + 1, upn C.start (C.P + 1) (fld H C.P s C.S).t, upn C.first C.P s) := by unfold sc1; rw [if_pos q]
      have F0 : Frm L1720 [] m (sI m 20 C.P (nI C.S.t)) := Frm.sI rfl rfl
      have R0 : CA (sI m 20 C.P (nI C.S.t)) C.S := ⟨fun s hs => by rw [gI_sI, if_neg (by omega)]; exact R.1.1 s hs, fun j hj => by rw [gI_sI, if_neg (by omega)]; exact R.1.2 j hj⟩
      have g17 : gI (sI m 20 C.P (nI C.S.t)) 17 0 = nI C.P := by rw [gI_sI, if_neg (by omega)]; exact R.2.1
      obtain ⟨m1, e1, r1, F1⟩ := fa_flood (H := H) (src := s) (P := C.P) (by omega) (by omega) R0 ok q g17 (fun s hs => by rw [gI_sI, if_neg (by omega)]; exact h6 s hs)
      have h17 : gI m1 17 0 = nI C.P := by rw [F1.I 17 0 rfl, g17]
      have F2 : Frm L1720 [] m1 (sI m1 17 0 (nI (C.P + 1))) := Frm.sI rfl rfl
      have FF := F0.tr ((F1.mo (wL_sub rfl)).tr F2)
      have R2 : CC (sI m1 17 0 (nI (C.P + 1))) (sc1 H s C) := by
        rw [eS]
        refine ⟨⟨fun s hs => by rw [gI_sI, if_neg (by omega)]; exact r1.1 s hs, fun j hj => by rw [gI_sI, if_neg (by omega)]; exact r1.2 j hj⟩, by rw [gI_sI, if_pos ⟨rfl, rfl⟩], fun p hp => ?_⟩
        have hp' : p < C.P + 1 := hp
        show _ = nI (upn C.start (C.P + 1) (fld H C.P s C.S).t p)
        rw [gI_sI, if_neg (by omega), F1.I 20 p rfl, gI_sI, upn_ne (by omega)]
        by_cases z : p = C.P
        · rw [if_pos ⟨rfl, z⟩, z, I.2.1]
        · rw [if_neg (fun y => z y.2)]; exact R.2.2 p (by omega)
      obtain ⟨m2, e2, r2, F3⟩ := fa_scan (H := H) (kx := kx) n (s + 1) f _ (sc1 H s C) (by omega) (by omega) R2 I' (fun s hs => by rw [FF.I 6 s rfl]; exact h6 s hs)
      refine ⟨m2, ?_, r2, FF.tr F3⟩
      have et : (sc1 H s C).S.t = (fld H C.P s C.S).t := by rw [eS]
      rw [et] at e2
      rw [e0, if_pos (c2.mpr q), R.2.1, if_pos (n_in (by omega) (by omega)), n_ixn (by omega), letM_o, e1, bV_s, letM_o, h17, k1, n_add, e2]
    · have eS : sc1 H s C = C := by unfold sc1; rw [if_neg q]
      rw [eS] at I' ⊢
      obtain ⟨m2, e2, r2, F3⟩ := fa_scan (H := H) (kx := kx) n (s + 1) f m C (by omega) (by omega) R I' h6
      exact ⟨m2, by rw [e0, if_neg (fun z => q (c2.mp z)), e2], r2, F3⟩

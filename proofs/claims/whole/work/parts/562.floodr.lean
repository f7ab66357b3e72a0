/-! the reference's flood -/
def CB (m : Mem) (o : Nat) (S : StF) : Prop := (∀ s, s < 400 → gI m 143 s = iz (S.lab s)) ∧ ∀ j, o + j < S.t → gI m 144 j = nI (S.que (o + j))
abbrev L434 : List (Nat × Nat) := [(143, 999999), (144, 999999)]
theorem lab_neg {z : Int} (h : -1 ≤ z ∧ z < 400) : (0 ≤ iz z) ↔ z ≠ -1 := by rw [show (0 : Int32) = iz 0 from rfl, iz_le (by omega) (by omega)]; omega
theorem lab_neg' {z : Int} (h : -1 ≤ z ∧ z < 400) : (iz z < 0) ↔ z = -1 := by rw [show (0 : Int32) = iz 0 from rfl, iz_lt (by omega) (by omega)]; omega
theorem CB.pt {m : Mem} {S : StF} {o v P : Nat} (ho : o ≤ S.t) (h : CB m o S) : CB (sI (sI m 143 v (nI P)) 144 (S.t - o) (nI v)) o (putF S v P) := by
  refine ⟨fun s hs => ?_, fun j hj => ?_⟩
  · show _ = iz (upz S.lab v P s)
    rw [gI_sI, if_neg (by omega), gI_sI]
    by_cases q : s = v
    · rw [if_pos ⟨rfl, q⟩, q, upz_eq, nI_iz]
    · rw [if_neg (fun z => q z.2), upz_ne q]; exact h.1 s hs
  · show _ = nI (upn S.que S.t v (o + j))
    have hj' : o + j < S.t + 1 := hj
    rw [gI_sI]
    by_cases q : o + j = S.t
    · rw [if_pos ⟨rfl, by omega⟩, q, upn_eq]
    · rw [if_neg (fun z => by omega), gI_sI, if_neg (by omega), upn_ne q]; exact h.2 j (by omega)
theorem fb_step {m : Mem} {S : StF} {H : Nat → Bool} {src o h d P f : Nat} {kx : Mem → Int32 → Option Mem} (R : CB m o S) (ok : OkF S) (hh : o + h < S.t) (hd : d < 4) (hs : src < 400) (h17 : gI m 133 33 = nI P) (h6 : ∀ s, s < 400 → gI m 141 s = b2i (H s)) :
    ∃ m', RM_parts_L95 (nI src) (nI h) kx (f + 1) m (nI (S.t - o)) (nI d) = RM_parts_L95 (nI src) (nI h) kx f m' (nI ((stp H (H src) P (S.que (o + h)) d S).t - o)) (nI (d + 1)) ∧ CB m' o (stp H (H src) P (S.que (o + h)) d S) ∧ Frm L434 [] m m' := by
  have hq := ok.qu _ hh
  have hle := ok.le
  have e0 : ∀ x, RM_parts_L95 (nI src) (nI h) kx (f + 1) m (nI (S.t - o)) (nI d) = x ↔ letV (enc (nb (S.que (o + h)) d)) (fun v2 =>
      if v2 < 0 then (RM_parts_L95 (nI src) (nI h) kx f m (nI (S.t - o)) (nI (d + 1)))
      else (if inb v2 400 then (if 0 ≤ (gI m 143 (ixn v2)) then (RM_parts_L95 (nI src) (nI h) kx f m (nI (S.t - o)) (nI (d + 1)))
      else (if inb (nI src) 400 then (if (gI m 141 (ixn v2)) = (gI m 141 (ixn (nI src))) then (letM (sI m 143 (ixn v2) (gI m 133 33)) fun m5 =>
      if inb (nI (S.t - o)) 400 then (letM (sI m5 144 (ixn (nI (S.t - o))) v2) fun m7 =>
      RM_parts_L95 (nI src) (nI h) kx f m7 (nI (S.t - o) + 1) (nI (d + 1))) else none)
      else (RM_parts_L95 (nI src) (nI h) kx f m (nI (S.t - o)) (nI (d + 1)))) else none)) else none)) = x := by
    intro x
    rw [RM_parts_L95, if_neg (by rw [k4, n_le (by omega) (by omega)]; omega), if_pos (n_in (by omega) (by omega)), n_ixn (show h < 2147483648 by omega), R.2 h hh, beside_nb hq hd, show nI d + 1 = nI (d + 1) by rw [k1, n_add]]
  unfold stp
  cases hb : nb (S.que (o + h)) d with
  | none =>
    refine ⟨m, ?_, R, Frm.rf⟩
    rw [e0, hb, letV_o, if_pos (by decide)]
  | some v =>
    have hv := nb_lt hq hb
    have e1 : enc (some v) = nI v := rfl
    have c1 : ¬ nI v < 0 := by rw [k0, n_lt (by omega) (by omega)]; omega
    have c2 : (0 ≤ gI m 143 v) ↔ S.lab v ≠ -1 := by rw [R.1 v hv, lab_neg (ok.lo v)]
    have c3 : (gI m 141 v = gI m 141 src) ↔ H v = H src := by rw [h6 v hv, h6 src hs, b2i_inj]
    by_cases q1 : S.lab v = -1
    · by_cases q2 : H v = H src
      · have tl := ok.lt hv q1
        refine ⟨sI (sI m 143 v (nI P)) 144 (S.t - o) (nI v), ?_, by simp only [if_pos (And.intro q1 q2)]; exact R.pt (by omega), (Frm.sI rfl rfl).tr (Frm.sI rfl rfl)⟩
        rw [e0, hb, letV_o, e1, if_neg c1, if_pos (n_in hv (by omega)), n_ixn (show v < 2147483648 by omega), if_neg (fun z => c2.mp z q1), if_pos (n_in hs (by omega)), n_ixn (show src < 2147483648 by omega), if_pos (c3.mpr q2), letM_o, if_pos (n_in (by omega) (by omega)), n_ixn (by omega), letM_o, h17, k1, n_add]
        simp only [if_pos (And.intro q1 q2)]
        rw [show (putF S v (P : Int)).t - o = S.t - o + 1 by show S.t + 1 - o = _; omega]
      · refine ⟨m, ?_, by simp only [if_neg (fun z : S.lab v = -1 ∧ H v = H src => q2 z.2)]; exact R, Frm.rf⟩
        rw [e0, hb, letV_o, e1, if_neg c1, if_pos (n_in hv (by omega)), n_ixn (show v < 2147483648 by omega), if_neg (fun z => c2.mp z q1), if_pos (n_in hs (by omega)), n_ixn (show src < 2147483648 by omega), if_neg (fun z => q2 (c3.mp z))]
        simp only [if_neg (fun z : S.lab v = -1 ∧ H v = H src => q2 z.2)]
    · refine ⟨m, ?_, by simp only [if_neg (fun z : S.lab v = -1 ∧ H v = H src => q1 z.1)]; exact R, Frm.rf⟩
      rw [e0, hb, letV_o, e1, if_neg c1, if_pos (n_in hv (by omega)), n_ixn (show v < 2147483648 by omega), if_pos (c2.mpr q1)]
      simp only [if_neg (fun z : S.lab v = -1 ∧ H v = H src => q1 z.1)]
theorem fb_four {m : Mem} {S : StF} {H : Nat → Bool} {src o h P : Nat} {kx : Mem → Int32 → Option Mem} (R : CB m o S) (ok : OkF S) (hh : o + h < S.t) (hs : src < 400) (hP : P < 400) (h17 : gI m 133 33 = nI P) (h6 : ∀ s, s < 400 → gI m 141 s = b2i (H s)) :
    ∃ m', RM_parts_L95 (nI src) (nI h) kx FU m (nI (S.t - o)) 0 = kx m' (nI ((fou H (H src) P (S.que (o + h)) S).t - o)) ∧ CB m' o (fou H (H src) P (S.que (o + h)) S) ∧ Frm L434 [] m m' := by
  obtain ⟨f, hf⟩ : ∃ f, FU = f + 1 + 1 + 1 + 1 + 1 := ⟨FU - 5, by unfold FU; omega⟩
  have hq := ok.qu _ hh
  obtain ⟨o1, x1⟩ := stp_ok (H := H) (h0 := H src) (p := (P : Int)) (sq := S.que (o + h)) (d := 0) ok hq (by omega) (by omega)
  obtain ⟨m1, e1, r1, F1⟩ := fb_step (f := f + 1 + 1 + 1 + 1) (kx := kx) (d := 0) R ok hh (by omega) hs h17 h6
  generalize hS1 : stp H (H src) (P : Int) (S.que (o + h)) 0 S = S1 at o1 x1 e1 r1
  have q1 : S1.que (o + h) = S.que (o + h) := x1.2.1 _ hh
  have t1 : o + h < S1.t := Nat.lt_of_lt_of_le hh x1.1
  obtain ⟨o2, x2⟩ := stp_ok (H := H) (h0 := H src) (p := (P : Int)) (sq := S1.que (o + h)) (d := 1) o1 (by rw [q1]; exact hq) (by omega) (by omega)
  obtain ⟨m2, e2, r2, F2⟩ := fb_step (f := f + 1 + 1 + 1) (kx := kx) (d := 1) (P := P) r1 o1 t1 (by omega) hs (by rw [F1.I 133 33 rfl]; exact h17) (fun s hs => by rw [F1.I 141 s rfl]; exact h6 s hs)
  generalize hS2 : stp H (H src) (P : Int) (S1.que (o + h)) 1 S1 = S2 at o2 x2 e2 r2
  have q2 : S2.que (o + h) = S.que (o + h) := (x2.2.1 _ t1).trans q1
  have t2 : o + h < S2.t := Nat.lt_of_lt_of_le t1 x2.1
  have F12 := F1.tr F2
  obtain ⟨o3, x3⟩ := stp_ok (H := H) (h0 := H src) (p := (P : Int)) (sq := S2.que (o + h)) (d := 2) o2 (by rw [q2]; exact hq) (by omega) (by omega)
  obtain ⟨m3, e3, r3, F3⟩ := fb_step (f := f + 1 + 1) (kx := kx) (d := 2) (P := P) r2 o2 t2 (by omega) hs (by rw [F12.I 133 33 rfl]; exact h17) (fun s hs => by rw [F12.I 141 s rfl]; exact h6 s hs)
  generalize hS3 : stp H (H src) (P : Int) (S2.que (o + h)) 2 S2 = S3 at o3 x3 e3 r3
  have q3 : S3.que (o + h) = S.que (o + h) := (x3.2.1 _ t2).trans q2
  have t3 : o + h < S3.t := Nat.lt_of_lt_of_le t2 x3.1
  have F13 := F12.tr F3
  obtain ⟨m4, e4, r4, F4⟩ := fb_step (f := f + 1) (kx := kx) (d := 3) (P := P) r3 o3 t3 (by omega) hs (by rw [F13.I 133 33 rfl]; exact h17) (fun s hs => by rw [F13.I 141 s rfl]; exact h6 s hs)
  have eF : fou H (H src) (P : Int) (S.que (o + h)) S = stp H (H src) (P : Int) (S3.que (o + h)) 3 S3 := by
    unfold fou
    rw [hS1, ← q1, hS2, q1, ← q2, hS3, q2, q3]
  rw [eF]
  refine ⟨m4, ?_, r4, F13.tr F4⟩
  rw [hf, show (0 : Int32) = nI 0 from k0, e1, e2, e3, e4, RM_parts_L95, if_pos (by decide)]
theorem fb_bfs {H : Nat → Bool} {src o P : Nat} {kx : Mem → Int32 → Option Mem} (hs : src < 400) (hP : P < 400) : ∀ (n h fu : Nat) (m : Mem) (S : StF), o + h + n = 400 → n < fu → o ≤ S.t → CB m o S → OkF S → gI m 133 33 = nI P → (∀ s, s < 400 → gI m 141 s = b2i (H s)) →
    ∃ m', RM_parts_L86 (nI src) kx fu m (nI (S.t - o)) (nI h) = kx m' (nI ((bfs H (H src) P n (o + h) S).t - o)) ∧ CB m' o (bfs H (H src) P n (o + h) S) ∧ Frm L434 [] m m'
  | 0, h, fu, m, S, hn, hf, ho, R, ok, h17, h6 => by
    obtain ⟨f, rfl⟩ : ∃ f, fu = f + 1 := ⟨fu - 1, by omega⟩
    have hle := ok.le
    exact ⟨m, by rw [RM_parts_L86, if_pos (by rw [n_le (by omega) (by omega)]; omega)]; rfl, R, Frm.rf⟩
  | n + 1, h, fu, m, S, hn, hf, ho, R, ok, h17, h6 => by
    obtain ⟨f, rfl⟩ : ∃ f, fu = f + 1 := ⟨fu - 1, by omega⟩
    have hle := ok.le
    unfold bfs
    by_cases q : S.t ≤ o + h
    · rw [if_pos q]
      exact ⟨m, by rw [RM_parts_L86, if_pos (by rw [n_le (by omega) (by omega)]; omega)], R, Frm.rf⟩
    · rw [if_neg q]
      obtain ⟨m1, e1, r1, F1⟩ := fb_four (kx := fun m2 y1 => RM_parts_L86 (nI src) kx f m2 y1 (nI h + 1)) R ok (show o + h < S.t by omega) hs hP h17 h6
      obtain ⟨o1, x1⟩ := fou_ok (H := H) (h0 := H src) (p := (P : Int)) ok (ok.qu (o + h) (by omega)) (by omega) (by omega)
      obtain ⟨m2, e2, r2, F2⟩ := fb_bfs (kx := kx) hs hP n (h + 1) f m1 _ (by omega) (by omega) (Nat.le_trans ho x1.1) r1 o1 (by rw [F1.I 133 33 rfl]; exact h17) (fun s hs => by rw [F1.I 141 s rfl]; exact h6 s hs)
      refine ⟨m2, ?_, r2, F1.tr F2⟩
      rw [RM_parts_L86, if_neg (by rw [n_le (by omega) (by omega)]; omega), e1, k1, n_add, e2, Nat.add_assoc]
def CR (m : Mem) (C : ScF) : Prop := (∀ s, s < 400 → gI m 143 s = iz (C.S.lab s)) ∧ gI m 133 33 = nI C.P ∧ ∀ p, p < C.P → gI m 145 p = nI (C.first p) ∧ gI m 146 p = nI (C.start (p + 1) - C.start p)
abbrev L1436 : List (Nat × Nat) := [(133, 33), (143, 999999), (144, 999999), (145, 999999), (146, 999999)]
theorem fb_scan {H : Nat → Bool} {kx : Mem → Option Mem} : ∀ (n s fu : Nat) (m : Mem) (C : ScF), s + n = 400 → n < fu → CR m C → IC s C → (∀ s, s < 400 → gI m 141 s = b2i (H s)) →
    ∃ m', RM_parts_L35 kx fu m (nI s) = kx m' ∧ CR m' (scn H n s C) ∧ Frm L1436 [] m m'
  | 0, s, fu, m, C, hn, hf, R, I, h6 => by
    obtain ⟨f, rfl⟩ : ∃ f, fu = f + 1 := ⟨fu - 1, by omega⟩
    obtain rfl : s = 400 := by omega
    exact ⟨m, by rw [RM_parts_L35, if_pos (by decide)], R, Frm.rf⟩
  | n + 1, s, fu, m, C, hn, hf, R, I, h6 => by
    obtain ⟨f, rfl⟩ : ∃ f, fu = f + 1 := ⟨fu - 1, by omega⟩
    have ok := I.1
    have hle := ok.le
    have I' := sc1_ok (H := H) (by omega) I
    have hP := I.pt
    unfold scn
    have c2 : (gI m 143 s < 0) ↔ C.S.lab s = -1 := by rw [R.1 s (by omega), lab_neg' (ok.lo s)]
    have e0 : RM_parts_L35 kx (f + 1) m (nI s) = if (gI m 143 s) < 0 then (if inb (gI m 133 33) 400 then (letM (sI m 145 (ixn (gI m 133 33)) (nI s)) fun m3 =>
        letM (sI m3 143 s (gI m3 133 33)) fun m4 =>
        if inb 0 400 then (letM (sI m4 144 (ixn 0) (nI s)) fun m6 =>
        RM_parts_L86 (nI s) (fun m8 y7 => if inb (gI m8 133 33) 400 then (letM (sI m8 146 (ixn (gI m8 133 33)) y7) fun m10 =>
        letM (sI m10 133 33 ((gI m10 133 33) + 1)) fun m11 =>
        RM_parts_L35 kx f m11 (nI (s + 1))) else none) FU m6 1 0) else none) else none)
        else (RM_parts_L35 kx f m (nI (s + 1))) := by
      rw [RM_parts_L35, if_neg (by rw [show (400 : Int32) = nI 400 from rfl, n_le (by omega) (by omega)]; omega), if_pos (n_in (by omega) (by omega)), n_ixn (by omega), show nI s + 1 = nI (s + 1) by rw [k1, n_add]]
    by_cases q : C.S.lab s = -1
    · have tl := ok.lt (show s < 400 by omega) q
      have eS : sc1 H s C = (fld H C.P s C.S, C.P + 1, upn C.start (C.P + 1) (fld H C.P s C.S).t, upn C.first C.P s) := by unfold sc1; rw [if_pos q]
      have F0 : Frm L1436 [] m (sI (sI (sI m 145 C.P (nI s)) 143 s (nI C.P)) 144 0 (nI s)) := (Frm.sI rfl rfl).tr ((Frm.sI rfl rfl).tr (Frm.sI rfl rfl))
      have R0 : CB (sI (sI (sI m 145 C.P (nI s)) 143 s (nI C.P)) 144 0 (nI s)) C.S.t (putF C.S s C.P) := by
        have z : CB (sI m 145 C.P (nI s)) C.S.t C.S := ⟨fun s hs => by rw [gI_sI, if_neg (by omega)]; exact R.1 s hs, fun j hj => by omega⟩
        have := z.pt (v := s) (P := C.P) (Nat.le_refl _)
        rw [Nat.sub_self] at this
        exact this
      have g17 : gI (sI (sI (sI m 145 C.P (nI s)) 143 s (nI C.P)) 144 0 (nI s)) 133 33 = nI C.P := by rw [gI_sI, if_neg (by omega), gI_sI, if_neg (by omega), gI_sI, if_neg (by omega)]; exact R.2.1
      have okp := ok.pt (v := s) (p := (C.P : Int)) (by omega) q (by omega) (by omega)
      obtain ⟨m1, e1, r1, F1⟩ := fb_bfs (H := H) (src := s) (P := C.P) (o := C.S.t) (kx := fun m8 y7 => if inb (gI m8 133 33) 400 then (letM (sI m8 146 (ixn (gI m8 133 33)) y7) fun m10 =>
        letM (sI m10 133 33 ((gI m10 133 33) + 1)) fun m11 =>
        RM_parts_L35 kx f m11 (nI (s + 1))) else none) (by omega) (by omega) (400 - C.S.t) 0 FU _ (putF C.S s C.P) (by omega) (by unfold FU; omega) (Nat.le_succ _) R0 okp g17 (fun s hs => by rw [gI_sI, if_neg (by omega), gI_sI, if_neg (by omega), gI_sI, if_neg (by omega)]; exact h6 s hs)
      rw [show C.S.t + 0 = C.S.t from rfl, show bfs H (H s) (C.P : Int) (400 - C.S.t) C.S.t (putF C.S s C.P) = fld H C.P s C.S from rfl] at e1 r1
      rw [show (putF C.S s (C.P : Int)).t - C.S.t = 1 by show C.S.t + 1 - C.S.t = 1; omega, show nI 0 = 0 from k0.symm, show nI 1 = 1 from k1.symm] at e1
      have h17 : gI m1 133 33 = nI C.P := by rw [F1.I 133 33 rfl, g17]
      have F2 : Frm L1436 [] m1 (sI (sI m1 146 C.P (nI ((fld H C.P s C.S).t - C.S.t))) 133 33 (nI (C.P + 1))) := (Frm.sI rfl rfl).tr (Frm.sI rfl rfl)
      have FF := F0.tr ((F1.mo (wL_sub rfl)).tr F2)
      have R2 : CR (sI (sI m1 146 C.P (nI ((fld H C.P s C.S).t - C.S.t))) 133 33 (nI (C.P + 1))) (sc1 H s C) := by
        rw [eS]
        refine ⟨fun s hs => by rw [gI_sI, if_neg (by omega), gI_sI, if_neg (by omega)]; exact r1.1 s hs, by rw [gI_sI, if_pos ⟨rfl, rfl⟩], fun p hp => ⟨?_, ?_⟩⟩
        · have hp' : p < C.P + 1 := hp
          show _ = nI (upn C.first C.P s p)
          rw [gI_sI, if_neg (by omega), gI_sI, if_neg (by omega), F1.I 145 p rfl, gI_sI, if_neg (by omega), gI_sI, if_neg (by omega), gI_sI]
          by_cases z : p = C.P
          · rw [if_pos ⟨rfl, z⟩, z, upn_eq]
          · rw [if_neg (fun y => z y.2), upn_ne z]; exact (R.2.2 p (by omega)).1
        · have hp' : p < C.P + 1 := hp
          show _ = nI (upn C.start (C.P + 1) (fld H C.P s C.S).t (p + 1) - upn C.start (C.P + 1) (fld H C.P s C.S).t p)
          rw [gI_sI, if_neg (by omega), gI_sI, upn_ne (show p ≠ C.P + 1 by omega)]
          by_cases z : p = C.P
          · rw [if_pos ⟨rfl, z⟩, z, upn_eq, I.2.1]
          · rw [if_neg (fun y => z y.2), upn_ne (by omega), F1.I 146 p rfl, gI_sI, if_neg (by omega), gI_sI, if_neg (by omega), gI_sI, if_neg (by omega)]
            exact (R.2.2 p (by omega)).2
      obtain ⟨m2, e2, r2, F3⟩ := fb_scan (H := H) (kx := kx) n (s + 1) f _ (sc1 H s C) (by omega) (by omega) R2 I' (fun s hs => by rw [FF.I 141 s rfl]; exact h6 s hs)
      refine ⟨m2, ?_, r2, FF.tr F3⟩
      have g1 : gI (sI m 145 C.P (nI s)) 133 33 = nI C.P := by rw [gI_sI, if_neg (by omega)]; exact R.2.1
      have g2 : gI (sI m1 146 C.P (nI ((fld H C.P s C.S).t - C.S.t))) 133 33 = nI C.P := by rw [gI_sI, if_neg (by omega), h17]
      rw [e0, if_pos (c2.mpr q), R.2.1, if_pos (n_in (by omega) (by omega)), n_ixn (by omega), letM_o, g1, letM_o, if_pos (by decide), show ixn 0 = 0 from rfl, letM_o, e1, h17, if_pos (n_in (by omega) (by omega)), n_ixn (by omega), letM_o, g2, k1, n_add, letM_o, e2]
    · have eS : sc1 H s C = C := by unfold sc1; rw [if_neg q]
      rw [eS] at I' ⊢
      obtain ⟨m2, e2, r2, F3⟩ := fb_scan (H := H) (kx := kx) n (s + 1) f m C (by omega) (by omega) R I' h6
      exact ⟨m2, by rw [e0, if_neg (fun z => q (c2.mp z)), e2], r2, F3⟩
theorem parts_fill {kx : Mem → Option Mem} : ∀ (d i fu : Nat) (m : Mem), i + d = 400 → d < fu → ∃ m', RM_parts_L13 kx fu m (nI i) = kx m' ∧ (∀ s, i ≤ s → s < 400 → gI m' 143 s = -1) ∧ (∀ s, s < i → gI m' 143 s = gI m 143 s) ∧ Frm [(143, 999999)] [] m m'
  | 0, i, fu, m, hd, hf => by
    obtain ⟨f, rfl⟩ : ∃ f, fu = f + 1 := ⟨fu - 1, by omega⟩
    obtain rfl : i = 400 := by omega
    exact ⟨m, by rw [RM_parts_L13, if_pos (by decide)], fun s a b => by omega, fun _ _ => rfl, Frm.rf⟩
  | d + 1, i, fu, m, hd, hf => by
    obtain ⟨f, rfl⟩ : ∃ f, fu = f + 1 := ⟨fu - 1, by omega⟩
    obtain ⟨m', e, a, b, F⟩ := parts_fill (kx := kx) d (i + 1) f (sI m 143 i (-1)) (by omega) (by omega)
    refine ⟨m', ?_, fun s h1 h2 => ?_, fun s h => ?_, (Frm.sI rfl rfl).tr F⟩
    · rw [RM_parts_L13, if_neg (by rw [show (400 : Int32) = nI 400 from rfl, n_le (by omega) (by omega)]; omega), if_pos (n_in (by omega) (by omega)), n_ixn (by omega), letM_o, show nI i + 1 = nI (i + 1) by rw [k1, n_add]]
      exact e
    · by_cases q : s = i
      · rw [b s (by omega), gI_sI, if_pos ⟨rfl, q⟩]
      · exact a s (by omega) h2
    · rw [b s (by omega), gI_sI, if_neg (by omega)]
/-- the reference's pieces -/
theorem parts_eq {m1 m2 : Mem} {x v : Int32} {H : Nat → Bool} (e : RM_maps m1 x = some (v, m2)) (h6 : ∀ s, s < 400 → gI m2 141 s = b2i (H s)) : ∃ m3, RM_parts m1 x = some m3 ∧ CR m3 (pcs H) ∧ Frm [(133, 33), (143, 999999), (144, 999999), (145, 999999), (146, 999999)] [] m2 m3 := by
  obtain ⟨m3, e3, a3, -, F3⟩ := parts_fill (kx := fun m5 => RM_parts_L35 (fun m6 => some m6) FU m5 0) 400 0 FU (sI m2 133 33 0) (by omega) (by unfold FU; omega)
  have F0 : Frm L1436 [] m2 (sI m2 133 33 0) := Frm.sI rfl rfl
  have F1 := F0.tr (F3.mo (wL_sub rfl))
  have R : CR m3 C0 := ⟨fun s hs => by rw [a3 s (by omega) hs]; rfl, by rw [F3.I 133 33 rfl, gI_sI, if_pos ⟨rfl, rfl⟩]; rfl, fun p hp => absurd hp (Nat.not_lt_zero _)⟩
  obtain ⟨m4, e4, r4, F4⟩ := fb_scan (H := H) (kx := fun m6 => some m6) 400 0 FU m3 C0 (by omega) (by unfold FU; omega) R C0_ok (fun s hs => by rw [F1.I 141 s rfl]; exact h6 s hs)
  rw [show nI 0 = 0 from k0.symm] at e3 e4
  refine ⟨m4, ?_, r4, F1.tr F4⟩
  unfold RM_parts
  rw [e, bV_s, letM_o, e3, e4]

theorem LineD.fr {m m' : Mem} {k n : Nat} {X Y : Nat → Int} (h : Inv m) (hk : k < 3) (D : LineD m k n X Y) (F : Frm Lsc [] m m') : LineD m' k n X Y := by
  obtain ⟨d1, d2, d3, d4, ⟨e1, e2, e3⟩, d6⟩ := D
  have hp : gN m 13 = 68 ∨ gN m 13 = 84 ∨ gN m 13 = 101 ∨ gN m 13 = 117 := by rcases h.1 with q | q <;> omega
  have g : ∀ d j, d < 16 → gI m' (gN m 13 + d) j = gI m (gN m 13 + d) j := fun d j hd => F.I _ _ (lsc_par hp (by omega) (by omega))
  refine ⟨d1, d2, by rw [F.I 135 _ rfl]; exact d3, fun i hi => by rw [F.I 135 _ rfl, F.I 135 _ rfl]; exact d4 i hi, ⟨?_, e2, fun i hi => ?_⟩, d6⟩
  · rw [F.N]
    have := g (2 + 3 * k) 1 (by omega)
    rw [← Nat.add_assoc] at this
    rw [this]; exact e1
  · rw [F.N]
    have g1 : gI m' (gN m 13 + 2 + 3 * k + 1) i = gI m (gN m 13 + 2 + 3 * k + 1) i := by
      have := g (2 + 3 * k + 1) i (by omega)
      rw [show gN m 13 + (2 + 3 * k + 1) = gN m 13 + 2 + 3 * k + 1 by omega] at this
      exact this
    have g2 : gI m' (gN m 13 + 2 + 3 * k + 2) i = gI m (gN m 13 + 2 + 3 * k + 2) i := by
      have := g (2 + 3 * k + 2) i (by omega)
      rw [show gN m 13 + (2 + 3 * k + 2) = gN m 13 + 2 + 3 * k + 2 by omega] at this
      exact this
    rw [g1, g2]
    exact e3 i hi
theorem op_claims {m : Mem} (h : Inv m) (x : Int32) : ∃ v m1 m2, OH_claims m x = some (v, m1) ∧ RM_claims m1 x = some (v, m2) ∧ Inv m2 := by
  obtain ⟨L, hL, b, e1, e2, hb, hb'⟩ := tape_b h
  obtain ⟨mr, r1, r2, r3⟩ := inv_refuse h 300
  have hp13 : gN m 13 = 101 ∨ gN m 13 = 117 := by rcases h.1 with q | q <;> omega
  have hp4 : gN m 13 = 68 ∨ gN m 13 = 84 ∨ gN m 13 = 101 ∨ gN m 13 = 117 := by omega
  obtain ⟨H, hH, eH⟩ := h.2.2.2.1.2.1.ex
  rw [Nat.zero_add] at eH
  have e7 : gI m (gN m 13) 7 = nI H := by rw [h.2.2.1.2.1, Nat.zero_add, eH]
  rcases line_cases h x with ⟨h1, h2⟩ | ⟨k, hk, hk2, rfl, h1, h2⟩
  · refine ⟨-2000, sI m 1 1 0, mr, by rw [OH_claims, h1, if_pos rfl, letM_p], ?_, r3⟩
    rw [RM_claims, letM_p, r1, bM_s, h2 _ (r2 0), bI_s, if_pos rfl]
  obtain ⟨n, X, Y, D⟩ := lineD h hk2
  have hn := D.2.1
  have hn3 := D.1
  have hays : ∀ t, ∃ ab : Nat × Nat, t < H → ab.1 < 20 ∧ ab.2 < 20 ∧ gI m 135 (86 + 3 * t) = nI ab.1 ∧ gI m 135 (86 + 3 * t + 1) = nI ab.2 ∧ gI m (gN m 13 + 11) t = nI ab.1 ∧ gI m (gN m 13 + 12) t = nI ab.2 := fun t => by
    by_cases q : t < H
    · rcases hay_cases h (nI t) with ⟨h3, _⟩ | ⟨t', a, b', l, ht, ht2, et, ha, hb2, hl, u1, u2, -, v1, v2, -, h3, h4⟩
      · exfalso
        rw [PH_hasHay, if_neg (by rw [k0, n_lt (by omega) (by omega)]; omega), e7, if_neg (by rw [n_le (by omega) (by omega)]; omega)] at h3
        exact absurd h3 (by decide)
      · rw [n_eq (by omega) (by omega)] at et
        subst et
        exact ⟨(a, b'), fun _ => ⟨ha, hb2, u1, u2, v1, v2⟩⟩
    · exact ⟨(0, 0), fun z => absurd z q⟩
  obtain ⟨FF, hF⟩ := Classical.axiomOfChoice hays
  obtain ⟨hx, ehx⟩ : ∃ g : Nat → Nat, ∀ t, g t = (FF t).1 := ⟨_, fun _ => rfl⟩
  obtain ⟨hy, ehy⟩ : ∃ g : Nat → Nat, ∀ t, g t = (FF t).2 := ⟨_, fun _ => rfl⟩
  have hxy : ∀ t, t < H → hx t < 20 ∧ hy t < 20 ∧ gI m 135 (86 + 3 * t) = nI (hx t) ∧ gI m 135 (86 + 3 * t + 1) = nI (hy t) ∧ gI m (gN m 13 + 11) t = nI (hx t) ∧ gI m (gN m 13 + 12) t = nI (hy t) := fun t ht => by rw [ehx, ehy]; exact hF t ht
  clear hF ehx ehy FF hays
  obtain ⟨g, hg⟩ : ∃ g : Nat → Int64, ∀ t, g t = gJ m 137 (3 + t) := ⟨_, fun _ => rfl⟩
  have names : ∀ t, t < H → gJ m (gN m 13 + 14) t = g t := fun t ht => by
    have := (h.2.2.1.2.2.2.2.2.2.2.2.2 t (by rw [Nat.zero_add, eH, n_ixn (by omega)]; exact ht)).2.2.2
    rw [Nat.zero_add] at this
    rw [this, hg]
  -- the class
  obtain ⟨m1, s1, s6, -, F1⟩ := OH_survey_eq h hk D
  obtain ⟨m2, b1, b2, b3, b4, b5, F2⟩ := begin_eq m1 300
  have F12 : Frm Lsc [] m m2 := (F1.mo (wL_subM rfl)).tr (F2.mo (wL_subM rfl))
  have M2 : ∀ m', Frm Lcl [] m2 m' → CC1 m' k H (fun x y => hisP (gI m 135 4) (gI m 135 5) (clz n X) (clz n Y) x y n) (fun x y => onP (clz n X) (clz n Y) x y n) (fun t => hisP (gI m 135 4) (gI m 135 5) (fun i => 2 * clz n X i) (fun i => 2 * clz n Y i) (2 * (hx t : Int) + 1) (2 * (hy t : Int) + 1) n) g := by
    intro m' F3
    have F : Frm Lsc [] m m' := F12.tr (F3.mo (wL_subM rfl))
    have hI := inv_frame F h
    have hD := D.fr h hk F
    have gp : ∀ d j, d < 16 → gI m' (gN m 13 + d) j = gI m (gN m 13 + d) j ∧ gJ m' (gN m 13 + d) j = gJ m (gN m 13 + d) j := fun d j hd => ⟨F.I _ _ (lsc_par hp4 (by omega) (by omega)), F.J _ _ (lsc_par hp4 (by omega) (by omega))⟩
    refine ⟨by omega, by rw [F.N, show gN m 13 = gN m 13 + 0 from rfl, (gp 0 7 (by omega)).1]; exact e7, fun t ht => by rw [F.N, (gp 14 t (by omega)).2]; exact names t ht, fun x y hx' hy' => ?_, fun t ht => ?_⟩
    · rw [nI_iz x, nI_iz y, ownerOf_eq hI.2.2.2.1 hI.2.2.1 hD hk (by omega) (by omega), F.I 135 4 rfl, F.I 135 5 rfl]
    · obtain ⟨y1, y2, y3, y4, y5, y6⟩ := hxy t ht
      refine ⟨20 * hy t + hx t, by omega, ?_, ?_⟩
      · rw [PH_haySquare, F.N, if_pos (n_in (by omega) (by omega)), n_ixn (by omega), (gp 11 t (by omega)).1, (gp 12 t (by omega)).1, y5, y6, squareAt_n]
      · rw [F3.I 6 _ rfl, F2.I 6 _ rfl, s6 _ (by omega)]
        unfold hisS hisM
        rw [show (20 * hy t + hx t) / 20 = hy t by omega, show (20 * hy t + hx t) % 20 = hx t by omega]
  have T2 : TA m2 b L 300 := ⟨hL, by omega, by rw [F2.I 1 1 rfl, F1.I 1 1 rfl]; exact e1, by rw [b2]; rfl, fun i hi => by rw [F2.I 2 i rfl, F1.I 2 i rfl]; exact hb i hi⟩
  obtain ⟨v, m6, w1, OA⟩ := ca_loop (b := b) (L := L) (M := 300) M2 (by omega) 941 0 0 FU 0 (-1) m2 (by omega) (by omega) (by omega) (by omega) (by unfold FU; omega) Frm.rf T2 (by rw [b3]; rfl) b4
  obtain ⟨m7, c1, c2, c3, F7⟩ := closeText_eq m6 v
  have eO : OH_claims m (nI k) = some (if gI m6 1 2 = 0 then v else -1 - gI m6 1 3, m7) := by
    have eH' : OH_hearClaims m2 (nI k) = some (v, m6) := by
      rw [show nI 0 = 0 from k0.symm] at w1
      exact w1
    rw [OH_claims, h1, if_neg (by decide), s1, bM_s, b1, bM_s, eH', bV_s, c1, bV_s]
  have FO := OH_claims_fr (L := W_OH_claims) (R := []) (wL_sub rfl) m _ _ eO
  -- the reference
  have f0 : ∀ j, gI (sI m7 133 0 0) 135 j = gI m 135 j := fun j => by rw [gI_sI, if_neg (by omega), FO.I 135 j rfl]
  obtain ⟨m8, t1, t2, t3, t4, t5, F8⟩ := taken_eq (m := sI m7 133 0 0) (L := L) 300 (by rw [gI_sI, if_neg (by omega), FO.I 133 2 rfl]; exact e2)
  have f8 : ∀ j, gI m8 135 j = gI m 135 j := fun j => by rw [F8.I 135 j rfl, f0]
  have f9 : ∀ j, gI (sI m8 133 14 0) 135 j = gI m 135 j := fun j => by rw [gI_sI, if_neg (by omega), f8]
  obtain ⟨m9, l1, l2, F9⟩ := D.look hk f9
  have k9 : ∀ j, j = 2 ∨ j = 3 ∨ j = 4 ∨ j = 5 → gI m9 133 j = gI m8 133 j := fun j hj => by
    rcases hj with rfl | rfl | rfl | rfl
    · rw [F9.I 133 2 rfl, gI_sI, if_neg (by omega)]
    · rw [F9.I 133 3 rfl, gI_sI, if_neg (by omega)]
    · rw [F9.I 133 4 rfl, gI_sI, if_neg (by omega)]
    · rw [F9.I 133 5 rfl, gI_sI, if_neg (by omega)]
  have T9 : TB m9 b L 300 := ⟨hL, by omega, by rw [k9 3 (by omega), t2], by rw [k9 5 (by omega), t5]; rfl, fun i hi => ⟨(hb i hi).1, by rw [F9.I 134 i rfl, gI_sI, if_neg (by omega), F8.I 134 i rfl, gI_sI, if_neg (by omega), FO.I 134 i rfl]; exact hb' i hi⟩⟩
  obtain ⟨m10, x1, K10, T10, F10⟩ := nxt (p := 0) T9 (by rw [k9 4 (by omega), t4]; rfl) (by omega)
  have f10 : ∀ j, gI m10 135 j = gI m 135 j := fun j => by rw [F10.I 135 j rfl, F9.I 135 j rfl, f9]
  have j10 : ∀ c j, c = 137 ∨ c = 138 → gJ m10 c j = gJ m c j := fun c j hc => by
    rcases hc with rfl | rfl
    · rw [F10.J 137 j rfl, F9.J 137 j rfl, gJ_sI, F8.J 137 j rfl, gJ_sI, FO.J 137 j rfl]
    · rw [F10.J 138 j rfl, F9.J 138 j rfl, gJ_sI, F8.J 138 j rfl, gJ_sI, FO.J 138 j rfl]
  have C10 : CR1 m10 n H (clz n X) (clz n Y) (gI m 135 4) (gI m 135 5) g hx hy := ⟨by omega, by rw [f10]; exact eH, fun t ht => by rw [j10 _ _ (Or.inl rfl), hg], fun t ht => by
    obtain ⟨y1, y2, y3, y4, -, -⟩ := hxy t ht
    rw [f10, f10]
    exact ⟨y3, y4, y1, y2⟩, fun q hq => by rw [j10 _ _ (Or.inr rfl)]; exact h.2.2.2.2.2.2.2 q hq, f10 4, f10 5, l2.fr F10 rfl (fun _ => rfl) (fun _ => rfl)⟩
  obtain ⟨m11, OB⟩ := cb_loop (b := b) (L := L) (M := 300) (kx := fun m13 y11 y12 => letM (sI m13 133 27 y12) fun m14 => some (y11, m14)) 941 0 0 FU 0 (-1) m10 (by omega) (by omega) (by omega) (by unfold FU; omega) (Or.inl rfl) T10 K10 C10
  have eR0 : RM_claims m7 (nI k) = RM_claims_L45 (fun m13 y11 y12 => letM (sI m13 133 27 y12) fun m14 => some (y11, m14)) FU m10 (nI 0) 0 (-1) := by
    rw [RM_claims, letM_p, t1, bM_s, h2 _ (f8 0), bI_s, if_neg (by decide), letM_p, l1, bM_s, x1, bM_s]
    rfl
  have d14 : gI m10 133 14 = 0 := by rw [F10.I 133 14 rfl, F9.I 133 14 rfl, gI_sI, if_pos ⟨rfl, rfl⟩]
  have d27 : gI m10 133 27 = gI m 133 27 := by rw [F10.I 133 27 rfl, F9.I 133 27 rfl, gI_sI, if_neg (by omega), F8.I 133 27 rfl, gI_sI, if_neg (by omega), FO.I 133 27 rfl]
  have g133 : gI m10 133 2 = 0 := by rw [F10.I 133 2 rfl, k9 2 (by omega), t3]
  have hQ := h.2.2.2.2.2.2.1
  have done : ∀ mF, Frm W_RM_claims [] m7 mF → gI mF 133 2 = 0 → gI m7 0 15 = gI mF 133 14 → gI m7 0 16 = gI mF 133 27 → Inv mF := by
    intro mF FF q2 q14 q27
    have Fm : Frm (W_OH_claims ++ W_RM_claims) [] m mF := (FO.mo (wL_sub rfl)).tr (FF.mo (wL_sub rfl))
    refine inv_told Fm (by decide) (iTape0 (by rw [FF.I 1 1 rfl, c3]) q2) ?_ h
    unfold iTold at hQ ⊢
    rw [FF.I 0 15 rfl, q14, FF.I 0 16 rfl, q27, Fm.I 133 36 rfl, Fm.I 133 52 rfl, Fm.I 133 49 rfl, Fm.I 40 1 rfl, Fm.I 133 45 rfl, Fm.I 40 0 rfl, Fm.I 133 46 rfl]
    simp only [fun k => Fm.I 27 k rfl, fun k => Fm.I 148 k rfl, fun k => Fm.I 32 k rfl, fun k => Fm.I 155 k rfl, fun k => Fm.I 66 k rfl, fun k => Fm.I 154 k rfl, fun k => Fm.I 41 k rfl, fun k => Fm.I 153 k rfl]
    obtain ⟨p1, p2, p3, p4, p5, p6⟩ := hQ
    exact ⟨trivial, trivial, p3, p4, p5, p6⟩
  have u16 : gI m7 0 16 = gI m6 0 16 := F7.I 0 16 rfl
  generalize clm b L 300 _ 941 0 0 0 (-1) = o at OA OB
  rcases OA with ⟨a1, a2, a3, a4⟩ | ⟨a1, a2, a3, a4, a5⟩
  · rcases OB with ⟨o1, o2, o3⟩ | ⟨o1, o2, o3, o4⟩
    · rw [if_pos a3] at eO
      have eR : RM_claims m7 (nI k) = some (v, sI m11 133 27 o.2.2.2) := by rw [eR0, o2]; dsimp only; rw [letM_p, a2]
      exact ⟨v, m7, _, eO, eR, done _ (RM_claims_fr (wL_sub rfl) m7 _ _ eR) (by rw [gI_sI, if_neg (by omega), o3.I 133 2 rfl, g133]) (by rw [c2, a3, gI_sI, if_neg (by omega), o3.I 133 14 rfl, d14]) (by rw [u16, a4, gI_sI, if_pos ⟨rfl, rfl⟩])⟩
    · omega
  · rcases OB with ⟨o1, o2, o3⟩ | ⟨o1, o2, o3, o4⟩
    · omega
    · have nz : ¬ gI m6 1 2 = 0 := by rw [a3, k0, n_eq (by omega) (by omega)]; omega
      rw [if_neg nz, a4] at eO
      have eR : RM_claims m7 (nI k) = some (-1 - nI o.2.1, m11) := by rw [eR0, o2]
      refine ⟨_, m7, m11, eO, eR, done m11 (RM_claims_fr (wL_sub rfl) m7 _ _ eR) (by rw [o4.I 133 2 rfl, g133]) (by rw [c2, a3, o3]) ?_⟩
      rw [u16, a5, o4.I 133 27 rfl, d27, F2.I 0 16 rfl, F1.I 0 16 rfl]
      exact hQ.2.1

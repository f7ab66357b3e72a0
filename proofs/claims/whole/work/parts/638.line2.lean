theorem sign3 {m : Mem} {b : Nat → Nat} {L p : Nat} (KB : CKB m b L 900 p) : RM_isSign m 59 = if tkK b L 900 p = 3 then 1 else 0 := by
  have kc := tkK_c b L 900 p
  rw [RM_isSign]
  by_cases z : tkK b L 900 p = 3
  · have g : gI m 133 10 = 3 := by rw [KB.1, if_neg (by omega), z]; rfl
    rw [g, if_pos rfl, KB.2.2.2.2.2 z, if_pos rfl, if_pos z]
  · have g : ¬ gI m 133 10 = 3 := by
      rw [KB.1]
      split <;> rw [k3, n_eq (by omega) (by omega)] <;> omega
    rw [if_neg g, if_neg z]
theorem isAt2 {m : Mem} {c j : Nat} {x y v w : Nat} (hj : j < 12) (h1 : gI m (c + 1) j = nI x) (h2 : gI m (c + 2) j = nI y) (hx : x ≤ 20) (hy : y ≤ 20) (hv : v ≤ 20) (hw : w ≤ 20) : LN_isAt m c (nI j) (nI v) (nI w) = some (if x = v ∧ y = w then 1 else 0) := by
  rw [LN_isAt, if_pos (n_in hj (by omega)), n_ixn (by omega), h1, h2]
  by_cases u : x = v
  · rw [if_pos (by rw [u])]
    by_cases t : y = w
    · rw [if_pos (by rw [t]), if_pos ⟨u, t⟩]
    · rw [if_neg (by rw [n_eq (by omega) (by omega)]; exact t), if_neg (fun s => t s.2)]
  · rw [if_neg (by rw [n_eq (by omega) (by omega)]; exact u), if_neg (fun s => u s.1)]
theorem line_loop {q n nh : Nat} {b : Nat → Nat} {L p0 : Nat} {N : Nat → Int64} (hq : 11 ≤ q) (l3 : n < 3) (l10 : nh ≤ 10) : ∀ (k j fu gu p : Nat) (mA mB : Mem) (X Y : Nat → Nat), j + k = 12 → k < fu → k < gu → p0 ≤ p → ST mA mB q b L p N → gI mB 136 0 = nI n → gI mB 136 1 = nI nh → LPt mA mB q n j X Y →
    OK2 (PH_tellLine_L49 q (q + 2 + 3 * n) (fun m7 => some (0, m7)) fu mA (nI j)) (RM_readLine_L45 (nI n) (nI (14 + 24 * n)) (lnK (nI n) (nI (14 + 24 * n))) gu mB (nI j)) q b L p0 N := by
  intro k
  induction k with
  | zero =>
    intro j fu gu p mA mB X Y hj hf hg hp S c0 c1 P
    obtain ⟨f, rfl⟩ : ∃ f, fu = f + 1 := ⟨fu - 1, by omega⟩
    obtain ⟨g, rfl⟩ : ∃ g, gu = g + 1 := ⟨gu - 1, by omega⟩
    obtain ⟨m1, e1, S1, F1⟩ := adv2 hq S
    have hS := S1
    obtain ⟨T1, T2, KA, KB, hp', h12, h14, PP, W, hR, hN⟩ := hS
    have kc := tkK_c b L 900 p
    have P1 : LPt m1 mB q n j X Y := P.fr (fun c k hc => ⟨F1.I c k (wtk hc), F1.J c k (wtk hc)⟩) (fun k => ⟨rfl, rfl⟩) hq
    have sg := sign3 KB
    rw [PH_tellLine_L49, if_neg (by rw [k12, n_lt (by omega) (by omega)]; omega), e1, bM_s, KA.1, RM_readLine_L45, sg]
    by_cases z3 : tkK b L 900 p = 3
    · rw [if_pos (by rw [z3]; rfl), if_pos z3, if_neg (show ¬ (1 : Int32) = 0 by decide)]
      exact close2 hq S1 z3 hp c0 l3 (by omega) P1
    · rw [if_neg (by rw [k3, n_eq (by omega) (by omega)]; exact z3), if_neg z3, if_pos rfl, letV_p, PH_beginsCorner, KA.1]
      by_cases z2 : tkK b L 900 p = 2
      · have hv := (tkV_eq z2).2
        have gB : gI mB 133 10 = 2 := by rw [KB.1, if_neg (by omega), z2]; rfl
        have g13 := KB.2.2.2.2.1 z2
        rw [if_pos (by rw [z2]; rfl), KA.2.2.2.2 z2, if_pos gB, g13]
        by_cases v20 : tkV b L 900 p ≤ 20
        · have v20' : nI (tkV b L 900 p) ≤ 20 := by rw [k20, n_le (by omega) (by omega)]; exact v20
          obtain ⟨mA', mB', f1, f2, B⟩ := fail2 KA KB hN 4 (by omega)
          rw [if_pos v20', P1.1, if_neg (by rw [k12, n_lt (by omega) (by omega)]; omega), show RD_fail m1 4 = _ from f1, bV_s, if_pos rfl, bV_s, if_pos rfl, if_pos v20', if_pos (by rw [k12, n_eq (by omega) (by omega)]; omega), show RM_bad mB 4 = _ from f2, bV_s, if_pos (Or.inl rfl)]
          exact OK2.bad B
        · have v20' : ¬ nI (tkV b L 900 p) ≤ 20 := by rw [k20, n_le (by omega) (by omega)]; exact v20
          obtain ⟨mA', mB', f1, f2, B⟩ := fail2 KA KB hN 2 (by omega)
          rw [if_neg v20', show RD_fail m1 2 = _ from f1, bV_s, if_pos (Or.inl rfl), bV_s, if_pos rfl, if_neg v20', show RM_bad mB 2 = _ from f2, bV_s, if_pos (Or.inl rfl)]
          exact OK2.bad B
      · have gB : ¬ gI mB 133 10 = 2 := by
          rw [KB.1]
          split <;> rw [k2, n_eq (by omega) (by omega)] <;> omega
        obtain ⟨mA', mB', f1, f2, B⟩ := fail2 KA KB hN 1 (by omega)
        rw [if_neg (by rw [k2, n_eq (by omega) (by omega)]; exact z2), show RD_fail m1 1 = _ from f1, bV_s, if_pos (Or.inl rfl), bV_s, if_pos rfl, if_neg gB, show RM_bad mB 1 = _ from f2, bV_s, if_pos (Or.inl rfl)]
        exact OK2.bad B
  | succ k ih =>
    intro j fu gu p mA mB X Y hj hf hg hp S c0 c1 P
    obtain ⟨f, rfl⟩ : ∃ f, fu = f + 1 := ⟨fu - 1, by omega⟩
    obtain ⟨g, rfl⟩ : ∃ g, gu = g + 1 := ⟨gu - 1, by omega⟩
    obtain ⟨m1, e1, S1, F1⟩ := adv2 hq S
    have hS := S1
    obtain ⟨T1, T2, KA, KB, hp', h12, h14, PP, W, hR, hN⟩ := hS
    have kc := tkK_c b L 900 p
    have P1 : LPt m1 mB q n j X Y := P.fr (fun c k hc => ⟨F1.I c k (wtk hc), F1.J c k (wtk hc)⟩) (fun k => ⟨rfl, rfl⟩) hq
    have sg := sign3 KB
    rw [PH_tellLine_L49, if_neg (by rw [k12, n_lt (by omega) (by omega)]; omega), e1, bM_s, KA.1, RM_readLine_L45, sg]
    by_cases z3 : tkK b L 900 p = 3
    · rw [if_pos (by rw [z3]; rfl), if_pos z3, if_neg (show ¬ (1 : Int32) = 0 by decide)]
      exact close2 hq S1 z3 hp c0 l3 (by omega) P1
    · rw [if_neg (by rw [k3, n_eq (by omega) (by omega)]; exact z3), if_neg z3, if_pos rfl, letV_p, PH_beginsCorner, KA.1]
      by_cases z2 : tkK b L 900 p = 2
      · have hv := (tkV_eq z2).2
        have gB : gI mB 133 10 = 2 := by rw [KB.1, if_neg (by omega), z2]; rfl
        have g13 := KB.2.2.2.2.1 z2
        rw [if_pos (by rw [z2]; rfl), KA.2.2.2.2 z2, if_pos gB, g13]
        by_cases v20 : tkV b L 900 p ≤ 20
        · have v20' : nI (tkV b L 900 p) ≤ 20 := by rw [k20, n_le (by omega) (by omega)]; exact v20
          obtain ⟨n1, e2, S2, l2, F2⟩ := S1.nextT hq (Or.inr (Or.inl z2))
          obtain ⟨m2, S3, F3, a1, a2⟩ := num3 hq S2 20 (by omega)
          have P2 : LPt m2 n1 q n j X Y := P1.fr (fun c k hc => ⟨F3.I c k (wtk hc), F3.J c k (wtk hc)⟩) (fun k => ⟨F2.I 136 k rfl, F2.J 137 k rfl⟩) hq
          have hS3 := S3
          obtain ⟨T1', T2', KA', KB', hp'', h12', h14', PP', W', hR', hN'⟩ := hS3
          have kc' := tkK_c b L 900 (tkN b L 900 p)
          rw [if_pos v20', P1.1, if_pos (by rw [k12, n_lt (by omega) (by omega)]; omega), bV_s, if_neg (show ¬ (1 : Int32) = 0 by decide), if_pos v20', if_neg (by rw [k12, n_eq (by omega) (by omega)]; omega), letV_p, e2, bM_s]
          have cls0 : ∀ x : Int32, (x ≤ 0 ↔ ¬ 0 < x) := fun x => by rw [Int32.le_iff_toInt_le, Int32.lt_iff_toInt_lt]; omega
          generalize hvv : tkV b L 900 p = v at v20 v20' hv
          by_cases y20 : tkK b L 900 (tkN b L 900 p) = 2 ∧ tkV b L 900 (tkN b L 900 p) ≤ 20
          · obtain ⟨r1, r2⟩ := a1 y20
            have gB' : gI n1 133 10 = 2 := by rw [KB'.1, if_neg (by omega), y20.1]; rfl
            have g13' := KB'.2.2.2.2.1 y20.1
            have y20' : nI (tkV b L 900 (tkN b L 900 p)) ≤ 20 := by rw [k20, n_le (by omega) (by omega)]; exact y20.2
            rw [show RD_readNumber m1 0 20 = _ from r1, bV_s, if_neg (show ¬ (1 : Int32) = 0 by decide), PH_endsCorner, P2.1, letV_p, r2, if_pos gB', g13', if_pos y20']
            have yl := y20.2
            generalize hyy : tkV b L 900 (tkN b L 900 p) = y at yl r2 g13' y20'
            -- the corner goes in
            have go : (0 < j → ¬ (X (j - 1) = v ∧ Y (j - 1) = y)) → OK2 (bV (PH_endsCorner_J30 m2 (q + 2 + 3 * n) (nI v)) fun v10 m11 => if v10 = 0 then (some (0, m11)) else (PH_tellLine_L49 q (q + 2 + 3 * n) (fun m7 => some (0, m7)) f m11 (nI j + 1))) (RM_readLine_J180 (RM_readLine_L45 (nI n) (nI (14 + 24 * n)) (lnK (nI n) (nI (14 + 24 * n))) g) (lnK (nI n) (nI (14 + 24 * n))) n1 (nI n) (nI j) (nI (14 + 24 * n)) (nI v)) q b L p0 N := fun hd => by
              let mA3 := sI (sI (sI m2 (q + 2 + 3 * n + 1) j (nI v)) (q + 2 + 3 * n + 2) j (nI y)) (q + 2 + 3 * n) 1 (nI (j + 1))
              let mB3 := sI (sI n1 136 (14 + 24 * n + 2 * j) (nI v)) 136 (14 + 24 * n + 2 * j + 1) (nI y)
              have hA3 : mA3 = sI (sI (sI m2 (q + 2 + 3 * n + 1) j (nI v)) (q + 2 + 3 * n + 2) j (nI y)) (q + 2 + 3 * n) 1 (nI (j + 1)) := rfl
              have hB3 : mB3 = sI (sI n1 136 (14 + 24 * n + 2 * j) (nI v)) 136 (14 + 24 * n + 2 * j + 1) (nI y) := rfl
              have gA : ∀ c i, ¬ (q + 2 + 3 * n ≤ c ∧ c ≤ q + 2 + 3 * n + 2) → gI mA3 c i = gI m2 c i := fun c i z => by rw [hA3, gI_sI, if_neg (by omega), gI_sI, if_neg (by omega), gI_sI, if_neg (by omega)]
              have gB : ∀ c i, ¬ (c = 136 ∧ (i = 14 + 24 * n + 2 * j ∨ i = 14 + 24 * n + 2 * j + 1)) → gI mB3 c i = gI n1 c i := fun c i z => by rw [hB3, gI_sI, if_neg (by omega), gI_sI, if_neg (by omega)]
              have d0 : gI n1 136 0 = nI n := by rw [F2.I 136 0 rfl, c0]
              have d1 : gI n1 136 1 = nI nh := by rw [F2.I 136 1 rfl, c1]
              obtain ⟨PP3, W3⟩ := partP (mA' := mA3) (mB' := mB3) PP' W' d0 d1 (by omega) l10 (gB _ _ (by omega)) (fun i => gA _ _ (by omega)) (fun i => gA _ _ (by omega)) (fun i hi => gB _ _ (by omega)) (fun k hk d i hd => ⟨gA _ _ (by omega), rfl⟩) (fun t ht => ⟨fun d hd => gA _ _ (by omega), rfl⟩) (fun k hk => ⟨gB _ _ (by omega), fun i h1 h2 => gB _ _ (by omega), rfl⟩) (fun t ht => ⟨fun d hd => gB _ _ (by omega), rfl⟩)
              have S4 := S3.up (mA' := mA3) (mB' := mB3) hq (fun c i hc => ⟨gA _ _ (by omega), rfl⟩) (fun c i h1 h2 => ⟨gB _ _ (by omega), rfl⟩) (fun i _ => rfl) PP3 W3
              obtain ⟨n5, e5, S5, l5, F5⟩ := S4.nextT hq (Or.inr (Or.inl y20.1))
              have eA : PH_endsCorner_J30 m2 (q + 2 + 3 * n) (nI v) = some (1, mA3) := by
                have g1 : gI m2 (q + 2 + 3 * n) 1 = nI j := P2.1
                have g2 : gI (sI m2 (q + 2 + 3 * n + 1) j (nI v)) (q + 2 + 3 * n) 1 = nI j := by rw [gI_sI, if_neg (by omega), g1]
                have g3 : gI (sI (sI m2 (q + 2 + 3 * n + 1) j (nI v)) (q + 2 + 3 * n + 2) j (nI y)) (q + 2 + 3 * n) 1 = nI j := by rw [gI_sI, if_neg (by omega), g2]
                rw [PH_endsCorner_J30, r2, LN_add, g1, if_pos (by rw [k12, n_lt (by omega) (by omega)]; omega), if_pos (n_in (by omega) (by omega)), n_ixn (by omega), letM_p, g2, if_pos (n_in (by omega) (by omega)), n_ixn (by omega), letM_p, g3, show nI j + 1 = nI (j + 1) by rw [k1, n_add], letM_p, bV_s, if_pos (Or.inr rfl)]
              have eB : RM_readLine_J180 (RM_readLine_L45 (nI n) (nI (14 + 24 * n)) (lnK (nI n) (nI (14 + 24 * n))) g) (lnK (nI n) (nI (14 + 24 * n))) n1 (nI n) (nI j) (nI (14 + 24 * n)) (nI v) = RM_readLine_L45 (nI n) (nI (14 + 24 * n)) (lnK (nI n) (nI (14 + 24 * n))) g n5 (nI (j + 1)) := by
                have g13 : gI (sI n1 136 (14 + 24 * n + 2 * j) (nI v)) 133 13 = nI y := by rw [gI_sI, if_neg (by omega), g13']
                rw [RM_readLine_J180, lnIx l3 (by omega), if_pos (n_in (by omega) (by omega)), n_ixn (by omega), letM_p, show nI (14 + 24 * n + 2 * j) + 1 = nI (14 + 24 * n + 2 * j + 1) by rw [k1, n_add], if_pos (n_in (by omega) (by omega)), n_ixn (by omega), g13, letM_p, ← hB3, e5, bM_s, show nI j + 1 = nI (j + 1) by rw [k1, n_add]]
              rw [eA, bV_s, if_neg (show ¬ (1 : Int32) = 0 by decide), eB, show nI j + 1 = nI (j + 1) by rw [k1, n_add]]
              refine ih (j + 1) f g _ mA3 n5 (upD X j v) (upD Y j y) (by omega) (by omega) (by omega) (by omega) S5 (by rw [F5.I 136 0 rfl, gB _ _ (by omega), d0]) (by rw [F5.I 136 1 rfl, gB _ _ (by omega), d1]) ?_
              obtain ⟨s1, s2, s3, s4⟩ := P2
              refine ⟨by rw [hA3, gI_sI, if_pos ⟨rfl, rfl⟩], by rw [F5.J 137 (13 + n) rfl]; exact s2, fun i hi => ?_, fun i hi => ?_⟩
              · rw [F5.I 136 _ rfl, F5.I 136 _ rfl]
                unfold upD
                by_cases w : i = j
                · rw [if_pos w, if_pos w, w]
                  exact ⟨by rw [hA3, gI_sI, if_neg (by omega), gI_sI, if_neg (by omega), gI_sI, if_pos ⟨rfl, rfl⟩], by rw [hA3, gI_sI, if_neg (by omega), gI_sI, if_pos ⟨rfl, rfl⟩], by rw [hB3, gI_sI, if_neg (by omega), gI_sI, if_pos ⟨rfl, rfl⟩], by rw [hB3, gI_sI, if_pos ⟨rfl, rfl⟩], v20, yl⟩
                · rw [if_neg w, if_neg w]
                  obtain ⟨x1, x2, x3, x4, x5⟩ := s3 i (by omega)
                  exact ⟨by rw [hA3, gI_sI, if_neg (by omega), gI_sI, if_neg (by omega), gI_sI, if_neg (by omega), x1], by rw [hA3, gI_sI, if_neg (by omega), gI_sI, if_neg (by omega), gI_sI, if_neg (by omega), x2], by rw [gB _ _ (by omega), x3], by rw [gB _ _ (by omega), x4], x5⟩
              · unfold upD
                by_cases w : i + 1 = j
                · rw [if_neg (by omega), if_pos w, if_neg (by omega), if_pos w]
                  have := hd (by omega)
                  rw [show j - 1 = i by omega] at this
                  exact this
                · rw [if_neg (by omega), if_neg w, if_neg (by omega), if_neg w]
                  exact s4 i (by omega)
            by_cases j0 : j = 0
            · have jz : nI j ≤ 0 := by rw [k0, n_le (by omega) (by omega)]; omega
              rw [if_pos jz, if_pos jz]
              exact go (fun t => by omega)
            · have jz : ¬ nI j ≤ 0 := by rw [k0, n_le (by omega) (by omega)]; omega
              obtain ⟨x1, x2, x3, x4, x5, x6⟩ := P2.2.2.1 (j - 1) (by omega)
              have cA := isAt2 (c := q + 2 + 3 * n) (v := v) (w := y) (show j - 1 < 12 by omega) x1 x2 x5 x6 v20 yl
              have e1' : nI j - 1 = nI (j - 1) := by rw [k1, n_sub (by omega)]
              have e2' : nI (14 + 24 * n) + 2 * nI j - 2 = nI (14 + 24 * n + 2 * (j - 1)) := by rw [lnIx l3 (by omega), k2, n_sub (by omega)]; congr 1; omega
              have e3' : nI (14 + 24 * n) + 2 * nI j - 1 = nI (14 + 24 * n + 2 * (j - 1) + 1) := by rw [lnIx l3 (by omega), k1, n_sub (by omega)]; congr 1; omega
              rw [if_neg jz, if_neg jz, e1', cA, bI_s, e2', if_pos (n_in (by omega) (by omega)), n_ixn (by omega), x3, e3', if_pos (n_in (by omega) (by omega)), n_ixn (by omega), x4]
              by_cases w : X (j - 1) = v ∧ Y (j - 1) = y
              · obtain ⟨mA', mB', f1, f2, B⟩ := fail2 KA' KB' hN' 3 (by omega)
                rw [if_pos w, if_neg (show ¬ (1 : Int32) = 0 by decide), show RD_fail m2 3 = _ from f1, bV_s, if_pos (Or.inl rfl), bV_s, if_pos rfl, if_pos (by rw [w.1]), if_pos (by rw [w.2]), show RM_bad n1 3 = _ from f2, bV_s, if_pos (Or.inl rfl)]
                exact OK2.bad B
              · rw [if_neg w, if_pos rfl]
                have := go (fun _ => w)
                by_cases u : X (j - 1) = v
                · rw [if_pos (show nI (X (j - 1)) = nI v by rw [u]), if_neg (by rw [n_eq (by omega) (by omega)]; exact fun t => w ⟨u, t⟩)]
                  exact this
                · rw [if_neg (show ¬ nI (X (j - 1)) = nI v by rw [n_eq (by omega) (by omega)]; exact u)]
                  exact this
          · obtain ⟨mA', mB', r1, r2, B⟩ := a2 y20
            rw [show RD_readNumber m1 0 20 = _ from r1, bV_s, if_pos rfl]
            by_cases y2 : tkK b L 900 (tkN b L 900 p) = 2
            · have hv' := (tkV_eq y2).2
              have gB' : gI n1 133 10 = 2 := by rw [KB'.1, if_neg (by omega), y2]; rfl
              rw [if_pos y2] at r2
              rw [if_pos gB', KB'.2.2.2.2.1 y2, if_neg (by rw [k20, n_le (by omega) (by omega)]; exact fun t => y20 ⟨y2, t⟩), r2, bV_s, if_pos (Or.inl rfl)]
              exact OK2.bad B
            · have gB' : ¬ gI n1 133 10 = 2 := by
                rw [KB'.1]
                split <;> rw [k2, n_eq (by omega) (by omega)] <;> omega
              rw [if_neg y2] at r2
              rw [if_neg gB', r2, bV_s, if_pos (Or.inl rfl)]
              exact OK2.bad B
        · have v20' : ¬ nI (tkV b L 900 p) ≤ 20 := by rw [k20, n_le (by omega) (by omega)]; exact v20
          obtain ⟨mA', mB', f1, f2, B⟩ := fail2 KA KB hN 2 (by omega)
          rw [if_neg v20', show RD_fail m1 2 = _ from f1, bV_s, if_pos (Or.inl rfl), bV_s, if_pos rfl, if_neg v20', show RM_bad mB 2 = _ from f2, bV_s, if_pos (Or.inl rfl)]
          exact OK2.bad B
      · have gB : ¬ gI mB 133 10 = 2 := by
          rw [KB.1]
          split <;> rw [k2, n_eq (by omega) (by omega)] <;> omega
        obtain ⟨mA', mB', f1, f2, B⟩ := fail2 KA KB hN 1 (by omega)
        rw [if_neg (by rw [k2, n_eq (by omega) (by omega)]; exact z2), show RD_fail m1 1 = _ from f1, bV_s, if_pos (Or.inl rfl), bV_s, if_pos rfl, if_neg gB, show RM_bad mB 1 = _ from f2, bV_s, if_pos (Or.inl rfl)]
        exact OK2.bad B

/-! parish: names, hay -/
theorem Sub.cons {A B : List (Nat × Nat)} {q : Nat × Nat} (h : Sub A B) : Sub A (q :: B) := fun c k hc => by
  have := h c k hc
  unfold wL at this ⊢
  rw [List.any_cons, this, Bool.or_true]
theorem Sub.hd {B : List (Nat × Nat)} {q : Nat × Nat} : Sub [q] (q :: B) := fun c k hc => by
  unfold wL at hc ⊢
  rw [List.any_cons, List.any_nil, Bool.or_false] at hc
  rw [List.any_cons, hc, Bool.true_or]
theorem find_any {m : Mem} {off H : Nat} {W : Int64} {g : Nat → Int64} (hH : off + H ≤ 26) (hW : gJ m 133 16 = W) (hg : ∀ t, t < H → gJ m 137 (off + t) = g t) : ∀ (d j fu : Nat), j + d = H → d < fu → RM_find_L2 m (nI off) (nI H) (some (-1)) fu (nI j) = some (enc (fst1 g W d j))
  | 0, j, fu, hd, hf => by
    obtain ⟨f, rfl⟩ : ∃ f, fu = f + 1 := ⟨fu - 1, by omega⟩
    rw [RM_find_L2, if_pos (by rw [n_le (by omega) (by omega)]; omega)]; rfl
  | d + 1, j, fu, hd, hf => by
    obtain ⟨f, rfl⟩ : ∃ f, fu = f + 1 := ⟨fu - 1, by omega⟩
    rw [RM_find_L2, if_neg (by rw [n_le (by omega) (by omega)]; omega), n_add, if_pos (n_in (by omega) (by omega)), n_ixn (by omega), hg j (by omega), hW, show nI j + 1 = nI (j + 1) by rw [k1, n_add]]
    unfold fst1
    by_cases q : g j = W
    · rw [if_pos ((cmp0 _ _).mpr q), if_pos q]; rfl
    · rw [if_neg (fun y => q ((cmp0 _ _).mp y)), if_neg q]
      exact find_any hH hW hg d (j + 1) f (by omega) (by omega)
theorem named_any {m : Mem} {q H : Nat} {W : Int64} {g : Nat → Int64} (hH : H ≤ 3) (h6 : gI m q 6 = nI H) (hg : ∀ t, t < H → gJ m (q + 2 + 3 * t) 0 = g t) : ∀ (d j fu : Nat), j + d = H → d < fu → PH_isLineNamed_L2 m q W (some 0) fu (nI j) = some (if (fst1 g W d j).isSome then 1 else 0)
  | 0, j, fu, hd, hf => by
    obtain ⟨f, rfl⟩ : ∃ f, fu = f + 1 := ⟨fu - 1, by omega⟩
    rw [PH_isLineNamed_L2, h6, if_pos (by rw [n_le (by omega) (by omega)]; omega)]; rfl
  | d + 1, j, fu, hd, hf => by
    obtain ⟨f, rfl⟩ : ∃ f, fu = f + 1 := ⟨fu - 1, by omega⟩
    rw [PH_isLineNamed_L2, h6, if_neg (by rw [n_le (by omega) (by omega)]; omega), if_pos (n_in (by omega) (by omega)), n_ixn (by omega), hg j (by omega), show nI j + 1 = nI (j + 1) by rw [k1, n_add]]
    unfold fst1
    by_cases z : g j = W
    · rw [if_pos ((cmp0 _ _).mpr z), if_pos z]; rfl
    · rw [if_neg (fun y => z ((cmp0 _ _).mp y)), if_neg z]
      exact named_any hH h6 hg d (j + 1) f (by omega) (by omega)
theorem enc_neg (o : Option Nat) (h : ∀ t, o = some t → t < 100) : (enc o < 0 ↔ o = none) ∧ (0 ≤ enc o ↔ ¬ o = none) ∧ (enc o = -1 ↔ o = none) := by
  cases o with
  | none => exact ⟨⟨fun _ => rfl, fun _ => by decide⟩, ⟨fun z => absurd z (by decide), fun z => absurd rfl z⟩, ⟨fun _ => rfl, fun _ => rfl⟩⟩
  | some t =>
    have := h t rfl
    have c0 : (0 : Int32) ≤ nI t := by rw [k0, n_le (by omega) (by omega)]; omega
    refine ⟨⟨fun z => absurd z ?_, fun z => (by cases z)⟩, ⟨fun _ z => (by cases z), fun _ => c0⟩, ⟨fun z => absurd z ?_, fun z => (by cases z)⟩⟩
    · show ¬ nI t < 0
      rw [k0, n_lt (by omega) (by omega)]; omega
    · show ¬ nI t = -1
      rw [show (-1 : Int32) = iz (-1) from rfl, nI_iz, iz_eq ⟨by omega, by omega⟩ ⟨by omega, by omega⟩]; omega
/-- a name not told before -/
theorem name2 {mA mB : Mem} {q nl nh x : Nat} {b : Nat → Nat} {L p : Nat} {N : Nat → Int64} (hq : 11 ≤ q) (S : ST mA mB q b L p N) (c0 : gI mB 136 0 = nI nl) (c1 : gI mB 136 1 = nI nh) (l3 : nl ≤ 3) (l10 : nh ≤ 10) (hx : 13 + nl ≤ x ∧ x < 16 ∨ 16 + nh ≤ x ∧ x < 26) :
    (∃ mA' mB' p', PH_tellName mA q = some (1, mA') ∧ RM_fresh mB (nI x) = some (1, mB') ∧ gJ mA' 1 8 = gJ mB' 137 x ∧ ST mA' mB' q b L p' N ∧ p < p' ∧ Frm Ltk [] mA mA' ∧ Frm ((137, x) :: Lrb) [] mB mB') ∨
    (∃ mA' mB', PH_tellName mA q = some (0, mA') ∧ RM_fresh mB (nI x) = some (0, mB') ∧ Bd2 mA' mB' N) := by
  obtain ⟨m1, e1, S1, F1⟩ := adv2 hq S
  have hS := S1
  obtain ⟨T1, T2, KA, KB, hp, h12, h14, P, W, hR, hN⟩ := hS
  have P' := P
  obtain ⟨p0, p1, p2, p3, p4, p5, p6, p7, p8, p9, p10, p11⟩ := P'
  have n0 : ixn (gI mB 136 0) = nl := by rw [c0, n_ixn (by omega)]
  have n1 : ixn (gI mB 136 1) = nh := by rw [c1, n_ixn (by omega)]
  have iw : RD_isWord m1 17 17 = if tkK b L 900 p = 1 ∧ 17 ≤ wno (tkW b L 900 p) ∧ wno (tkW b L 900 p) ≤ 17 then 1 else 0 := isWordA (lo := 17) (hi := 17) KA (by omega) (by omega)
  have ib := isNameB KB hR
  have wl := wno_le (tkW b L 900 p)
  by_cases z : tkK b L 900 p = 1 ∧ wno (tkW b L 900 p) = 17
  · rw [if_pos ⟨z.1, by omega, by omega⟩] at iw
    rw [if_pos z] at ib
    have kA := (KA.2.2.2.1 z.1).2
    have kB := KB.2.2.2.1 z.1
    have a1 := named_any (W := tkW b L 900 p) (g := fun t => gJ m1 (q + 2 + 3 * t) 0) l3 (by rw [p0, c0]) (fun t _ => rfl) nl 0 FU (by omega) (by unfold FU; omega)
    have a2 := hayNamed_eq (W := tkW b L 900 p) (g := fun t => gJ m1 (q + 14) t) l10 (by rw [p1, c1]) (fun t _ => rfl)
    have b1 := find_any (off := 13) (H := nl) (g := fun t => gJ m1 (q + 2 + 3 * t) 0) (by omega) kB (fun t ht => (p8 t (by omega)).2.1.symm) nl 0 FU (by omega) (by unfold FU; omega)
    have b2 := find_any (off := 16) (H := nh) (g := fun t => gJ m1 (q + 14) t) (by omega) kB (fun t ht => (p9 t (by omega)).2.2.2.symm) nh 0 FU (by omega) (by unfold FU; omega)
    generalize ho1 : fst1 (fun t => gJ m1 (q + 2 + 3 * t) 0) (tkW b L 900 p) nl 0 = o1 at a1 b1
    generalize ho2 : fst1 (fun t => gJ m1 (q + 14) t) (tkW b L 900 p) nh 0 = o2 at a2 b2
    obtain ⟨u1, u2, u3⟩ := enc_neg o1 (fun t ht => by rw [ht] at ho1; have := fst1_lt _ _ _ ho1; omega)
    obtain ⟨v1, v2, v3⟩ := enc_neg o2 (fun t ht => by rw [ht] at ho2; have := fst1_lt _ _ _ ho2; omega)
    have a1' : PH_isLineNamed m1 q (tkW b L 900 p) = some (if o1.isSome then 1 else 0) := a1
    have b1' : RM_find mB 13 (nI nl) = some (enc o1) := b1
    have b2' : RM_find mB 16 (nI nh) = some (enc o2) := b2
    obtain ⟨mA', mB', f1, f2, B⟩ := fail2 KA KB hN 3 (by omega)
    have eA : PH_tellName mA q = if o1 = none ∧ o2 = none then some (1, m1) else some (0, mA') := by
      have J : PH_tellName_J44 m1 = some (0, mA') := by rw [PH_tellName_J44, show RD_fail m1 3 = _ from f1, bV_s, if_pos rfl]
      rw [PH_tellName, e1, bM_s, iw, if_neg (by decide), kA, a1', bI_s, a2, bI_s, J]
      cases o1 with
      | some t => rw [if_neg (by simp), if_neg (fun w => by cases w.1)]
      | none =>
        rw [if_pos (by simp)]
        by_cases w : o2 = none
        · rw [if_pos (v3.mpr w), if_pos ⟨rfl, w⟩]
        · rw [if_neg (fun y => w (v3.mp y)), if_neg (fun y => w y.2)]
    have eB : RM_fresh mB (nI x) = if o1 = none ∧ o2 = none then (bM (RM_next (sJ mB 137 x (tkW b L 900 p))) fun m11 => some (1, m11)) else some (0, mB') := by
      have J : RM_fresh_J43 mB = some (0, mB') := by rw [RM_fresh_J43, show RM_bad mB 3 = _ from f2, bV_s, if_pos (Or.inl rfl)]
      rw [RM_fresh, ib, bI_s, if_neg (by decide), if_pos (show inb 0 116 by decide), show ixn 0 = 0 from rfl, c0, b1', bI_s, if_pos (show inb 1 116 by decide), show ixn 1 = 1 from rfl, c1, b2', bI_s, J, if_pos (n_in (by omega) (by omega)), n_ixn (by omega), kB, letM_p]
      by_cases y : o1 = none
      · rw [if_neg (fun w => u2.mp w y)]
        by_cases w : o2 = none
        · rw [if_pos (v1.mpr w), if_pos ⟨y, w⟩]
        · rw [if_neg (fun t => w (v1.mp t)), if_neg (fun t => w t.2)]
      · rw [if_pos (u2.mpr y), if_neg (fun t => y t.1)]
    by_cases hh : o1 = none ∧ o2 = none
    · rw [if_pos hh] at eA eB
      left
      -- the name is stored
      have gJB : ∀ j, j ≠ x → gJ (sJ mB 137 x (tkW b L 900 p)) 137 j = gJ mB 137 j := fun j hj => by rw [gJ_sJ, if_neg (fun t => hj t.2)]
      have P1 : PR2 m1 (sJ mB 137 x (tkW b L 900 p)) q := by
        refine ⟨p0, p1, p2, p3, p4, p5, p6, p7, fun k hk => ?_, fun t ht => ?_, p10, p11⟩
        · rw [gI_sJ, n0] at hk
          have w := (W.2.2.2.2.2.2.2.1 k (by rw [n0]; exact hk)).2.1.le
          rw [show 0 + 11 + k = 11 + k by omega] at w
          exact (p8 k (by rw [n0]; exact hk)).cg w (fun d j _ => ⟨rfl, rfl⟩) rfl (fun j _ _ => rfl) (gJB _ (by omega))
        · rw [gI_sJ, n1] at ht
          exact (p9 t (by rw [n1]; exact ht)).cg (fun d _ => rfl) rfl (fun d _ => rfl) (gJB _ (by omega))
      have F2 : Frm [(137, x)] [] mB (sJ mB 137 x (tkW b L 900 p)) := Frm.sJ rfl (by unfold wL; simp)
      have SW1 : SW m1 (sJ mB 137 x (tkW b L 900 p)) q b L p N := by
        refine ⟨T1, ⟨T2.1, T2.2.1, T2.2.2.1, T2.2.2.2.1, T2.2.2.2.2⟩, KA, ?_, hp, h12, h14, P1, W.fr2 (fun j => rfl), fun k hk => ?_, fun j hj => ?_⟩
        · unfold CKB at KB ⊢
          have g16 : gJ (sJ mB 137 x (tkW b L 900 p)) 133 16 = gJ mB 133 16 := by rw [gJ_sJ, if_neg (by omega)]
          rw [g16]
          exact KB
        · rw [gJ_sJ, if_neg (by omega)]; exact hR k hk
        · rw [gJB _ (by omega)]; exact hN j hj
      obtain ⟨n2, e2, S2, l2, F3⟩ := SW1.next hq z.1
      refine ⟨m1, n2, _, eA, by rw [eB, e2, bM_s], ?_, S2, l2, F1, ?_⟩
      · rw [kA, F3.J 137 x (by unfold wL; simp), gJ_sJ, if_pos ⟨rfl, rfl⟩]
      · exact (F2.mo Sub.hd).tr (F3.mo (Sub.cons (wL_sub rfl)))
    · rw [if_neg hh] at eA eB
      exact Or.inr ⟨mA', mB', eA, eB, B⟩
  · rw [if_neg (fun y => z ⟨y.1, by omega⟩)] at iw
    rw [if_neg z] at ib
    obtain ⟨mA', mB', f1, f2, B⟩ := fail2 KA KB hN 1 (by omega)
    right
    refine ⟨mA', mB', ?_, ?_, B⟩
    · rw [PH_tellName, e1, bM_s, iw, if_pos rfl, show RD_fail m1 1 = _ from f1, bV_s, if_pos (Or.inl rfl)]
    · rw [RM_fresh, ib, bI_s, if_pos rfl, show RM_bad mB 1 = _ from f2, bV_s, if_pos (Or.inl rfl)]

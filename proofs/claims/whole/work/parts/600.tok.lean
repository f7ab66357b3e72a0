/-! tokens of a text, as both sides read them -/
abbrev isBl (c : Nat) : Prop := c = 32 ∨ c = 10
abbrev isSm (c : Nat) : Prop := 97 ≤ c ∧ c ≤ 122
abbrev isDg (c : Nat) : Prop := 48 ≤ c ∧ c ≤ 57
/-- past the blanks -/
def skp (b : Nat → Nat) (E : Nat) : Nat → Nat → Nat
  | 0, p => p
  | n + 1, p => if p < E ∧ isBl (b p) then skp b E n (p + 1) else p
theorem skp_ge (b : Nat → Nat) (E : Nat) : ∀ n p, p ≤ skp b E n p
  | 0, p => Nat.le_refl _
  | n + 1, p => by
    unfold skp
    split
    · have := skp_ge b E n (p + 1); omega
    · exact Nat.le_refl _
theorem skp_le (b : Nat → Nat) (E : Nat) : ∀ n p, p ≤ E → skp b E n p ≤ E
  | 0, p, h => h
  | n + 1, p, h => by
    unfold skp
    split
    · rename_i z; exact skp_le b E n (p + 1) (by omega)
    · exact h
/-- the end of a run -/
def rnE (b : Nat → Nat) (L : Nat) : Nat → Nat → Nat
  | 0, p => p
  | n + 1, p => if p < L ∧ (isSm (b p) ∨ isDg (b p)) then rnE b L n (p + 1) else p
theorem rnE_ge (b : Nat → Nat) (L : Nat) : ∀ n p, p ≤ rnE b L n p
  | 0, p => Nat.le_refl _
  | n + 1, p => by
    unfold rnE
    split
    · have := rnE_ge b L n (p + 1); omega
    · exact Nat.le_refl _
theorem rnE_le (b : Nat → Nat) (L : Nat) : ∀ n p, p ≤ L → rnE b L n p ≤ L
  | 0, p, h => h
  | n + 1, p, h => by
    unfold rnE
    split
    · rename_i z; exact rnE_le b L n (p + 1) (by omega)
    · exact h
def wrd (b : Nat → Nat) (q : Nat) : Nat → Int64
  | 0 => 0
  | n + 1 => (jlshl (wrd b q n) 8) ||| (Int32.toInt64 (nI (b (q + n))))
def nmv (b : Nat → Nat) (q : Nat) : Nat → Int32
  | 0 => 0
  | n + 1 => (nmv b q n) * 10 + nI (b (q + n)) - 48
def allF (f : Nat → Bool) (q : Nat) : Nat → Bool
  | 0 => true
  | n + 1 => allF f q n && f (q + n)
abbrev smB (b : Nat → Nat) (i : Nat) : Bool := decide (isSm (b i))
abbrev dgB (b : Nat → Nat) (i : Nat) : Bool := decide (isDg (b i))
/-- what a run of n signs from q on is -/
def knd (b : Nat → Nat) (q n : Nat) : Nat := if 1 ≤ n ∧ n ≤ 7 ∧ allF (smB b) q n = true then 1 else if 1 ≤ n ∧ n ≤ 2 ∧ allF (dgB b) q n = true then 2 else 4
/-- the text: its bytes, its length, the most that may be read -/
def TA (m : Mem) (b : Nat → Nat) (L M : Nat) : Prop := L ≤ 940 ∧ M ≤ 940 ∧ gI m 1 1 = nI L ∧ gI m 1 9 = nI M ∧ ∀ i, i < L → b i < 256 ∧ gI m 2 i = nI (b i)
abbrev Ltk : List (Nat × Nat) := [(1, 4), (1, 5), (1, 6), (1, 7), (1, 8), (1, 10)]
/-- the token at q, as the class holds it -/
def KA (m : Mem) (b : Nat → Nat) (L M p : Nat) : Prop :=
  (skp b (min L M) (min L M - p) p ≥ min L M ∧ gI m 1 4 = 0 ∧ gI m 1 5 = nI (min L M)) ∨
  (∃ q, q = skp b (min L M) (min L M - p) p ∧ q < min L M ∧ gI m 1 5 = nI q ∧
    ((b q = 59 ∧ gI m 1 4 = 3 ∧ gI m 1 10 = nI (q + 1)) ∨ (b q ≠ 59 ∧ ∃ n, n = rnE b L (L - q) q - q ∧ gI m 1 4 = nI (knd b q n) ∧ gI m 1 10 = nI (q + n) ∧ (knd b q n = 1 → gJ m 1 8 = wrd b q n ∧ gI m 1 6 = RD_wordOf (wrd b q n)) ∧ (knd b q n = 2 → gI m 1 7 = nmv b q n))))
theorem ad_skip {b : Nat → Nat} {L M : Nat} {kx : Mem → Option Mem} : ∀ (n p fu : Nat) (m : Mem), p + n = min L M → n < fu → TA m b L M → gI m 1 10 = nI p → ∃ m', RD_advance_L12 (nI (min L M)) kx fu m = kx m' ∧ gI m' 1 10 = nI (skp b (min L M) n p) ∧ Frm Ltk [] m m'
  | 0, p, fu, m, hn, hf, T, h10 => by
    obtain ⟨f, rfl⟩ : ∃ f, fu = f + 1 := ⟨fu - 1, by omega⟩
    have l1 := T.1
    refine ⟨m, by rw [RD_advance_L12, h10, if_pos (by rw [n_le (by omega) (by omega)]; omega)], h10, Frm.rf⟩
  | n + 1, p, fu, m, hn, hf, T, h10 => by
    obtain ⟨f, rfl⟩ : ∃ f, fu = f + 1 := ⟨fu - 1, by omega⟩
    have l1 := T.1
    obtain ⟨b1, b2⟩ := T.2.2.2.2 p (by omega)
    have F1 : Frm Ltk [] m (sI m 1 10 (nI (p + 1))) := Frm.sI rfl rfl
    have J : ∀ k, RD_advance_J48 (RD_advance_L12 (nI (min L M)) kx f) k m (nI (min L M)) = RD_advance_L12 (nI (min L M)) kx f (sI m 1 10 (nI (p + 1))) := fun k => by rw [RD_advance_J48, h10, k1, n_add, letM_o]
    have e0 : RD_advance_L12 (nI (min L M)) kx (f + 1) m = if isBl (b p) then RD_advance_L12 (nI (min L M)) kx f (sI m 1 10 (nI (p + 1))) else kx m := by
      rw [RD_advance_L12, h10, if_neg (by rw [n_le (by omega) (by omega)]; omega), if_pos (n_in (by omega) (by omega)), n_ixn (by omega), b2, J]
      by_cases q : b p = 32
      · rw [if_pos (by rw [q]; rfl), if_pos (Or.inl q)]
      · rw [if_neg (by rw [show (32 : Int32) = nI 32 from rfl, n_eq (by omega) (by omega)]; exact q)]
        by_cases w : b p = 10
        · rw [if_pos (by rw [w]; rfl), if_pos (Or.inr w)]
        · rw [if_neg (by rw [show (10 : Int32) = nI 10 from rfl, n_eq (by omega) (by omega)]; exact w), if_neg (fun z => z.elim q w)]
    unfold skp
    by_cases q : isBl (b p)
    · rw [if_pos ⟨by omega, q⟩]
      obtain ⟨m', e, a, F⟩ := ad_skip (kx := kx) n (p + 1) f _ (by omega) (by omega) ⟨T.1, T.2.1, by rw [F1.I 1 1 rfl]; exact T.2.2.1, by rw [F1.I 1 9 rfl]; exact T.2.2.2.1, fun i hi => by rw [F1.I 2 i rfl]; exact T.2.2.2.2 i hi⟩ (by rw [gI_sI, if_pos ⟨rfl, rfl⟩])
      exact ⟨m', by rw [e0, if_pos q, e], a, F1.tr F⟩
    · rw [if_neg (fun z => q z.2)]
      exact ⟨m, by rw [e0, if_neg q], h10, Frm.rf⟩
theorem allF_s {f : Nat → Bool} {q : Nat} (n : Nat) : allF f q (n + 1) = (allF f q n && f (q + n)) := rfl
/-- the class's run: x small ones, y digits -/
theorem rr_loop {b : Nat → Nat} {L M q : Nat} {kx : Mem → Int32 → Int32 → Option Mem} : ∀ (n i fu x y : Nat) (m : Mem), q + i + n = L → n < fu → x + y = i → TA m b L M → gI m 1 10 = nI (q + i) → ((y = 0) ↔ allF (smB b) q i = true) → ((x = 0) ↔ allF (dgB b) q i = true) → (y = 0 → gJ m 1 8 = wrd b q i) → (x = 0 → gI m 1 7 = nmv b q i) →
    ∃ m' x' y' k, RD_readRun_L14 kx fu m (nI x) (nI y) = kx m' (nI x') (nI y') ∧ q + k = rnE b L n (q + i) ∧ x' + y' = k ∧ ((y' = 0) ↔ allF (smB b) q k = true) ∧ ((x' = 0) ↔ allF (dgB b) q k = true) ∧ (y' = 0 → gJ m' 1 8 = wrd b q k) ∧ (x' = 0 → gI m' 1 7 = nmv b q k) ∧ gI m' 1 10 = nI (q + k) ∧ Frm [(1, 7), (1, 8), (1, 10)] [] m m'
  | 0, i, fu, x, y, m, hn, hf, hxy, T, h10, hs, hd, hw, hv => by
    obtain ⟨f, rfl⟩ : ∃ f, fu = f + 1 := ⟨fu - 1, by omega⟩
    have l1 := T.1
    exact ⟨m, x, y, i, by rw [RD_readRun_L14, T.2.2.1, h10, if_pos (by rw [n_le (by omega) (by omega)]; omega)], rfl, hxy, hs, hd, hw, hv, h10, Frm.rf⟩
  | n + 1, i, fu, x, y, m, hn, hf, hxy, T, h10, hs, hd, hw, hv => by
    obtain ⟨f, rfl⟩ : ∃ f, fu = f + 1 := ⟨fu - 1, by omega⟩
    have l1 := T.1
    obtain ⟨b1, b2⟩ := T.2.2.2.2 (q + i) (by omega)
    have cs : (nI (b (q + i)) < 97 ∨ 122 < nI (b (q + i))) ↔ ¬ isSm (b (q + i)) := by
      rw [show (97 : Int32) = nI 97 from rfl, show (122 : Int32) = nI 122 from rfl, n_lt (by omega) (by omega), n_lt (by omega) (by omega)]; omega
    have cd : (nI (b (q + i)) < 48 ∨ 57 < nI (b (q + i))) ↔ ¬ isDg (b (q + i)) := by
      rw [show (48 : Int32) = nI 48 from rfl, show (57 : Int32) = nI 57 from rfl, n_lt (by omega) (by omega), n_lt (by omega) (by omega)]; omega
    have J98 : ∀ m1 x y, gI m1 1 10 = nI (q + i) → ∀ k, RD_readRun_J98 (RD_readRun_L14 kx f) k m1 x y = RD_readRun_L14 kx f (sI m1 1 10 (nI (q + (i + 1)))) x y := fun m1 x y h k => by rw [RD_readRun_J98, h, k1, n_add, letM_o, Nat.add_assoc]
    have e0 : RD_readRun_L14 kx (f + 1) m (nI x) (nI y) = if isSm (b (q + i)) then RD_readRun_L14 kx f (sI (sJ m 1 8 ((jlshl (gJ m 1 8) 8) ||| (Int32.toInt64 (nI (b (q + i)))))) 1 10 (nI (q + (i + 1)))) (nI (x + 1)) (nI y) else if isDg (b (q + i)) then RD_readRun_L14 kx f (sI (sI m 1 7 ((gI m 1 7) * 10 + nI (b (q + i)) - 48)) 1 10 (nI (q + (i + 1)))) (nI x) (nI (y + 1)) else kx m (nI x) (nI y) := by
      have J67 : RD_readRun_J67 (RD_readRun_L14 kx f) kx m (nI x) (nI y) (nI (b (q + i))) = if isDg (b (q + i)) then RD_readRun_L14 kx f (sI (sI m 1 7 ((gI m 1 7) * 10 + nI (b (q + i)) - 48)) 1 10 (nI (q + (i + 1)))) (nI x) (nI (y + 1)) else kx m (nI x) (nI y) := by
        rw [RD_readRun_J67]
        by_cases z : isDg (b (q + i))
        · rw [if_neg (fun w => cd.mp (Or.inl w) z), if_neg (fun w => cd.mp (Or.inr w) z), letM_o, J98 _ _ _ (by rw [gI_sI, if_neg (by omega)]; exact h10), if_pos z, k1, n_add]
        · rw [if_neg z]
          rcases cd.mpr z with w | w
          · rw [if_pos w]
          · by_cases w' : nI (b (q + i)) < 48
            · rw [if_pos w']
            · rw [if_neg w', if_pos w]
      rw [RD_readRun_L14, T.2.2.1, h10, if_neg (by rw [n_le (by omega) (by omega)]; omega), if_pos (n_in (by omega) (by omega)), n_ixn (by omega), b2, letV_o, J67]
      by_cases z : isSm (b (q + i))
      · rw [if_neg (fun w => cs.mp (Or.inl w) z), if_neg (fun w => cs.mp (Or.inr w) z), letM_o, J98 _ _ _ (by rw [gI_sJ]; exact h10), if_pos z, k1, n_add]
      · rw [if_neg z]
        rcases cs.mpr z with w | w
        · rw [if_pos w]
        · by_cases w' : nI (b (q + i)) < 97
          · rw [if_pos w']
          · rw [if_neg w', if_pos w]
    unfold rnE
    by_cases z : isSm (b (q + i))
    · have zd : ¬ isDg (b (q + i)) := fun w => by omega
      rw [if_pos ⟨by omega, Or.inl z⟩]
      have F1 : Frm [(1, 7), (1, 8), (1, 10)] [] m (sI (sJ m 1 8 ((jlshl (gJ m 1 8) 8) ||| (Int32.toInt64 (nI (b (q + i)))))) 1 10 (nI (q + (i + 1)))) := (Frm.sJ rfl rfl).tr (Frm.sI rfl rfl)
      obtain ⟨m', x', y', k, e, a1, a2, a3, a4, a5, a6, a7, F⟩ := rr_loop (b := b) (M := M) (q := q) (kx := kx) n (i + 1) f (x + 1) y _ (by omega) (by omega) (by omega) ⟨T.1, T.2.1, by rw [F1.I 1 1 rfl]; exact T.2.2.1, by rw [F1.I 1 9 rfl]; exact T.2.2.2.1, fun t ht => by rw [F1.I 2 t rfl]; exact T.2.2.2.2 t ht⟩ (by rw [gI_sI, if_pos ⟨rfl, rfl⟩]) (by rw [allF_s, hs]; simp [smB, z]) (by
        rw [allF_s]
        refine ⟨fun w => by omega, fun w => ?_⟩
        rw [Bool.and_eq_true] at w
        exact absurd (by simpa [dgB] using w.2) zd) (fun w => by rw [gJ_sI, gJ_sJ, if_pos ⟨rfl, rfl⟩, hw w]; rfl) (fun w => by omega)
      exact ⟨m', x', y', k, by rw [e0, if_pos z, e], a1, a2, a3, a4, a5, a6, a7, F1.tr F⟩
    · by_cases w : isDg (b (q + i))
      · rw [if_pos ⟨by omega, Or.inr w⟩]
        have F1 : Frm [(1, 7), (1, 8), (1, 10)] [] m (sI (sI m 1 7 ((gI m 1 7) * 10 + nI (b (q + i)) - 48)) 1 10 (nI (q + (i + 1)))) := (Frm.sI rfl rfl).tr (Frm.sI rfl rfl)
        obtain ⟨m', x', y', k, e, a1, a2, a3, a4, a5, a6, a7, F⟩ := rr_loop (b := b) (M := M) (q := q) (kx := kx) n (i + 1) f x (y + 1) _ (by omega) (by omega) (by omega) ⟨T.1, T.2.1, by rw [F1.I 1 1 rfl]; exact T.2.2.1, by rw [F1.I 1 9 rfl]; exact T.2.2.2.1, fun t ht => by rw [F1.I 2 t rfl]; exact T.2.2.2.2 t ht⟩ (by rw [gI_sI, if_pos ⟨rfl, rfl⟩]) (by
          rw [allF_s]
          refine ⟨fun w => by omega, fun w' => ?_⟩
          rw [Bool.and_eq_true] at w'
          exact absurd (by simpa [smB] using w'.2) z) (by rw [allF_s, hd]; simp [dgB, w]) (fun w => by omega) (fun w' => by rw [gI_sI, if_neg (by omega), gI_sI, if_pos ⟨rfl, rfl⟩, hv w']; rfl)
        exact ⟨m', x', y', k, by rw [e0, if_neg z, if_pos w, e], a1, a2, a3, a4, a5, a6, a7, F1.tr F⟩
      · rw [if_neg (fun t => t.2.elim z w)]
        exact ⟨m, x, y, i, by rw [e0, if_neg z, if_neg w], rfl, hxy, hs, hd, hw, hv, h10, Frm.rf⟩
/-- the class's next token -/
theorem advance_eq {m : Mem} {b : Nat → Nat} {L M p : Nat} (T : TA m b L M) (h10 : gI m 1 10 = nI p) (hp : p ≤ min L M ∨ p ≤ L) : ∃ m', RD_advance m = some m' ∧ KA m' b L M p ∧ Frm Ltk [] m m' := by
  have l1 := T.1
  have l2 := T.2.1
  have ev : JM_min (gI m 1 1) (gI m 1 9) = nI (min L M) := by rw [T.2.2.1, T.2.2.2.1, min32 (by omega) (by omega)]
  by_cases hpE : min L M ≤ p
  · -- nothing is left
    have e0 : RD_advance m = some (sI (sI m 1 5 (nI (min L M))) 1 4 0) := by
      obtain ⟨g, hg⟩ : ∃ g, FU = g + 1 := ⟨FU - 1, by unfold FU; omega⟩
      rw [RD_advance, ev, letV_o, hg, RD_advance_L12, h10, if_pos (by rw [n_le (by omega) (by omega)]; exact hpE), RD_advance_J61, h10, if_neg (by rw [n_lt (by omega) (by omega)]; omega), letM_o, letM_o]
    refine ⟨_, e0, Or.inl ⟨?_, by rw [gI_sI, if_pos ⟨rfl, rfl⟩], by rw [gI_sI, if_neg (by omega), gI_sI, if_pos ⟨rfl, rfl⟩]⟩, (Frm.sI rfl rfl).tr (Frm.sI rfl rfl)⟩
    have := skp_ge b (min L M) (min L M - p) p
    omega
  · obtain ⟨m1, e1, g1, F1⟩ := ad_skip (b := b) (kx := fun m2 => RD_advance_J61 m2 (nI (min L M))) (min L M - p) p FU m (by omega) (by unfold FU; omega) T h10
    have qle := skp_le b (min L M) (min L M - p) p (by omega)
    generalize hq : skp b (min L M) (min L M - p) p = q at g1 qle
    have eA : RD_advance m = RD_advance_J61 m1 (nI (min L M)) := by rw [RD_advance, ev, letV_o, e1]
    have T1 : TA m1 b L M := ⟨T.1, T.2.1, by rw [F1.I 1 1 rfl]; exact T.2.2.1, by rw [F1.I 1 9 rfl]; exact T.2.2.2.1, fun i hi => by rw [F1.I 2 i rfl]; exact T.2.2.2.2 i hi⟩
    by_cases hqE : q < min L M
    · obtain ⟨b1, b2⟩ := T1.2.2.2.2 q (by omega)
      let m2 := sI m1 1 5 (nI q)
      have h2 : m2 = sI m1 1 5 (nI q) := rfl
      have g2 : gI m2 1 10 = nI q := by rw [h2, gI_sI, if_neg (by omega), g1]
      have b2' : gI m2 2 q = nI (b q) := by rw [h2, gI_sI, if_neg (by omega), b2]
      have F2 : Frm Ltk [] m m2 := F1.tr (Frm.sI rfl rfl)
      by_cases hsc : b q = 59
      · refine ⟨sI (sI m2 1 10 (nI (q + 1))) 1 4 3, ?_, Or.inr ⟨q, hq.symm, hqE, by rw [gI_sI, if_neg (by omega), gI_sI, if_neg (by omega), h2, gI_sI, if_pos ⟨rfl, rfl⟩], Or.inl ⟨hsc, by rw [gI_sI, if_pos ⟨rfl, rfl⟩], by rw [gI_sI, if_neg (by omega), gI_sI, if_pos ⟨rfl, rfl⟩]⟩⟩, F2.tr ((Frm.sI rfl rfl).tr (Frm.sI rfl rfl))⟩
        rw [eA, RD_advance_J61, g1, if_pos (by rw [n_lt (by omega) (by omega)]; exact hqE), letM_o, ← h2, g2, if_pos (n_in (by omega) (by omega)), n_ixn (by omega), b2', if_pos (by rw [hsc]; rfl), k1, n_add, letM_o, letM_o]
      · have T3 : TA (sI (sJ m2 1 8 0) 1 7 0) b L M := ⟨T.1, T.2.1, by rw [gI_sI, if_neg (by omega), gI_sJ, h2, gI_sI, if_neg (by omega)]; exact T1.2.2.1, by rw [gI_sI, if_neg (by omega), gI_sJ, h2, gI_sI, if_neg (by omega)]; exact T1.2.2.2.1, fun i hi => by rw [gI_sI, if_neg (by omega), gI_sJ, h2, gI_sI, if_neg (by omega)]; exact T1.2.2.2.2 i hi⟩
        obtain ⟨m3, x, y, k, e3, a1, a2, a3, a4, a5, a6, a7, F3⟩ := rr_loop (b := b) (M := M) (q := q) (kx := fun m5 y3 y4 => RD_readRun_J111 m5 y3 y4) (L - q) 0 FU 0 0 (sI (sJ m2 1 8 0) 1 7 0) (by omega) (by unfold FU; omega) rfl T3 (by rw [gI_sI, if_neg (by omega), gI_sJ, g2]; rfl) (by simp [allF]) (by simp [allF]) (fun _ => by rw [gJ_sI, gJ_sJ, if_pos ⟨rfl, rfl⟩]; rfl) (fun _ => by rw [gI_sI, if_pos ⟨rfl, rfl⟩]; rfl)
        rw [Nat.add_zero] at a1
        have rl := rnE_le b L (L - q) q (by omega)
        have kE : k = rnE b L (L - q) q - q := by omega
        have eRun : RD_readRun m2 = some (sI m3 1 4 (nI (knd b q k))) ∨ (RD_readRun m2 = some (sI (sI m3 1 4 4) 1 4 (nI (knd b q k)))) := by
          have er : RD_readRun m2 = RD_readRun_J111 m3 (nI x) (nI y) := by
            rw [show nI 0 = 0 from k0.symm] at e3
            rw [RD_readRun, letM_o, letM_o, e3]
          rw [er, RD_readRun_J111, letM_o]
          by_cases y0 : y = 0
          · rw [if_pos (by rw [y0]; rfl)]
            have sA := a3.mp y0
            by_cases x1 : 1 ≤ x ∧ x ≤ 7
            · right
              rw [if_neg (by rw [k1, n_lt (by omega) (by omega)]; omega), if_neg (by rw [show (7 : Int32) = nI 7 from rfl, n_lt (by omega) (by omega)]; omega), letM_o]
              have : knd b q k = 1 := by unfold knd; rw [if_pos ⟨by omega, by omega, sA⟩]
              rw [this]; rfl
            · left
              have hk4 : knd b q k = 4 := by
                unfold knd
                rw [if_neg (fun w => x1 ⟨by omega, by omega⟩)]
                by_cases k0' : 1 ≤ k
                · have : ¬ allF (dgB b) q k = true := fun w => by have := a4.mpr w; omega
                  rw [if_neg (fun w => this w.2.2)]
                · rw [if_neg (by omega)]
              have J : RD_readRun_J139 (sI m3 1 4 4) (nI x) (nI y) = some (sI m3 1 4 4) := by
                rw [RD_readRun_J139]
                by_cases x0 : x = 0
                · rw [if_pos (by rw [x0]; rfl), if_pos (by rw [y0]; decide)]
                · rw [if_neg (by rw [k0, n_eq (by omega) (by omega)]; exact x0)]
              rw [hk4]
              by_cases x0 : x < 1
              · rw [if_pos (by rw [k1, n_lt (by omega) (by omega)]; exact x0), J]; rfl
              · rw [if_neg (by rw [k1, n_lt (by omega) (by omega)]; exact x0), if_pos (by rw [show (7 : Int32) = nI 7 from rfl, n_lt (by omega) (by omega)]; omega), J]; rfl
          · rw [if_neg (by rw [k0, n_eq (by omega) (by omega)]; exact y0), RD_readRun_J139]
            have sA : ¬ allF (smB b) q k = true := fun w => y0 (a3.mpr w)
            by_cases x0 : x = 0
            · have dA := a4.mp x0
              rw [if_pos (by rw [x0]; rfl), if_neg (by rw [k1, n_lt (by omega) (by omega)]; omega)]
              by_cases y2 : y ≤ 2
              · right
                rw [if_neg (by rw [k2, n_lt (by omega) (by omega)]; omega), letM_o]
                have : knd b q k = 2 := by unfold knd; rw [if_neg (fun w => sA w.2.2), if_pos ⟨by omega, by omega, dA⟩]
                rw [this]; rfl
              · left
                rw [if_pos (by rw [k2, n_lt (by omega) (by omega)]; omega)]
                have : knd b q k = 4 := by unfold knd; rw [if_neg (fun w => sA w.2.2), if_neg (by omega)]
                rw [this]; rfl
            · left
              have dA : ¬ allF (dgB b) q k = true := fun w => x0 (a4.mpr w)
              rw [if_neg (by rw [k0, n_eq (by omega) (by omega)]; exact x0)]
              have : knd b q k = 4 := by unfold knd; rw [if_neg (fun w => sA w.2.2), if_neg (fun w => dA w.2.2)]
              rw [this]; rfl
        obtain ⟨m4, e4, g4, o4, j4, F4⟩ : ∃ m4, RD_readRun m2 = some m4 ∧ gI m4 1 4 = nI (knd b q k) ∧ (∀ c j, ¬ (c = 1 ∧ j = 4) → gI m4 c j = gI m3 c j) ∧ (∀ c j, gJ m4 c j = gJ m3 c j) ∧ Frm Ltk [] m3 m4 := by
          rcases eRun with z | z
          · exact ⟨_, z, by rw [gI_sI, if_pos ⟨rfl, rfl⟩], fun c j w => by rw [gI_sI, if_neg w], fun _ _ => rfl, Frm.sI rfl rfl⟩
          · exact ⟨_, z, by rw [gI_sI, if_pos ⟨rfl, rfl⟩], fun c j w => by rw [gI_sI, if_neg w, gI_sI, if_neg w], fun _ _ => rfl, (Frm.sI rfl rfl).tr (Frm.sI rfl rfl)⟩
        have F24 : Frm Ltk [] m2 m4 := ((Frm.sJ rfl rfl).tr (Frm.sI rfl rfl)).tr ((F3.mo (wL_sub rfl)).tr F4)
        have hk : knd b q k = 1 ∨ knd b q k = 2 ∨ knd b q k = 4 := by unfold knd; split; exact Or.inl rfl; split; exact Or.inr (Or.inl rfl); exact Or.inr (Or.inr rfl)
        have eJ : RD_advance m = if knd b q k = 1 then some (sI m4 1 6 (RD_wordOf (gJ m4 1 8))) else some m4 := by
          rw [eA, RD_advance_J61, g1, if_pos (by rw [n_lt (by omega) (by omega)]; exact hqE), letM_o, ← h2, g2, if_pos (n_in (by omega) (by omega)), n_ixn (by omega), b2', if_neg (by rw [show (59 : Int32) = nI 59 from rfl, n_eq (by omega) (by omega)]; exact hsc), e4, bM_s, g4, letM_o]
          rcases hk with z | z | z
          · rw [z, if_pos (by decide), if_pos rfl]
          · rw [z, if_neg (by decide), if_neg (by decide)]
          · rw [z, if_neg (by decide), if_neg (by decide)]
        have g5 : gI m4 1 5 = nI q := by rw [o4 _ _ (by omega), F3.I 1 5 rfl, gI_sI, if_neg (by omega), gI_sJ, h2, gI_sI, if_pos ⟨rfl, rfl⟩]
        have y0 : knd b q k = 1 → y = 0 := fun z => by
          unfold knd at z
          split at z
          · rename_i w; exact a3.mpr w.2.2
          · split at z <;> omega
        have x0 : knd b q k = 2 → x = 0 := fun z => by
          unfold knd at z
          split at z
          · omega
          · split at z
            · rename_i w; exact a4.mpr w.2.2
            · omega
        by_cases z : knd b q k = 1
        · rw [if_pos z] at eJ
          refine ⟨_, eJ, Or.inr ⟨q, hq.symm, hqE, by rw [gI_sI, if_neg (by omega), g5], Or.inr ⟨hsc, k, kE, by rw [gI_sI, if_neg (by omega), g4], by rw [gI_sI, if_neg (by omega), o4 _ _ (by omega), a7], fun _ => ⟨by rw [gJ_sI, j4, a5 (y0 z)], by rw [gI_sI, if_pos ⟨rfl, rfl⟩, j4, a5 (y0 z)]⟩, fun w => by omega⟩⟩, F2.tr (F24.tr (Frm.sI rfl rfl))⟩
        · rw [if_neg z] at eJ
          exact ⟨_, eJ, Or.inr ⟨q, hq.symm, hqE, g5, Or.inr ⟨hsc, k, kE, g4, by rw [o4 _ _ (by omega), a7], fun w => absurd w z, fun w => by rw [o4 _ _ (by omega), a6 (x0 w)]⟩⟩, F2.tr F24⟩
    · refine ⟨sI (sI m1 1 5 (nI (min L M))) 1 4 0, ?_, Or.inl ⟨by rw [hq]; omega, by rw [gI_sI, if_pos ⟨rfl, rfl⟩], by rw [gI_sI, if_neg (by omega), gI_sI, if_pos ⟨rfl, rfl⟩]⟩, F1.tr ((Frm.sI rfl rfl).tr (Frm.sI rfl rfl))⟩
      rw [eA, RD_advance_J61, g1, if_neg (by rw [n_lt (by omega) (by omega)]; exact hqE), letM_o, letM_o]

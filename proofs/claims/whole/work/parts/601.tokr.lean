/-! tokens, as the reference reads them -/
def TB (m : Mem) (b : Nat → Nat) (L M : Nat) : Prop := L ≤ 940 ∧ M ≤ 940 ∧ gI m 133 3 = nI L ∧ gI m 133 5 = nI M ∧ ∀ i, i < L → b i < 256 ∧ gI m 134 i &&& 255 = nI (b i)
abbrev Lnx : List (Nat × Nat) := [(133, 4), (133, 10), (133, 11), (133, 12), (133, 13), (133, 16)]
def KB (m : Mem) (b : Nat → Nat) (L M p : Nat) : Prop :=
  (skp b (min L M) (min L M - p) p ≥ min L M ∧ ((L ≤ M ∧ gI m 133 10 = 0) ∨ (M < L ∧ gI m 133 10 = 4)) ∧ gI m 133 11 = nI (min L M)) ∨
  (∃ q, q = skp b (min L M) (min L M - p) p ∧ q < min L M ∧ gI m 133 11 = nI q ∧
    ((b q = 59 ∧ gI m 133 10 = 3 ∧ gI m 133 13 = 59 ∧ gI m 133 4 = nI (q + 1)) ∨ (b q ≠ 59 ∧ ∃ n, n = rnE b L (L - q) q - q ∧ gI m 133 10 = nI (knd b q n) ∧ (knd b q n ≠ 4 → gI m 133 4 = nI (q + n)) ∧ (knd b q n = 1 → gJ m 133 16 = wrd b q n) ∧ (knd b q n = 2 → gI m 133 13 = nmv b q n))))
theorem TB.fr {m m' : Mem} {b : Nat → Nat} {L M : Nat} (T : TB m b L M) (F : Frm Lnx [] m m') : TB m' b L M := ⟨T.1, T.2.1, by rw [F.I 133 3 rfl]; exact T.2.2.1, by rw [F.I 133 5 rfl]; exact T.2.2.2.1, fun i hi => by rw [F.I 134 i rfl]; exact T.2.2.2.2 i hi⟩
theorem peek_eq {m : Mem} {b : Nat → Nat} {L M p : Nat} (T : TB m b L M) (hp : gI m 133 4 = nI p) (hpL : p < L) : RM_peek m = some (nI (b p)) := by
  have l1 := T.1
  rw [RM_peek, T.2.2.1, hp, if_neg (by rw [n_le (by omega) (by omega)]; omega), if_pos (n_in (by omega) (by omega)), n_ixn (by omega), (T.2.2.2.2 p hpL).2]
theorem peek_end {m : Mem} {b : Nat → Nat} {L M p : Nat} (T : TB m b L M) (hp : gI m 133 4 = nI p) (hpL : p = L) : RM_peek m = some (-1) := by
  have l1 := T.1
  rw [RM_peek, T.2.2.1, hp, if_pos (by rw [n_le (by omega) (by omega)]; omega)]
theorem nx_skip {b : Nat → Nat} {L M : Nat} {kx : Mem → Option Mem} : ∀ (n p fu : Nat) (m : Mem), p + n = L → n < fu → TB m b L M → gI m 133 4 = nI p → ∃ m', RM_next_L0 kx fu m = kx m' ∧ gI m' 133 4 = nI (skp b L n p) ∧ Frm Lnx [] m m'
  | 0, p, fu, m, hn, hf, T, h4 => by
    obtain ⟨f, rfl⟩ : ∃ f, fu = f + 1 := ⟨fu - 1, by omega⟩
    refine ⟨m, ?_, h4, Frm.rf⟩
    rw [RM_next_L0, peek_end T h4 (by omega), bI_s, if_neg (by decide), bI_s, if_neg (by decide)]
  | n + 1, p, fu, m, hn, hf, T, h4 => by
    obtain ⟨f, rfl⟩ : ∃ f, fu = f + 1 := ⟨fu - 1, by omega⟩
    have l1 := T.1
    have b1 := (T.2.2.2.2 p (by omega)).1
    have F1 : Frm Lnx [] m (sI m 133 4 (nI (p + 1))) := Frm.sI rfl rfl
    have J : ∀ k, RM_next_J18 (RM_next_L0 kx f) k m = RM_next_L0 kx f (sI m 133 4 (nI (p + 1))) := fun k => by rw [RM_next_J18, h4, k1, n_add, letM_o]
    have e0 : RM_next_L0 kx (f + 1) m = if isBl (b p) then RM_next_L0 kx f (sI m 133 4 (nI (p + 1))) else kx m := by
      rw [RM_next_L0, peek_eq T h4 (by omega), bI_s, bI_s, J]
      by_cases q : b p = 32
      · rw [if_pos (by rw [q]; rfl), if_pos (Or.inl q)]
      · rw [if_neg (by rw [show (32 : Int32) = nI 32 from rfl, n_eq (by omega) (by omega)]; exact q)]
        by_cases w : b p = 10
        · rw [if_pos (by rw [w]; rfl), if_pos (Or.inr w)]
        · rw [if_neg (by rw [show (10 : Int32) = nI 10 from rfl, n_eq (by omega) (by omega)]; exact w), if_neg (fun z => z.elim q w)]
    unfold skp
    by_cases q : isBl (b p)
    · rw [if_pos ⟨by omega, q⟩]
      obtain ⟨m', e, a, F⟩ := nx_skip (kx := kx) n (p + 1) f _ (by omega) (by omega) (T.fr F1) (by rw [gI_sI, if_pos ⟨rfl, rfl⟩])
      exact ⟨m', by rw [e0, if_pos q, e], a, F1.tr F⟩
    · rw [if_neg (fun z => q z.2)]
      exact ⟨m, by rw [e0, if_neg q], h4, Frm.rf⟩
/-- blanks up to the shorter end, and up to the longer -/
theorem skp_two {b : Nat → Nat} {E L : Nat} (hE : E ≤ L) : ∀ (n p : Nat), p + n = E → (skp b E n p < E → skp b L (L - p) p = skp b E n p) ∧ (E ≤ skp b E n p → E ≤ skp b L (L - p) p)
  | 0, p, h => ⟨fun z => by unfold skp at z; omega, fun _ => by have := skp_ge b L (L - p) p; omega⟩
  | n + 1, p, h => by
    obtain ⟨t, ht⟩ : ∃ t, L - p = t + 1 := ⟨L - p - 1, by omega⟩
    have ih := skp_two (b := b) hE n (p + 1) (by omega)
    rw [show L - (p + 1) = t by omega] at ih
    rw [ht]
    unfold skp
    by_cases q : isBl (b p)
    · rw [if_pos ⟨by omega, q⟩, if_pos ⟨by omega, q⟩]; exact ih
    · rw [if_neg (fun z => q z.2), if_neg (fun z => q z.2)]
      exact ⟨fun _ => rfl, id⟩
theorem small_n {c : Nat} (hc : c < 256) : RM_isSmall (nI c) = if isSm c then 1 else 0 := by
  unfold RM_isSmall
  rw [show (97 : Int32) = nI 97 from rfl, show (122 : Int32) = nI 122 from rfl]
  by_cases q : c < 97
  · rw [if_pos (by rw [n_lt (by omega) (by omega)]; exact q), if_neg (by omega)]
  · rw [if_neg (by rw [n_lt (by omega) (by omega)]; exact q)]
    by_cases w : 122 < c
    · rw [if_pos (by rw [n_lt (by omega) (by omega)]; exact w), if_neg (by omega)]
    · rw [if_neg (by rw [n_lt (by omega) (by omega)]; exact w), if_pos (by omega)]
theorem digit_n {c : Nat} (hc : c < 256) : RM_isDigit (nI c) = if isDg c then 1 else 0 := by
  unfold RM_isDigit
  rw [show (48 : Int32) = nI 48 from rfl, show (57 : Int32) = nI 57 from rfl]
  by_cases q : c < 48
  · rw [if_pos (by rw [n_lt (by omega) (by omega)]; exact q), if_neg (by omega)]
  · rw [if_neg (by rw [n_lt (by omega) (by omega)]; exact q)]
    by_cases w : 57 < c
    · rw [if_pos (by rw [n_lt (by omega) (by omega)]; exact w), if_neg (by omega)]
    · rw [if_neg (by rw [n_lt (by omega) (by omega)]; exact w), if_pos (by omega)]
abbrev Lrn : List (Nat × Nat) := [(133, 4), (133, 12), (133, 13), (133, 16)]
theorem knd0 (b : Nat → Nat) (q : Nat) : knd b q 0 = 4 := by unfold knd; simp
/-- one more sign of a run -/
theorem nx_put {m : Mem} {b : Nat → Nat} {L M q i f : Nat} {x2 : Int32} {fl : Bool} {kx : Mem → Int32 → Option Mem} (T : TB m b L M) (hi : q + i < L) (h4 : gI m 133 4 = nI (q + i)) (h12 : gI m 133 12 = nI i) (hw : gJ m 133 16 = wrd b q (min i 7)) (hv : gI m 133 13 = nmv b q (min i 2)) :
    ∃ m', RM_next_J197 (RM_next_L157 x2 kx f) kx m x2 (b2i fl) = RM_next_L157 x2 kx f m' (b2i fl) ∧ gI m' 133 4 = nI (q + (i + 1)) ∧ gI m' 133 12 = nI (i + 1) ∧ gJ m' 133 16 = wrd b q (min (i + 1) 7) ∧ gI m' 133 13 = nmv b q (min (i + 1) 2) ∧ Frm Lrn [] m m' := by
  have l1 := T.1
  -- the word
  obtain ⟨m1, e1, w1, o1, F1⟩ : ∃ m1, RM_next_J197 (RM_next_L157 x2 kx f) kx m x2 (b2i fl) = RM_next_J224 (RM_next_L157 x2 kx f) kx m1 x2 (b2i fl) ∧ gJ m1 133 16 = wrd b q (min (i + 1) 7) ∧ (∀ c j, gI m1 c j = gI m c j) ∧ Frm Lrn [] m m1 := by
    by_cases z : 7 ≤ i
    · refine ⟨m, by rw [RM_next_J197, h12, if_pos (by rw [show (7 : Int32) = nI 7 from rfl, n_le (by omega) (by omega)]; exact z)], by rw [hw, show min i 7 = min (i + 1) 7 by omega], fun _ _ => rfl, Frm.rf⟩
    · refine ⟨sJ m 133 16 ((jlshl (gJ m 133 16) 8) ||| (Int32.toInt64 (nI (b (q + i))))), ?_, ?_, fun _ _ => rfl, Frm.sJ rfl rfl⟩
      · rw [RM_next_J197, h12, if_neg (by rw [show (7 : Int32) = nI 7 from rfl, n_le (by omega) (by omega)]; exact z), peek_eq T h4 hi, bI_s, letM_o]
      · rw [gJ_sJ, if_pos ⟨rfl, rfl⟩, hw, show min i 7 = i by omega, show min (i + 1) 7 = i + 1 by omega]; rfl
  have T1 := T.fr (F1.mo (wL_sub rfl))
  obtain ⟨m2, e2, v2, o2, j2, F2⟩ : ∃ m2, RM_next_J224 (RM_next_L157 x2 kx f) kx m1 x2 (b2i fl) = RM_next_J251 (RM_next_L157 x2 kx f) kx m2 x2 (b2i fl) ∧ gI m2 133 13 = nmv b q (min (i + 1) 2) ∧ (∀ c j, ¬ (c = 133 ∧ j = 13) → gI m2 c j = gI m1 c j) ∧ (∀ c j, gJ m2 c j = gJ m1 c j) ∧ Frm Lrn [] m1 m2 := by
    by_cases z : 2 ≤ i
    · refine ⟨m1, by rw [RM_next_J224, o1, h12, if_pos (by rw [k2, n_le (by omega) (by omega)]; exact z)], by rw [o1, hv, show min i 2 = min (i + 1) 2 by omega], fun _ _ _ => rfl, fun _ _ => rfl, Frm.rf⟩
    · refine ⟨sI m1 133 13 (((10 * (gI m1 133 13)) + nI (b (q + i))) - 48), ?_, ?_, fun c j w => by rw [gI_sI, if_neg w], fun _ _ => rfl, Frm.sI rfl rfl⟩
      · rw [RM_next_J224, o1, h12, if_neg (by rw [k2, n_le (by omega) (by omega)]; exact z), peek_eq T1 (by rw [o1]; exact h4) hi, bI_s, letM_o, o1]
      · rw [gI_sI, if_pos ⟨rfl, rfl⟩, o1, hv, show min i 2 = i by omega, show min (i + 1) 2 = i + 1 by omega, Int32.mul_comm]; rfl
  have g12 : gI m2 133 12 = nI i := by rw [o2 _ _ (by omega), o1, h12]
  have g4 : gI (sI m2 133 12 (nI (i + 1))) 133 4 = nI (q + i) := by rw [gI_sI, if_neg (by omega), o2 _ _ (by omega), o1, h4]
  refine ⟨sI (sI m2 133 12 (nI (i + 1))) 133 4 (nI (q + (i + 1))), ?_, by rw [gI_sI, if_pos ⟨rfl, rfl⟩], by rw [gI_sI, if_neg (by omega), gI_sI, if_pos ⟨rfl, rfl⟩], by rw [gJ_sI, gJ_sI, j2, w1], by rw [gI_sI, if_neg (by omega), gI_sI, if_neg (by omega), v2], F1.tr (F2.tr ((Frm.sI rfl rfl).tr (Frm.sI rfl rfl)))⟩
  rw [e1, e2, RM_next_J251, g12, k1, n_add, letM_o, g4, n_add, letM_o, Nat.add_assoc]
/-- the reference's run -/
theorem nx_run {b : Nat → Nat} {L M q : Nat} {s : Bool} {kx : Mem → Int32 → Option Mem} : ∀ (n i fu : Nat) (m : Mem), q + i + n = L → n < fu → TB m b L M → gI m 133 4 = nI (q + i) → gI m 133 12 = nI i → gJ m 133 16 = wrd b q (min i 7) → gI m 133 13 = nmv b q (min i 2) →
    ∃ m' k, RM_next_L157 (b2i s) kx fu m (b2i (allF (fun t => smB b t == s) q i)) = kx m' (b2i (allF (fun t => smB b t == s) q k)) ∧ q + k = rnE b L n (q + i) ∧ gI m' 133 4 = nI (q + k) ∧ gI m' 133 12 = nI k ∧ gJ m' 133 16 = wrd b q (min k 7) ∧ gI m' 133 13 = nmv b q (min k 2) ∧ Frm Lrn [] m m'
  | 0, i, fu, m, hn, hf, T, h4, h12, hw, hv => by
    obtain ⟨f, rfl⟩ : ∃ f, fu = f + 1 := ⟨fu - 1, by omega⟩
    refine ⟨m, i, ?_, rfl, h4, h12, hw, hv, Frm.rf⟩
    rw [RM_next_L157, peek_end T h4 (by omega), bI_s, if_pos (by decide), bI_s, if_pos (by decide)]
  | n + 1, i, fu, m, hn, hf, T, h4, h12, hw, hv => by
    obtain ⟨f, rfl⟩ : ∃ f, fu = f + 1 := ⟨fu - 1, by omega⟩
    have l1 := T.1
    have b1 := (T.2.2.2.2 (q + i) (by omega)).1
    have pk := peek_eq T h4 (show q + i < L by omega)
    have J177 : ∀ k, RM_next_J177 (RM_next_L157 (b2i s) kx f) k m (b2i s) (b2i (allF (fun t => smB b t == s) q i)) = RM_next_J197 (RM_next_L157 (b2i s) kx f) k m (b2i s) (b2i (allF (fun t => smB b t == s) q (i + 1))) := fun k => by
      rw [RM_next_J177, pk, bI_s, small_n b1]
      rw [allF_s]
      cases hA : allF (fun t => smB b t == s) q i with
      | false => rw [if_pos (by decide)]; rfl
      | true =>
        rw [if_neg (by decide)]
        by_cases z : isSm (b (q + i))
        · rw [if_pos z]
          have : smB b (q + i) = true := decide_eq_true z
          rw [this]
          cases s <;> rfl
        · rw [if_neg z]
          have : smB b (q + i) = false := decide_eq_false z
          rw [this]
          cases s <;> rfl
    have e0 : RM_next_L157 (b2i s) kx (f + 1) m (b2i (allF (fun t => smB b t == s) q i)) = if isSm (b (q + i)) ∨ isDg (b (q + i)) then RM_next_J197 (RM_next_L157 (b2i s) kx f) kx m (b2i s) (b2i (allF (fun t => smB b t == s) q (i + 1))) else kx m (b2i (allF (fun t => smB b t == s) q i)) := by
      rw [RM_next_L157, pk, bI_s, small_n b1, bI_s, digit_n b1, J177]
      by_cases z : isSm (b (q + i))
      · rw [if_pos z, if_neg (by decide), if_pos (Or.inl z)]
      · rw [if_neg z, if_pos rfl]
        by_cases w : isDg (b (q + i))
        · rw [if_pos w, if_neg (by decide), if_pos (Or.inr w)]
        · rw [if_neg w, if_pos rfl, if_neg (fun t => t.elim z w)]
    unfold rnE
    by_cases z : isSm (b (q + i)) ∨ isDg (b (q + i))
    · rw [if_pos ⟨by omega, z⟩]
      obtain ⟨m1, e1, a1, a2, a3, a4, F1⟩ := nx_put (x2 := b2i s) (fl := allF (fun t => smB b t == s) q (i + 1)) (f := f) (kx := kx) T (by omega) h4 h12 hw hv
      obtain ⟨m2, k, e2, c1, c2, c3, c4, c5, F2⟩ := nx_run (s := s) (kx := kx) n (i + 1) f m1 (by omega) (by omega) (T.fr (F1.mo (wL_sub rfl))) a1 a2 a3 a4
      exact ⟨m2, k, by rw [e0, if_pos z, e1, e2], c1, c2, c3, c4, c5, F1.tr F2⟩
    · rw [if_neg (fun t => z t.2)]
      exact ⟨m, i, by rw [e0, if_neg z], rfl, h4, h12, hw, hv, Frm.rf⟩
theorem rnE_al {b : Nat → Nat} {L : Nat} : ∀ (n p t : Nat), p ≤ t → t < rnE b L n p → isSm (b t) ∨ isDg (b t)
  | 0, p, t, h1, h2 => by unfold rnE at h2; omega
  | n + 1, p, t, h1, h2 => by
    unfold rnE at h2
    split at h2
    · rename_i z
      by_cases q : t = p
      · rw [q]; exact z.2
      · exact rnE_al n (p + 1) t (by omega) h2
    · omega
theorem allF_iff {f : Nat → Bool} {q : Nat} : ∀ n, allF f q n = true ↔ ∀ t, q ≤ t → t < q + n → f t = true
  | 0 => ⟨fun _ t a c => by omega, fun _ => rfl⟩
  | n + 1 => by
    rw [allF_s, Bool.and_eq_true, allF_iff n]
    refine ⟨fun ⟨h1, h2⟩ t a c => ?_, fun h => ⟨fun t a c => h t a (by omega), h _ (by omega) (by omega)⟩⟩
    by_cases z : t = q + n
    · rw [z]; exact h2
    · exact h1 t a (by omega)
/-- the reference's next token -/
theorem next_eq {m : Mem} {b : Nat → Nat} {L M p : Nat} (T : TB m b L M) (h4 : gI m 133 4 = nI p) (hp : p ≤ L) : ∃ m', RM_next m = some m' ∧ KB m' b L M p ∧ Frm Lnx [] m m' := by
  have l1 := T.1
  have l2 := T.2.1
  obtain ⟨m1, e1, g1, F1⟩ := nx_skip (b := b) (kx := fun m1 => letM (sI m1 133 11 (gI m1 133 4)) fun m2 => letM (sI m2 133 12 0) fun m3 => if (gI m3 133 3) ≤ (gI m3 133 5) then (RM_next_J80 m3) else (if (gI m3 133 4) < (gI m3 133 5) then (RM_next_J80 m3) else (letM (sI m3 133 11 (gI m3 133 5)) fun m4 => letM (sI m4 133 10 4) fun m5 => some m5))) (L - p) p FU m (by omega) (by unfold FU; omega) T h4
  have qle := skp_le b L (L - p) p hp
  have qge := skp_ge b L (L - p) p
  obtain ⟨q, hq⟩ : ∃ q, q = skp b L (L - p) p := ⟨_, rfl⟩
  rw [← hq] at g1 qle qge
  let m3 := sI (sI m1 133 11 (nI q)) 133 12 0
  have h3 : m3 = sI (sI m1 133 11 (nI q)) 133 12 0 := rfl
  have F3 : Frm Lnx [] m m3 := F1.tr ((Frm.sI rfl rfl).tr (Frm.sI rfl rfl))
  have T3 := T.fr F3
  have g4 : gI m3 133 4 = nI q := by rw [h3, gI_sI, if_neg (by omega), gI_sI, if_neg (by omega), g1]
  have eN : RM_next m = if L ≤ M ∨ q < M then RM_next_J80 m3 else some (sI (sI m3 133 11 (nI M)) 133 10 4) := by
    rw [RM_next, e1, letM_o, g1, letM_o, ← h3, T3.2.2.1, T3.2.2.2.1, g4, letM_o, letM_o]
    by_cases z : L ≤ M
    · rw [if_pos (by rw [n_le (by omega) (by omega)]; exact z), if_pos (Or.inl z)]
    · rw [if_neg (by rw [n_le (by omega) (by omega)]; exact z)]
      by_cases w : q < M
      · rw [if_pos (by rw [n_lt (by omega) (by omega)]; exact w), if_pos (Or.inr w)]
      · rw [if_neg (by rw [n_lt (by omega) (by omega)]; exact w), if_neg (fun t => t.elim z w)]
  -- where the class stands
  have two : (q < min L M → skp b (min L M) (min L M - p) p = q) ∧ (min L M ≤ q → min L M ≤ skp b (min L M) (min L M - p) p) := by
    by_cases hpE : p ≤ min L M
    · have := skp_two (b := b) (E := min L M) (L := L) (by omega) (min L M - p) p (by omega)
      rw [← hq] at this
      refine ⟨fun z => ?_, fun z => ?_⟩
      · by_cases w : skp b (min L M) (min L M - p) p < min L M
        · exact (this.1 w).symm
        · have := this.2 (by omega); omega
      · by_cases w : skp b (min L M) (min L M - p) p < min L M
        · have := this.1 w; omega
        · omega
    · refine ⟨fun z => by omega, fun z => ?_⟩
      have := skp_ge b (min L M) (min L M - p) p
      omega
  by_cases hE : q < min L M
  · have es := two.1 hE
    rw [if_pos (by omega)] at eN
    have pk := peek_eq T3 g4 (show q < L by omega)
    have b1 := (T3.2.2.2.2 q (by omega)).1
    have c0 : (0 : Int32) ≤ nI (b q) := by rw [k0, n_le (by omega) (by omega)]; omega
    have g11 : gI m3 133 11 = nI q := by rw [h3, gI_sI, if_neg (by omega), gI_sI, if_pos ⟨rfl, rfl⟩]
    have J121 : ∀ s1, RM_next_J121 m3 (nI (b q)) s1 = some (sI (sI (sI m3 133 10 s1) 133 13 (nI (b q))) 133 4 (nI (q + 1))) := fun s1 => by
      have : gI (sI (sI m3 133 10 s1) 133 13 (nI (b q))) 133 4 = nI q := by rw [gI_sI, if_neg (by omega), gI_sI, if_neg (by omega), g4]
      rw [RM_next_J121, letM_o, letM_o, this, k1, n_add, letM_o]
    by_cases al : isSm (b q) ∨ isDg (b q)
    · -- a run
      have e80 : RM_next_J80 m3 = RM_next_J140 m3 (nI (b q)) := by
        rw [RM_next_J80, pk, bI_s, if_pos c0, small_n b1, digit_n b1]
        by_cases z : isSm (b q)
        · rw [if_pos z, if_neg (by decide)]
        · have w : isDg (b q) := al.resolve_left z
          rw [if_neg z, if_pos rfl, if_pos w, if_neg (by decide)]
      obtain ⟨s, hs⟩ : ∃ s, s = smB b q := ⟨_, rfl⟩
      have es1 : RM_isSmall (nI (b q)) = b2i s := by
        rw [small_n b1, hs]
        by_cases z : isSm (b q)
        · rw [if_pos z, smB, decide_eq_true z]; rfl
        · rw [if_neg z, smB, decide_eq_false z]; rfl
      have F5 : Frm Lnx [] m3 (sI (sJ m3 133 16 0) 133 13 0) := (Frm.sJ rfl rfl).tr (Frm.sI rfl rfl)
      obtain ⟨m6, k, e6, a1, a2, a3, a4, a5, F6⟩ := nx_run (b := b) (s := s) (q := q) (kx := fun m5 y4 => if y4 = 0 then (letM (sI m5 133 10 4) fun m6 => some m6) else (if b2i s = 0 then (RM_next_J293 m5 (b2i s) (gI m5 133 12) 2) else (RM_next_J293 m5 (b2i s) (gI m5 133 12) 7))) (L - q) 0 FU (sI (sJ m3 133 16 0) 133 13 0) (by omega) (by unfold FU; omega) (T3.fr F5) (by rw [gI_sI, if_neg (by omega), gI_sJ, g4]; rfl) (by rw [gI_sI, if_neg (by omega), gI_sJ, h3, gI_sI, if_pos ⟨rfl, rfl⟩]; rfl) (by rw [gJ_sI, gJ_sJ, if_pos ⟨rfl, rfl⟩]; rfl) (by rw [gI_sI, if_pos ⟨rfl, rfl⟩]; rfl)
      rw [Nat.add_zero] at a1
      have rl := rnE_le b L (L - q) q (by omega)
      have kE : k = rnE b L (L - q) q - q := by omega
      have k1' : 1 ≤ k := by
        have : q < rnE b L (L - q) q := by
          obtain ⟨t, ht⟩ : ∃ t, L - q = t + 1 := ⟨L - q - 1, by omega⟩
          rw [ht]
          unfold rnE
          rw [if_pos ⟨by omega, al⟩]
          have := rnE_ge b L t (q + 1)
          omega
        omega
      have alk : ∀ t, q ≤ t → t < q + k → isSm (b t) ∨ isDg (b t) := fun t x y => rnE_al (L := L) (L - q) q t x (by omega)
      have e140 : RM_next m = (if b2i (allF (fun t => smB b t == s) q k) = 0 then (letM (sI m6 133 10 4) fun m6 => some m6) else (if b2i s = 0 then (RM_next_J293 m6 (b2i s) (gI m6 133 12) 2) else (RM_next_J293 m6 (b2i s) (gI m6 133 12) 7))) := by
        rw [eN, e80, RM_next_J140, es1, letV_o, letM_o, letM_o, show (1 : Int32) = b2i (allF (fun t => smB b t == s) q 0) from rfl, e6]
      have fin : RM_next m = some (sI m6 133 10 (nI (knd b q k))) := by
        rw [e140, a3]
        cases hA : allF (fun t => smB b t == s) q k with
        | false =>
          rw [if_pos (by decide), letM_o]
          have : knd b q k = 4 := by
            have nall : ¬ allF (fun t => smB b t == s) q k = true := by rw [hA]; simp
            rw [allF_iff] at nall
            unfold knd
            have sq : (smB b q == s) = true := by rw [hs]; simp
            cases s with
            | true =>
              rw [if_neg (fun w => nall (fun t x y => by rw [(allF_iff k).mp w.2.2 t x y]; rfl)), if_neg (fun w => by
                have d0 := (allF_iff k).mp w.2.2 q (by omega) (by omega)
                have s0 : smB b q = true := hs.symm
                simp only [smB, dgB, decide_eq_true_eq] at d0 s0
                omega)]
            | false =>
              rw [if_neg (fun w => by
                have d0 := (allF_iff k).mp w.2.2 q (by omega) (by omega)
                rw [← hs] at d0
                simp at d0), if_neg (fun w => nall (fun t x y => by
                have d0 := (allF_iff k).mp w.2.2 t x y
                have : smB b t = false := by
                  simp only [smB, dgB, decide_eq_true_eq] at d0 ⊢
                  exact decide_eq_false (by omega)
                rw [this]; rfl))]
          rw [this]; rfl
        | true =>
          rw [if_neg (by decide)]
          have all := (allF_iff k).mp hA
          cases s with
          | true =>
            rw [if_neg (by decide), RM_next_J293]
            have allS : allF (smB b) q k = true := (allF_iff k).mpr (fun t x y => by have := all t x y; simpa using this)
            have nd : ¬ allF (dgB b) q k = true := fun w => by
              have d0 := (allF_iff k).mp w q (by omega) (by omega)
              have s0 := (allF_iff k).mp allS q (by omega) (by omega)
              simp only [smB, dgB, decide_eq_true_eq] at d0 s0
              omega
            by_cases k7 : k ≤ 7
            · rw [if_pos (by rw [show (7 : Int32) = nI 7 from rfl, n_le (by omega) (by omega)]; exact k7), if_neg (by decide), letM_o]
              have : knd b q k = 1 := by unfold knd; rw [if_pos ⟨k1', k7, allS⟩]
              rw [this]; rfl
            · rw [if_neg (by rw [show (7 : Int32) = nI 7 from rfl, n_le (by omega) (by omega)]; exact k7), letM_o]
              have : knd b q k = 4 := by unfold knd; rw [if_neg (fun w => k7 w.2.1), if_neg (fun w => nd w.2.2)]
              rw [this]; rfl
          | false =>
            rw [if_pos (by decide), RM_next_J293]
            have ns : ∀ t, q ≤ t → t < q + k → ¬ isSm (b t) := fun t x y z => by
              have := all t x y
              rw [smB, decide_eq_true z] at this
              simp at this
            have allD : allF (dgB b) q k = true := (allF_iff k).mpr (fun t x y => decide_eq_true ((alk t x y).resolve_left (ns t x y)))
            have nS : ¬ allF (smB b) q k = true := fun w => by
              have s0 := (allF_iff k).mp w q (by omega) (by omega)
              exact ns q (by omega) (by omega) (by simpa [smB] using s0)
            by_cases k2' : k ≤ 2
            · rw [if_pos (by rw [k2, n_le (by omega) (by omega)]; exact k2'), if_pos (by decide), letM_o]
              have : knd b q k = 2 := by unfold knd; rw [if_neg (fun w => nS w.2.2), if_pos ⟨k1', k2', allD⟩]
              rw [this]; rfl
            · rw [if_neg (by rw [k2, n_le (by omega) (by omega)]; exact k2'), letM_o]
              have : knd b q k = 4 := by unfold knd; rw [if_neg (fun w => nS w.2.2), if_neg (fun w => k2' w.2.1)]
              rw [this]; rfl
      have n59 : b q ≠ 59 := fun z => by rw [z] at al; omega
      refine ⟨_, fin, Or.inr ⟨q, es.symm, hE, by rw [gI_sI, if_neg (by omega), F6.I 133 11 rfl, gI_sI, if_neg (by omega), gI_sJ, g11], Or.inr ⟨n59, k, kE, by rw [gI_sI, if_pos ⟨rfl, rfl⟩], fun _ => by rw [gI_sI, if_neg (by omega), a2], fun z => ?_, fun z => ?_⟩⟩, F3.tr (F5.tr ((F6.mo (wL_sub rfl)).tr (Frm.sI rfl rfl)))⟩
      · have : k ≤ 7 := by
          unfold knd at z
          split at z
          · rename_i w; exact w.2.1
          · split at z <;> omega
        rw [gJ_sI, a4, show min k 7 = k by omega]
      · have : k ≤ 2 := by
          unfold knd at z
          split at z
          · omega
          · split at z
            · rename_i w; exact w.2.1
            · omega
        rw [gI_sI, if_neg (by omega), a5, show min k 2 = k by omega]
    · have nS : ¬ isSm (b q) := fun z => al (Or.inl z)
      have nD : ¬ isDg (b q) := fun z => al (Or.inr z)
      by_cases z : b q = 59
      · refine ⟨sI (sI (sI m3 133 10 3) 133 13 (nI (b q))) 133 4 (nI (q + 1)), ?_, Or.inr ⟨q, es.symm, hE, by rw [gI_sI, if_neg (by omega), gI_sI, if_neg (by omega), gI_sI, if_neg (by omega), g11], Or.inl ⟨z, by rw [gI_sI, if_neg (by omega), gI_sI, if_neg (by omega), gI_sI, if_pos ⟨rfl, rfl⟩], by rw [gI_sI, if_neg (by omega), gI_sI, if_pos ⟨rfl, rfl⟩, z]; rfl, by rw [gI_sI, if_pos ⟨rfl, rfl⟩]⟩⟩, F3.tr ((Frm.sI rfl rfl).tr ((Frm.sI rfl rfl).tr (Frm.sI rfl rfl)))⟩
        rw [eN, RM_next_J80, pk, bI_s, if_pos c0, small_n b1, if_neg nS, if_pos rfl, digit_n b1, if_neg nD, if_pos rfl, if_pos (by rw [z]; rfl), J121]
      · have k0' : rnE b L (L - q) q - q = 0 := by
          obtain ⟨t, ht⟩ : ∃ t, L - q = t + 1 := ⟨L - q - 1, by omega⟩
          rw [ht]
          unfold rnE
          rw [if_neg (fun t => al t.2)]
          omega
        refine ⟨sI (sI (sI m3 133 10 4) 133 13 (nI (b q))) 133 4 (nI (q + 1)), ?_, Or.inr ⟨q, es.symm, hE, by rw [gI_sI, if_neg (by omega), gI_sI, if_neg (by omega), gI_sI, if_neg (by omega), g11], Or.inr ⟨z, 0, k0'.symm, by rw [gI_sI, if_neg (by omega), gI_sI, if_neg (by omega), gI_sI, if_pos ⟨rfl, rfl⟩]; rfl, fun w => absurd rfl w, fun w => by rw [knd0] at w; omega, fun w => by rw [knd0] at w; omega⟩⟩, F3.tr ((Frm.sI rfl rfl).tr ((Frm.sI rfl rfl).tr (Frm.sI rfl rfl)))⟩
        rw [eN, RM_next_J80, pk, bI_s, if_pos c0, small_n b1, if_neg nS, if_pos rfl, digit_n b1, if_neg nD, if_pos rfl, if_neg (by rw [show (59 : Int32) = nI 59 from rfl, n_eq (by omega) (by omega)]; exact z), J121]
  · have es := two.2 (by omega)
    by_cases z : L ≤ M
    · rw [if_pos (Or.inl z)] at eN
      refine ⟨sI m3 133 10 0, ?_, Or.inl ⟨es, Or.inl ⟨z, by rw [gI_sI, if_pos ⟨rfl, rfl⟩]⟩, by rw [gI_sI, if_neg (by omega), h3, gI_sI, if_neg (by omega), gI_sI, if_pos ⟨rfl, rfl⟩, show q = min L M by omega]⟩, F3.tr (Frm.sI rfl rfl)⟩
      rw [eN, RM_next_J80, peek_end T3 g4 (by omega), bI_s, if_neg (by decide), letM_o]
    · rw [if_neg (by omega)] at eN
      refine ⟨_, eN, Or.inl ⟨es, Or.inr ⟨by omega, by rw [gI_sI, if_pos ⟨rfl, rfl⟩]⟩, by rw [gI_sI, if_neg (by omega), gI_sI, if_pos ⟨rfl, rfl⟩, Nat.min_eq_right (show M ≤ L by omega)]⟩, F3.tr ((Frm.sI rfl rfl).tr (Frm.sI rfl rfl))⟩

/-! claims: words -/
theorem isN_ite {p : Prop} [Decidable p] {a b : Int32} {B : Nat} (ha : isN a B) (hb : isN b B) : isN (if p then a else b) B := by split <;> assumption
theorem ne_ite {p : Prop} [Decidable p] {a b c : Int32} (ha : ¬ a = c) (hb : ¬ b = c) : ¬ (if p then a else b) = c := by split <;> assumption
theorem word_c (W : Int64) : isN (RD_wordOf W) 17 := by
  unfold RD_wordOf
  repeat' apply isN_ite
  all_goals (unfold isN; decide)
def wno (W : Int64) : Nat := ixn (RD_wordOf W)
theorem wno_eq (W : Int64) : RD_wordOf W = nI (wno W) := (word_c W).eq
theorem wno_le (W : Int64) : wno W ≤ 17 := (word_c W).le
theorem w16 (W : Int64) : RD_wordOf W = 16 ↔ W = 482905517684 := by
  by_cases h : W = 482905517684
  · subst h; exact ⟨fun _ => rfl, fun _ => by decide⟩
  · refine ⟨fun z => ?_, fun z => absurd z h⟩
    refine absurd z ?_
    unfold RD_wordOf
    rw [if_neg h]
    repeat' apply ne_ite
    all_goals decide
theorem w7 (W : Int64) : RD_wordOf W = 7 ↔ W = 123563833652072 := by
  by_cases h : W = 123563833652072
  · subst h; exact ⟨fun _ => rfl, fun _ => by decide⟩
  · refine ⟨fun z => ?_, fun z => absurd z h⟩
    refine absurd z ?_
    unfold RD_wordOf
    rw [if_neg h]
    repeat' apply ne_ite
    all_goals decide
theorem w8 (W : Int64) : RD_wordOf W = 8 ↔ W = 6842739 := by
  by_cases h : W = 6842739
  · subst h; exact ⟨fun _ => rfl, fun _ => by decide⟩
  · refine ⟨fun z => ?_, fun z => absurd z h⟩
    refine absurd z ?_
    unfold RD_wordOf
    rw [if_neg h]
    repeat' apply ne_ite
    all_goals decide
theorem w9 (W : Int64) : RD_wordOf W = 9 ↔ W = 28526 := by
  by_cases h : W = 28526
  · subst h; exact ⟨fun _ => rfl, fun _ => by decide⟩
  · refine ⟨fun z => ?_, fun z => absurd z h⟩
    refine absurd z ?_
    unfold RD_wordOf
    rw [if_neg h]
    repeat' apply ne_ite
    all_goals decide
theorem w17 (W : Int64) : RD_wordOf W = 17 ↔ ∀ k, k < 17 → W ≠ resW.getD k 0 := by
  constructor
  · intro z k hk e
    have : ∀ k, k < 17 → RD_wordOf (resW.getD k 0) ≠ 17 := by decide
    rw [e] at z
    exact this k hk z
  · intro h
    unfold RD_wordOf
    rw [if_neg (show ¬ W = 110 from h 11 (by omega)), if_neg (show ¬ W = 101 from h 12 (by omega)), if_neg (show ¬ W = 115 from h 13 (by omega)), if_neg (show ¬ W = 119 from h 14 (by omega)), if_neg (show ¬ W = 7300196 from h 4 (by omega)), if_neg (show ¬ W = 491496238692 from h 5 (by omega)), if_neg (show ¬ W = 1818584692 from h 6 (by omega)), if_neg (show ¬ W = 123563833652072 from h 9 (by omega)), if_neg (show ¬ W = 6842739 from h 8 (by omega)), if_neg (show ¬ W = 28526 from h 16 (by omega)), if_neg (show ¬ W = 1818848869 from h 0 (by omega)), if_neg (show ¬ W = 6840697 from h 1 (by omega)), if_neg (show ¬ W = 109300298179432 from h 2 (by omega)), if_neg (show ¬ W = 7102839 from h 3 (by omega)), if_neg (show ¬ W = 1701078885 from h 7 (by omega)), if_neg (show ¬ W = 448378008179 from h 10 (by omega)), if_neg (show ¬ W = 482905517684 from h 15 (by omega))]
theorem wn {W : Int64} {k : Nat} (hk : k ≤ 17) : RD_wordOf W = nI k ↔ wno W = k := by
  have := wno_le W
  rw [wno_eq, n_eq (by omega) (by omega)]
/-- is it a word from lo to hi, the class -/
theorem isWordA {m : Mem} {b : Nat → Nat} {L M p lo hi : Nat} (K : CKA m b L M p) (h1 : lo ≤ 17) (h2 : hi ≤ 17) : RD_isWord m (nI lo) (nI hi) = if tkK b L M p = 1 ∧ lo ≤ wno (tkW b L M p) ∧ wno (tkW b L M p) ≤ hi then 1 else 0 := by
  have kc := tkK_c b L M p
  have wl := wno_le (tkW b L M p)
  unfold RD_isWord
  rw [K.1]
  by_cases z : tkK b L M p = 1
  · rw [if_pos (by rw [z]; rfl), (K.2.2.2.1 z).1, wno_eq]
    by_cases w : lo ≤ wno (tkW b L M p)
    · rw [if_neg (by rw [n_lt (by omega) (by omega)]; omega)]
      by_cases y : wno (tkW b L M p) ≤ hi
      · rw [if_neg (by rw [n_lt (by omega) (by omega)]; omega), if_pos ⟨z, w, y⟩]
      · rw [if_pos (by rw [n_lt (by omega) (by omega)]; omega), if_neg (fun t => y t.2.2)]
    · rw [if_pos (by rw [n_lt (by omega) (by omega)]; omega), if_neg (fun t => w t.2.1)]
  · rw [if_neg (by rw [k1, n_eq (by omega) (by omega)]; exact z), if_neg (fun t => z t.1)]
/-- is it the word c, the reference -/
theorem isWordB {m : Mem} {b : Nat → Nat} {L M p : Nat} (K : CKB m b L M p) (c : Int64) : RM_isWord m c = if tkK b L M p = 1 ∧ tkW b L M p = c then 1 else 0 := by
  have kc := tkK_c b L M p
  unfold RM_isWord
  rw [K.1]
  by_cases z : tkK b L M p = 1
  · rw [if_neg (show ¬ (tkK b L M p = 0 ∧ M < L) by omega), z, if_pos (by decide), K.2.2.2.1 z]
    by_cases w : tkW b L M p = c
    · rw [if_pos ((cmp0 _ _).mpr w), if_pos ⟨rfl, w⟩]
    · rw [if_neg (fun y => w ((cmp0 _ _).mp y)), if_neg (fun y => w y.2)]
  · rw [if_neg (show ¬ (tkK b L M p = 1 ∧ tkW b L M p = c) from fun y => z y.1)]
    rw [if_neg]
    split <;> rw [k1, n_eq (by omega) (by omega)] <;> omega
theorem nm_loop {m : Mem} {W : Int64} {kx : Int32 → Option Int32} (hW : gJ m 133 16 = W) (hR : ∀ k, k < 17 → gJ m 138 k = resW.getD k 0) : ∀ (d j fu : Nat) (fl : Bool), j + d = 17 → d < fu → ∃ fl', RM_isName_L16 m kx fu (b2i fl) (nI j) = kx (b2i fl') ∧ (fl' = true ↔ fl = true ∧ ∀ k, j ≤ k → k < 17 → W ≠ resW.getD k 0)
  | 0, j, fu, fl, hd, hf => by
    obtain ⟨f, rfl⟩ : ∃ f, fu = f + 1 := ⟨fu - 1, by omega⟩
    obtain rfl : j = 17 := by omega
    exact ⟨fl, by rw [RM_isName_L16, if_pos (by decide)], ⟨fun z => ⟨z, fun k a c => by omega⟩, fun z => z.1⟩⟩
  | d + 1, j, fu, fl, hd, hf => by
    obtain ⟨f, rfl⟩ : ∃ f, fu = f + 1 := ⟨fu - 1, by omega⟩
    have ej : nI j + 1 = nI (j + 1) := by rw [k1, n_add]
    have e0 : RM_isName_L16 m kx (f + 1) (b2i fl) (nI j) = RM_isName_L16 m kx f (b2i (fl && decide (W ≠ resW.getD j 0))) (nI (j + 1)) := by
      rw [RM_isName_L16, if_neg (by rw [show (17 : Int32) = nI 17 from rfl, n_le (by omega) (by omega)]; omega), ej]
      cases fl with
      | false => rw [if_pos (by decide)]; rfl
      | true =>
        rw [if_neg (by decide), if_pos (n_in (by omega) (by omega)), n_ixn (by omega), hW, hR j (by omega)]
        by_cases q : W = resW.getD j 0
        · rw [if_pos ((cmp0 _ _).mpr q), decide_eq_false (fun y => y q)]; rfl
        · rw [if_neg (fun y => q ((cmp0 _ _).mp y)), decide_eq_true q]; rfl
    obtain ⟨fl', e, o⟩ := nm_loop (kx := kx) hW hR d (j + 1) f (fl && decide (W ≠ resW.getD j 0)) (by omega) (by omega)
    refine ⟨fl', by rw [e0, e], o.trans ?_⟩
    rw [Bool.and_eq_true, decide_eq_true_iff]
    refine ⟨fun ⟨⟨x, y⟩, z⟩ => ⟨x, fun k a c => ?_⟩, fun ⟨x, y⟩ => ⟨⟨x, y j (by omega) (by omega)⟩, fun k a c => y k (by omega) c⟩⟩
    by_cases w : k = j
    · rw [w]; exact y
    · exact z k (by omega) c
theorem isNameB {m : Mem} {b : Nat → Nat} {L M p : Nat} (K : CKB m b L M p) (hR : ∀ k, k < 17 → gJ m 138 k = resW.getD k 0) : RM_isName m = some (if tkK b L M p = 1 ∧ wno (tkW b L M p) = 17 then 1 else 0) := by
  have kc := tkK_c b L M p
  have go : ∀ fl, ∃ fl', RM_isName_J13 m (b2i fl) = some (b2i fl') ∧ (fl' = true ↔ fl = true ∧ ∀ k, 0 ≤ k → k < 17 → gJ m 133 16 ≠ resW.getD k 0) := fun fl => by
    obtain ⟨fl', e, o⟩ := nm_loop (kx := fun y1 => if y1 = 0 ∨ y1 = 1 then (some y1) else none) rfl hR 17 0 FU fl (by omega) (by unfold FU; omega)
    refine ⟨fl', ?_, o⟩
    rw [show nI 0 = 0 from k0.symm] at e
    rw [RM_isName_J13, e, if_pos]
    cases fl' <;> decide
  unfold RM_isName
  by_cases z : tkK b L M p = 1
  · have k10 : gI m 133 10 = 1 := by rw [K.1, if_neg (by omega), z]; rfl
    obtain ⟨fl', e, o⟩ := go true
    rw [k10, if_pos rfl, show (1 : Int32) = b2i true from rfl, e]
    have iff : fl' = true ↔ wno (tkW b L M p) = 17 := by
      rw [o, K.2.2.2.1 z, ← wn (by omega), show nI 17 = 17 from rfl, w17]
      exact ⟨fun t k hk => t.2 k (by omega) hk, fun t => ⟨rfl, fun k _ hk => t k hk⟩⟩
    by_cases w : wno (tkW b L M p) = 17
    · rw [iff.mpr w, if_pos ⟨z, w⟩]
    · have : fl' = false := by cases h : fl' with
        | false => rfl
        | true => exact absurd (iff.mp h) w
      rw [this, if_neg (fun t => w t.2)]; rfl
  · have k10 : ¬ gI m 133 10 = 1 := by
      rw [K.1]
      split <;> rw [k1, n_eq (by omega) (by omega)] <;> omega
    obtain ⟨fl', e, o⟩ := go false
    rw [if_neg k10, show (0 : Int32) = b2i false from rfl, e]
    have : fl' = false := by cases h : fl' with
      | false => rfl
      | true => have := (o.mp h).1; simp at this
    rw [this, if_neg (fun t => z t.1)]
/-- which hay has the name -/
theorem hn_loop {m : Mem} {p H : Nat} {W : Int64} {g : Nat → Int64} (hH : H ≤ 10) (h7 : gI m p 7 = nI H) (hg : ∀ t, t < H → gJ m (p + 14) t = g t) : ∀ (d j fu : Nat), j + d = H → d < fu → (∃ t, j ≤ t ∧ t < H ∧ g t = W ∧ (∀ s, j ≤ s → s < t → g s ≠ W) ∧ PH_hayNamed_L2 m p W (some (-1)) fu (nI j) = some (nI t)) ∨ ((∀ t, j ≤ t → t < H → g t ≠ W) ∧ PH_hayNamed_L2 m p W (some (-1)) fu (nI j) = some (-1))
  | 0, j, fu, hd, hf => by
    obtain ⟨f, rfl⟩ : ∃ f, fu = f + 1 := ⟨fu - 1, by omega⟩
    exact Or.inr ⟨fun t a c => by omega, by rw [PH_hayNamed_L2, h7, if_pos (by rw [n_le (by omega) (by omega)]; omega)]⟩
  | d + 1, j, fu, hd, hf => by
    obtain ⟨f, rfl⟩ : ∃ f, fu = f + 1 := ⟨fu - 1, by omega⟩
    have e0 : PH_hayNamed_L2 m p W (some (-1)) (f + 1) (nI j) = if g j = W then some (nI j) else PH_hayNamed_L2 m p W (some (-1)) f (nI (j + 1)) := by
      rw [PH_hayNamed_L2, h7, if_neg (by rw [n_le (by omega) (by omega)]; omega), if_pos (n_in (by omega) (by omega)), n_ixn (by omega), hg j (by omega), show nI j + 1 = nI (j + 1) by rw [k1, n_add]]
      by_cases q : g j = W
      · rw [if_pos ((cmp0 _ _).mpr q), if_pos q]
      · rw [if_neg (fun y => q ((cmp0 _ _).mp y)), if_neg q]
    by_cases q : g j = W
    · exact Or.inl ⟨j, Nat.le_refl _, by omega, q, fun s a c => by omega, by rw [e0, if_pos q]⟩
    · rcases hn_loop (W := W) hH h7 hg d (j + 1) f (by omega) (by omega) with ⟨t, a1, a2, a3, a4, a5⟩ | ⟨a1, a2⟩
      · exact Or.inl ⟨t, by omega, a2, a3, fun s x y => by
          by_cases w : s = j
          · rw [w]; exact q
          · exact a4 s (by omega) y, by rw [e0, if_neg q, a5]⟩
      · exact Or.inr ⟨fun t x y => by
          by_cases w : t = j
          · rw [w]; exact q
          · exact a1 t (by omega) y, by rw [e0, if_neg q, a2]⟩
theorem fd_loop {m : Mem} {H : Nat} {W : Int64} {g : Nat → Int64} (hH : H ≤ 10) (hW : gJ m 133 16 = W) (hg : ∀ t, t < H → gJ m 137 (3 + t) = g t) : ∀ (d j fu : Nat), j + d = H → d < fu → (∃ t, j ≤ t ∧ t < H ∧ g t = W ∧ (∀ s, j ≤ s → s < t → g s ≠ W) ∧ RM_find_L2 m 3 (nI H) (some (-1)) fu (nI j) = some (nI t)) ∨ ((∀ t, j ≤ t → t < H → g t ≠ W) ∧ RM_find_L2 m 3 (nI H) (some (-1)) fu (nI j) = some (-1))
  | 0, j, fu, hd, hf => by
    obtain ⟨f, rfl⟩ : ∃ f, fu = f + 1 := ⟨fu - 1, by omega⟩
    exact Or.inr ⟨fun t a c => by omega, by rw [RM_find_L2, if_pos (by rw [n_le (by omega) (by omega)]; omega)]⟩
  | d + 1, j, fu, hd, hf => by
    obtain ⟨f, rfl⟩ : ∃ f, fu = f + 1 := ⟨fu - 1, by omega⟩
    have e0 : RM_find_L2 m 3 (nI H) (some (-1)) (f + 1) (nI j) = if g j = W then some (nI j) else RM_find_L2 m 3 (nI H) (some (-1)) f (nI (j + 1)) := by
      rw [RM_find_L2, if_neg (by rw [n_le (by omega) (by omega)]; omega), k3, n_add, if_pos (n_in (by omega) (by omega)), n_ixn (by omega), hg j (by omega), hW, show nI j + 1 = nI (j + 1) by rw [k1, n_add]]
      by_cases q : g j = W
      · rw [if_pos ((cmp0 _ _).mpr q), if_pos q]
      · rw [if_neg (fun y => q ((cmp0 _ _).mp y)), if_neg q]
    by_cases q : g j = W
    · exact Or.inl ⟨j, Nat.le_refl _, by omega, q, fun s a c => by omega, by rw [e0, if_pos q]⟩
    · rcases fd_loop (W := W) hH hW hg d (j + 1) f (by omega) (by omega) with ⟨t, a1, a2, a3, a4, a5⟩ | ⟨a1, a2⟩
      · exact Or.inl ⟨t, by omega, a2, a3, fun s x y => by
          by_cases w : s = j
          · rw [w]; exact q
          · exact a4 s (by omega) y, by rw [e0, if_neg q, a5]⟩
      · exact Or.inr ⟨fun t x y => by
          by_cases w : t = j
          · rw [w]; exact q
          · exact a1 t (by omega) y, by rw [e0, if_neg q, a2]⟩

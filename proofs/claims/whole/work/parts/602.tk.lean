/-! the token at a place -/
def tkq (b : Nat → Nat) (L M p : Nat) : Nat := skp b (min L M) (min L M - p) p
def tkn (b : Nat → Nat) (L M p : Nat) : Nat := rnE b L (L - tkq b L M p) (tkq b L M p) - tkq b L M p
def tkK (b : Nat → Nat) (L M p : Nat) : Nat := if min L M ≤ tkq b L M p then 0 else if b (tkq b L M p) = 59 then 3 else knd b (tkq b L M p) (tkn b L M p)
def tkS (b : Nat → Nat) (L M p : Nat) : Nat := if min L M ≤ tkq b L M p then min L M else tkq b L M p
def tkN (b : Nat → Nat) (L M p : Nat) : Nat := if b (tkq b L M p) = 59 then tkq b L M p + 1 else tkq b L M p + tkn b L M p
def tkW (b : Nat → Nat) (L M p : Nat) : Int64 := wrd b (tkq b L M p) (tkn b L M p)
def tkV (b : Nat → Nat) (L M p : Nat) : Nat := ixn (nmv b (tkq b L M p) (tkn b L M p))
theorem knd_c (b : Nat → Nat) (q n : Nat) : knd b q n = 1 ∨ knd b q n = 2 ∨ knd b q n = 4 := by
  unfold knd; split; exact Or.inl rfl; split; exact Or.inr (Or.inl rfl); exact Or.inr (Or.inr rfl)
theorem tkK_c (b : Nat → Nat) (L M p : Nat) : tkK b L M p = 0 ∨ tkK b L M p = 1 ∨ tkK b L M p = 2 ∨ tkK b L M p = 3 ∨ tkK b L M p = 4 := by
  unfold tkK
  split
  · exact Or.inl rfl
  · split
    · exact Or.inr (Or.inr (Or.inr (Or.inl rfl)))
    · rcases knd_c b (tkq b L M p) (tkn b L M p) with z | z | z <;> rw [z] <;> simp
theorem tkK_end {b : Nat → Nat} {L M p : Nat} (h : min L M ≤ p) : tkK b L M p = 0 := by
  unfold tkK
  rw [if_pos]
  have := skp_ge b (min L M) (min L M - p) p
  unfold tkq
  omega
theorem tkS_le (b : Nat → Nat) (L M p : Nat) : tkS b L M p ≤ min L M := by unfold tkS; split <;> omega
/-- a token that is taken goes on, and stays in the text -/
theorem tkN_gt {b : Nat → Nat} {L M p : Nat} (h : tkK b L M p = 1 ∨ tkK b L M p = 2 ∨ tkK b L M p = 3) : p < tkN b L M p ∧ tkN b L M p ≤ L ∧ tkS b L M p < min L M ∧ p ≤ tkS b L M p := by
  have g := skp_ge b (min L M) (min L M - p) p
  unfold tkK at h
  by_cases z : min L M ≤ tkq b L M p
  · rw [if_pos z] at h; omega
  · rw [if_neg z] at h
    have e : tkS b L M p = tkq b L M p := by unfold tkS; rw [if_neg z]
    rw [e]
    unfold tkN
    by_cases w : b (tkq b L M p) = 59
    · rw [if_pos w]
      have g' : p ≤ tkq b L M p := g
      omega
    · rw [if_neg w] at h ⊢
      have n1 : 1 ≤ tkn b L M p := by
        by_cases y : tkn b L M p = 0
        · rw [y, knd0] at h; omega
        · omega
      have rl := rnE_le b L (L - tkq b L M p) (tkq b L M p) (by omega)
      have g' : p ≤ tkq b L M p := g
      have : tkq b L M p + tkn b L M p ≤ L := by unfold tkn at n1 ⊢; omega
      omega
theorem num2 : ∀ c, c < 10 → ∀ d, d < 10 → ((0 : Int32) * 10 + nI (48 + c) - 48) * 10 + nI (48 + d) - 48 = nI (10 * c + d) := by decide
theorem num1 : ∀ c, c < 10 → ((0 : Int32) * 10 + nI (48 + c) - 48) = nI c := by decide
/-- a number told is at most 99 -/
theorem tkV_eq {b : Nat → Nat} {L M p : Nat} (h : tkK b L M p = 2) : nmv b (tkq b L M p) (tkn b L M p) = nI (tkV b L M p) ∧ tkV b L M p ≤ 99 := by
  unfold tkK at h
  split at h
  · omega
  · split at h
    · omega
    · unfold tkV
      generalize tkq b L M p = q at h
      generalize tkn b L M p = n at h
      have hk : 1 ≤ n ∧ n ≤ 2 ∧ allF (dgB b) q n = true := by
        unfold knd at h
        split at h
        · omega
        · split at h
          · rename_i w; exact w
          · omega
      obtain ⟨h1, h2, h3⟩ := hk
      have d := (allF_iff n).mp h3
      rcases (show n = 1 ∨ n = 2 by omega) with rfl | rfl
      · have d0 := d q (by omega) (by omega)
        simp only [dgB, decide_eq_true_eq] at d0
        obtain ⟨c, hc⟩ : ∃ c, b q = 48 + c := ⟨b q - 48, by omega⟩
        have e : nmv b q 1 = nI c := by
          show (0 : Int32) * 10 + nI (b (q + 0)) - 48 = nI c
          rw [Nat.add_zero, hc, num1 c (by omega)]
        rw [e, n_ixn (by omega)]
        exact ⟨rfl, by omega⟩
      · have d0 := d q (by omega) (by omega)
        have d1 := d (q + 1) (by omega) (by omega)
        simp only [dgB, decide_eq_true_eq] at d0 d1
        obtain ⟨c, hc⟩ : ∃ c, b q = 48 + c := ⟨b q - 48, by omega⟩
        obtain ⟨e, he⟩ : ∃ c, b (q + 1) = 48 + c := ⟨b (q + 1) - 48, by omega⟩
        have e' : nmv b q 2 = nI (10 * c + e) := by
          show ((0 : Int32) * 10 + nI (b (q + 0)) - 48) * 10 + nI (b (q + 1)) - 48 = nI (10 * c + e)
          rw [Nat.add_zero, hc, he, num2 c (by omega) e (by omega)]
        rw [e', n_ixn (by omega)]
        exact ⟨rfl, by omega⟩
theorem TA.fr {m m' : Mem} {b : Nat → Nat} {L M : Nat} {A : List (Nat × Nat)} (T : TA m b L M) (F : Frm A [] m m') (h1 : wL A 1 1 = false) (h9 : wL A 1 9 = false) (h2 : ∀ k, wL A 2 k = false) : TA m' b L M := ⟨T.1, T.2.1, by rw [F.I 1 1 h1]; exact T.2.2.1, by rw [F.I 1 9 h9]; exact T.2.2.2.1, fun i hi => by rw [F.I 2 i (h2 i)]; exact T.2.2.2.2 i hi⟩
/-- the class's current token -/
def CKA (m : Mem) (b : Nat → Nat) (L M p : Nat) : Prop := gI m 1 4 = nI (tkK b L M p) ∧ gI m 1 5 = nI (tkS b L M p) ∧ (tkK b L M p = 1 ∨ tkK b L M p = 2 ∨ tkK b L M p = 3 → gI m 1 10 = nI (tkN b L M p)) ∧ (tkK b L M p = 1 → gI m 1 6 = RD_wordOf (tkW b L M p) ∧ gJ m 1 8 = tkW b L M p) ∧ (tkK b L M p = 2 → gI m 1 7 = nI (tkV b L M p))
theorem adv {m : Mem} {b : Nat → Nat} {L M p : Nat} (T : TA m b L M) (h10 : gI m 1 10 = nI p) (hp : p ≤ L) : ∃ m', RD_advance m = some m' ∧ CKA m' b L M p ∧ TA m' b L M ∧ Frm Ltk [] m m' := by
  obtain ⟨m', e, K, F⟩ := advance_eq T h10 (Or.inr hp)
  refine ⟨m', e, ?_, T.fr F rfl rfl (fun _ => rfl), F⟩
  have V := fun h => tkV_eq (b := b) (L := L) (M := M) (p := p) h
  rcases K with ⟨k1, k2, k3⟩ | ⟨q, hq, hE, k1, k2⟩
  · have z : min L M ≤ tkq b L M p := k1
    have eK : tkK b L M p = 0 := by unfold tkK; rw [if_pos z]
    have eS : tkS b L M p = min L M := by unfold tkS; rw [if_pos z]
    unfold CKA
    rw [eK, eS]
    exact ⟨k2, k3, fun w => by omega, fun w => by omega, fun w => by omega⟩
  · have hq' : tkq b L M p = q := hq.symm
    have eS : tkS b L M p = q := by unfold tkS; rw [hq', if_neg (by omega)]
    rcases k2 with ⟨c1, c2, c3⟩ | ⟨c1, n, hn, c2, c3, c4, c5⟩
    · have eK : tkK b L M p = 3 := by unfold tkK; rw [hq', if_neg (by omega), if_pos c1]
      have eN : tkN b L M p = q + 1 := by unfold tkN; rw [hq', if_pos c1]
      unfold CKA
      rw [eK, eS, eN]
      exact ⟨c2, k1, fun _ => c3, fun w => by omega, fun w => by omega⟩
    · have hn' : tkn b L M p = n := by unfold tkn; rw [hq']; exact hn.symm
      have eK : tkK b L M p = knd b q n := by unfold tkK; rw [hq', if_neg (by omega), if_neg c1, hn']
      have eN : tkN b L M p = q + n := by unfold tkN; rw [hq', if_neg c1, hn']
      have eW : tkW b L M p = wrd b q n := by unfold tkW; rw [hq', hn']
      rw [eK, hq', hn'] at V
      unfold CKA
      rw [eK, eS, eN, eW]
      exact ⟨c2, k1, fun _ => c3, fun w => ⟨(c4 w).2, (c4 w).1⟩, fun w => by rw [c5 w, (V w).1]⟩
/-- the reference's current token -/
def CKB (m : Mem) (b : Nat → Nat) (L M p : Nat) : Prop := gI m 133 10 = nI (if tkK b L M p = 0 ∧ M < L then 4 else tkK b L M p) ∧ gI m 133 11 = nI (tkS b L M p) ∧ (tkK b L M p = 1 ∨ tkK b L M p = 2 ∨ tkK b L M p = 3 → gI m 133 4 = nI (tkN b L M p)) ∧ (tkK b L M p = 1 → gJ m 133 16 = tkW b L M p) ∧ (tkK b L M p = 2 → gI m 133 13 = nI (tkV b L M p)) ∧ (tkK b L M p = 3 → gI m 133 13 = 59)
theorem nxt {m : Mem} {b : Nat → Nat} {L M p : Nat} (T : TB m b L M) (h4 : gI m 133 4 = nI p) (hp : p ≤ L) : ∃ m', RM_next m = some m' ∧ CKB m' b L M p ∧ TB m' b L M ∧ Frm Lnx [] m m' := by
  obtain ⟨m', e, K, F⟩ := next_eq T h4 hp
  refine ⟨m', e, ?_, T.fr F, F⟩
  have V := fun h => tkV_eq (b := b) (L := L) (M := M) (p := p) h
  rcases K with ⟨k1, k2, k3⟩ | ⟨q, hq, hE, k1, k2⟩
  · have z : min L M ≤ tkq b L M p := k1
    have eK : tkK b L M p = 0 := by unfold tkK; rw [if_pos z]
    have eS : tkS b L M p = min L M := by unfold tkS; rw [if_pos z]
    unfold CKB
    rw [eK, eS]
    refine ⟨?_, k3, fun w => by omega, fun w => by omega, fun w => by omega, fun w => by omega⟩
    rcases k2 with ⟨y1, y2⟩ | ⟨y1, y2⟩
    · rw [if_neg (by omega), y2]; rfl
    · rw [if_pos ⟨rfl, y1⟩, y2]; rfl
  · have hq' : tkq b L M p = q := hq.symm
    have eS : tkS b L M p = q := by unfold tkS; rw [hq', if_neg (by omega)]
    rcases k2 with ⟨c1, c2, c3, c4⟩ | ⟨c1, n, hn, c2, c3, c4, c5⟩
    · have eK : tkK b L M p = 3 := by unfold tkK; rw [hq', if_neg (by omega), if_pos c1]
      have eN : tkN b L M p = q + 1 := by unfold tkN; rw [hq', if_pos c1]
      unfold CKB
      rw [eK, eS, eN]
      exact ⟨by rw [if_neg (by omega), c2]; rfl, k1, fun _ => c4, fun w => by omega, fun w => by omega, fun _ => c3⟩
    · have hn' : tkn b L M p = n := by unfold tkn; rw [hq']; exact hn.symm
      have eK : tkK b L M p = knd b q n := by unfold tkK; rw [hq', if_neg (by omega), if_neg c1, hn']
      have eN : tkN b L M p = q + n := by unfold tkN; rw [hq', if_neg c1, hn']
      have eW : tkW b L M p = wrd b q n := by unfold tkW; rw [hq', hn']
      have kc := knd_c b q n
      rw [eK, hq', hn'] at V
      unfold CKB
      rw [eK, eS, eN, eW]
      exact ⟨by rw [if_neg (by omega), c2], k1, fun w => c3 (by omega), c4, fun w => by rw [c5 w, (V w).1], fun w => by omega⟩

/-! the class's table of openings -/
theorem min32 {a b : Nat} (ha : a < 2147483648) (hb : b < 2147483648) : JM_min (nI a) (nI b) = nI (min a b) := by
  unfold JM_min
  by_cases q : a ≤ b
  · rw [Nat.min_eq_left q, if_neg (by rw [n_lt hb ha]; omega)]
  · rw [Nat.min_eq_right (by omega), if_pos (by rw [n_lt hb ha]; omega)]
theorem idx {k p : Nat} (hk : k < 64) (hp : p < 400) : k * 400 + p < 25600 := by omega
theorem idx' {k p : Nat} (hk : k < 64) (hp : p < 400) : k * 400 + p < 2147483648 := by omega
abbrev F25 (m m' : Mem) : Prop := Frm [(25, 999999)] [] m m'
def CX (m : Mem) (C : ScF) (K : Nat) (te E off : Nat → Nat) : Prop := (∀ p, p ≤ C.P → gI m 22 p = nI (off p)) ∧ (∀ j, j < off C.P → gI m 21 j = nI (E j)) ∧ gI m 17 0 = nI C.P ∧ gI m 17 8 = nI K ∧ ∀ e, e < K → gI m 24 e = nI (te e)
theorem CX.fr {m m' : Mem} {C : ScF} {K : Nat} {te E off : Nat → Nat} (h : CX m C K te E off) (F : F25 m m') : CX m' C K te E off := ⟨fun p hp => by rw [F.I 22 p rfl]; exact h.1 p hp, fun j hj => by rw [F.I 21 j rfl]; exact h.2.1 j hj, by rw [F.I 17 0 rfl]; exact h.2.2.1, by rw [F.I 17 8 rfl]; exact h.2.2.2.1, fun e he => by rw [F.I 24 e rfl]; exact h.2.2.2.2 e he⟩
def TC (m : Mem) (T : Nat → Nat → Nat) (M P : Nat) : Prop := ∀ k, 0 < k → k < M → ∀ p, p < P → gI m 25 (k * 400 + p) = nI (T k p)
def RC (m : Mem) (k P : Nat) (R : Nat → Nat) : Prop := ∀ p, p < P → gI m 25 (k * 400 + p) = nI (R p)
abbrev Kp (k : Nat) (m m' : Mem) : Prop := ∀ j, j < k * 400 → gI m' 25 j = gI m 25 j
theorem TC.kp {m m' : Mem} {T : Nat → Nat → Nat} {k P : Nat} (hP : P ≤ 400) (h : TC m T k P) (g : Kp k m m') : TC m' T k P := fun k' h0 h1 p hp => by
  rw [g _ (by have := Nat.mul_le_mul_right 400 (show k' + 1 ≤ k by omega); omega)]; exact h k' h0 h1 p hp
theorem jc_fill {C : ScF} {K k : Nat} {te E off : Nat → Nat} {kx : Mem → Option Mem} (hk : k < 64) (hP : C.P ≤ 400) : ∀ (d p fu : Nat) (m : Mem), p + d = C.P → d < fu → CX m C K te E off → (∀ q, q < p → gI m 25 (k * 400 + q) = nI INF) →
    ∃ m', PC_joinSets_L8 (nI k) (nI (k * 400)) kx fu m (nI p) = kx m' ∧ RC m' k C.P (fun _ => INF) ∧ Kp k m m' ∧ F25 m m'
  | 0, p, fu, m, hd, hf, S, hR => by
    obtain ⟨f, rfl⟩ : ∃ f, fu = f + 1 := ⟨fu - 1, by omega⟩
    obtain rfl : p = C.P := by omega
    exact ⟨m, by rw [PC_joinSets_L8, S.2.2.1, if_pos (by rw [n_le (by omega) (by omega)]; omega)], hR, fun _ _ => rfl, Frm.rf⟩
  | d + 1, p, fu, m, hd, hf, S, hR => by
    obtain ⟨f, rfl⟩ : ∃ f, fu = f + 1 := ⟨fu - 1, by omega⟩
    have F1 : F25 m (sI m 25 (k * 400 + p) (nI INF)) := Frm.sI rfl rfl
    obtain ⟨m', e, a, b, F⟩ := jc_fill (kx := kx) hk hP d (p + 1) f (sI m 25 (k * 400 + p) (nI INF)) (by omega) (by omega) (S.fr F1) (fun q hq => by
      rw [gI_sI]
      by_cases z : q = p
      · rw [if_pos ⟨rfl, by rw [z]⟩]
      · rw [if_neg (by omega)]; exact hR q (by omega))
    refine ⟨m', ?_, a, fun j hj => by rw [b j hj, gI_sI, if_neg (by omega)], F1.tr F⟩
    rw [PC_joinSets_L8, S.2.2.1, if_neg (by rw [n_le (by omega) (by omega)]; omega), n_add, if_pos (n_in (by omega) (by omega)), n_ixn (by omega), letM_o, show nI p + 1 = nI (p + 1) by rw [k1, n_add]]
    exact e
theorem jc_ends {C : ScF} {K k : Nat} {te E off : Nat → Nat} {kx : Mem → Option Mem} (hk : k < 64) (hK : K ≤ 6) (hP : C.P ≤ 400) (ht : ∀ e, e < K → te e < C.P) : ∀ (d e fu : Nat) (m : Mem) (R : Nat → Nat), e + d = K → d < fu → CX m C K te E off → RC m k C.P R → (∀ q, (R q = 0 ∧ ∃ t, t < e ∧ k = 2 ^ t ∧ te t = q) ∨ (R q = INF ∧ ¬ ∃ t, t < e ∧ k = 2 ^ t ∧ te t = q)) →
    ∃ m' R', PC_joinSets_L34 (nI k) (nI (k * 400)) kx fu m (nI e) = kx m' ∧ RC m' k C.P R' ∧ (∀ q, (R' q = 0 ∧ ∃ t, t < K ∧ k = 2 ^ t ∧ te t = q) ∨ (R' q = INF ∧ ¬ ∃ t, t < K ∧ k = 2 ^ t ∧ te t = q)) ∧ Kp k m m' ∧ F25 m m'
  | 0, e, fu, m, R, hd, hf, S, RR, hR => by
    obtain ⟨f, rfl⟩ : ∃ f, fu = f + 1 := ⟨fu - 1, by omega⟩
    obtain rfl : e = K := by omega
    exact ⟨m, R, by rw [PC_joinSets_L34, S.2.2.2.1, if_pos (by rw [n_le (by omega) (by omega)]; omega)], RR, hR, fun _ _ => rfl, Frm.rf⟩
  | d + 1, e, fu, m, R, hd, hf, S, RR, hR => by
    obtain ⟨f, rfl⟩ : ∃ f, fu = f + 1 := ⟨fu - 1, by omega⟩
    have pw : 2 ^ e < 64 := by
      have := Nat.pow_lt_pow_right (a := 2) (by omega) (show e < 6 by omega)
      omega
    have hte := ht e (by omega)
    have ee : nI e + 1 = nI (e + 1) := by rw [k1, n_add]
    by_cases q : k = 2 ^ e
    · have F1 : F25 m (sI m 25 (k * 400 + te e) 0) := Frm.sI rfl rfl
      obtain ⟨m', R', e', a, b, c, F⟩ := jc_ends (kx := kx) hk hK hP ht d (e + 1) f (sI m 25 (k * 400 + te e) 0) (upn R (te e) 0) (by omega) (by omega) (S.fr F1) (fun p hp => by
        rw [gI_sI]
        by_cases z : p = te e
        · rw [if_pos ⟨rfl, by rw [z]⟩, z, upn_eq]; rfl
        · rw [if_neg (by omega), upn_ne z]; exact RR p hp) (fun p => by
        by_cases z : p = te e
        · left; rw [z, upn_eq]; exact ⟨rfl, e, by omega, q, rfl⟩
        · rw [upn_ne z]
          rcases hR p with ⟨x, t, t1, t2⟩ | ⟨x, y⟩
          · exact Or.inl ⟨x, t, by omega, t2⟩
          · refine Or.inr ⟨x, fun ⟨t, t1, t2, t3⟩ => ?_⟩
            by_cases w : t = e
            · rw [w] at t3; exact z t3.symm
            · exact y ⟨t, by omega, t2, t3⟩)
      refine ⟨m', R', ?_, a, b, fun j hj => by rw [c j hj, gI_sI, if_neg (by omega)], F1.tr F⟩
      rw [PC_joinSets_L34, S.2.2.2.1, if_neg (by rw [n_le (by omega) (by omega)]; omega), shl32 e (by omega), if_pos (by rw [← q]), if_pos (n_in (by omega) (by omega)), n_ixn (by omega), S.2.2.2.2 e (by omega), n_add, if_pos (n_in (by omega) (by omega)), n_ixn (by omega), letM_o, ee]
      exact e'
    · obtain ⟨m', R', e', a, b, c, F⟩ := jc_ends (kx := kx) hk hK hP ht d (e + 1) f m R (by omega) (by omega) S RR (fun p => by
        rcases hR p with ⟨x, t, t1, t2⟩ | ⟨x, y⟩
        · exact Or.inl ⟨x, t, by omega, t2⟩
        · refine Or.inr ⟨x, fun ⟨t, t1, t2, t3⟩ => ?_⟩
          by_cases w : t = e
          · rw [w] at t2; exact q t2
          · exact y ⟨t, by omega, t2, t3⟩)
      refine ⟨m', R', ?_, a, b, c, F⟩
      rw [PC_joinSets_L34, S.2.2.2.1, if_neg (by rw [n_le (by omega) (by omega)]; omega), shl32 e (by omega), if_neg (by rw [n_eq (by omega) (by omega)]; exact q), ee]
      exact e'
theorem jc_parts {C : ScF} {K k s : Nat} {te E off : Nat → Nat} {T : Nat → Nat → Nat} {kx : Mem → Option Mem} (hk : k < 64) (hs0 : 0 < s) (hs : s < k) (hP : C.P ≤ 400) (hT : ∀ k p, T k p ≤ INF) : ∀ (d p fu : Nat) (m : Mem) (R : Nat → Nat), p + d = C.P → d < fu → CX m C K te E off → TC m T k C.P → RC m k C.P R → (∀ q, R q ≤ INF) →
    ∃ m', PC_joinParts_L3 (nI (k * 400)) (nI (s * 400)) (nI ((k - s) * 400)) kx fu m (nI p) = kx m' ∧ RC m' k C.P (fun q => if p ≤ q then min (R q) (T s q + T (k - s) q) else R q) ∧ Kp k m m' ∧ F25 m m'
  | 0, p, fu, m, R, hd, hf, S, M, RR, hI => by
    obtain ⟨f, rfl⟩ : ∃ f, fu = f + 1 := ⟨fu - 1, by omega⟩
    obtain rfl : p = C.P := by omega
    exact ⟨m, by rw [PC_joinParts_L3, S.2.2.1, if_pos (by rw [n_le (by omega) (by omega)]; omega)], fun q hq => by simp only [if_neg (show ¬ C.P ≤ q by omega)]; exact RR q hq, fun _ _ => rfl, Frm.rf⟩
  | d + 1, p, fu, m, R, hd, hf, S, M, RR, hI => by
    obtain ⟨f, rfl⟩ : ∃ f, fu = f + 1 := ⟨fu - 1, by omega⟩
    have iI : INF = 100000000 := rfl
    have i1 := hI p
    have i2 := hT s p
    have i3 := hT (k - s) p
    have F1 : F25 m (sI m 25 (k * 400 + p) (nI (min (R p) (T s p + T (k - s) p)))) := Frm.sI rfl rfl
    have K1 : Kp k m (sI m 25 (k * 400 + p) (nI (min (R p) (T s p + T (k - s) p)))) := fun j hj => by rw [gI_sI, if_neg (by omega)]
    obtain ⟨m', e, a, b, F⟩ := jc_parts (kx := kx) hk hs0 hs hP hT d (p + 1) f _ (upn R p (min (R p) (T s p + T (k - s) p))) (by omega) (by omega) (S.fr F1) (M.kp hP K1) (fun q hq => by
      rw [gI_sI]
      by_cases z : q = p
      · rw [if_pos ⟨rfl, by rw [z]⟩, z, upn_eq]
      · rw [if_neg (by omega), upn_ne z]; exact RR q hq) (fun q => by
      by_cases z : q = p
      · rw [z, upn_eq]; omega
      · rw [upn_ne z]; exact hI q)
    refine ⟨m', ?_, fun q hq => ?_, fun j hj => by rw [b j hj, K1 j hj], F1.tr F⟩
    · have p4 : p < 400 := by omega
      have sk : s < 64 := by omega
      have ks : k - s < 64 := by omega
      have lt1 : R p < 2147483648 := by omega
      have lt2 : T s p + T (k - s) p < 2147483648 := by omega
      rw [PC_joinParts_L3, S.2.2.1, if_neg (by rw [n_le (by omega) (by omega)]; omega), n_add, n_add, n_add, if_pos (n_in (idx hk p4) (by decide)), if_pos (n_in (idx sk p4) (by decide)), if_pos (n_in (idx ks p4) (by decide)), n_ixn (idx' hk p4), n_ixn (idx' sk p4), n_ixn (idx' ks p4), RR p (by omega), M s hs0 hs p (by omega), M (k - s) (by omega) (by omega) p (by omega), n_add, min32 lt1 lt2, letM_o, show nI p + 1 = nI (p + 1) by rw [k1, n_add]]
      exact e
    · rw [a q hq]
      by_cases z : q = p
      · simp only [z, if_neg (show ¬ p + 1 ≤ p by omega), upn_eq, if_pos (Nat.le_refl p)]
      · by_cases w : p ≤ q
        · simp only [if_pos (show p + 1 ≤ q by omega), if_pos w, upn_ne z]
        · simp only [if_neg (show ¬ p + 1 ≤ q by omega), if_neg w, upn_ne z]
/-- the four things that a row holds before it is spread -/
def PreR (K P k : Nat) (tm : Nat → Nat) (T : Nat → Nat → Nat) (R : Nat → Nat) (s0 : Nat) : Prop := ∀ q, R q ≤ INF ∧ (q < P → (∀ s, 0 < s → s < s0 → s &&& k = s → s < k - s → R q ≤ T s q + T (k - s) q) ∧ (∀ t, t < K → k = 2 ^ t → tm t = q → R q = 0) ∧ (R q = INF ∨ (R q = 0 ∧ ∃ t, t < K ∧ k = 2 ^ t ∧ tm t = q) ∨ ∃ s, 0 < s ∧ s < k ∧ s &&& k = s ∧ R q = T s q + T (k - s) q))
theorem jc_splits {C : ScF} {K k : Nat} {te E off : Nat → Nat} {T : Nat → Nat → Nat} {kx : Mem → Option Mem} (hk : k < 64) (hP : C.P ≤ 400) (hT : ∀ k p, T k p ≤ INF) : ∀ (d s fu : Nat) (m : Mem) (R : Nat → Nat), s + d = k → 0 < s → d < fu → CX m C K te E off → TC m T k C.P → RC m k C.P R → PreR K C.P k te T R s →
    ∃ m' R', PC_joinSets_L71 (nI k) (nI (k * 400)) kx fu m (nI s) = kx m' ∧ RC m' k C.P R' ∧ PreR K C.P k te T R' k ∧ Kp k m m' ∧ F25 m m'
  | 0, s, fu, m, R, hd, h0, hf, S, M, RR, hR => by
    obtain ⟨f, rfl⟩ : ∃ f, fu = f + 1 := ⟨fu - 1, by omega⟩
    obtain rfl : s = k := by omega
    exact ⟨m, R, by rw [PC_joinSets_L71, if_pos (by rw [n_le (by omega) (by omega)]; omega)], RR, hR, fun _ _ => rfl, Frm.rf⟩
  | d + 1, s, fu, m, R, hd, h0, hf, S, M, RR, hR => by
    obtain ⟨f, rfl⟩ : ∃ f, fu = f + 1 := ⟨fu - 1, by omega⟩
    have es : nI s + 1 = nI (s + 1) := by rw [k1, n_add]
    have c1 : (nI s &&& nI k = nI s) ↔ s &&& k = s := by
      rw [and32 s (by omega) k (by omega)]
      have : s &&& k ≤ s := Nat.and_le_left
      exact n_eq (by omega) (by omega)
    have c2 : (nI k - nI s ≤ nI s) ↔ k - s ≤ s := by rw [n_sub (by omega), n_le (by omega) (by omega)]
    have e0 : PC_joinSets_L71 (nI k) (nI (k * 400)) kx (f + 1) m (nI s) = if (nI s &&& nI k) = nI s then (if (nI k - nI s) ≤ nI s then (PC_joinSets_L71 (nI k) (nI (k * 400)) kx f m (nI (s + 1)))
        else (bM (PC_joinParts m (nI (k * 400)) (nI (s * 400)) (nI ((k - s) * 400))) fun m1 =>
        PC_joinSets_L71 (nI k) (nI (k * 400)) kx f m1 (nI (s + 1))))
        else (PC_joinSets_L71 (nI k) (nI (k * 400)) kx f m (nI (s + 1))) := by
      rw [PC_joinSets_L71, if_neg (by rw [n_le (by omega) (by omega)]; omega), es, show (400 : Int32) = nI 400 from rfl, n_mul, n_sub (show s ≤ k by omega), n_mul]
    by_cases q : s &&& k = s ∧ ¬ k - s ≤ s
    · obtain ⟨m1, e1, r1, k1', F1⟩ := jc_parts (kx := fun m1 => some m1) hk h0 (show s < k by omega) hP hT C.P 0 FU m R (by omega) (by unfold FU; omega) S M RR (fun q => (hR q).1)
      have eP : PC_joinParts m (nI (k * 400)) (nI (s * 400)) (nI ((k - s) * 400)) = some m1 := by
        rw [show nI 0 = 0 from k0.symm] at e1
        exact e1
      obtain ⟨m2, R2, e2, a, b, c, F2⟩ := jc_splits (kx := kx) hk hP hT d (s + 1) f m1 _ (by omega) (by omega) (by omega) (S.fr F1) (M.kp hP k1') r1 (fun p => by
        obtain ⟨x1, x2⟩ := hR p
        simp only [if_pos (Nat.zero_le p)]
        refine ⟨by omega, fun hp => ?_⟩
        obtain ⟨y1, y2, y3⟩ := x2 hp
        refine ⟨fun s' a1 a2 a3 a4 => ?_, fun t b1 b2 b3 => ?_, ?_⟩
        · by_cases z : s' = s
          · rw [z]; omega
          · have := y1 s' a1 (by omega) a3 a4
            omega
        · have := y2 t b1 b2 b3
          omega
        · by_cases z : R p ≤ T s p + T (k - s) p
          · rw [Nat.min_eq_left z]; exact y3
          · rw [Nat.min_eq_right (by omega)]
            exact Or.inr (Or.inr ⟨s, h0, by omega, q.1, rfl⟩))
      refine ⟨m2, R2, ?_, a, b, fun j hj => by rw [c j hj, k1' j hj], F1.tr F2⟩
      rw [e0, if_pos (c1.mpr q.1), if_neg (fun z => q.2 (c2.mp z)), eP, bM_s, e2]
    · obtain ⟨m2, R2, e2, a, b, c, F2⟩ := jc_splits (kx := kx) hk hP hT d (s + 1) f m R (by omega) (by omega) (by omega) S M RR (fun p => by
        obtain ⟨x1, x2⟩ := hR p
        refine ⟨x1, fun hp => ?_⟩
        obtain ⟨y1, y2, y3⟩ := x2 hp
        refine ⟨fun s' a1 a2 a3 a4 => ?_, y2, y3⟩
        by_cases z : s' = s
        · subst z
          exact absurd ⟨a3, by omega⟩ q
        · exact y1 s' a1 (by omega) a3 a4)
      refine ⟨m2, R2, ?_, a, b, c, F2⟩
      rw [e0]
      by_cases z : s &&& k = s
      · rw [if_pos (c1.mpr z), if_pos (c2.mpr (by
          by_cases w : k - s ≤ s
          · exact w
          · exact absurd ⟨z, w⟩ q)), e2]
      · rw [if_neg (fun w => z (c1.mp w)), e2]
theorem joinSets_eq {m : Mem} {C : ScF} {K k : Nat} {te E off : Nat → Nat} {T : Nat → Nat → Nat} (hk0 : 0 < k) (hk : k < 64) (hK : K ≤ 6) (hP : C.P ≤ 400) (ht : ∀ e, e < K → te e < C.P) (hT : ∀ k p, T k p ≤ INF) (S : CX m C K te E off) (M : TC m T k C.P) :
    ∃ m' R, PC_joinSets m (nI k) = some m' ∧ RC m' k C.P R ∧ PreR K C.P k te T R k ∧ Kp k m m' ∧ F25 m m' := by
  obtain ⟨m1, e1, a1, k1', F1⟩ := jc_fill (kx := fun m2 => PC_joinSets_L34 (nI k) (nI (k * 400)) (fun m3 => PC_joinSets_L71 (nI k) (nI (k * 400)) (fun m4 => some m4) FU m3 1) FU m2 0) hk hP C.P 0 FU m (by omega) (by unfold FU; omega) S (fun q hq => absurd hq (Nat.not_lt_zero _))
  obtain ⟨m2, R2, e2, a2, b2, k2', F2⟩ := jc_ends (kx := fun m3 => PC_joinSets_L71 (nI k) (nI (k * 400)) (fun m4 => some m4) FU m3 1) hk hK hP ht K 0 FU m1 _ (by omega) (by unfold FU; omega) (S.fr F1) a1 (fun q => Or.inr ⟨rfl, fun ⟨t, t1, _⟩ => absurd t1 (Nat.not_lt_zero _)⟩)
  obtain ⟨m3, R3, e3, a3, b3, k3', F3⟩ := jc_splits (kx := fun m4 => some m4) hk hP hT (k - 1) 1 FU m2 R2 (by omega) (by omega) (by unfold FU; omega) (S.fr (F1.tr F2)) ((M.kp hP k1').kp hP k2') a2 (fun q => by
    rcases b2 q with ⟨x, y⟩ | ⟨x, y⟩
    · exact ⟨by rw [x]; exact Nat.zero_le _, fun _ => ⟨fun s a b => by omega, fun _ _ _ _ => x, Or.inr (Or.inl ⟨x, y⟩)⟩⟩
    · exact ⟨by rw [x]; exact Nat.le_refl _, fun _ => ⟨fun s a b => by omega, fun t t1 t2 t3 => absurd ⟨t, t1, t2, t3⟩ y, Or.inl x⟩⟩)
  refine ⟨m3, R3, ?_, a3, b3, fun j hj => by rw [k3' j hj, k2' j hj, k1' j hj], (F1.tr F2).tr F3⟩
  rw [show nI 0 = 0 from k0.symm] at e1 e2
  rw [show nI 1 = 1 from k1.symm] at e3
  unfold PC_joinSets
  rw [show (400 : Int32) = nI 400 from rfl, n_mul, letV_o, e1, e2, e3]

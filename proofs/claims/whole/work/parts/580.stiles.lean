/-! stiles: what it costs to join ends -/
/-- ends A joined at v by c openings, told in at most n steps -/
def Ach (adj : Nat → Nat → Prop) (K : Nat) (tm : Nat → Nat) : Nat → (Nat → Bool) → Nat → Nat → Prop
  | 0, _, _, _ => False
  | n + 1, A, v, c => (∃ e, e < K ∧ (∀ i, A i = decide (i = e)) ∧ v = tm e ∧ c = 0) ∨ (∃ u c', adj u v ∧ Ach adj K tm n A u c' ∧ c = c' + 1) ∨ ∃ B C b c', (∀ i, A i = (B i || C i)) ∧ (∀ i, ¬ (B i = true ∧ C i = true)) ∧ Ach adj K tm n B v b ∧ Ach adj K tm n C v c' ∧ c = b + c'
abbrev AchE (adj : Nat → Nat → Prop) (K : Nat) (tm : Nat → Nat) (A : Nat → Bool) (v c : Nat) : Prop := ∃ n, Ach adj K tm n A v c
theorem Ach.mono {adj : Nat → Nat → Prop} {K : Nat} {tm : Nat → Nat} : ∀ (n k : Nat) (A : Nat → Bool) (v c : Nat), n ≤ k → Ach adj K tm n A v c → Ach adj K tm k A v c
  | 0, _, _, _, _, _, h => h.elim
  | n + 1, k, A, v, c, hk, h => by
    obtain ⟨k, rfl⟩ : ∃ j, k = j + 1 := ⟨k - 1, by omega⟩
    rcases h with h | ⟨u, c', a, b, e⟩ | ⟨B, C, b, c', x, y, z, w, e⟩
    · exact Or.inl h
    · exact Or.inr (Or.inl ⟨u, c', a, Ach.mono n k A u c' (by omega) b, e⟩)
    · exact Or.inr (Or.inr ⟨B, C, b, c', x, y, Ach.mono n k B v b (by omega) z, Ach.mono n k C v c' (by omega) w, e⟩)
theorem AchE.leaf {adj : Nat → Nat → Prop} {K : Nat} {tm : Nat → Nat} {A : Nat → Bool} {e : Nat} (he : e < K) (hA : ∀ i, A i = decide (i = e)) : AchE adj K tm A (tm e) 0 := ⟨1, Or.inl ⟨e, he, hA, rfl, rfl⟩⟩
theorem AchE.step {adj : Nat → Nat → Prop} {K : Nat} {tm : Nat → Nat} {A : Nat → Bool} {u v c : Nat} (h : AchE adj K tm A u c) (ha : adj u v) : AchE adj K tm A v (c + 1) := by
  obtain ⟨n, h⟩ := h
  exact ⟨n + 1, Or.inr (Or.inl ⟨u, c, ha, h, rfl⟩)⟩
theorem AchE.join {adj : Nat → Nat → Prop} {K : Nat} {tm : Nat → Nat} {A B C : Nat → Bool} {v b c : Nat} (h1 : AchE adj K tm B v b) (h2 : AchE adj K tm C v c) (x : ∀ i, A i = (B i || C i)) (y : ∀ i, ¬ (B i = true ∧ C i = true)) : AchE adj K tm A v (b + c) := by
  obtain ⟨n1, h1⟩ := h1
  obtain ⟨n2, h2⟩ := h2
  exact ⟨n1 + n2 + 1, Or.inr (Or.inr ⟨B, C, b, c, x, y, Ach.mono n1 _ B v b (by omega) h1, Ach.mono n2 _ C v c (by omega) h2, rfl⟩)⟩
theorem AchE.cg {adj : Nat → Nat → Prop} {K : Nat} {tm : Nat → Nat} {A A' : Nat → Bool} {v c : Nat} (h : AchE adj K tm A v c) (e : ∀ i, A i = A' i) : AchE adj K tm A' v c := by
  obtain rfl : A = A' := funext e
  exact h
/-- ends joined are ends, and some -/
theorem Ach.ends {adj : Nat → Nat → Prop} {K : Nat} {tm : Nat → Nat} : ∀ (n : Nat) (A : Nat → Bool) (v c : Nat), Ach adj K tm n A v c → (∃ i, A i = true) ∧ ∀ i, A i = true → i < K
  | 0, _, _, _, h => h.elim
  | n + 1, A, v, c, h => by
    rcases h with ⟨e, he, hA, -, -⟩ | ⟨u, c', a, b, -⟩ | ⟨B, C, b, c', x, y, z, w, -⟩
    · exact ⟨⟨e, by rw [hA]; simp⟩, fun i hi => by rw [hA] at hi; simp at hi; omega⟩
    · exact Ach.ends n A u c' b
    · obtain ⟨⟨i, hi⟩, hb⟩ := Ach.ends n B v b z
      obtain ⟨-, hc⟩ := Ach.ends n C v c' w
      refine ⟨⟨i, by rw [x, hi]; rfl⟩, fun j hj => ?_⟩
      rw [x, Bool.or_eq_true] at hj
      exact hj.elim (hb j) (hc j)
def MinA (adj : Nat → Nat → Prop) (K : Nat) (tm : Nat → Nat) (A : Nat → Bool) (v D : Nat) : Prop := AchE adj K tm A v D ∧ ∀ c, AchE adj K tm A v c → D ≤ c
theorem MinA.uq {adj : Nat → Nat → Prop} {K : Nat} {tm : Nat → Nat} {A : Nat → Bool} {v D E : Nat} (h : MinA adj K tm A v D) (g : MinA adj K tm A v E) : D = E := by
  have := h.2 _ g.1
  have := g.2 _ h.1
  omega
/-- fewer ends, no more openings -/
theorem Ach.less {adj : Nat → Nat → Prop} {K : Nat} {tm : Nat → Nat} : ∀ (n : Nat) (A : Nat → Bool) (v c : Nat) (A' : Nat → Bool), Ach adj K tm n A v c → (∀ i, A' i = true → A i = true) → (∃ i, A' i = true) → ∃ c', c' ≤ c ∧ AchE adj K tm A' v c'
  | 0, _, _, _, _, h, _, _ => h.elim
  | n + 1, A, v, c, A', h, hs, ⟨i0, hi0⟩ => by
    rcases h with ⟨e, he, hA, hv, -⟩ | ⟨u, c', a, b, e⟩ | ⟨B, C, b, c', x, y, z, w, e⟩
    · refine ⟨0, Nat.zero_le _, ?_⟩
      rw [hv]
      refine AchE.leaf he (fun i => ?_)
      have e0 : i0 = e := by
        have := hs i0 hi0
        rw [hA] at this
        simpa using this
      by_cases q : i = e
      · rw [q, ← e0, hi0]; simp
      · cases z : A' i with
        | false => simp [q]
        | true =>
          have := hs i z
          rw [hA] at this
          simp at this
          exact absurd this q
    · obtain ⟨c1, l1, h1⟩ := Ach.less n A u c' A' b hs ⟨i0, hi0⟩
      exact ⟨c1 + 1, by omega, h1.step a⟩
    · by_cases qB : ∃ i, (A' i && B i) = true
      · obtain ⟨b1, lb, hb⟩ := Ach.less n B v b (fun i => A' i && B i) z (fun i hi => by simp at hi; exact hi.2) qB
        by_cases qC : ∃ i, (A' i && C i) = true
        · obtain ⟨c1, lc, hc⟩ := Ach.less n C v c' (fun i => A' i && C i) w (fun i hi => by simp at hi; exact hi.2) qC
          refine ⟨b1 + c1, by omega, hb.join hc (fun i => ?_) (fun i hi => ?_)⟩
          · show A' i = (A' i && B i || A' i && C i)
            cases z : A' i with
            | false => rfl
            | true =>
              have := hs i z
              rw [x] at this
              simp [this]
          · simp at hi
            exact y i ⟨hi.1.2, hi.2.2⟩
        · refine ⟨b1, by omega, hb.cg (fun i => ?_)⟩
          show (A' i && B i) = A' i
          cases z : A' i with
          | false => rfl
          | true =>
            have t := hs i z
            rw [x] at t
            cases zB : B i with
            | true => rfl
            | false =>
              rw [zB, Bool.false_or] at t
              exact absurd ⟨i, by rw [z, t]; rfl⟩ qC
      · obtain ⟨c1, lc, hc⟩ := Ach.less n C v c' A' w (fun i hi => by
          have t := hs i hi
          rw [x] at t
          cases zB : B i with
          | true => exact absurd ⟨i, by rw [hi, zB]; rfl⟩ qB
          | false => rw [zB, Bool.false_or] at t; exact t) ⟨i0, hi0⟩
        exact ⟨c1, by omega, hc⟩
/-! two tellings of the same ends -/
/-- f tells which end of the one an end of the other is; none: it is at the root -/
theorem Ach.fewer {adj : Nat → Nat → Prop} {K K' r : Nat} {tm tm' : Nat → Nat} {f : Nat → Option Nat} (hf : ∀ i, i < K → (f i = none ∧ tm i = r) ∨ ∃ e, f i = some e ∧ e < K' ∧ tm i = tm' e) : ∀ (n : Nat) (A : Nat → Bool) (v c : Nat) (A' : Nat → Bool), Ach adj K tm n A v c → (∀ e, A' e = true ↔ ∃ i, i < K ∧ A i = true ∧ f i = some e) → (∃ e, A' e = true) → ∃ c', c' ≤ c ∧ AchE adj K' tm' A' v c'
  | 0, _, _, _, _, h, _, _ => h.elim
  | n + 1, A, v, c, A', h, hA', ⟨e0, he0⟩ => by
    rcases h with ⟨i, hi, hA, hv, -⟩ | ⟨u, c', a, b, e⟩ | ⟨B, C, b, c', x, y, z, w, e⟩
    · obtain ⟨j, hj, hj2, fj⟩ := (hA' e0).mp he0
      rw [hA] at hj2
      have ej : j = i := by simpa using hj2
      subst ej
      rcases hf j hj with ⟨q, _⟩ | ⟨e, q1, q2, q3⟩
      · rw [q] at fj; simp at fj
      · rw [q1] at fj
        have ee : e = e0 := Option.some.inj fj
        subst ee
        refine ⟨0, Nat.zero_le _, ?_⟩
        rw [hv, q3]
        refine AchE.leaf q2 (fun t => ?_)
        rw [Bool.eq_iff_iff, hA' t, decide_eq_true_iff]
        refine ⟨fun ⟨s, s1, s2, s3⟩ => ?_, fun z => ⟨j, hj, by rw [hA]; simp, by rw [z]; exact q1⟩⟩
        rw [hA] at s2
        have es : s = j := by simpa using s2
        rw [es, q1] at s3
        exact (Option.some.inj s3).symm
    · obtain ⟨c1, l1, h1⟩ := Ach.fewer hf n A u c' A' b hA' ⟨e0, he0⟩
      exact ⟨c1 + 1, by omega, h1.step a⟩
    · -- the images of both
      obtain ⟨FB, hFB⟩ : ∃ F : Nat → Bool, ∀ e, F e = true ↔ ∃ i, i < K ∧ B i = true ∧ f i = some e := by
        refine ⟨fun e => (List.range K).any (fun i => B i && decide (f i = some e)), fun e => ?_⟩
        simp only [List.any_eq_true, List.mem_range, Bool.and_eq_true, decide_eq_true_iff]
      obtain ⟨FC, hFC⟩ : ∃ F : Nat → Bool, ∀ e, F e = true ↔ ∃ i, i < K ∧ C i = true ∧ f i = some e := by
        refine ⟨fun e => (List.range K).any (fun i => C i && decide (f i = some e)), fun e => ?_⟩
        simp only [List.any_eq_true, List.mem_range, Bool.and_eq_true, decide_eq_true_iff]
      have hU : ∀ e, A' e = true ↔ FB e = true ∨ FC e = true := fun e => by
        rw [hA', hFB, hFC]
        refine ⟨fun ⟨i, a1, a2, a3⟩ => ?_, ?_⟩
        · rw [x, Bool.or_eq_true] at a2
          exact a2.elim (fun q => Or.inl ⟨i, a1, q, a3⟩) (fun q => Or.inr ⟨i, a1, q, a3⟩)
        · rintro (⟨i, a1, a2, a3⟩ | ⟨i, a1, a2, a3⟩)
          · exact ⟨i, a1, by rw [x, a2]; rfl, a3⟩
          · exact ⟨i, a1, by rw [x, a2]; simp, a3⟩
      by_cases qB : ∃ e, FB e = true
      · obtain ⟨b1, lb, n1, hb⟩ := Ach.fewer hf n B v b FB z hFB qB
        by_cases qC : ∃ e, (FC e && !FB e) = true
        · obtain ⟨ec, hec⟩ := qC
          have qC' : ∃ e, FC e = true := ⟨ec, by simp at hec; exact hec.1⟩
          obtain ⟨c1, lc, n2, hc⟩ := Ach.fewer hf n C v c' FC w hFC qC'
          obtain ⟨c2, lc2, hc2⟩ := Ach.less n2 FC v c1 (fun e => FC e && !FB e) hc (fun i hi => by simp at hi; exact hi.1) ⟨ec, hec⟩
          refine ⟨b1 + c2, by omega, AchE.join ⟨n1, hb⟩ hc2 (fun i => ?_) (fun i hi => ?_)⟩
          · rw [Bool.eq_iff_iff, hU]
            show FB i = true ∨ FC i = true ↔ (FB i || FC i && !FB i) = true
            cases FB i <;> cases FC i <;> simp
          · simp at hi
            rw [hi.1] at hi
            simp at hi
        · refine ⟨b1, by omega, AchE.cg ⟨n1, hb⟩ (fun i => ?_)⟩
          rw [Bool.eq_iff_iff, hU]
          refine ⟨Or.inl, fun q => q.elim id (fun q => ?_)⟩
          cases zB : FB i with
          | true => rfl
          | false => exact absurd ⟨i, by rw [q, zB]; rfl⟩ qC
      · obtain ⟨c1, lc, hc⟩ := Ach.fewer hf n C v c' A' w (fun e => by
          rw [hU]
          refine ⟨fun q => (q.elim (fun q => absurd ⟨e, q⟩ qB) (fun q => (hFC e).mp q)), fun q => Or.inr ((hFC e).mpr q)⟩) ⟨e0, he0⟩
        exact ⟨c1, by omega, hc⟩
/-- ends at one place are joined for nothing -/
theorem AchE.same {adj : Nat → Nat → Prop} {K : Nat} {tm : Nat → Nat} {v : Nat} : ∀ (k : Nat) (A : Nat → Bool), (∀ i, A i = true → i < k ∧ i < K ∧ tm i = v) → (∃ i, A i = true) → AchE adj K tm A v 0
  | 0, A, h, ⟨i, hi⟩ => absurd (h i hi).1 (Nat.not_lt_zero _)
  | k + 1, A, h, ⟨i, hi⟩ => by
    cases z : A k with
    | false =>
      exact AchE.same k A (fun j hj => ⟨by
        have := (h j hj).1
        by_cases q : j = k
        · rw [q, z] at hj; simp at hj
        · omega, (h j hj).2⟩) ⟨i, hi⟩
    | true =>
      have hk := h k z
      have L : AchE adj K tm (fun i => decide (i = k)) v 0 := by
        have := AchE.leaf (adj := adj) (tm := tm) (A := fun i => decide (i = k)) hk.2.1 (fun i => rfl)
        rw [hk.2.2] at this
        exact this
      by_cases q : ∃ i, (A i && !decide (i = k)) = true
      · have R := AchE.same (adj := adj) k (fun i => A i && !decide (i = k)) (fun j hj => by
          simp at hj
          have := h j hj.1
          exact ⟨by omega, this.2⟩) q
        refine L.join R (fun j => ?_) (fun j hj => ?_)
        · show A j = (decide (j = k) || A j && !decide (j = k))
          by_cases e : j = k
          · subst e; simp [z]
          · simp [e]
        · simp at hj
          exact hj.2.2 hj.1
      · refine L.cg (fun j => ?_)
        show decide (j = k) = A j
        by_cases e : j = k
        · subst e; simp [z]
        · cases zj : A j with
          | false => simp [e]
          | true => exact absurd ⟨j, by simp [zj, e]⟩ q
/-- back: each end of the one stands for all its ends of the other -/
theorem Ach.more {adj : Nat → Nat → Prop} {K K' : Nat} {tm tm' : Nat → Nat} {f : Nat → Option Nat} (hf : ∀ i, i < K → f i = none ∨ ∃ e, f i = some e ∧ e < K' ∧ tm i = tm' e) (hs : ∀ e, e < K' → ∃ i, i < K ∧ f i = some e) : ∀ (n : Nat) (A' : Nat → Bool) (v c : Nat) (A : Nat → Bool), Ach adj K' tm' n A' v c → (∀ i, A i = true ↔ i < K ∧ ∃ e, f i = some e ∧ A' e = true) → AchE adj K tm A v c
  | 0, _, _, _, _, h, _ => h.elim
  | n + 1, A', v, c, A, h, hA => by
    rcases h with ⟨e, he, hA', hv, hc⟩ | ⟨u, c', a, b, e⟩ | ⟨B, C, b, c', x, y, z, w, e⟩
    · rw [hc]
      refine AchE.same K A (fun i hi => ?_) ?_
      · obtain ⟨h1, e', h2, h3⟩ := (hA i).mp hi
        rw [hA'] at h3
        have ee : e' = e := by simpa using h3
        subst ee
        rcases hf i h1 with q | ⟨e'', q1, q2, q3⟩
        · rw [q] at h2; simp at h2
        · rw [h2] at q1
          have : e' = e'' := Option.some.inj q1
          subst this
          exact ⟨h1, h1, by rw [q3, hv]⟩
      · obtain ⟨i, hi, fi⟩ := hs e he
        exact ⟨i, (hA i).mpr ⟨hi, e, fi, by rw [hA']; simp⟩⟩
    · rw [e]
      exact (Ach.more hf hs n A' u c' A b hA).step a
    · rw [e]
      have cov : ∀ (F : Nat → Bool), ∃ G : Nat → Bool, ∀ i, G i = true ↔ i < K ∧ ∃ e, f i = some e ∧ F e = true := fun F => by
        refine ⟨fun i => decide (i < K) && (match f i with | none => false | some e => F e), fun i => ?_⟩
        rw [Bool.and_eq_true, decide_eq_true_iff]
        refine and_congr_right fun _ => ?_
        cases f i with
        | none => simp
        | some e => simp
      obtain ⟨GB, hGB⟩ := cov B
      obtain ⟨GC, hGC⟩ := cov C
      have h1 := Ach.more hf hs n B v b GB z hGB
      have h2 := Ach.more hf hs n C v c' GC w hGC
      refine h1.join h2 (fun i => ?_) (fun i hi => ?_)
      · rw [Bool.eq_iff_iff, hA, Bool.or_eq_true, hGB, hGC]
        refine ⟨fun ⟨a1, e', a2, a3⟩ => ?_, ?_⟩
        · rw [x, Bool.or_eq_true] at a3
          exact a3.elim (fun q => Or.inl ⟨a1, e', a2, q⟩) (fun q => Or.inr ⟨a1, e', a2, q⟩)
        · rintro (⟨a1, e', a2, a3⟩ | ⟨a1, e', a2, a3⟩)
          · exact ⟨a1, e', a2, by rw [x, a3]; rfl⟩
          · exact ⟨a1, e', a2, by rw [x, a3]; simp⟩
      · obtain ⟨-, e1, a2, a3⟩ := (hGB i).mp hi.1
        obtain ⟨-, e2, b2, b3⟩ := (hGC i).mp hi.2
        rw [a2] at b2
        have : e1 = e2 := Option.some.inj b2
        subst this
        exact y e1 ⟨a3, b3⟩
/-- both tellings cost the same at the root -/
theorem two_tellings {adj : Nat → Nat → Prop} {K K' r D D' : Nat} {tm tm' : Nat → Nat} {f : Nat → Option Nat} (hf : ∀ i, i < K → (f i = none ∧ tm i = r) ∨ ∃ e, f i = some e ∧ e < K' ∧ tm i = tm' e) (hs : ∀ e, e < K' → ∃ i, i < K ∧ f i = some e) (hK' : 0 < K') (h : MinA adj K tm (fun i => decide (i < K)) r D) (g : MinA adj K' tm' (fun i => decide (i < K')) r D') : D = D' := by
  obtain ⟨⟨n, h1⟩, h2⟩ := h
  obtain ⟨⟨n', g1⟩, g2⟩ := g
  have a : D' ≤ D := by
    obtain ⟨c, lc, hc⟩ := Ach.fewer hf n _ r D (fun i => decide (i < K')) h1 (fun e => by
      rw [decide_eq_true_iff]
      refine ⟨fun q => ?_, fun ⟨i, a1, a2, a3⟩ => ?_⟩
      · obtain ⟨i, hi, fi⟩ := hs e q
        exact ⟨i, hi, decide_eq_true hi, fi⟩
      · rcases hf i a1 with ⟨q, _⟩ | ⟨e', q1, q2, q3⟩
        · rw [q] at a3; simp at a3
        · rw [q1] at a3
          rw [← Option.some.inj a3]; exact q2) ⟨0, decide_eq_true hK'⟩
    exact Nat.le_trans (g2 c hc) lc
  have b : D ≤ D' := by
    have hf' : ∀ i, i < K → f i = none ∨ ∃ e, f i = some e ∧ e < K' ∧ tm i = tm' e := fun i hi => (hf i hi).elim (fun q => Or.inl q.1) Or.inr
    have m1 := Ach.more hf' hs n' _ r D' (fun i => decide (i < K) && (f i).isSome) g1 (fun i => by
      rw [Bool.and_eq_true, decide_eq_true_iff]
      refine and_congr_right fun hi => ?_
      rcases hf' i hi with q | ⟨e, q1, q2, -⟩
      · rw [q]; simp
      · rw [q1]; simp [q2])
    by_cases q : ∃ i, (decide (i < K) && (f i).isNone) = true
    · have m2 := AchE.same (adj := adj) (K := K) (tm := tm) (v := r) K (fun i => decide (i < K) && (f i).isNone) (fun i hi => by
        rw [Bool.and_eq_true, decide_eq_true_iff] at hi
        rcases hf i hi.1 with ⟨_, z⟩ | ⟨e, z, _⟩
        · exact ⟨hi.1, hi.1, z⟩
        · rw [z] at hi; simp at hi) q
      have m3 := m1.join (A := fun i => decide (i < K)) m2 (fun i => by
        show decide (i < K) = (decide (i < K) && (f i).isSome || decide (i < K) && (f i).isNone)
        cases f i <;> simp) (fun i hi => by
        obtain ⟨x, y⟩ := hi
        rw [Bool.and_eq_true] at x y
        cases z : f i with
        | none => rw [z] at x; simp at x
        | some e => rw [z] at y; simp at y)
      rw [Nat.add_zero] at m3
      exact h2 _ m3
    · refine h2 _ (m1.cg (fun i => ?_))
      show (decide (i < K) && (f i).isSome) = decide (i < K)
      by_cases hi : i < K
      · cases z : f i with
        | none => exact absurd ⟨i, by rw [z, decide_eq_true hi]; rfl⟩ q
        | some e => simp
      · simp [hi]
  omega

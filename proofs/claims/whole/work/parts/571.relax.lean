/-! relaxing -/
theorem sE_nn (U V : Nat → Int) (r c : Int) : ∀ n : Nat, 0 ≤ sE U V r c n ∧ sE U V r c n ≤ n
  | 0 => by simp [sE]
  | n + 1 => by
    have := sE_nn U V r c n
    have h : 0 ≤ cE (U n) (V n) (U (n + 1)) (V (n + 1)) r c ∧ cE (U n) (V n) (U (n + 1)) (V (n + 1)) r c ≤ 1 := by
      unfold cE
      split <;> split <;> omega
    simp only [sE]
    omega
theorem stv_nn (U V : Nat → Int) (n s d : Nat) : 0 ≤ stv U V n s d ∧ stv U V n s d ≤ n := by
  unfold stv crv
  split
  · exact sE_nn _ _ _ _ _
  · exact sE_nn _ _ _ _ _
def stX (U V : Nat → Int) (n : Nat) (s d : Nat) : Nat := (stv U V n s d).toNat
theorem stX_n (U V : Nat → Int) (n s d : Nat) : iz (stv U V n s d) = nI (stX U V n s d) := by
  have := stv_nn U V n s d
  unfold stX
  rw [nI_iz]
  congr 1
  omega
theorem stX_le {U V : Nat → Int} {n s d : Nat} (h : n ≤ 12) : stX U V n s d ≤ 12 := by
  have := stv_nn U V n s d
  unfold stX
  omega
def wt (C : Nat) (X : Nat → Nat → Nat) (u d : Nat) : Nat := C * X u d + 1
def rlx (C : Nat) (X : Nat → Nat → Nat) (u d : Nat) (D : Nat → Nat) : Nat → Nat := match nb u d with
  | none => D
  | some v => if D u + wt C X u d < D v then upn D v (D u + wt C X u d) else D
theorem rlx_def (C : Nat) (X : Nat → Nat → Nat) (u d : Nat) (D : Nat → Nat) : rlx C X u d D = match nb u d with
  | none => D
  | some v => if D u + wt C X u d < D v then upn D v (D u + wt C X u d) else D := rfl
theorem nb_ne {u d v : Nat} (h : nb u d = some v) : v ≠ u := by
  unfold nb at h
  split at h
  · split at h <;> simp at h; omega
  · split at h
    · split at h <;> simp at h; omega
    · split at h
      · split at h <;> simp at h; omega
      · split at h <;> simp at h; omega
theorem rlx_le (C : Nat) (X : Nat → Nat → Nat) (u d : Nat) (D : Nat → Nat) (v : Nat) : rlx C X u d D v ≤ D v := by
  unfold rlx
  cases nb u d with
  | none => exact Nat.le_refl _
  | some w =>
    simp only
    split
    · by_cases q : v = w
      · rw [q, upn_eq]; omega
      · rw [upn_ne q]; exact Nat.le_refl _
    · exact Nat.le_refl _
theorem rlx_u (C : Nat) (X : Nat → Nat → Nat) (u d : Nat) (D : Nat → Nat) : rlx C X u d D u = D u := by
  unfold rlx
  cases h : nb u d with
  | none => rfl
  | some w =>
    simp only
    split
    · rw [upn_ne (fun z => nb_ne h z.symm)]
    · rfl
theorem rlx_v {C : Nat} {X : Nat → Nat → Nat} {u d v : Nat} {D : Nat → Nat} (h : nb u d = some v) : rlx C X u d D v ≤ D u + wt C X u d := by
  unfold rlx
  rw [h]
  simp only
  split
  · rw [upn_eq]; exact Nat.le_refl _
  · omega
def rl4 (C : Nat) (X : Nat → Nat → Nat) (u : Nat) (D : Nat → Nat) : Nat → Nat := rlx C X u 3 (rlx C X u 2 (rlx C X u 1 (rlx C X u 0 D)))
theorem rl4_le (C : Nat) (X : Nat → Nat → Nat) (u : Nat) (D : Nat → Nat) (v : Nat) : rl4 C X u D v ≤ D v :=
  Nat.le_trans (rlx_le _ _ _ _ _ _) (Nat.le_trans (rlx_le _ _ _ _ _ _) (Nat.le_trans (rlx_le _ _ _ _ _ _) (rlx_le _ _ _ _ _ _)))
theorem rl4_v {C : Nat} {X : Nat → Nat → Nat} {u d v : Nat} {D : Nat → Nat} (hd : d < 4) (h : nb u d = some v) : rl4 C X u D v ≤ D u + wt C X u d := by
  have l : ∀ d' (D : Nat → Nat), rlx C X u d' D v ≤ D v := fun d' D => rlx_le _ _ _ _ _ _
  unfold rl4
  rcases (show d = 0 ∨ d = 1 ∨ d = 2 ∨ d = 3 by omega) with rfl | rfl | rfl | rfl
  · exact Nat.le_trans (l 3 _) (Nat.le_trans (l 2 _) (Nat.le_trans (l 1 _) (rlx_v h)))
  · refine Nat.le_trans (l 3 _) (Nat.le_trans (l 2 _) ?_)
    have := rlx_v (C := C) (X := X) (D := rlx C X u 0 D) h
    rw [rlx_u] at this
    exact this
  · refine Nat.le_trans (l 3 _) ?_
    have := rlx_v (C := C) (X := X) (D := rlx C X u 1 (rlx C X u 0 D)) h
    rw [rlx_u, rlx_u] at this
    exact this
  · have := rlx_v (C := C) (X := X) (D := rlx C X u 2 (rlx C X u 1 (rlx C X u 0 D))) h
    rw [rlx_u, rlx_u, rlx_u] at this
    exact this
def rla (C : Nat) (X : Nat → Nat → Nat) : Nat → Nat → (Nat → Nat) → (Nat → Nat)
  | 0, _, D => D
  | n + 1, u, D => rla C X n (u + 1) (rl4 C X u D)
theorem rla_le (C : Nat) (X : Nat → Nat → Nat) : ∀ (n u : Nat) (D : Nat → Nat) (v : Nat), rla C X n u D v ≤ D v
  | 0, _, _, _ => Nat.le_refl _
  | n + 1, u, D, v => Nat.le_trans (rla_le C X n (u + 1) _ v) (rl4_le _ _ _ _ _)
theorem rla_v {C : Nat} {X : Nat → Nat → Nat} : ∀ (n u : Nat) (D : Nat → Nat) (w d v : Nat), u ≤ w → w < u + n → d < 4 → nb w d = some v → rla C X n u D v ≤ D w + wt C X w d
  | 0, u, D, w, d, v, h1, h2, _, _ => by omega
  | n + 1, u, D, w, d, v, h1, h2, hd, hb => by
    unfold rla
    by_cases q : w = u
    · subst q
      exact Nat.le_trans (rla_le _ _ _ _ _ _) (rl4_v hd hb)
    · have := rla_v (C := C) (X := X) n (u + 1) (rl4 C X u D) w d v (by omega) (by omega) hd hb
      have l := rl4_le C X u D w
      omega
abbrev INF : Nat := 100000000
/-- each is a cost of a walk, or not reached -/
def JD (C : Nat) (X : Nat → Nat → Nat) (s : Nat) (D : Nat → Nat) : Prop := D s = 0 ∧ (∀ v, D v ≤ INF) ∧ ∀ v, v < 400 → D v = INF ∨ ∃ n c, Wq X s n v c ∧ D v = C * c + n
theorem JD.rx {C : Nat} {X : Nat → Nat → Nat} {s u d : Nat} {D : Nat → Nat} (hu : u < 400) (hd : d < 4) (h : JD C X s D) : JD C X s (rlx C X u d D) := by
  obtain ⟨h1, h2, h3⟩ := h
  refine ⟨by have := rlx_le C X u d D s; omega, fun v => Nat.le_trans (rlx_le _ _ _ _ _ _) (h2 v), fun v hv => ?_⟩
  rw [rlx_def]
  cases hb : nb u d with
  | none => exact h3 v hv
  | some w =>
    simp only
    split
    · rename_i q
      by_cases z : v = w
      · subst z
        rw [upn_eq]
        right
        rcases h3 u hu with e | ⟨n, c, a, b⟩
        · have := h2 v; omega
        · exact ⟨n + 1, c + X u d, ⟨u, d, c, a, hd, hu, hb, rfl⟩, by rw [b, wt, Nat.mul_add]; omega⟩
      · rw [upn_ne z]; exact h3 v hv
    · exact h3 v hv
theorem JD.r4 {C : Nat} {X : Nat → Nat → Nat} {s u : Nat} {D : Nat → Nat} (hu : u < 400) (h : JD C X s D) : JD C X s (rl4 C X u D) :=
  (((h.rx hu (d := 0) (by omega)).rx hu (d := 1) (by omega)).rx hu (d := 2) (by omega)).rx hu (d := 3) (by omega)
theorem JD.ra {C : Nat} {X : Nat → Nat → Nat} {s : Nat} : ∀ (n u : Nat) (D : Nat → Nat), u + n ≤ 400 → JD C X s D → JD C X s (rla C X n u D)
  | 0, u, D, _, h => h
  | n + 1, u, D, hu, h => JD.ra n (u + 1) _ (by omega) (h.r4 (by omega))
/-- as cheap as each walk of at most i steps -/
def LW (C : Nat) (X : Nat → Nat → Nat) (s i : Nat) (D : Nat → Nat) : Prop := ∀ n c v, n ≤ i → v < 400 → Wq X s n v c → D v ≤ C * c + n
theorem LW.all {C : Nat} {X : Nat → Nat → Nat} {s i : Nat} {D : Nat → Nat} (hi : 399 ≤ i) (h : LW C X s i D) : ∀ n c v, v < 400 → Wq X s n v c → D v ≤ C * c + n := by
  intro n c v hv w
  obtain ⟨n', c', a, b, e⟩ := Wq_min (C := C) hv _ ⟨n, c, w, Nat.le_refl _⟩
  exact Nat.le_trans (h n' c' v (by omega) hv a) (e n c w)
theorem Wq_c {X : Nat → Nat → Nat} {s : Nat} (hX : ∀ u d, X u d ≤ 12) : ∀ n v c, Wq X s n v c → c ≤ 12 * n
  | 0, v, c, h => by rw [h.2]; exact Nat.zero_le _
  | n + 1, v, c, ⟨u, d, c', h, _, _, _, e⟩ => by
    have a := Wq_c hX n u c' h
    have b := hX u d
    omega
/-- cheapest: then it is Opt -/
theorem JD.opt {C : Nat} {X : Nat → Nat → Nat} {s v : Nat} {D : Nat → Nat} (hC : C ≤ 1000) (hX : ∀ u d, X u d ≤ 12) (hs : s < 400) (hv : v < 400) (h : JD C X s D) (g : ∀ n c v, v < 400 → Wq X s n v c → D v ≤ C * c + n) : Opt X C s v (D v) := by
  obtain ⟨E, n, c, w, hn, e, o⟩ := Opt.ex (X := X) (C := C) hs hv
  have a := g n c v hv w
  have b := Wq_c hX n v c w
  have b' : C * c ≤ 1000 * (12 * 399) := Nat.mul_le_mul hC (by omega)
  rcases h.2.2 v hv with z | ⟨n', c', w', z⟩
  · exfalso
    have : INF = 100000000 := rfl
    omega
  · have := o n' c' w'
    exact ⟨n, c, w, hn, by omega, fun n'' c'' w'' => g _ _ v hv w''⟩
theorem LW.step {C : Nat} {X : Nat → Nat → Nat} {s i : Nat} {D D' : Nat → Nat} (h : LW C X s i D) (hl : ∀ v, D' v ≤ D v) (hr : ∀ u d v, u < 400 → d < 4 → nb u d = some v → D' v ≤ D u + wt C X u d) : LW C X s (i + 1) D' := by
  intro n c v hn hv w
  cases n with
  | zero => exact Nat.le_trans (hl v) (h 0 c v (by omega) hv w)
  | succ n =>
    obtain ⟨u, d, c', w', hd, hu, hb, e⟩ := w
    have a := hr u d v hu hd hb
    have b := h n c' u (by omega) hu w'
    rw [e, Nat.mul_add]
    unfold wt at a
    omega
theorem LW.fix {C : Nat} {X : Nat → Nat → Nat} {s : Nat} {D : Nat → Nat} (h0 : D s = 0) (hr : ∀ u d v, u < 400 → d < 4 → nb u d = some v → D v ≤ D u + wt C X u d) : ∀ n c v, v < 400 → Wq X s n v c → D v ≤ C * c + n
  | 0, c, v, hv, w => by rw [w.1, h0]; exact Nat.zero_le _
  | n + 1, c, v, hv, ⟨u, d, c', w', hd, hu, hb, e⟩ => by
    have a := hr u d v hu hd hb
    have b := LW.fix h0 hr n c' u hu w'
    rw [e, Nat.mul_add]
    unfold wt at a
    omega
/-- nothing is cheaper any more -/
theorem LW.still {C : Nat} {X : Nat → Nat → Nat} {s u d v : Nat} {D : Nat → Nat} (h : JD C X s D) (g : ∀ n c v, v < 400 → Wq X s n v c → D v ≤ C * c + n) (hu : u < 400) (hd : d < 4) (hb : nb u d = some v) : ¬ D u + wt C X u d < D v := by
  intro q
  rcases h.2.2 u hu with e | ⟨n, c, a, b⟩
  · have := h.2.1 v; omega
  · have := g (n + 1) (c + X u d) v (nb_lt hu hb) ⟨u, d, c, a, hd, hu, hb, rfl⟩
    rw [Nat.mul_add] at this
    unfold wt at q
    omega

/-! paces: how few rows mend it -/
theorem letV_i (a : Int32) (f : Int32 → Option Int32) : letV a f = f a := rfl
def cnP (P : Nat → Bool) (g : Nat → Nat) : Nat → Nat
  | 0 => 0
  | n + 1 => cnP P g n + (if P (g n) = true then 1 else 0)
theorem cnP_cong {P : Nat → Bool} {g h : Nat → Nat} : ∀ n, (∀ i, i < n → g i = h i) → cnP P g n = cnP P h n
  | 0, _ => rfl
  | n + 1, e => by unfold cnP; rw [cnP_cong n (fun i hi => e i (by omega)), e n (by omega)]
theorem cnP_le {P : Nat → Bool} {g : Nat → Nat} : ∀ n, cnP P g n ≤ n
  | 0 => Nat.le_refl _
  | n + 1 => by unfold cnP; have := cnP_le (P := P) (g := g) n; split <;> omega
theorem cnP_zero {P : Nat → Bool} {g : Nat → Nat} : ∀ n, (∀ i, i < n → P (g i) = false) → cnP P g n = 0
  | 0, _ => rfl
  | n + 1, e => by unfold cnP; rw [cnP_zero n (fun i hi => e i (by omega)), e n (by omega)]; rfl
theorem cnP_up {P : Nat → Bool} {g : Nat → Nat} {i : Nat} (h0 : P 0 = false) : ∀ n, i < n → cnP P g n = cnP P (upD g i 0) n + (if P (g i) = true then 1 else 0)
  | 0, h => by omega
  | n + 1, h => by
    unfold cnP
    by_cases z : i = n
    · rw [z, cnP_cong (g := g) (h := upD g n 0) n (fun j hj => by unfold upD; rw [if_neg (by omega)])]
      have : upD g n 0 n = 0 := by unfold upD; rw [if_pos rfl]
      rw [this, h0]
      simp
    · rw [cnP_up (g := g) (i := i) h0 n (by omega)]
      have : upD g i 0 n = g n := by unfold upD; rw [if_neg (by omega)]
      rw [this]
      omega
abbrev cw (g : Nat → Nat) (n w : Nat) : Nat := cnP (fun x => decide (x = w)) g n
abbrev cpo (g : Nat → Nat) (n : Nat) : Nat := cnP (fun x => decide (0 < x)) g n
def mdS : Nat → Nat → Int → Nat → Int × Nat
  | 0, _, e, k => (e, k)
  | r + 1, v, e, k => if e ≤ 0 then (e, k) else mdS r v (e - v) (k + 1)
def lpm (c : Nat → Nat) : Nat → Int → Nat → Int × Nat
  | 0, e, k => (e, k)
  | v + 1, e, k => lpm c v (mdS (c (v + 1)) (v + 1) e k).1 (mdS (c (v + 1)) (v + 1) e k).2
def cls (c : Nat → Nat) (e : Int) (k : Nat) : Int32 := if (lpm c 98 e k).1 ≤ 0 then nI (lpm c 98 e k).2 else -1
theorem mdS_end {e : Int} (h : e ≤ 0) (r v k : Nat) : mdS r v e k = (e, k) := by
  cases r with
  | zero => rfl
  | succ r => unfold mdS; rw [if_pos h]
theorem lpm_end {c : Nat → Nat} {e : Int} (h : e ≤ 0) (k : Nat) : ∀ v, lpm c v e k = (e, k)
  | 0 => rfl
  | v + 1 => by unfold lpm; rw [mdS_end h]; exact lpm_end h k v
theorem lpm_none {c : Nat → Nat} {e : Int} {k : Nat} : ∀ v, (∀ w, 1 ≤ w → w ≤ v → c w = 0) → lpm c v e k = (e, k)
  | 0, _ => rfl
  | v + 1, h => by unfold lpm; rw [h (v + 1) (by omega) (by omega)]; exact lpm_none v (fun w a b => h w a (by omega))
theorem lpm_cong {c c' : Nat → Nat} : ∀ v (e : Int) (k : Nat), (∀ w, 1 ≤ w → w ≤ v → c w = c' w) → lpm c v e k = lpm c' v e k
  | 0, _, _, _ => rfl
  | v + 1, e, k, h => by unfold lpm; rw [h (v + 1) (by omega) (by omega)]; exact lpm_cong v _ _ (fun w a b => h w a (by omega))
/-- the largest gain may be taken first -/
theorem lpm_take {c c' : Nat → Nat} {e : Int} {k v : Nat} (h1 : 1 ≤ v) (hv : c v = c' v + 1) (hlt : ∀ w, w < v → 1 ≤ w → c w = c' w) (he : 0 < e) : ∀ V, v ≤ V → (∀ w, v < w → w ≤ V → c w = 0 ∧ c' w = 0) → lpm c V e k = lpm c' V (e - v) (k + 1)
  | 0, hV, _ => by omega
  | V + 1, hV, h => by
    unfold lpm
    by_cases z : v = V + 1
    · rw [← z, hv]
      show lpm c V (mdS (c' v + 1) v e k).1 (mdS (c' v + 1) v e k).2 = _
      have : mdS (c' v + 1) v e k = mdS (c' v) v (e - v) (k + 1) := by
        show (if e ≤ 0 then _ else _) = _
        rw [if_neg (by omega)]
      rw [this]
      exact lpm_cong V _ _ (fun w a b => hlt w (by omega) a)
    · rw [(h (V + 1) (by omega) (by omega)).1, (h (V + 1) (by omega) (by omega)).2]
      exact lpm_take h1 hv hlt he V (by omega) (fun w a b => h w a (by omega))
/-! the gain of a row -/
def gnr (D V : Nat → Nat) (d : Int) (pl mi : Nat) (i : Nat) : Nat := if D i = pl then (if 0 < d then V i - 1 else 99 - V i) else if D i = mi then (if 0 < d then 99 - V i else V i - 1) else 0
def smD (D V : Nat → Nat) (q : Nat) : Nat → Nat
  | 0 => 0
  | n + 1 => smD D V q n + (if D n = q then V n else 0)
theorem smD_le {D V : Nat → Nat} {q : Nat} : ∀ n, (∀ i, i < n → V i ≤ 99) → smD D V q n ≤ 99 * n
  | 0, _ => Nat.le_refl _
  | n + 1, h => by unfold smD; have := smD_le (D := D) (q := q) n (fun i hi => h i (by omega)); have := h n (by omega); split <;> omega
theorem gnr_le {D V : Nat → Nat} {d : Int} {pl mi i : Nat} (h : 1 ≤ V i ∧ V i ≤ 99) : gnr D V d pl mi i ≤ 98 := by
  unfold gnr
  split
  · split <;> omega
  · split
    · split <;> omega
    · omega

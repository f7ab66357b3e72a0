/-! by night: kind by kind is as place by place -/
def unlB (n : Nat) (X Y : Nat → Int) : Bool := alN (fun e => !(decide (X e = X (nx n e) ∧ Y e = Y (nx n e)))) n 0
theorem alN_iff {g : Nat → Bool} : ∀ n j, alN g n j = true ↔ ∀ i, j ≤ i → i < j + n → g i = true
  | 0, j => ⟨fun _ i a c => by omega, fun _ => rfl⟩
  | n + 1, j => by
    simp only [alN, Bool.and_eq_true]
    rw [alN_iff n (j + 1)]
    constructor
    · rintro ⟨h1, h2⟩ i a c
      by_cases q : i = j
      · rw [q]; exact h1
      · exact h2 i (by omega) (by omega)
    · intro h
      exact ⟨h j (by omega) (by omega), fun i a c => h i (by omega) (by omega)⟩
theorem Chg.unl {n : Nat} {X Y X' Y' : Nat → Int} {sk : Nat → Bool} {l : List Nat} (C : Chg n X Y X' Y' sk l) (hu : ∀ i, i < n → ¬ (X i = X (nx n i) ∧ Y i = Y (nx n i))) : unlB n X' Y' = l.all (fun e => !(decide (X' e = X' (nx n e) ∧ Y' e = Y' (nx n e)))) := by
  rw [Bool.eq_iff_iff]
  unfold unlB
  rw [alN_iff, List.all_eq_true]
  constructor
  · intro h e he
    exact h e (by omega) (by have := C.2.1 e he; omega)
  · intro h e _ he
    by_cases q : e ∈ l
    · exact h e q
    · obtain ⟨a1, a2, a3, a4⟩ := (C.2.2 e (by omega)).2 q
      rw [a1, a2, a3, a4, decide_eq_false (hu e (by omega))]; rfl
theorem and_sym (a b c d : Int) : decide (a = b ∧ c = d) = (decide (b = a) && decide (d = c)) := by
  by_cases h1 : a = b <;> by_cases h2 : c = d
  · subst h1 h2; simp
  · simp [h1, h2, fun z : d = c => h2 z.symm, Ne.symm h2]
  · simp [h1, Ne.symm h1]
  · simp [h1, Ne.symm h1]
theorem and_dir (a b c d : Int) : decide (a = b ∧ c = d) = (decide (a = b) && decide (c = d)) := by
  by_cases h1 : a = b <;> by_cases h2 : c = d <;> simp [h1, h2]
theorem unl1 {n c : Nat} {X Y : Nat → Int} {p : Pl} (hn : 3 ≤ n) (hc : c < n) (hu : ∀ i, i < n → ¬ (X i = X (nx n i) ∧ Y i = Y (nx n i))) : unlB n (upz X c p.1) (upz Y c p.2) = mayP n X Y c p := by
  have h1 := pv_ne (show 2 ≤ n by omega) hc
  have h2 := nx_ne (show 2 ≤ n by omega) hc
  rw [(chg1 hn hc).unl hu]
  simp only [List.all_cons, List.all_nil]
  rw [nx_pv hc, upz_at, upz_at, upz_nn h2, upz_nn h2, upz_nn h1, upz_nn h1, and_sym, and_dir]
  unfold mayP atP
  rw [Bool.and_true, Bool.and_comm]
theorem unl2 {n i j : Nat} {X Y : Nat → Int} {p q : Pl} (hn : 3 ≤ n) (hi : i < n) (hj : j < n) (hij : i ≠ j) (a1 : nx n i ≠ j) (a2 : nx n j ≠ i) (hu : ∀ i, i < n → ¬ (X i = X (nx n i) ∧ Y i = Y (nx n i))) : unlB n (upw X i p.1 j q.1) (upw Y i p.2 j q.2) = (mayP n X Y i p && mayP n X Y j q) := by
  have h1 := pv_ne (show 2 ≤ n by omega) hi
  have h2 := nx_ne (show 2 ≤ n by omega) hi
  have h3 := pv_ne (show 2 ≤ n by omega) hj
  have h4 := nx_ne (show 2 ≤ n by omega) hj
  have p1 : pv n i ≠ j := fun z => a2 ((nx_iff hj hi).mpr z.symm)
  have p2 : pv n j ≠ i := fun z => a1 ((nx_iff hi hj).mpr z.symm)
  rw [(chg2 hn hi hj hij a1 a2).unl hu]
  simp only [List.all_cons, List.all_nil]
  rw [nx_pv hi, nx_pv hj, upw_i hij, upw_i hij, upw_j, upw_j, upw_ne h2 a1, upw_ne h2 a1, upw_ne h1 p1, upw_ne h1 p1, upw_ne a2 h4, upw_ne a2 h4, upw_ne p2 h3, upw_ne p2 h3, and_sym, and_dir, and_sym, and_dir]
  unfold mayP atP
  generalize (!(decide (X (nx n i) = ↑p.1) && decide (Y (nx n i) = ↑p.2))) = A
  generalize (!(decide (X (pv n i) = ↑p.1) && decide (Y (pv n i) = ↑p.2))) = B
  generalize (!(decide (X (nx n j) = ↑q.1) && decide (Y (nx n j) = ↑q.2))) = C
  generalize (!(decide (X (pv n j) = ↑q.1) && decide (Y (pv n j) = ↑q.2))) = D
  cases A <;> cases B <;> cases C <;> cases D <;> rfl
theorem unlN {n a c : Nat} {X Y : Nat → Int} {p q : Pl} (hn : 3 ≤ n) (ha : a < n) (hc : c < n) (a1 : nx n a = c) (hu : ∀ i, i < n → ¬ (X i = X (nx n i) ∧ Y i = Y (nx n i))) : unlB n (upw X a p.1 c q.1) (upw Y a p.2 c q.2) = (!(atP X Y (pv n a) p.1 p.2) && (!(atP X Y (nx n c) q.1 q.2) && !(decide (p = q)))) := by
  have h1 := pv_ne (show 2 ≤ n by omega) ha
  have h3 : a ≠ c := fun z => nx_ne (show 2 ≤ n by omega) ha (by rw [a1, z])
  have h4 := nx_ne (show 2 ≤ n by omega) hc
  have h5 : pv n a ≠ c := by
    rw [← a1]; unfold pv nx; split <;> split <;> omega
  have h6 : nx n c ≠ a := fun z => h5 ((nx_iff hc ha).mp z).symm
  have e : decide ((p.1 : Int) = q.1 ∧ (p.2 : Int) = q.2) = decide (p = q) := by
    apply decide_eq_decide.mpr
    constructor
    · rintro ⟨z1, z2⟩; exact Prod.ext (by omega) (by omega)
    · intro z; rw [z]; exact ⟨rfl, rfl⟩
  rw [(chgN hn ha hc a1).unl hu]
  simp only [List.all_cons, List.all_nil]
  rw [nx_pv ha, a1, upw_i h3, upw_i h3, upw_j, upw_j, upw_ne h1 h5, upw_ne h1 h5, upw_ne h6 h4, upw_ne h6 h4, e, and_dir, and_sym]
  unfold atP
  generalize (!(decide (X (pv n a) = ↑p.1) && decide (Y (pv n a) = ↑p.2))) = A
  generalize (!(decide (X (nx n c) = ↑q.1) && decide (Y (nx n c) = ↑q.2))) = B
  cases A <;> cases B <;> cases decide (p = q) <;> rfl
abbrev ok1n (b : Nat → Nat) (N n : Nat) (lw ed : Int32) (X Y : Nat → Int) (c : Nat) (p : Pl) : Bool := unlB n (upz X c p.1) (upz Y c p.2) && soP b N lw ed n (upz X c p.1) (upz Y c p.2)
abbrev ok2n (b : Nat → Nat) (N n : Nat) (lw ed : Int32) (X Y : Nat → Int) (i j : Nat) (p q : Pl) : Bool := unlB n (upw X i p.1 j q.1) (upw Y i p.2 j q.2) && soP b N lw ed n (upw X i p.1 j q.1) (upw Y i p.2 j q.2)
def R1n (b : Nat → Nat) (N n r : Nat) (lw ed : Int32) (X Y : Nat → Int) (c : Nat) : Ac := acL (fun p => oneI (ok1n b N n lw ed X Y c p) 1 [c, p.1, p.2]) (plA r X Y c)
def R2n (b : Nat → Nat) (N n r : Nat) (lw ed : Int32) (X Y : Nat → Int) (i j : Nat) : Ac := acL (fun p => acL (fun q => oneI (ok2n b N n lw ed X Y i j p q) 1 [i, p.1, p.2, j, q.1, q.2]) (plA r X Y j)) (plA r X Y i)
theorem acL_Qk {n c : Nat} {X Y : Nat → Int} {ps : List Pl} (a : Pl → Ac) : acL (fun k => a (pg ps k)) (Qk n X Y c ps ps.length) = acL (fun p => if mayP n X Y c p then a p else ac0) ps := by
  unfold Qk
  rw [acL_filter, ← acL_pg (fun p => if mayP n X Y c p then a p else ac0) ps]
theorem A1_eq {N n r c : Nat} {b : Nat → Nat} {lw ed : Int32} {X Y : Nat → Int} (H : NXc N n b ed X Y) (hu : ∀ i, i < n → ¬ (X i = X (nx n i) ∧ Y i = Y (nx n i))) (hc : c < n) : acL (a1n b N n lw ed X Y c (plA r X Y c)) (kdA b N n r X Y c) = R1n b N n r lw ed X Y c := by
  have h1 := kind_one (g1n b N n lw ed X Y c) (fun k => [c, (pg (plA r X Y c) k).1, (pg (plA r X Y c) k).2]) (fun k => keyP b N n X Y c (pg (plA r X Y c) k)) (Qk n X Y c (plA r X Y c) (plA r X Y c).length)
  have h2 := acL_Qk (n := n) (c := c) (X := X) (Y := Y) (ps := plA r X Y c) (fun p => oneI (g1n b N n lw ed X Y c (keyP b N n X Y c p)) 1 [c, p.1, p.2])
  refine (h1.trans h2).trans (acL_cong _ (fun p _ => ?_))
  unfold ok1n
  rw [unl1 H.2.1 hc hu, ← mean1 (px := (p.1 : Int)) (py := (p.2 : Int)) H.1 H.2.1 H.2.2.1 H.2.2.2.1 H.2.2.2.2.1 hc]
  unfold oneI
  cases mayP n X Y c p <;> rfl
theorem if_oneI (g h : Bool) (w : List Nat) : (if g then oneI h 1 w else ac0) = oneI (g && h) 1 w := by cases g <;> rfl
theorem if_acL {α : Type} (g : Bool) (a : α → Ac) : ∀ l : List α, (if g then acL a l else ac0) = acL (fun x => if g then a x else ac0) l
  | [] => by cases g <;> rfl
  | x :: l => by
    simp only [acL]
    rw [← if_acL g a l]
    cases g <;> rfl
theorem A2_eq {N n r i j : Nat} {b : Nat → Nat} {lw ed : Int32} {X Y : Nat → Int} (H : NXc N n b ed X Y) (hu : ∀ i, i < n → ¬ (X i = X (nx n i) ∧ Y i = Y (nx n i))) (hi : i < n) (hj : j < n) (hij : i ≠ j) : A2n b N n r lw ed X Y i j = R2n b N n r lw ed X Y i j := by
  unfold A2n R2n
  by_cases z : nx n i = j ∨ nx n j = i
  · rw [if_pos z]
    refine acL_cong _ (fun p _ => acL_cong _ (fun q _ => ?_))
    unfold a3n ok2n
    congr 1
    by_cases z1 : nx n i = j
    · rw [decide_eq_true z1, if_pos rfl, unlN H.2.1 hi hj z1 hu, ← meanN (px := (p.1 : Int)) (py := (p.2 : Int)) (qx := (q.1 : Int)) (qy := (q.2 : Int)) H.1 H.2.1 H.2.2.1 H.2.2.2.1 H.2.2.2.2.1 hi hj z1]
      rfl
    · have z2 := z.resolve_left z1
      rw [decide_eq_false z1, if_neg (by decide), upw_cm hij, upw_cm hij, unlN H.2.1 hj hi z2 hu, ← meanN (px := (q.1 : Int)) (py := (q.2 : Int)) (qx := (p.1 : Int)) (qy := (p.2 : Int)) H.1 H.2.1 H.2.2.1 H.2.2.2.1 H.2.2.2.2.1 hj hi z2]
      rfl
  · rw [if_neg z]
    have z1 : nx n i ≠ j := fun w => z (Or.inl w)
    have z2 : nx n j ≠ i := fun w => z (Or.inr w)
    have h1 := kind_two (g2n b N n lw ed X Y i j) (fun k l => [i, (pg (plA r X Y i) k).1, (pg (plA r X Y i) k).2, j, (pg (plA r X Y j) l).1, (pg (plA r X Y j) l).2]) (fun k => keyP b N n X Y i (pg (plA r X Y i) k)) (fun k => keyP b N n X Y j (pg (plA r X Y j) k)) (Qk n X Y i (plA r X Y i) (plA r X Y i).length) (Qk n X Y j (plA r X Y j) (plA r X Y j).length)
    have h2 := acL_Qk (n := n) (c := i) (X := X) (Y := Y) (ps := plA r X Y i) (fun p => acL (fun l => oneI (g2n b N n lw ed X Y i j (keyP b N n X Y i p) (keyP b N n X Y j (pg (plA r X Y j) l))) 1 [i, p.1, p.2, j, (pg (plA r X Y j) l).1, (pg (plA r X Y j) l).2]) (Qk n X Y j (plA r X Y j) (plA r X Y j).length))
    refine (h1.trans h2).trans (acL_cong _ (fun p _ => ?_))
    have h3 := acL_Qk (n := n) (c := j) (X := X) (Y := Y) (ps := plA r X Y j) (fun q => oneI (g2n b N n lw ed X Y i j (keyP b N n X Y i p) (keyP b N n X Y j q)) 1 [i, p.1, p.2, j, q.1, q.2])
    rw [h3, if_acL]
    refine acL_cong _ (fun q _ => ?_)
    unfold ok2n
    rw [unl2 H.2.1 hi hj hij z1 z2 hu, ← mean2 (px := (p.1 : Int)) (py := (p.2 : Int)) (qx := (q.1 : Int)) (qy := (q.2 : Int)) H.1 H.2.1 H.2.2.1 H.2.2.2.1 H.2.2.2.2.1 hi hj hij z1 z2, if_oneI]
    unfold oneI
    cases mayP n X Y i p <;> cases mayP n X Y j q <;> rfl
theorem R1_bd {r : Nat} (hr : 1 ≤ r ∧ r ≤ 3) (b : Nat → Nat) (N n : Nat) (lw ed : Int32) (X Y : Nat → Int) (c : Nat) : (R1n b N n r lw ed X Y c).1 ≤ 48 := by
  have h1 := acL_bd (a := fun p => oneI (ok1n b N n lw ed X Y c p) 1 [c, p.1, p.2]) (B := 1) (plA r X Y c) (fun p _ => by show (oneI _ _ _).1 ≤ 1; unfold oneI; split <;> simp)
  have h2 := plA_len hr X Y c
  unfold R1n
  omega
theorem R2_bd {r : Nat} (hr : 1 ≤ r ∧ r ≤ 3) (b : Nat → Nat) (N n : Nat) (lw ed : Int32) (X Y : Nat → Int) (i j : Nat) : (R2n b N n r lw ed X Y i j).1 ≤ 2304 := by
  have h2 := plA_len hr X Y i
  have h3 := plA_len hr X Y j
  have h1 := acL_bd (a := fun p => acL (fun q => oneI (ok2n b N n lw ed X Y i j p q) 1 [i, p.1, p.2, j, q.1, q.2]) (plA r X Y j)) (B := 48) (plA r X Y i) (fun p _ => by
    have h1 := acL_bd (a := fun q => oneI (ok2n b N n lw ed X Y i j p q) 1 [i, p.1, p.2, j, q.1, q.2]) (B := 1) (plA r X Y j) (fun p _ => by show (oneI _ _ _).1 ≤ 1; unfold oneI; split <;> simp)
    show (acL _ _).1 ≤ 48
    omega)
  unfold R2n
  omega
theorem R1_ok (b : Nat → Nat) (N n r : Nat) (lw ed : Int32) (X Y : Nat → Int) (c : Nat) : okA (R1n b N n r lw ed X Y c) := okA_L _ (fun p _ => okA_one (Nat.le_refl 1))
theorem R2_ok (b : Nat → Nat) (N n r : Nat) (lw ed : Int32) (X Y : Nat → Int) (i j : Nat) : okA (R2n b N n r lw ed X Y i j) := okA_L _ (fun p _ => okA_L _ (fun q _ => okA_one (Nat.le_refl 1)))
/-- all that is found by moving one corner, two corners -/
abbrev T1n (b : Nat → Nat) (N n r : Nat) (lw ed : Int32) (X Y : Nat → Int) : Ac := acL (R1n b N n r lw ed X Y) (List.range' 0 n)
abbrev Jn (b : Nat → Nat) (N n r : Nat) (lw ed : Int32) (X Y : Nat → Int) (i : Nat) : Ac := acL (R2n b N n r lw ed X Y i) (List.range' (i + 1) (n - (i + 1)))
abbrev T2n (b : Nat → Nat) (N n r : Nat) (lw ed : Int32) (X Y : Nat → Int) : Ac := acL (Jn b N n r lw ed X Y) (List.range' 0 n)
theorem T1_bd {r n : Nat} (hr : 1 ≤ r ∧ r ≤ 3) (hn : n ≤ 12) (b : Nat → Nat) (N : Nat) (lw ed : Int32) (X Y : Nat → Int) : (T1n b N n r lw ed X Y).1 ≤ 576 := by
  have := acL_bd (a := R1n b N n r lw ed X Y) (B := 48) (List.range' 0 n) (fun c _ => R1_bd hr b N n lw ed X Y c)
  rw [List.length_range'] at this
  show (acL _ _).1 ≤ 576
  omega
theorem T2_bd {r n : Nat} (hr : 1 ≤ r ∧ r ≤ 3) (hn : n ≤ 12) (b : Nat → Nat) (N : Nat) (lw ed : Int32) (X Y : Nat → Int) : (T2n b N n r lw ed X Y).1 ≤ 331776 := by
  have := acL_bd (a := Jn b N n r lw ed X Y) (B := 27648) (List.range' 0 n) (fun i _ => by
    have := acL_bd (a := R2n b N n r lw ed X Y i) (B := 2304) (List.range' (i + 1) (n - (i + 1))) (fun c _ => R2_bd hr b N n lw ed X Y i c)
    rw [List.length_range'] at this
    show (acL _ _).1 ≤ 27648
    omega)
  rw [List.length_range'] at this
  show (acL _ _).1 ≤ 331776
  omega

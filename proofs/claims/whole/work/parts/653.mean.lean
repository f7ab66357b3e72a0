/-! by night: one corner, two corners -/
def skN (n i j e : Nat) : Bool := decide (e = i ∨ e = j ∨ nx n e = i ∨ nx n e = j)
theorem nx_iff {n e c : Nat} (he : e < n) (hc : c < n) : nx n e = c ↔ e = pv n c := ⟨fun z => by rw [← z, pv_nx he], fun z => by rw [z, nx_pv hc]⟩
theorem pv_ne {n c : Nat} (h : 2 ≤ n) (hc : c < n) : pv n c ≠ c := by unfold pv; split <;> omega
theorem nx_ne {n c : Nat} (h : 2 ≤ n) (hc : c < n) : nx n c ≠ c := by unfold nx; split <;> omega
theorem upz_at {X : Nat → Int} {c : Nat} {v : Int} : upz X c v c = v := if_pos rfl
theorem upz_nn {X : Nat → Int} {c e : Nat} {v : Int} (h : e ≠ c) : upz X c v e = X e := if_neg h
theorem chg0 (n : Nat) (X Y : Nat → Int) : Chg n X Y X Y (fun _ => false) [] := ⟨List.nodup_nil, fun e h => absurd h (List.not_mem_nil), fun e _ => ⟨by simp, fun _ => ⟨rfl, rfl, rfl, rfl⟩⟩⟩
theorem chg1 {n c : Nat} {X Y : Nat → Int} {px py : Int} (hn : 3 ≤ n) (hc : c < n) : Chg n X Y (upz X c px) (upz Y c py) (skN n c c) [c, pv n c] := by
  have h1 := pv_ne (by omega) hc
  have h2 := pv_lt hc
  refine ⟨by simp; exact fun z => h1 z.symm, fun e h => ?_, fun e he => ⟨?_, fun h => ?_⟩⟩
  · simp at h; rcases h with rfl | rfl <;> omega
  · unfold skN
    apply decide_eq_decide.mpr
    rw [nx_iff he hc]
    simp
  · simp at h
    have g : nx n e ≠ c := fun z => h.2 ((nx_iff he hc).mp z)
    exact ⟨upz_nn h.1, upz_nn h.1, upz_nn g, upz_nn g⟩
/-- what a corner at a place does: the edge coming to it, the edge going from it -/
abbrev cmR (b : Nat → Nat) (N n : Nat) (X Y : Nat → Int) (c : Nat) (x y : Int) : Int64 := eR b N (X (pv n c)) (Y (pv n c)) x y
abbrev goR (b : Nat → Nat) (N n : Nat) (X Y : Nat → Int) (c : Nat) (x y : Int) : Int64 := eR b N x y (X (nx n c)) (Y (nx n c))
abbrev cmO (b : Nat → Nat) (N n : Nat) (X Y : Nat → Int) (c : Nat) (x y : Int) : Int32 := eO b N (X (pv n c)) (Y (pv n c)) x y
abbrev goO (b : Nat → Nat) (N n : Nat) (X Y : Nat → Int) (c : Nat) (x y : Int) : Int32 := eO b N x y (X (nx n c)) (Y (nx n c))
abbrev rtR (b : Nat → Nat) (N n : Nat) (X Y : Nat → Int) (i j : Nat) : Int64 := rsR (edR b N n X Y) (skN n i j) n
abbrev rtO (b : Nat → Nat) (N n : Nat) (X Y : Nat → Int) (i j : Nat) : Int32 := rsO (edO' b N n X Y) (skN n i j) n
theorem mean0 {N n : Nat} {b : Nat → Nat} {lw ed : Int32} {X Y : Nat → Int} (hN : N ≤ 8) (hn : n ≤ 12) (hb : ∀ i, i < 3 * N → okP b i) (hed : ed = 0 ∨ ed = 1) : alN (fit1 b lw ed (rsR (edR b N n X Y) (fun _ => false) n) (rsO (edO' b N n X Y) (fun _ => false) n)) N 0 = soP b N lw ed n X Y := by
  have C := chg0 n X Y
  refine fit_mean hN hn hb hed ((rsR_LR hN b X Y _ n).cong (fun p _ => ?_)) ((rsO_OR hN b X Y _ n).cong (fun p _ => ?_))
  · have := C.sum b p
    simpa [sL] using this
  · have := C.on b p
    simpa using this
theorem mean1 {N n c : Nat} {b : Nat → Nat} {lw ed : Int32} {X Y : Nat → Int} {px py : Int} (hN : N ≤ 8) (hn3 : 3 ≤ n) (hn : n ≤ 12) (hb : ∀ i, i < 3 * N → okP b i) (hed : ed = 0 ∨ ed = 1) (hc : c < n) : alN (fit1 b lw ed (rtR b N n X Y c c + (cmR b N n X Y c px py + goR b N n X Y c px py)) (rtO b N n X Y c c ||| (cmO b N n X Y c px py ||| goO b N n X Y c px py))) N 0 = soP b N lw ed n (upz X c px) (upz Y c py) := by
  have C := chg1 (X := X) (Y := Y) (px := px) (py := py) hn3 hc
  have h1 := pv_ne (show 2 ≤ n by omega) hc
  have h2 := nx_ne (show 2 ≤ n by omega) hc
  have eg : ∀ p, eW b n (upz X c px) (upz Y c py) c p = evP b px py (X (nx n c)) (Y (nx n c)) p := fun p => by rw [eW, upz_at, upz_at, upz_nn h2, upz_nn h2]
  have ec : ∀ p, eW b n (upz X c px) (upz Y c py) (pv n c) p = evP b (X (pv n c)) (Y (pv n c)) px py p := fun p => by rw [eW, nx_pv hc, upz_at, upz_at, upz_nn h1, upz_nn h1]
  have og : ∀ p, eB b n (upz X c px) (upz Y c py) c p = onB b px py (X (nx n c)) (Y (nx n c)) p := fun p => by rw [eB, upz_at, upz_at, upz_nn h2, upz_nn h2]
  have oc : ∀ p, eB b n (upz X c px) (upz Y c py) (pv n c) p = onB b (X (pv n c)) (Y (pv n c)) px py p := fun p => by rw [eB, nx_pv hc, upz_at, upz_at, upz_nn h1, upz_nn h1]
  refine fit_mean hN hn hb hed ?_ ?_
  · rw [← Int64.add_assoc]
    refine (((rsR_LR hN b X Y _ n).add hN _).add hN _).cong (fun p _ => ?_)
    have := C.sum b p
    simp only [sL, eg, ec] at this
    rw [← this]
    omega
  · refine ((rsO_OR hN b X Y _ n).add ((OR.on hN b _ _ _ _).add (OR.on hN b _ _ _ _))).cong (fun p _ => ?_)
    have := C.on b p
    simp only [List.any_cons, List.any_nil, og, oc] at this
    rw [← this, Bool.or_false, Bool.or_comm (onB b px py _ _ p)]
/-- two corners -/
def upw (X : Nat → Int) (i : Nat) (x : Int) (j : Nat) (y : Int) : Nat → Int := upz (upz X i x) j y
theorem upw_i {X : Nat → Int} {i j : Nat} {x y : Int} (h : i ≠ j) : upw X i x j y i = x := by unfold upw; rw [upz_nn h, upz_at]
theorem upw_j {X : Nat → Int} {i j : Nat} {x y : Int} : upw X i x j y j = y := by unfold upw; rw [upz_at]
theorem upw_ne {X : Nat → Int} {i j e : Nat} {x y : Int} (h : e ≠ i) (h' : e ≠ j) : upw X i x j y e = X e := by unfold upw; rw [upz_nn h', upz_nn h]
theorem upw_cm {X : Nat → Int} {i j : Nat} {x y : Int} (h : i ≠ j) : upw X i x j y = upw X j y i x := by
  funext e
  by_cases a : e = i
  · subst a; rw [upw_i h, upw_j]
  · by_cases c : e = j
    · subst c; rw [upw_j, upw_i (fun z => h z.symm)]
    · rw [upw_ne a c, upw_ne c a]
theorem chg2 {n i j : Nat} {X Y : Nat → Int} {px py qx qy : Int} (hn : 3 ≤ n) (hi : i < n) (hj : j < n) (hij : i ≠ j) (a1 : nx n i ≠ j) (a2 : nx n j ≠ i) : Chg n X Y (upw X i px j qx) (upw Y i py j qy) (skN n i j) [i, pv n i, j, pv n j] := by
  have h1 := pv_ne (show 2 ≤ n by omega) hi
  have h2 := pv_lt hi
  have h3 := pv_ne (show 2 ≤ n by omega) hj
  have h4 := pv_lt hj
  have n1 := nx_iff hi hj
  have n2 := nx_iff hj hi
  have n3 : pv n i ≠ pv n j := fun z => hij (by rw [← nx_pv hi, z, nx_pv hj])
  have n1' : i ≠ pv n j := fun z => a1 (n1.mpr z)
  have n2' : j ≠ pv n i := fun z => a2 (n2.mpr z)
  refine ⟨?_, fun e h => ?_, fun e he => ⟨?_, fun h => ?_⟩⟩
  · simp only [List.nodup_cons, List.mem_cons, List.not_mem_nil, or_false, not_or, List.nodup_nil, and_true, not_false_eq_true]
    exact ⟨⟨fun z => h1 z.symm, hij, n1'⟩, ⟨fun z => n2' z.symm, n3⟩, fun z => h3 z.symm⟩
  · simp at h; rcases h with rfl | rfl | rfl | rfl <;> omega
  · unfold skN
    apply decide_eq_decide.mpr
    rw [nx_iff he hi, nx_iff he hj]
    simp only [List.mem_cons, List.not_mem_nil, or_false]
    constructor
    · rintro (z | z | z | z)
      · exact Or.inl z
      · exact Or.inr (Or.inr (Or.inl z))
      · exact Or.inr (Or.inl z)
      · exact Or.inr (Or.inr (Or.inr z))
    · rintro (z | z | z | z)
      · exact Or.inl z
      · exact Or.inr (Or.inr (Or.inl z))
      · exact Or.inr (Or.inl z)
      · exact Or.inr (Or.inr (Or.inr z))
  · simp only [List.mem_cons, List.not_mem_nil, or_false, not_or] at h
    have g1 : nx n e ≠ i := fun z => h.2.1 ((nx_iff he hi).mp z)
    have g2 : nx n e ≠ j := fun z => h.2.2.2 ((nx_iff he hj).mp z)
    exact ⟨upw_ne h.1 h.2.2.1, upw_ne h.1 h.2.2.1, upw_ne g1 g2, upw_ne g1 g2⟩
theorem mean2 {N n i j : Nat} {b : Nat → Nat} {lw ed : Int32} {X Y : Nat → Int} {px py qx qy : Int} (hN : N ≤ 8) (hn3 : 3 ≤ n) (hn : n ≤ 12) (hb : ∀ i, i < 3 * N → okP b i) (hed : ed = 0 ∨ ed = 1) (hi : i < n) (hj : j < n) (hij : i ≠ j) (a1 : nx n i ≠ j) (a2 : nx n j ≠ i) : alN (fit1 b lw ed (rtR b N n X Y i j + (cmR b N n X Y i px py + goR b N n X Y i px py) + (cmR b N n X Y j qx qy + goR b N n X Y j qx qy)) (rtO b N n X Y i j ||| (cmO b N n X Y i px py ||| goO b N n X Y i px py) ||| (cmO b N n X Y j qx qy ||| goO b N n X Y j qx qy))) N 0 = soP b N lw ed n (upw X i px j qx) (upw Y i py j qy) := by
  have C := chg2 (X := X) (Y := Y) (px := px) (py := py) (qx := qx) (qy := qy) hn3 hi hj hij a1 a2
  have h1 := pv_ne (show 2 ≤ n by omega) hi
  have h2 := nx_ne (show 2 ≤ n by omega) hi
  have h3 := pv_ne (show 2 ≤ n by omega) hj
  have h4 := nx_ne (show 2 ≤ n by omega) hj
  have p1 : pv n i ≠ j := fun z => a2 ((nx_iff hj hi).mpr z.symm)
  have p2 : pv n j ≠ i := fun z => a1 ((nx_iff hi hj).mpr z.symm)
  have egi : ∀ p, eW b n (upw X i px j qx) (upw Y i py j qy) i p = evP b px py (X (nx n i)) (Y (nx n i)) p := fun p => by rw [eW, upw_i hij, upw_i hij, upw_ne h2 a1, upw_ne h2 a1]
  have eci : ∀ p, eW b n (upw X i px j qx) (upw Y i py j qy) (pv n i) p = evP b (X (pv n i)) (Y (pv n i)) px py p := fun p => by rw [eW, nx_pv hi, upw_i hij, upw_i hij, upw_ne h1 p1, upw_ne h1 p1]
  have egj : ∀ p, eW b n (upw X i px j qx) (upw Y i py j qy) j p = evP b qx qy (X (nx n j)) (Y (nx n j)) p := fun p => by rw [eW, upw_j, upw_j, upw_ne a2 h4, upw_ne a2 h4]
  have ecj : ∀ p, eW b n (upw X i px j qx) (upw Y i py j qy) (pv n j) p = evP b (X (pv n j)) (Y (pv n j)) qx qy p := fun p => by rw [eW, nx_pv hj, upw_j, upw_j, upw_ne p2 h3, upw_ne p2 h3]
  have ogi : ∀ p, eB b n (upw X i px j qx) (upw Y i py j qy) i p = onB b px py (X (nx n i)) (Y (nx n i)) p := fun p => by rw [eB, upw_i hij, upw_i hij, upw_ne h2 a1, upw_ne h2 a1]
  have oci : ∀ p, eB b n (upw X i px j qx) (upw Y i py j qy) (pv n i) p = onB b (X (pv n i)) (Y (pv n i)) px py p := fun p => by rw [eB, nx_pv hi, upw_i hij, upw_i hij, upw_ne h1 p1, upw_ne h1 p1]
  have ogj : ∀ p, eB b n (upw X i px j qx) (upw Y i py j qy) j p = onB b qx qy (X (nx n j)) (Y (nx n j)) p := fun p => by rw [eB, upw_j, upw_j, upw_ne a2 h4, upw_ne a2 h4]
  have ocj : ∀ p, eB b n (upw X i px j qx) (upw Y i py j qy) (pv n j) p = onB b (X (pv n j)) (Y (pv n j)) qx qy p := fun p => by rw [eB, nx_pv hj, upw_j, upw_j, upw_ne p2 h3, upw_ne p2 h3]
  refine fit_mean hN hn hb hed ?_ ?_
  · rw [← Int64.add_assoc, ← Int64.add_assoc]
    refine (((((rsR_LR hN b X Y _ n).add hN _).add hN _).add hN _).add hN _).cong (fun p _ => ?_)
    have := C.sum b p
    simp only [sL, egi, eci, egj, ecj] at this
    rw [← this]
    omega
  · refine (((rsO_OR hN b X Y _ n).add ((OR.on hN b _ _ _ _).add (OR.on hN b _ _ _ _))).add ((OR.on hN b _ _ _ _).add (OR.on hN b _ _ _ _))).cong (fun p _ => ?_)
    have := C.on b p
    simp only [List.any_cons, List.any_nil, ogi, oci, ogj, ocj] at this
    rw [← this]
    simp only [Bool.or_false, Bool.or_assoc]
    cases oE (fun e => !skN n i j e && eB b n X Y e p) n <;> cases onB b (X (pv n i)) (Y (pv n i)) px py p <;> cases onB b px py (X (nx n i)) (Y (nx n i)) p <;> cases onB b (X (pv n j)) (Y (pv n j)) qx qy p <;> cases onB b qx qy (X (nx n j)) (Y (nx n j)) p <;> rfl
/-- two corners with an edge between: a, and behind it c -/
theorem chgN {n a c : Nat} {X Y : Nat → Int} {px py qx qy : Int} (hn : 3 ≤ n) (ha : a < n) (hc : c < n) (a1 : nx n a = c) : Chg n X Y (upw X a px c qx) (upw Y a py c qy) (skN n a c) [a, pv n a, c] := by
  have h1 := pv_ne (show 2 ≤ n by omega) ha
  have h2 := pv_lt ha
  have h3 : a ≠ c := fun z => nx_ne (show 2 ≤ n by omega) ha (by rw [a1, z])
  have h4 : pv n c = a := ((nx_iff ha hc).mp a1).symm
  have h5 : pv n a ≠ c := by
    rw [← a1]; unfold pv nx; split <;> split <;> omega
  refine ⟨?_, fun e h => ?_, fun e he => ⟨?_, fun h => ?_⟩⟩
  · simp only [List.nodup_cons, List.mem_cons, List.not_mem_nil, or_false, not_or, List.nodup_nil, and_true, not_false_eq_true]
    exact ⟨⟨fun z => h1 z.symm, h3⟩, h5⟩
  · simp at h; rcases h with rfl | rfl | rfl <;> omega
  · unfold skN
    apply decide_eq_decide.mpr
    rw [nx_iff he ha, nx_iff he hc, h4]
    simp only [List.mem_cons, List.not_mem_nil, or_false]
    constructor
    · rintro (z | z | z | z)
      · exact Or.inl z
      · exact Or.inr (Or.inr z)
      · exact Or.inr (Or.inl z)
      · exact Or.inl z
    · rintro (z | z | z)
      · exact Or.inl z
      · exact Or.inr (Or.inr (Or.inl z))
      · exact Or.inr (Or.inl z)
  · simp only [List.mem_cons, List.not_mem_nil, or_false, not_or] at h
    have g1 : nx n e ≠ a := fun z => h.2.1 ((nx_iff he ha).mp z)
    have g2 : nx n e ≠ c := fun z => h.1 (by rw [← h4]; exact (nx_iff he hc).mp z)
    exact ⟨upw_ne h.1 h.2.2, upw_ne h.1 h.2.2, upw_ne g1 g2, upw_ne g1 g2⟩
theorem meanN {N n a c : Nat} {b : Nat → Nat} {lw ed : Int32} {X Y : Nat → Int} {px py qx qy : Int} (hN : N ≤ 8) (hn3 : 3 ≤ n) (hn : n ≤ 12) (hb : ∀ i, i < 3 * N → okP b i) (hed : ed = 0 ∨ ed = 1) (ha : a < n) (hc : c < n) (a1 : nx n a = c) : alN (fitE b lw ed (rsR (edR b N n X Y) (skN n a c) n + cmR b N n X Y a px py + goR b N n X Y c qx qy) (rsO (edO' b N n X Y) (skN n a c) n ||| cmO b N n X Y a px py ||| goO b N n X Y c qx qy) px py qx qy) N 0 = soP b N lw ed n (upw X a px c qx) (upw Y a py c qy) := by
  have C := chgN (X := X) (Y := Y) (px := px) (py := py) (qx := qx) (qy := qy) hn3 ha hc a1
  have h1 := pv_ne (show 2 ≤ n by omega) ha
  have h3 : a ≠ c := fun z => nx_ne (show 2 ≤ n by omega) ha (by rw [a1, z])
  have h4 := nx_ne (show 2 ≤ n by omega) hc
  have h5 : pv n a ≠ c := by
    rw [← a1]; unfold pv nx; split <;> split <;> omega
  have h6 : nx n c ≠ a := fun z => h5 ((nx_iff hc ha).mp z).symm
  have e1 : ∀ p, eW b n (upw X a px c qx) (upw Y a py c qy) a p = evP b px py qx qy p := fun p => by rw [eW, a1, upw_i h3, upw_i h3, upw_j, upw_j]
  have e2 : ∀ p, eW b n (upw X a px c qx) (upw Y a py c qy) (pv n a) p = evP b (X (pv n a)) (Y (pv n a)) px py p := fun p => by rw [eW, nx_pv ha, upw_i h3, upw_i h3, upw_ne h1 h5, upw_ne h1 h5]
  have e3 : ∀ p, eW b n (upw X a px c qx) (upw Y a py c qy) c p = evP b qx qy (X (nx n c)) (Y (nx n c)) p := fun p => by rw [eW, upw_j, upw_j, upw_ne h6 h4, upw_ne h6 h4]
  have o1 : ∀ p, eB b n (upw X a px c qx) (upw Y a py c qy) a p = onB b px py qx qy p := fun p => by rw [eB, a1, upw_i h3, upw_i h3, upw_j, upw_j]
  have o2 : ∀ p, eB b n (upw X a px c qx) (upw Y a py c qy) (pv n a) p = onB b (X (pv n a)) (Y (pv n a)) px py p := fun p => by rw [eB, nx_pv ha, upw_i h3, upw_i h3, upw_ne h1 h5, upw_ne h1 h5]
  have o3 : ∀ p, eB b n (upw X a px c qx) (upw Y a py c qy) c p = onB b qx qy (X (nx n c)) (Y (nx n c)) p := fun p => by rw [eB, upw_j, upw_j, upw_ne h6 h4, upw_ne h6 h4]
  refine fitE_mean hN hn hb hed (((rsR_LR hN b X Y _ n).add hN _).add hN _) (((rsO_OR hN b X Y _ n).add (OR.on hN b _ _ _ _)).add (OR.on hN b _ _ _ _)) (fun p _ => ?_) (fun p _ => ?_)
  · have := C.sum b p
    simp only [sL, e1, e2, e3] at this
    rw [← this]
    omega
  · have := C.on b p
    simp only [List.any_cons, List.any_nil, o1, o2, o3] at this
    rw [← this]
    simp only [Bool.or_false, Bool.or_assoc]
    cases oE (fun e => !skN n a c e && eB b n X Y e p) n <;> cases onB b px py qx qy p <;> cases onB b (X (pv n a)) (Y (pv n a)) px py p <;> cases onB b qx qy (X (nx n c)) (Y (nx n c)) p <;> rfl
theorem skN_cm (n i j e : Nat) : skN n i j e = skN n j i e := by
  unfold skN
  apply decide_eq_decide.mpr
  omega

/-! by night: the class's points -/
theorem letL_j (a : Int64) (f : Int64 → Option Int64) : letL a f = f a := rfl
theorem letV_j (a : Int32) (f : Int32 → Option Int64) : letV a f = f a := rfl
theorem letL_i (a : Int64) (f : Int64 → Option Int32) : letL a f = f a := rfl
theorem letL_o (a : Int64) (f : Int64 → Option Mem) : letL a f = f a := rfl
theorem bL_s {β : Type} (v : Int64) (k : Int64 → Option β) : bL (some v) k = k v := rfl
def CP (m : Mem) (N : Nat) (b : Nat → Nat) (lw ed : Int32) : Prop := gI m 36 2 = nI N ∧ gI m 36 0 = lw ∧ gI m 36 1 = ed ∧ ∀ i, i < N → gI m 37 i = nI (b (3 * i)) ∧ gI m 38 i = nI (b (3 * i + 1)) ∧ gI m 39 i = nI (b (3 * i + 2))
theorem jlshl_eq : ∀ j, j < 8 → ∀ r : Nat, r < 3 → jlshl (Int32.toInt64 (iz ((r : Int) - 1))) (8 * nI j) = jz (256 ^ j * ((r : Int) - 1)) := by decide +kernel
theorem r1_n1000 (ax ay bx by' x y : Int) : ¬ iz (r1 ax ay bx by' x y) = 1000 := by
  have := r1_bd ax ay bx by' x y
  rw [i1000, iz_eq (by omega) (by omega)]; omega
abbrev B4 (ax ay bx by' : Int) : Prop := bd 100 ax ∧ bd 100 ay ∧ bd 100 bx ∧ bd 100 by'
theorem CP.pass {m : Mem} {N : Nat} {b : Nat → Nat} {lw ed : Int32} {ax ay bx by' : Int} (T : CP m N b lw ed) (hb : ∀ i, i < 3 * N → okP b i) (hq : B4 ax ay bx by') {j : Nat} (hj : j < N) : OH_passes (iz ax) (iz ay) (iz bx) (iz by') (gI m 37 j) (gI m 38 j) = if onB b ax ay bx by' j then 1000 else iz (r1 ax ay bx by' (b (3 * j)) (b (3 * j + 1))) := by
  obtain ⟨o1, o2, o3⟩ := okP3 hb hj
  obtain ⟨t1, t2, t3⟩ := T.2.2.2 j hj
  rw [t1, t2, nI_iz, nI_iz, passes_iz hq.1 hq.2.1 hq.2.2.1 hq.2.2.2 (by omega) (by omega)]
  rfl
theorem rb_loop {m : Mem} {N : Nat} {b : Nat → Nat} {lw ed : Int32} {ax ay bx by' : Int} {kx : Int64 → Option Int64} (T : CP m N b lw ed) (hN : N ≤ 8) (hb : ∀ i, i < 3 * N → okP b i) (hq : B4 ax ay bx by') : ∀ (d j fu : Nat), j + d = N → d < fu → PT_roundsBy_L6 m (iz ax) (iz ay) (iz bx) (iz by') kx fu (jz (pkS (evP b ax ay bx by') j)) (nI j) = kx (eR b N ax ay bx by')
  | 0, j, fu, hd, hf => by
    obtain ⟨f, rfl⟩ : ∃ f, fu = f + 1 := ⟨fu - 1, by omega⟩
    obtain rfl : j = N := by omega
    rw [PT_roundsBy_L6, T.1, if_pos (by rw [n_le (by omega) (by omega)]; omega)]
    rfl
  | d + 1, j, fu, hd, hf => by
    obtain ⟨f, rfl⟩ : ∃ f, fu = f + 1 := ⟨fu - 1, by omega⟩
    have ih := rb_loop (kx := kx) T hN hb hq d (j + 1) f (by omega) (by omega)
    have ej : nI j + 1 = nI (j + 1) := by rw [k1, n_add]
    rw [PT_roundsBy_L6, T.1, if_neg (by rw [n_le (by omega) (by omega)]; omega), if_pos (n_in (by omega) (by omega)), n_ixn (by omega), T.pass hb hq (show j < N by omega), letV_j, ej]
    cases z : onB b ax ay bx by' j with
    | true =>
      have : pkS (evP b ax ay bx by') (j + 1) = pkS (evP b ax ay bx by') j := by
        simp only [pkS, evP]
        unfold onB at z
        rw [if_pos z]; omega
      rw [if_pos (show (if true = true then (1000 : Int32) else iz (r1 ax ay bx by' (b (3 * j)) (b (3 * j + 1)))) = 1000 from rfl), ← this]
      exact ih
    | false =>
      have e2 : evP b ax ay bx by' j = r1 ax ay bx by' (b (3 * j)) (b (3 * j + 1)) := by
        unfold onB at z
        unfold evP
        rw [z, if_neg (by decide)]
      have hr := r1_bd ax ay bx by' (b (3 * j)) (b (3 * j + 1))
      have := jlshl_eq j (by omega) (r1 ax ay bx by' (b (3 * j)) (b (3 * j + 1)) + 1).toNat (by omega)
      rw [show (((r1 ax ay bx by' (b (3 * j)) (b (3 * j + 1)) + 1).toNat : Nat) : Int) - 1 = r1 ax ay bx by' (b (3 * j)) (b (3 * j + 1)) by omega] at this
      rw [if_neg (show ¬ (false = true) by decide), if_neg (r1_n1000 _ _ _ _ _ _), letL_j, this, jz_add, ← e2]
      exact ih
theorem roundsBy_eq {m : Mem} {N : Nat} {b : Nat → Nat} {lw ed : Int32} {ax ay bx by' : Int} (T : CP m N b lw ed) (hN : N ≤ 8) (hb : ∀ i, i < 3 * N → okP b i) (hq : B4 ax ay bx by') : PT_roundsBy m (iz ax) (iz ay) (iz bx) (iz by') = some (eR b N ax ay bx by') :=
  rb_loop (kx := fun y1 => some y1) T hN hb hq N 0 FU (by omega) (by unfold FU; omega)
theorem ob_loop {m : Mem} {N : Nat} {b : Nat → Nat} {lw ed : Int32} {ax ay bx by' : Int} {kx : Int32 → Option Int32} (T : CP m N b lw ed) (hN : N ≤ 8) (hb : ∀ i, i < 3 * N → okP b i) (hq : B4 ax ay bx by') : ∀ (d j fu : Nat), j + d = N → d < fu → PT_onBy_L6 m (iz ax) (iz ay) (iz bx) (iz by') kx fu (onV (onB b ax ay bx by') j) (nI j) = kx (eO b N ax ay bx by')
  | 0, j, fu, hd, hf => by
    obtain ⟨f, rfl⟩ : ∃ f, fu = f + 1 := ⟨fu - 1, by omega⟩
    obtain rfl : j = N := by omega
    rw [PT_onBy_L6, T.1, if_pos (by rw [n_le (by omega) (by omega)]; omega)]
    rfl
  | d + 1, j, fu, hd, hf => by
    obtain ⟨f, rfl⟩ : ∃ f, fu = f + 1 := ⟨fu - 1, by omega⟩
    have ih := ob_loop (kx := kx) T hN hb hq d (j + 1) f (by omega) (by omega)
    have ej : nI j + 1 = nI (j + 1) := by rw [k1, n_add]
    simp only [onV] at ih
    rw [PT_onBy_L6, T.1, if_neg (by rw [n_le (by omega) (by omega)]; omega), if_pos (n_in (by omega) (by omega)), n_ixn (by omega), T.pass hb hq (show j < N by omega), ej]
    cases z : onB b ax ay bx by' j with
    | true =>
      rw [z, if_pos rfl] at ih
      rw [if_pos (show (if true = true then (1000 : Int32) else iz (r1 ax ay bx by' (b (3 * j)) (b (3 * j + 1)))) = 1000 from rfl), letV_i]
      exact ih
    | false =>
      rw [z, if_neg (show ¬ (false = true) by decide)] at ih
      rw [if_neg (show ¬ (false = true) by decide), if_neg (r1_n1000 _ _ _ _ _ _)]
      exact ih
theorem onBy_eq {m : Mem} {N : Nat} {b : Nat → Nat} {lw ed : Int32} {ax ay bx by' : Int} (T : CP m N b lw ed) (hN : N ≤ 8) (hb : ∀ i, i < 3 * N → okP b i) (hq : B4 ax ay bx by') : PT_onBy m (iz ax) (iz ay) (iz bx) (iz by') = some (eO b N ax ay bx by') :=
  ob_loop (kx := fun y1 => some y1) T hN hb hq N 0 FU (by omega) (by unfold FU; omega)
theorem fitOne_eq {m : Mem} {N : Nat} {b : Nat → Nat} {lw ed : Int32} (T : CP m N b lw ed) (hN : N ≤ 8) (hb : ∀ i, i < 3 * N → okP b i) {j : Nat} (hj : j < N) (t : Int32) (o : Bool) : PT_fitOne m (nI j) t (b2i o) = some (b2i (ft lw ed o t (b (3 * j + 2)))) := by
  obtain ⟨o1, o2, o3⟩ := okP3 hb hj
  obtain ⟨t1, t2, t3⟩ := T.2.2.2 j hj
  unfold PT_fitOne ft
  rw [n_ixn (by omega), t3, T.2.1, T.2.2.1, if_pos (n_in (show j < 8 by omega) (by omega)), if_pos (n_in (show j < 8 by omega) (by omega))]
  cases o with
  | true =>
    rw [if_neg (show ¬ b2i true = 0 by decide), if_pos rfl]
    by_cases q : nI (b (3 * j + 2)) = ed
    · rw [if_pos q, decide_eq_true q]; rfl
    · rw [if_neg q, decide_eq_false q]; rfl
  | false =>
    rw [if_pos (show b2i false = 0 from rfl), if_neg (show ¬ (false = true) by decide)]
    have e1 : (nI (b (3 * j + 2)) = 1) ↔ b (3 * j + 2) = 1 := by rw [k1, n_eq (by omega) (by omega)]
    unfold PT_fitOne_J46
    by_cases q : b (3 * j + 2) = 1
    · rw [if_pos (e1.mpr q), decide_eq_true q]
      by_cases r : OH_isHis lw t = 1
      · rw [if_pos r, decide_eq_true (show OH_isHis lw t = b2i true from r)]; rfl
      · rw [if_neg r, decide_eq_false (show ¬ OH_isHis lw t = b2i true from r)]; rfl
    · rw [if_neg (fun z => q (e1.mp z)), decide_eq_false q]
      by_cases r : OH_isHis lw t = 0
      · rw [if_pos r, decide_eq_true (show OH_isHis lw t = b2i false from r)]; rfl
      · rw [if_neg r, decide_eq_false (show ¬ OH_isHis lw t = b2i false from r)]; rfl
theorem fit_loop {m : Mem} {N : Nat} {b : Nat → Nat} {lw ed : Int32} {z : Int64} {x : Int32} (T : CP m N b lw ed) (hN : N ≤ 8) (hb : ∀ i, i < 3 * N → okP b i) : ∀ (d j fu : Nat), j + d = N → d < fu → PT_fit_L3 m z x (some 1) fu (nI j) = some (b2i (alN (fit1 b lw ed z x) d j))
  | 0, j, fu, hd, hf => by
    obtain ⟨f, rfl⟩ : ∃ f, fu = f + 1 := ⟨fu - 1, by omega⟩
    rw [PT_fit_L3, T.1, if_pos (by rw [n_le (by omega) (by omega)]; omega)]
    rfl
  | d + 1, j, fu, hd, hf => by
    obtain ⟨f, rfl⟩ : ∃ f, fu = f + 1 := ⟨fu - 1, by omega⟩
    have ih := fit_loop (z := z) (x := x) T hN hb d (j + 1) f (by omega) (by omega)
    have ej : nI j + 1 = nI (j + 1) := by rw [k1, n_add]
    have key : PT_fit_L3 m z x (some 1) (f + 1) (nI j) = bI (PT_fitOne m (nI j) (PT_roundOf z (nI j)) (b2i (tb x j))) fun v1 => if v1 = 0 then (some 0) else PT_fit_L3 m z x (some 1) f (nI (j + 1)) := by
      rw [PT_fit_L3, T.1, if_neg (by rw [n_le (by omega) (by omega)]; omega), PT_fit_J35, PT_fit_J35, ej]
      have tj := tb_jshr (x := x) (show j < 8 by omega)
      cases q : tb x j with
      | false => rw [if_pos (tj.mpr q)]; rfl
      | true => rw [if_neg (fun w => by rw [tj.mp w] at q; cases q)]; rfl
    rw [key, fitOne_eq T hN hb (show j < N by omega), bI_s, ih]
    simp only [alN, fit1]
    cases ft lw ed (tb x j) (PT_roundOf z (nI j)) (b (3 * j + 2)) <;> rfl
theorem fit_eq {m : Mem} {N : Nat} {b : Nat → Nat} {lw ed : Int32} {z : Int64} {x : Int32} (T : CP m N b lw ed) (hN : N ≤ 8) (hb : ∀ i, i < 3 * N → okP b i) : PT_fit m z x = some (b2i (alN (fit1 b lw ed z x) N 0)) := fit_loop T hN hb N 0 FU (by omega) (by unfold FU; omega)
theorem fitW_loop {m : Mem} {N : Nat} {b : Nat → Nat} {lw ed : Int32} {z : Int64} {x : Int32} {ax ay bx by' : Int} (T : CP m N b lw ed) (hN : N ≤ 8) (hb : ∀ i, i < 3 * N → okP b i) (hq : B4 ax ay bx by') : ∀ (d j fu : Nat), j + d = N → d < fu → PT_fitWithEdge_L3 m z x (iz ax) (iz ay) (iz bx) (iz by') (some 1) fu (nI j) = some (b2i (alN (fitE b lw ed z x ax ay bx by') d j))
  | 0, j, fu, hd, hf => by
    obtain ⟨f, rfl⟩ : ∃ f, fu = f + 1 := ⟨fu - 1, by omega⟩
    rw [PT_fitWithEdge_L3, T.1, if_pos (by rw [n_le (by omega) (by omega)]; omega)]
    rfl
  | d + 1, j, fu, hd, hf => by
    obtain ⟨f, rfl⟩ : ∃ f, fu = f + 1 := ⟨fu - 1, by omega⟩
    have ih := fitW_loop (z := z) (x := x) T hN hb hq d (j + 1) f (by omega) (by omega)
    have ej : nI j + 1 = nI (j + 1) := by rw [k1, n_add]
    have tj := tb_jshr (x := x) (show j < 8 by omega)
    have key : ∃ t, PT_fitWithEdge_L3 m z x (iz ax) (iz ay) (iz bx) (iz by') (some 1) (f + 1) (nI j) = (bI (PT_fitOne m (nI j) t (b2i (onB b ax ay bx by' j || tb x j))) fun v1 => if v1 = 0 then (some 0) else PT_fitWithEdge_L3 m z x (iz ax) (iz ay) (iz bx) (iz by') (some 1) f (nI (j + 1))) ∧ (onB b ax ay bx by' j = false → t = PT_roundOf z (nI j) + iz (evP b ax ay bx by' j)) := by
      refine ⟨PT_roundOf z (nI j) + (if onB b ax ay bx by' j then 1000 else iz (r1 ax ay bx by' (b (3 * j)) (b (3 * j + 1)))), ?_, fun w => ?_⟩
      · rw [PT_fitWithEdge_L3, T.1, if_neg (by rw [n_le (by omega) (by omega)]; omega), if_pos (n_in (by omega) (by omega)), n_ixn (by omega), T.pass hb hq (show j < N by omega), letV_i]
        rw [PT_fitWithEdge_J73, PT_fitWithEdge_J73, ej]
        cases w : onB b ax ay bx by' j with
        | true =>
          rw [if_pos (show (if true = true then (1000 : Int32) else iz (r1 ax ay bx by' (b (3 * j)) (b (3 * j + 1)))) = 1000 from rfl), show b2i (true || tb x j) = 1 from rfl]
        | false =>
          rw [if_neg (show ¬ (if false = true then (1000 : Int32) else iz (r1 ax ay bx by' (b (3 * j)) (b (3 * j + 1)))) = 1000 from r1_n1000 _ _ _ _ _ _)]
          cases q : tb x j with
          | false => rw [if_pos (tj.mpr q), show b2i (false || false) = 0 from rfl]
          | true => rw [if_neg (fun w => by rw [tj.mp w] at q; cases q), show b2i (false || true) = 1 from rfl]
      · have w' := w
        unfold onB at w'
        unfold evP
        rw [w, w', if_neg (by decide), if_neg (by decide)]
    obtain ⟨t, k1, k2⟩ := key
    have e2 : ft lw ed (onB b ax ay bx by' j || tb x j) t (b (3 * j + 2)) = fitE b lw ed z x ax ay bx by' j := by
      unfold fitE
      cases w : onB b ax ay bx by' j with
      | true => unfold ft; rw [Bool.true_or, if_pos rfl, if_pos rfl]
      | false => rw [k2 w]
    rw [k1, fitOne_eq T hN hb (show j < N by omega), bI_s, ih, e2]
    simp only [alN]
    cases fitE b lw ed z x ax ay bx by' j <;> rfl
theorem fitW_eq {m : Mem} {N : Nat} {b : Nat → Nat} {lw ed : Int32} {z : Int64} {x : Int32} {ax ay bx by' : Int} (T : CP m N b lw ed) (hN : N ≤ 8) (hb : ∀ i, i < 3 * N → okP b i) (hq : B4 ax ay bx by') : PT_fitWithEdge m z x (iz ax) (iz ay) (iz bx) (iz by') = some (b2i (alN (fitE b lw ed z x ax ay bx by') N 0)) := fitW_loop T hN hb hq N 0 FU (by omega) (by unfold FU; omega)
theorem CP.fr {m m' : Mem} {N : Nat} {b : Nat → Nat} {lw ed : Int32} {L : List (Nat × Nat)} (T : CP m N b lw ed) (F : Frm L [] m m') (h : ∀ c j, 36 ≤ c → c ≤ 39 → wL L c j = false) : CP m' N b lw ed := by
  unfold CP at *
  rw [F.I _ _ (h 36 2 (by omega) (by omega)), F.I _ _ (h 36 0 (by omega) (by omega)), F.I _ _ (h 36 1 (by omega) (by omega))]
  refine ⟨T.1, T.2.1, T.2.2.1, fun i hi => ?_⟩
  rw [F.I _ _ (h 37 i (by omega) (by omega)), F.I _ _ (h 38 i (by omega) (by omega)), F.I _ _ (h 39 i (by omega) (by omega))]
  exact T.2.2.2 i hi

theorem pb_sum {n : Nat} {m : Mem} {D V : Nat → Nat} {kx : Mem → Int32 → Int32 → Option (Int32 × Mem)} (W : WfR n D V) (R : RwS m 157 158 n D V) : ∀ (k j fu : Nat), j + k = n → k < fu → RM_paces_L144 (nI n) kx fu m (iz (dxR j D V)) (iz (dyR j D V)) (nI j) = kx m (iz (dxR n D V)) (iz (dyR n D V)) := by
  have w1 := W.1
  intro k
  induction k with
  | zero =>
    intro j fu hj hf
    obtain ⟨f, rfl⟩ : ∃ f, fu = f + 1 := ⟨fu - 1, by omega⟩
    rw [RM_paces_L144, if_pos (by rw [n_le (by omega) (by omega)]; omega), show j = n by omega]
  | succ k ih =>
    intro j fu hj hf
    obtain ⟨f, rfl⟩ : ∃ f, fu = f + 1 := ⟨fu - 1, by omega⟩
    obtain ⟨r1, r2⟩ := R j (by omega)
    obtain ⟨r4, r5, r6⟩ := W.2 j (by omega)
    have i1 := ih (j + 1) f (by omega) (by omega)
    have inn : inb (nI j) 30 := n_in (by omega) (by omega)
    have ej : nI j + 1 = nI (j + 1) := by rw [k1, n_add]
    have es : ∀ q, smD D V q (j + 1) = smD D V q j + (if D j = q then V j else 0) := fun q => rfl
    have ne1 : ∀ a, a < 4 → ((nI (D j) = nI a) ↔ D j = a) := fun a ha => n_eq (by omega) (by omega)
    have j195 : ∀ s1 : Int, (iz (dxR j D V) + iz s1 = iz (dxR (j + 1) D V)) → RM_paces_J195 (RM_paces_L144 (nI n) kx f) kx m (nI n) (iz (dyR j D V)) (nI j) (iz (dxR j D V)) (iz s1) = kx m (iz (dxR n D V)) (iz (dyR n D V)) := fun s1 hs => by
      rw [RM_paces_J195, hs, letV_p, if_pos inn, n_ixn (by omega), r1, r2, letV_p, letV_p, letV_p, ej, ← i1]
      unfold dyR
      rw [es 2, es 0]
      by_cases y : D j = 2
      · rw [if_pos (by rw [y]; rfl), if_pos y, if_neg (by omega), nI_iz (V j), iz_add]
        congr 2
        omega
      · rw [if_neg (by rw [k2, ne1 2 (by omega)]; exact y), if_neg y]
        by_cases w : D j = 0
        · rw [if_pos (by rw [w]; rfl), if_pos w, nI_iz (V j), iz_neg, iz_add]
          congr 2
          omega
        · rw [if_neg (by rw [k0, ne1 0 (by omega)]; exact w), if_neg w, show (0 : Int32) = iz 0 from rfl, iz_add]
          congr 2
          omega
    rw [RM_paces_L144, if_neg (by rw [n_le (by omega) (by omega)]; omega), if_pos inn, n_ixn (by omega), r1, r2]
    have e1 := es 1
    have e3 := es 3
    by_cases y : D j = 1
    · rw [if_pos (by rw [y]; rfl), nI_iz (V j)]
      rw [if_pos y] at e1
      rw [if_neg (by omega)] at e3
      refine j195 _ ?_
      rw [iz_add]
      unfold dxR
      rw [e1, e3]
      congr 1
      omega
    · rw [if_neg (by rw [k1, ne1 1 (by omega)]; exact y)]
      rw [if_neg y] at e1
      by_cases w : D j = 3
      · rw [if_pos (by rw [w]; rfl), nI_iz (V j), iz_neg]
        rw [if_pos w] at e3
        refine j195 _ ?_
        rw [iz_add]
        unfold dxR
        rw [e1, e3]
        congr 1
        omega
      · rw [if_neg (by rw [k3, ne1 3 (by omega)]; exact w), show (0 : Int32) = iz 0 from rfl]
        rw [if_neg w] at e3
        refine j195 _ ?_
        rw [iz_add]
        unfold dxR
        rw [e1, e3]
        congr 1
        omega
/-- what the reference does with the rows -/
def pcG : Mem → Int32 → Option (Int32 × Mem) := fun m8 y7 => RM_paces_L144 y7 (fun m11 y9 y10 => bV (RM_mends m11 y7 y9 1 3) fun v12 m13 =>
  bV (RM_mends m13 y7 y10 2 0) fun v15 m16 =>
  if inb 0 4 then (letM (sI m16 155 (ixn 0) y9) fun m19 =>
  if inb 1 4 then (letM (sI m19 155 (ixn 1) y10) fun m21 =>
  if v12 < 0 then (RM_paces_J307 m21 y7 y9 y10 v12 v15 2 (-1))
  else (if 0 ≤ v15 then (RM_paces_J307 m21 y7 y9 y10 v12 v15 2 (v12 + v15))
  else (RM_paces_J307 m21 y7 y9 y10 v12 v15 2 (-1)))) else none) else none) FU m8 0 0 0
theorem pcG_eq {m : Mem} {n : Nat} {D V : Nat → Nat} (W : WfR n D V) (hn2 : 2 ≤ n) (R : RwS m 157 158 n D V) : ∃ m', pcG m (nI n) = some (nI n, m') ∧ (∀ i, i < 4 → gI m' 155 i = pcV (dxR n D V) (dyR n D V) (mxR n D V) (myR n D V) i) ∧ gI m' 133 52 = 1 ∧ gI m' 133 14 = gI m 133 14 ∧ gI m' 133 2 = gI m 133 2 := by
  obtain ⟨bx, by'⟩ := dR_bd W
  obtain ⟨m1, e1, F1⟩ := mends_eq (pl := 1) (mi := 3) (d := dxR n D V) W hn2 (by omega) (by omega) (by omega) bx R
  obtain ⟨m2, e2, F2⟩ := mends_eq (m := m1) (pl := 2) (mi := 0) (d := dyR n D V) W hn2 (by omega) (by omega) (by omega) by' (fun i hi => by rw [F1.I 157 i rfl, F1.I 158 i rfl]; exact R i hi)
  have dx0 : (0 ≤ iz (dxR n D V)) ↔ 0 ≤ dxR n D V := by rw [show (0 : Int32) = iz 0 from rfl, iz_le ⟨by omega, by omega⟩ ⟨by omega, by omega⟩]
  have dy0 : (0 ≤ iz (dyR n D V)) ↔ 0 ≤ dyR n D V := by rw [show (0 : Int32) = iz 0 from rfl, iz_le ⟨by omega, by omega⟩ ⟨by omega, by omega⟩]
  have le_lt : ∀ x : Int32, (0 ≤ x) ↔ ¬ x < 0 := fun x => by rw [Int32.le_iff_toInt_le, Int32.lt_iff_toInt_lt]; omega
  have abv : ∀ d : Int, -3000 ≤ d ∧ d ≤ 3000 → (if 0 ≤ iz d then iz d else - iz d) = iz d.natAbs := fun d hd => by
    by_cases z : 0 ≤ d
    · rw [if_pos (by rw [show (0 : Int32) = iz 0 from rfl, iz_le ⟨by omega, by omega⟩ ⟨by omega, by omega⟩]; exact z), show (d.natAbs : Int) = d by omega]
    · rw [if_neg (by rw [show (0 : Int32) = iz 0 from rfl, iz_le ⟨by omega, by omega⟩ ⟨by omega, by omega⟩]; exact z), iz_neg, show (d.natAbs : Int) = -d by omega]
  have mm : ∀ a c e f : Int32, (fun m' => (∀ i, i < 4 → gI m' 155 i = if i = 0 then a else if i = 1 then c else if i = 2 then e else f) ∧ gI m' 133 52 = 1 ∧ gI m' 133 14 = gI m 133 14 ∧ gI m' 133 2 = gI m 133 2) (sI (sI (sI (sI (sI m2 155 0 a) 155 1 c) 155 2 e) 155 3 f) 133 52 1) := fun a c e f => by
    have b14 : gI m2 133 14 = gI m 133 14 := by rw [F2.I 133 14 rfl, F1.I 133 14 rfl]
    have b2 : gI m2 133 2 = gI m 133 2 := by rw [F2.I 133 2 rfl, F1.I 133 2 rfl]
    refine ⟨fun i hi => ?_, by simp [gI_sI], by simp [gI_sI, b14], by simp [gI_sI, b2]⟩
    rcases (show i = 0 ∨ i = 1 ∨ i = 2 ∨ i = 3 by omega) with rfl | rfl | rfl | rfl <;> simp [gI_sI]
  have e337 : ∀ (mm : Mem) (s2 : Int32), RM_paces_J337 mm (nI n) (iz (dyR n D V)) 3 s2 = some (nI n, sI (sI mm 155 3 (s2 + iz (dyR n D V).natAbs)) 133 52 1) := fun mm s2 => by
    rw [RM_paces_J337, ← abv _ by', if_pos (show inb 3 4 by decide), show ixn 3 = 3 from rfl, letM_p, letM_p, letM_p, letM_p]
    by_cases z : 0 ≤ iz (dyR n D V)
    · rw [if_pos z, if_pos z]
    · rw [if_neg z, if_neg z, if_pos (show inb 3 4 by decide)]
  have e307 : ∀ (mm : Mem) (s2 : Int32), RM_paces_J307 mm (nI n) (iz (dxR n D V)) (iz (dyR n D V)) (mxR n D V) (myR n D V) 2 s2 = some (nI n, sI (sI (sI mm 155 2 s2) 155 3 (if mxR n D V < 0 ∨ myR n D V < 0 then -1 else iz ((dxR n D V).natAbs + (dyR n D V).natAbs))) 133 52 1) := fun mm s2 => by
    rw [RM_paces_J307, if_pos (show inb 2 4 by decide), show ixn 2 = 2 from rfl, letM_p, if_pos (show inb 3 4 by decide), show ixn 3 = 3 from rfl, letM_p, letM_p, e337, e337]
    by_cases z : mxR n D V < 0
    · rw [if_pos z, if_pos (Or.inl z)]
    · rw [if_neg z]
      by_cases y : myR n D V < 0
      · rw [if_neg (fun t => (le_lt _).mp t y), if_pos (Or.inr y)]
      · rw [if_pos ((le_lt _).mpr y), if_neg (show ¬ (mxR n D V < 0 ∨ myR n D V < 0) from fun t => t.elim z y), ← iz_add, ← abv _ bx]
        by_cases w : 0 ≤ iz (dxR n D V)
        · rw [if_pos w, if_pos w]
        · rw [if_neg w, if_neg w]
  have e0 : pcG m (nI n) = some (nI n, sI (sI (sI (sI (sI m2 155 0 (iz (dxR n D V))) 155 1 (iz (dyR n D V))) 155 2 (if mxR n D V < 0 ∨ myR n D V < 0 then -1 else mxR n D V + myR n D V)) 155 3 (if mxR n D V < 0 ∨ myR n D V < 0 then -1 else iz ((dxR n D V).natAbs + (dyR n D V).natAbs))) 133 52 1) := by
    have s := pb_sum (kx := fun m11 y9 y10 => bV (RM_mends m11 (nI n) y9 1 3) fun v12 m13 =>
      bV (RM_mends m13 (nI n) y10 2 0) fun v15 m16 =>
      if inb 0 4 then (letM (sI m16 155 (ixn 0) y9) fun m19 =>
      if inb 1 4 then (letM (sI m19 155 (ixn 1) y10) fun m21 =>
      if v12 < 0 then (RM_paces_J307 m21 (nI n) y9 y10 v12 v15 2 (-1))
      else (if 0 ≤ v15 then (RM_paces_J307 m21 (nI n) y9 y10 v12 v15 2 (v12 + v15))
      else (RM_paces_J307 m21 (nI n) y9 y10 v12 v15 2 (-1)))) else none) else none) W R n 0 FU (by omega) (by have := W.1; unfold FU; omega)
    rw [show iz (dxR 0 D V) = 0 from rfl, show iz (dyR 0 D V) = 0 from rfl, show nI 0 = 0 from rfl] at s
    rw [pcG, s, show RM_mends m (nI n) _ 1 3 = _ from e1, bV_s, show RM_mends m1 (nI n) _ 2 0 = _ from e2, bV_s, if_pos (show inb 0 4 by decide), show ixn 0 = 0 from rfl, letM_p, if_pos (show inb 1 4 by decide), show ixn 1 = 1 from rfl, letM_p, e307, e307]
    by_cases z : mxR n D V < 0
    · rw [if_pos z, if_pos (show mxR n D V < 0 ∨ myR n D V < 0 from Or.inl z), if_pos (show mxR n D V < 0 ∨ myR n D V < 0 from Or.inl z)]
    · rw [if_neg z]
      by_cases y : myR n D V < 0
      · rw [if_neg (fun t => (le_lt _).mp t y), if_pos (show mxR n D V < 0 ∨ myR n D V < 0 from Or.inr y), if_pos (show mxR n D V < 0 ∨ myR n D V < 0 from Or.inr y)]
      · rw [if_pos ((le_lt _).mpr y), if_neg (show ¬ (mxR n D V < 0 ∨ myR n D V < 0) from fun t => t.elim z y), if_neg (show ¬ (mxR n D V < 0 ∨ myR n D V < 0) from fun t => t.elim z y)]
  obtain ⟨q1, q2⟩ := mm (iz (dxR n D V)) (iz (dyR n D V)) (if mxR n D V < 0 ∨ myR n D V < 0 then -1 else mxR n D V + myR n D V) (if mxR n D V < 0 ∨ myR n D V < 0 then -1 else iz ((dxR n D V).natAbs + (dyR n D V).natAbs))
  exact ⟨_, e0, q1, q2⟩

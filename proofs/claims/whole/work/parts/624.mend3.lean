theorem mdS_bd : ∀ (r v : Nat) (e : Int) (k : Nat), v ≤ 98 → -98 ≤ e → e ≤ 3000 → -98 ≤ (mdS r v e k).1 ∧ (mdS r v e k).1 ≤ 3000
  | 0, v, e, k, hv, h1, h2 => ⟨h1, h2⟩
  | r + 1, v, e, k, hv, h1, h2 => by
    unfold mdS
    split
    · exact ⟨h1, h2⟩
    · exact mdS_bd r v (e - v) (k + 1) hv (by omega) (by omega)
theorem rm_lpm {m : Mem} {c : Nat → Nat} {kx : Mem → Int32 → Int32 → Option (Int32 × Mem)} (hc : ∀ w, 1 ≤ w → w ≤ 98 → gI m 35 w = nI (c w) ∧ c w ≤ 30) : ∀ (v fu k : Nat) (e : Int), v ≤ 98 → v < fu → -98 ≤ e → e ≤ 3000 → PA_rowsToMend_L132 kx fu m (iz e) (nI k) (nI v) = kx m (iz (lpm c v e k).1) (nI (lpm c v e k).2)
  | 0, fu, k, e, hv, hf, h1, h2 => by
    obtain ⟨f, rfl⟩ : ∃ f, fu = f + 1 := ⟨fu - 1, by omega⟩
    rw [PA_rowsToMend_L132, if_pos (by rw [k0, n_le (by omega) (by omega)]; omega)]
    rfl
  | v + 1, fu, k, e, hv, hf, h1, h2 => by
    obtain ⟨f, rfl⟩ : ∃ f, fu = f + 1 := ⟨fu - 1, by omega⟩
    obtain ⟨c1, c2⟩ := hc (v + 1) (by omega) hv
    obtain ⟨b1, b2⟩ := mdS_bd (c (v + 1)) (v + 1) e k hv h1 h2
    rw [PA_rowsToMend_L132, if_neg (by rw [k0, n_le (by omega) (by omega)]; omega), k0, rm_stq hv c1 c2 (c (v + 1)) 0 FU k e (by omega) (by unfold FU; omega) (by omega) (by omega), show nI (v + 1) + -1 = nI v by rw [nI_iz, show (-1 : Int32) = iz (-1) from rfl, iz_add, nI_iz]; congr 1; omega, rm_lpm hc v f _ _ (by omega) (by omega) b1 b2]
    rfl
/-- the rows that mend one way, the class -/
theorem toMend_eq {m : Mem} {n pl mi : Nat} {d : Int} {D V : Nat → Nat} (W : WfR n D V) (hpl : pl < 4) (hmi : mi < 4) (hne : pl ≠ mi) (hd : -3000 ≤ d ∧ d ≤ 3000) (h31 : gI m 31 1 = nI n) (R : RwS m 33 34 n D V) : ∃ m', PA_rowsToMend m (nI pl) (nI mi) (iz d) = some (cls (cw (gnr D V d pl mi) n) d.natAbs 0, m') ∧ Frm [(35, 999999)] [] m m' := by
  have w1 := W.1
  obtain ⟨m1, e1, f1, -⟩ := fill_eq (m := m) (a := 35) (L := 99) (v := 0) rfl (by omega)
  obtain ⟨m2, e2, c2, F2⟩ := rm_rows (kx := fun m3 => letV ((JM_abs (iz d))) fun v4 => PA_rowsToMend_L132 (fun m7 y5 y6 => if y5 ≤ 0 then (some (y6, m7)) else (some ((-1), m7))) FU m3 v4 0 98) W hpl hmi hne (d := d) ⟨by omega, by omega⟩ n 0 FU m1 (by omega) (by unfold FU; omega) (by rw [f1, if_neg (by omega)]; exact h31) (fun i hi => by rw [f1, f1, if_neg (by omega), if_neg (by omega)]; exact R i hi) (fun w q1 q2 => by rw [f1, if_pos ⟨rfl, by omega⟩]; rfl)
  have ab : JM_abs (iz d) = iz d.natAbs := by
    unfold JM_abs
    by_cases z : 0 ≤ d
    · rw [if_pos (by rw [show (0 : Int32) = iz 0 from rfl, iz_le ⟨by omega, by omega⟩ ⟨by omega, by omega⟩]; exact z), show (d.natAbs : Int) = d by omega]
    · rw [if_neg (by rw [show (0 : Int32) = iz 0 from rfl, iz_le ⟨by omega, by omega⟩ ⟨by omega, by omega⟩]; exact z), show (0 : Int32) = iz 0 from rfl, iz_sub, show (d.natAbs : Int) = 0 - d by omega]
  rw [show nI 0 = 0 from k0.symm] at e2
  suffices eq : PA_rowsToMend m (nI pl) (nI mi) (iz d) = some (cls (cw (gnr D V d pl mi) n) d.natAbs 0, m2) from ⟨m2, eq, PA_rowsToMend_fr (wL_sub rfl) m _ _ _ _ eq⟩
  have bd : ∀ (c : Nat → Nat) (v k : Nat) (e : Int), v ≤ 98 → -98 ≤ e → e ≤ 3000 → -98 ≤ (lpm c v e k).1 ∧ (lpm c v e k).1 ≤ 3000 := by
    intro c v
    induction v with
    | zero => intro k e _ h1 h2; exact ⟨h1, h2⟩
    | succ v ih =>
      intro k e hv h1 h2
      obtain ⟨b1, b2⟩ := mdS_bd (c (v + 1)) (v + 1) e k hv h1 h2
      exact ih _ _ (by omega) b1 b2
  rw [PA_rowsToMend, e1, bM_s, e2]
  rw [ab, letV_p, show (0 : Int32) = nI 0 from rfl, show (98 : Int32) = nI 98 from rfl, rm_lpm (c := cw (gnr D V d pl mi) n) (fun w q1 q2 => ⟨c2 w q1 q2, by have := cnP_le (P := fun x => decide (x = w)) (g := gnr D V d pl mi) n; unfold cw; omega⟩) 98 FU 0 _ (by omega) (by unfold FU; omega) (by omega) (by omega)]
  obtain ⟨b1, b2⟩ := bd (cw (gnr D V d pl mi) n) 98 0 d.natAbs (by omega) (by omega) (by omega)
  unfold cls
  by_cases z : (lpm (cw (gnr D V d pl mi) n) 98 (d.natAbs : Int) 0).1 ≤ 0
  · rw [if_pos z, if_pos (by rw [show nI 0 = iz 0 from rfl, iz_le ⟨by omega, by omega⟩ ⟨by omega, by omega⟩]; exact z)]
  · rw [if_neg z, if_neg (by rw [show nI 0 = iz 0 from rfl, iz_le ⟨by omega, by omega⟩ ⟨by omega, by omega⟩]; exact z)]
theorem abs_iz {d : Int} (h : -3000 ≤ d ∧ d ≤ 3000) : JM_abs (iz d) = iz d.natAbs := by
  unfold JM_abs
  by_cases z : 0 ≤ d
  · rw [if_pos (by rw [show (0 : Int32) = iz 0 from rfl, iz_le ⟨by omega, by omega⟩ ⟨by omega, by omega⟩]; exact z), show (d.natAbs : Int) = d by omega]
  · rw [if_neg (by rw [show (0 : Int32) = iz 0 from rfl, iz_le ⟨by omega, by omega⟩ ⟨by omega, by omega⟩]; exact z), show (0 : Int32) = iz 0 from rfl, iz_sub, show (d.natAbs : Int) = 0 - d by omega]
/-- what is told of the rows -/
def pcV (dx dy : Int) (a c : Int32) (i : Nat) : Int32 := if i = 0 then iz dx else if i = 1 then iz dy else if i = 2 then (if a < 0 ∨ c < 0 then -1 else a + c) else (if a < 0 ∨ c < 0 then -1 else iz (dx.natAbs + dy.natAbs))
abbrev dxR (n : Nat) (D V : Nat → Nat) : Int := (smD D V 1 n : Int) - smD D V 3 n
abbrev dyR (n : Nat) (D V : Nat → Nat) : Int := (smD D V 2 n : Int) - smD D V 0 n
abbrev mxR (n : Nat) (D V : Nat → Nat) : Int32 := cls (cw (gnr D V (dxR n D V) 1 3) n) (dxR n D V).natAbs 0
abbrev myR (n : Nat) (D V : Nat → Nat) : Int32 := cls (cw (gnr D V (dyR n D V) 2 0) n) (dyR n D V).natAbs 0
theorem dR_bd {n : Nat} {D V : Nat → Nat} (W : WfR n D V) : (-3000 ≤ dxR n D V ∧ dxR n D V ≤ 3000) ∧ (-3000 ≤ dyR n D V ∧ dyR n D V ≤ 3000) := by
  have w1 := W.1
  have l := fun q => smD_le (D := D) (V := V) (q := q) n (fun i hi => (W.2 i hi).2.2)
  have := l 0; have := l 1; have := l 2; have := l 3
  unfold dxR dyR
  omega
theorem reckon_eq {m : Mem} {n : Nat} {D V : Nat → Nat} (W : WfR n D V) (h31 : gI m 31 1 = nI n) (R : RwS m 33 34 n D V) : ∃ m', PA_reckon m = some (nI n, m') ∧ (∀ i, i < 4 → gI m' 32 i = pcV (dxR n D V) (dyR n D V) (mxR n D V) (myR n D V) i) := by
  obtain ⟨bx, by'⟩ := dR_bd W
  obtain ⟨m1, e1, F1⟩ := toMend_eq (pl := 1) (mi := 3) (d := dxR n D V) W (by omega) (by omega) (by omega) bx h31 R
  obtain ⟨m2, e2, F2⟩ := toMend_eq (m := m1) (pl := 2) (mi := 0) (d := dyR n D V) W (by omega) (by omega) (by omega) by' (by rw [F1.I 31 1 rfl]; exact h31) (fun i hi => by rw [F1.I 33 i rfl, F1.I 34 i rfl]; exact R i hi)
  have ex : nI (smD D V 1 n) - nI (smD D V 3 n) = iz (dxR n D V) := by rw [nI_iz, nI_iz, iz_sub]
  have ey : nI (smD D V 2 n) - nI (smD D V 0 n) = iz (dyR n D V) := by rw [nI_iz, nI_iz, iz_sub]
  have t1 := together_eq (q := 1) W h31 R (by omega)
  have t3 := together_eq (q := 3) W h31 R (by omega)
  have t2 := together_eq (q := 2) W h31 R (by omega)
  have t0 := together_eq (q := 0) W h31 R (by omega)
  have g2 : gI m2 31 1 = nI n := by rw [F2.I 31 1 rfl, F1.I 31 1 rfl, h31]
  have e55 : ∀ s0 : Int32, PA_reckon_J55 m2 (iz (dxR n D V)) (iz (dyR n D V)) (mxR n D V) (myR n D V) s0 = if s0 = 0 then some (nI n, sI (sI (sI (sI m2 32 0 (iz (dxR n D V))) 32 1 (iz (dyR n D V))) 32 2 (-1)) 32 3 (-1)) else some (nI n, sI (sI (sI (sI m2 32 0 (iz (dxR n D V))) 32 1 (iz (dyR n D V))) 32 2 (mxR n D V + myR n D V)) 32 3 (iz ((dxR n D V).natAbs + (dyR n D V).natAbs))) := fun s0 => by
    have g4 : ∀ a c e f : Int32, gI (sI (sI (sI (sI m2 32 0 a) 32 1 c) 32 2 e) 32 3 f) 31 1 = nI n := fun a c e f => by rw [gI_sI, if_neg (by omega), gI_sI, if_neg (by omega), gI_sI, if_neg (by omega), gI_sI, if_neg (by omega), g2]
    rw [PA_reckon_J55, if_pos (show inb 0 4 by decide), show ixn 0 = 0 from rfl, letM_p, if_pos (show inb 1 4 by decide), show ixn 1 = 1 from rfl, letM_p]
    by_cases z : s0 = 0
    · rw [if_pos z, if_pos z, PA_reckon_J89, if_pos (show inb 2 4 by decide), show ixn 2 = 2 from rfl, letM_p, if_pos z, if_pos (show inb 3 4 by decide), show ixn 3 = 3 from rfl, letM_p, g4]
    · rw [if_neg z, if_neg z, PA_reckon_J89, if_pos (show inb 2 4 by decide), show ixn 2 = 2 from rfl, letM_p, if_neg z, if_pos (show inb 3 4 by decide), show ixn 3 = 3 from rfl, abs_iz bx, abs_iz by', iz_add, letM_p, g4]
  have e0 : PA_reckon m = if mxR n D V < 0 ∨ myR n D V < 0 then PA_reckon_J55 m2 (iz (dxR n D V)) (iz (dyR n D V)) (mxR n D V) (myR n D V) 0 else PA_reckon_J55 m2 (iz (dxR n D V)) (iz (dyR n D V)) (mxR n D V) (myR n D V) 1 := by
    rw [PA_reckon, show PA_together m 1 = _ from t1, bI_s, show PA_together m 3 = _ from t3, bI_s, ex, letV_p, show PA_together m 2 = _ from t2, bI_s, show PA_together m 0 = _ from t0, bI_s, ey, letV_p, show PA_rowsToMend m 1 3 _ = _ from e1, bV_s, show PA_rowsToMend m1 2 0 _ = _ from e2, bV_s]
    by_cases z : mxR n D V < 0
    · rw [if_pos z, if_pos (Or.inl z)]
    · rw [if_neg z]
      by_cases y : myR n D V < 0
      · rw [if_pos y, if_pos (Or.inr y)]
      · rw [if_neg y, if_neg (fun t => t.elim z y)]
  have vv : ∀ (a c e f : Int32) i, i < 4 → gI (sI (sI (sI (sI m2 32 0 a) 32 1 c) 32 2 e) 32 3 f) 32 i = if i = 0 then a else if i = 1 then c else if i = 2 then e else f := fun a c e f i hi => by
    rcases (show i = 0 ∨ i = 1 ∨ i = 2 ∨ i = 3 by omega) with rfl | rfl | rfl | rfl <;> simp [gI_sI]
  by_cases z : mxR n D V < 0 ∨ myR n D V < 0
  · rw [if_pos z, e55, if_pos rfl] at e0
    refine ⟨_, e0, fun i hi => ?_⟩
    rw [vv _ _ _ _ i hi]
    unfold pcV
    rw [if_pos z, if_pos z]
  · rw [if_neg z, e55, if_neg (by decide)] at e0
    refine ⟨_, e0, fun i hi => ?_⟩
    rw [vv _ _ _ _ i hi]
    unfold pcV
    rw [if_neg z, if_neg z]

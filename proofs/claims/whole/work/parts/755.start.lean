/-! the memory at the start (printed by wip/tools/genstart.py) -/
def m0I (c : Nat) : Nat → Int32 :=
  if c = 0 then (upd (fun _ => 0) 16 (-1))
  else if c = 27 then (upd (upd (upd (fun _ => 0) 0 (-1)) 1 (-1)) 2 (-1))
  else if c = 32 then (upd (upd (upd (upd (fun _ => 0) 0 (-1001)) 1 (-1001)) 2 (-1001)) 3 (-1001))
  else if c = 40 then (upd (fun _ => 0) 1 (-1))
  else if c = 66 then (upd (upd (upd (upd (fun _ => 0) 0 (-1)) 1 (-1)) 2 (-1)) 3 (-1))
  else if c = 83 then (upd (upd (upd (upd (fun _ => 0) 0 0) 1 1) 2 2) 3 3)
  else if c = 99 then (upd (upd (upd (upd (fun _ => 0) 0 0) 1 1) 2 2) 3 3)
  else if c = 116 then (upd (upd (upd (upd (fun _ => 0) 0 0) 1 1) 2 2) 3 3)
  else if c = 132 then (upd (upd (upd (upd (fun _ => 0) 0 0) 1 1) 2 2) 3 3)
  else if c = 133 then (upd (upd (fun _ => 0) 27 (-1)) 45 (-1))
  else if c = 135 then H0r else if c = 136 then H0r else fun _ => 0
def m0J (c : Nat) : Nat → Int64 := if c = 138 then (vp_updL (vp_updL (vp_updL (vp_updL (vp_updL (vp_updL (vp_updL (vp_updL (vp_updL (vp_updL (vp_updL (vp_updL (vp_updL (vp_updL (vp_updL (vp_updL (vp_updL (fun _ => 0) 0 1818848869) 1 6840697) 2 109300298179432) 3 7102839) 4 7300196) 5 491496238692) 6 1818584692) 7 1701078885) 8 6842739) 9 123563833652072) 10 448378008179) 11 110) 12 101) 13 115) 14 119) 15 482905517684) 16 28526) else fun _ => 0
def m0 : Mem := (m0I, m0J, fun k => if k = 13 then 101 else 117)
theorem mok0 : Mok m0 := ⟨by decide +kernel, by decide +kernel⟩
theorem isN_d {x : Int32} {B : Nat} (h : decide (0 ≤ x.toInt ∧ x.toInt ≤ (B : Int)) = true) : isN x B := of_decide_eq_true h
theorem no_lt {x : Int32} {i : Nat} {P : Prop} (h : i < ixn x) (e : x = 0) : P := by
  rw [e] at h
  exact absurd h (by rw [show ixn 0 = 0 from by decide]; omega)
theorem upTo4 {P : Nat → Prop} (h0 : P 0) (h1 : P 1) (h2 : P 2) (h3 : P 3) : ∀ k, k < 4 → P k := by
  intro k hk
  rcases (show k = 0 ∨ k = 1 ∨ k = 2 ∨ k = 3 by omega) with rfl | rfl | rfl | rfl
  · exact h0
  · exact h1
  · exact h2
  · exact h3
theorem upTo3 {P : Nat → Prop} (h0 : P 0) (h1 : P 1) (h2 : P 2) : ∀ k, k < 3 → P k := by
  intro k hk
  rcases (show k = 0 ∨ k = 1 ∨ k = 2 by omega) with rfl | rfl | rfl
  · exact h0
  · exact h1
  · exact h2
theorem inv0 : Inv m0 := by
  refine ⟨Or.inl ⟨rfl, rfl⟩, ⟨rfl, isN_d (by decide +kernel), fun i h => no_lt h rfl⟩, ?_, ?_, ⟨rfl, isN_d (by decide +kernel), fun i h => no_lt h rfl⟩, ?_, ?_, ?_⟩
  · show PRel m0 101 135 0 137 0
    exact ⟨rfl, rfl, rfl, rfl, rfl, rfl, rfl, upTo4 (by decide +kernel) (by decide +kernel) (by decide +kernel) (by decide +kernel), fun i h => no_lt h rfl, fun i h => no_lt h rfl⟩
  · exact ⟨isN_d (by decide +kernel), isN_d (by decide +kernel), isN_d (by decide +kernel), isN_d (by decide +kernel), isN_d (by decide +kernel), isN_d (by decide +kernel), upTo4 (isN_d (by decide +kernel)) (isN_d (by decide +kernel)) (isN_d (by decide +kernel)) (isN_d (by decide +kernel)), fun i h => no_lt h rfl, fun i h => no_lt h rfl⟩
  · intro k hk
    refine ⟨rfl, ?_, fun h => ?_⟩
    · show isN 0 1
      exact isN_d (by decide +kernel)
    · have h : (0 : Int32) = 1 := h
      exact absurd h (by decide)
  · exact ⟨rfl, rfl, Or.inl ⟨rfl, upTo3 (by decide +kernel) (by decide +kernel) (by decide +kernel)⟩, Or.inl ⟨rfl, upTo4 (by decide +kernel) (by decide +kernel) (by decide +kernel) (by decide +kernel)⟩, Or.inl ⟨rfl, upTo4 (by decide +kernel) (by decide +kernel) (by decide +kernel) (by decide +kernel)⟩, rfl, Or.inl ⟨rfl, rfl⟩⟩
  · show ∀ k, k < 17 → m0J 138 k = resW.getD k 0
    decide +kernel
/-! the world at the start -/
def W0 (cA : Nat → ClassId) (b : Nat) : List va_E := (([] ++ bl_OH cA (b + 0)) ++ bl_RMx H0r H0r cA (b + 133)) ++ [oJ cA 1]
def entX (b : Nat) (cA : Nat → ClassId) (k : Nat) : va_E :=
  if (shp k).1 = 104 then .inl (cA 4, 3, .inr (.inr (.inr (.inr (va_up (va_up (va_up (fun _ => none) 0 (some (b + (k + 1)))) 1 (some (b + (k + 4)))) 2 (some (b + (k + 7))))))))
  else if (shp k).1 = 105 then .inl (cA 5, 2, .inr (.inr (.inr (.inr (va_up (va_up (fun _ => none) 0 (some (b + (k + 1)))) 1 (some (b + (k + 17))))))))
  else ent b cA m0 k
theorem arrV_eq {c : ClassId} {N : Nat} {f g : Nat → Value} (h : ∀ j, j < N → f j = g j) : arrV c N f = arrV c N g := by
  unfold arrV
  rw [show (fun j : Fin N => f j.val) = fun j => g j.val from funext fun j => h j.1 j.2]
theorem shp4 {k : Nat} (h : (shp k).1 = 104) : (shp k).2 = 3 := by
  have h0 : ∀ k, k < 163 → (shp k).1 = 104 → (shp k).2 = 3 := by decide +kernel
  exact h0 k (by have := shp_lt (c := k) (k := (shp k).1) (n := (shp k).2) rfl (by rw [h]; decide); exact Nat.lt_of_lt_of_le this (by decide)) h
theorem shp5 {k : Nat} (h : (shp k).1 = 105) : (shp k).2 = 2 := by
  have h0 : ∀ k, k < 163 → (shp k).1 = 105 → (shp k).2 = 2 := by decide +kernel
  exact h0 k (by have := shp_lt (c := k) (k := (shp k).1) (n := (shp k).2) rfl (by rw [h]; decide); exact Nat.lt_of_lt_of_le this (by decide)) h
theorem entX_at {D : va_G} {b k : Nat} {cA : Nat → ClassId} {H : Heap} (h : va_at D vwCl (b + k, entX b cA k) H) : va_at D vwCl (b + k, ent b cA m0 k) H := by
  by_cases h4 : (shp k).1 = 104
  · unfold entX at h
    rw [if_pos h4] at h
    unfold ent
    rw [if_neg (by rw [h4]; decide), if_neg (by rw [h4]; decide), if_neg (by rw [h4]; decide), if_neg (by rw [h4]; decide), if_pos h4, shp4 h4]
    have h : H[b + k]? = some (vp_cell _ _) := h
    show H[b + k]? = some (vp_cell _ _)
    rw [h, vp_cell_q, vp_cell_q]
    congr 1
    refine arrV_eq (fun j hj => ?_)
    rcases (show j = 0 ∨ j = 1 ∨ j = 2 by omega) with rfl | rfl | rfl
    · rfl
    · rfl
    · rfl
  · by_cases h5 : (shp k).1 = 105
    · unfold entX at h
      rw [if_neg h4, if_pos h5] at h
      unfold ent
      rw [if_neg (by rw [h5]; decide), if_neg (by rw [h5]; decide), if_neg (by rw [h5]; decide), if_neg (by rw [h5]; decide), if_neg h4, if_pos h5, shp5 h5]
      have h : H[b + k]? = some (vp_cell _ _) := h
      show H[b + k]? = some (vp_cell _ _)
      rw [h, vp_cell_q, vp_cell_q]
      congr 1
      refine arrV_eq (fun j hj => ?_)
      rcases (show j = 0 ∨ j = 1 by omega) with rfl | rfl
      · rfl
      · rfl
    · unfold entX at h
      rw [if_neg h4, if_neg h5] at h
      exact h
set_option maxRecDepth 20000 in
set_option maxHeartbeats 4000000 in
theorem W0_at (cA : Nat → ClassId) (b : Nat) : ∀ k, k < 163 → (W0 cA b)[k]? = some (entX b cA k)
  | 0, _ => by rfl
  | 1, _ => by rfl
  | 2, _ => by rfl
  | 3, _ => by rfl
  | 4, _ => by rfl
  | 5, _ => by rfl
  | 6, _ => by rfl
  | 7, _ => by rfl
  | 8, _ => by rfl
  | 9, _ => by rfl
  | 10, _ => by rfl
  | 11, _ => by rfl
  | 12, _ => by rfl
  | 13, _ => by rfl
  | 14, _ => by rfl
  | 15, _ => by rfl
  | 16, _ => by rfl
  | 17, _ => by rfl
  | 18, _ => by rfl
  | 19, _ => by rfl
  | 20, _ => by rfl
  | 21, _ => by rfl
  | 22, _ => by rfl
  | 23, _ => by rfl
  | 24, _ => by rfl
  | 25, _ => by rfl
  | 26, _ => by rfl
  | 27, _ => by rfl
  | 28, _ => by rfl
  | 29, _ => by rfl
  | 30, _ => by rfl
  | 31, _ => by rfl
  | 32, _ => by rfl
  | 33, _ => by rfl
  | 34, _ => by rfl
  | 35, _ => by rfl
  | 36, _ => by rfl
  | 37, _ => by rfl
  | 38, _ => by rfl
  | 39, _ => by rfl
  | 40, _ => by rfl
  | 41, _ => by rfl
  | 42, _ => by rfl
  | 43, _ => by rfl
  | 44, _ => by rfl
  | 45, _ => by rfl
  | 46, _ => by rfl
  | 47, _ => by rfl
  | 48, _ => by rfl
  | 49, _ => by rfl
  | 50, _ => by rfl
  | 51, _ => by rfl
  | 52, _ => by rfl
  | 53, _ => by rfl
  | 54, _ => by rfl
  | 55, _ => by rfl
  | 56, _ => by rfl
  | 57, _ => by rfl
  | 58, _ => by rfl
  | 59, _ => by rfl
  | 60, _ => by rfl
  | 61, _ => by rfl
  | 62, _ => by rfl
  | 63, _ => by rfl
  | 64, _ => by rfl
  | 65, _ => by rfl
  | 66, _ => by rfl
  | 67, _ => by rfl
  | 68, _ => by rfl
  | 69, _ => by rfl
  | 70, _ => by rfl
  | 71, _ => by rfl
  | 72, _ => by rfl
  | 73, _ => by rfl
  | 74, _ => by rfl
  | 75, _ => by rfl
  | 76, _ => by rfl
  | 77, _ => by rfl
  | 78, _ => by rfl
  | 79, _ => by rfl
  | 80, _ => by rfl
  | 81, _ => by rfl
  | 82, _ => by rfl
  | 83, _ => by rfl
  | 84, _ => by rfl
  | 85, _ => by rfl
  | 86, _ => by rfl
  | 87, _ => by rfl
  | 88, _ => by rfl
  | 89, _ => by rfl
  | 90, _ => by rfl
  | 91, _ => by rfl
  | 92, _ => by rfl
  | 93, _ => by rfl
  | 94, _ => by rfl
  | 95, _ => by rfl
  | 96, _ => by rfl
  | 97, _ => by rfl
  | 98, _ => by rfl
  | 99, _ => by rfl
  | 100, _ => by rfl
  | 101, _ => by rfl
  | 102, _ => by rfl
  | 103, _ => by rfl
  | 104, _ => by rfl
  | 105, _ => by rfl
  | 106, _ => by rfl
  | 107, _ => by rfl
  | 108, _ => by rfl
  | 109, _ => by rfl
  | 110, _ => by rfl
  | 111, _ => by rfl
  | 112, _ => by rfl
  | 113, _ => by rfl
  | 114, _ => by rfl
  | 115, _ => by rfl
  | 116, _ => by rfl
  | 117, _ => by rfl
  | 118, _ => by rfl
  | 119, _ => by rfl
  | 120, _ => by rfl
  | 121, _ => by rfl
  | 122, _ => by rfl
  | 123, _ => by rfl
  | 124, _ => by rfl
  | 125, _ => by rfl
  | 126, _ => by rfl
  | 127, _ => by rfl
  | 128, _ => by rfl
  | 129, _ => by rfl
  | 130, _ => by rfl
  | 131, _ => by rfl
  | 132, _ => by rfl
  | 133, _ => by rfl
  | 134, _ => by rfl
  | 135, _ => by rfl
  | 136, _ => by rfl
  | 137, _ => by rfl
  | 138, _ => by rfl
  | 139, _ => by rfl
  | 140, _ => by rfl
  | 141, _ => by rfl
  | 142, _ => by rfl
  | 143, _ => by rfl
  | 144, _ => by rfl
  | 145, _ => by rfl
  | 146, _ => by rfl
  | 147, _ => by rfl
  | 148, _ => by rfl
  | 149, _ => by rfl
  | 150, _ => by rfl
  | 151, _ => by rfl
  | 152, _ => by rfl
  | 153, _ => by rfl
  | 154, _ => by rfl
  | 155, _ => by rfl
  | 156, _ => by rfl
  | 157, _ => by rfl
  | 158, _ => by rfl
  | 159, _ => by rfl
  | 160, _ => by rfl
  | 161, _ => by rfl
  | 162, _ => by rfl
  | k + 163, h => absurd h (by omega)
theorem start_world {D : va_G} {b : Nat} {cA : Nat → ClassId} {H : Heap} (h : va_P D vwCl (Wl b (W0 cA b)) H) : va_P D vwCl (Wd b cA m0) H := by
  intro k q hq
  have hk : k < 163 := by
    have := (List.getElem?_eq_some_iff.mp hq).1
    have h2 : (Wd b cA m0).length = 163 := by simp [Wd]; decide
    omega
  rw [Wd_get (Nat.lt_of_lt_of_le hk (by decide))] at hq
  cases hq
  exact entX_at (h k _ (Wl_at (W0_at cA b k hk)))

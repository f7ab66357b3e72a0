/-! the law: one call of both sides -/
def M_law : MI := (⟨"OddHayLaw", "law", "([I)Z"⟩, code, 7, ret, 0, 0, [])
abbrev lvL (x : Cx) (b k : Nat) : List (Nat × Value) := [(0, .ref b), (1, .ref ((xG x).2.1 + 0)), (2, .ref ((xG x).2.1 + 133)), (3, .ref ((xG x).2.1 + 162)), (4, .int (nI k))]
/-- the ints behind the k-th of the script -/
abbrev sa (xs : Nat → Int32) (k j : Nat) : Int32 := xs (nI k + nI j).toNatClampNeg
def argl (xs : Nat → Int32) (k : Nat) : Nat → Nat → List Value
  | _, 0 => []
  | j, n + 1 => .int (sa xs k j) :: argl xs k (j + 1) n
theorem argl_len (xs : Nat → Int32) (k : Nat) : ∀ n j, (argl xs k j n).length = n
  | 0, _ => rfl
  | n + 1, j => by simp only [argl, List.length_cons]; rw [argl_len xs k n]
theorem argl_cv (b : Nat) (xs : Nat → Int32) (k : Nat) : ∀ n j, (argl xs k j n).map (cv b) = argl xs k j n
  | 0, _ => rfl
  | n + 1, j => by simp only [argl, List.map_cons]; rw [argl_cv b xs k n]; rfl
def decA (q j : Nat) : Prop := decode code q = .ok (.aload_n 0, 1) ∧ decode code (q + 1) = .ok (.iload 4, 2) ∧ decode code (q + 3) = .ok (.iconst (j : Int), 1) ∧ decode code (q + 4) = .ok (.iadd, 1) ∧ decode code (q + 5) = .ok (.iaload, 1)
def decAs (q : Nat) : Nat → Nat → Prop
  | _, 0 => True
  | j, n + 1 => decA q j ∧ decAs (q + 6) (j + 1) n
theorem clampn {a : Nat} (h : a < 2147483648) : (nI a).toNatClampNeg = a := by
  have := n_toInt h
  show (nI a).toInt.toNat = a
  rw [this]; omega
theorem vin {k j L : Nat} (h : k + j < L) (hL : L ≤ 3072) : vp_in (nI k + nI j) L := by
  rw [n_add]
  rintro (z | z)
  · rw [k0, n_lt (by omega) (by omega)] at z; omega
  · rw [clampn (by omega)] at z; omega
theorem V_arg {x : Cx} {cs ss q k j b L : Nat} {xs : Nat → Int32} {st : List Value} {m : Mem} (hX : Scr x b L xs) (hL : L ≤ 3072) (hk : k + j < L) (hj : j < 6) (d : decA q j) (h : EV M_law x cs ss (q + 6) (lvL x b k) (.int (sa xs k j) :: st) m) : EV M_law x cs ss q (lvL x b k) st m := by
  obtain ⟨d0, d1, d3, d4, d5⟩ := d
  have hv : Int32.ofInt (j : Int) = nI j := Int32.ofInt_eq_ofNat
  exact V_aload_n (M := M_law) d0 rfl rfl 0 rfl <| V_iload (M := M_law) d1 rfl 4 rfl <| V_iconst (M := M_law) d3 rfl hv <| V_iadd (M := M_law) d4 rfl <| V_sld (M := M_law) hX (vin hk hL) d5 rfl h
theorem V_args {x : Cx} {cs ss k b L : Nat} {xs : Nat → Int32} {m : Mem} (hX : Scr x b L xs) (hL : L ≤ 3072) (hk : k + 6 ≤ L) : ∀ (n q j : Nat) (st : List Value), j + n ≤ 6 → decAs q j n → EV M_law x cs ss (q + 6 * n) (lvL x b k) ((argl xs k j n).reverse ++ st) m → EV M_law x cs ss q (lvL x b k) st m
  | 0, q, j, st, hj, d, h => by simpa [argl] using h
  | n + 1, q, j, st, hj, d, h => by
    refine V_arg hX hL (show k + j < L by omega) (by omega) d.1 (V_args hX hL hk n (q + 6) (j + 1) _ (by omega) d.2 ?_)
    rw [show q + 6 + 6 * n = q + 6 * (n + 1) by omega]
    simpa [argl, List.append_assoc] using h
def decC (p n ixA ixB : Nat) (off : Int) : Prop := decode code p = .ok (.aload_n 1, 1) ∧ decAs (p + 1) 1 n ∧ decode code (p + 1 + 6 * n) = .ok (.invokevirtual ixA, 3) ∧ decode code (p + 1 + 6 * n + 3) = .ok (.aload_n 2, 1) ∧ decAs (p + 1 + 6 * n + 4) 1 n ∧ decode code (p + 1 + 6 * n + 4 + 6 * n) = .ok (.invokevirtual ixB, 3) ∧ decode code (p + 1 + 6 * n + 4 + 6 * n + 3) = .ok (.if_icmp .eq off, 3) ∧ ((p + 1 + 6 * n + 4 + 6 * n + 3 : Nat) : Int) + off = ((1722 : Nat) : Int)
theorem V_case {x : Cx} {cs ss k b L p n ixA ixB : Nat} {off : Int} {xs : Nat → Int32} {m : Mem} {MA MB : MI} (hX : Scr x b L xs) (hL : L ≤ 3072) (hk : k + 6 ≤ L) (hn : n ≤ 5) (hR : xR x = room_1) (hz : cs ≤ (xR x).cells ∧ ss ≤ (xR x).slots) (d : decC p n ixA ixB off) (cA : COV "OddHayLaw" ixA MA 11 n) (cB : COV "OddHayLaw" ixB MB 12 n) (fA : FitR room_1 MA) (fB : FitR room_1 MB)
    (P : ∃ v m1 m2, Mt MA (.ref 0 :: argl xs k 1 n) m (qI v m1) ∧ Mt MB (.ref 133 :: argl xs k 1 n) m1 (qI v m2) ∧ Inv m2) (h : ∀ m2, Inv m2 → EV M_law x cs ss 1722 (lvL x b k) [] m2) : EV M_law x cs ss p (lvL x b k) [] m := by
  obtain ⟨v, m1, m2, hA, hB, hI⟩ := P
  obtain ⟨d0, d1, d2, d3, d4, d5, d6, d7⟩ := d
  refine V_aload_n (M := M_law) d0 rfl rfl 1 rfl <| V_args hX hL hk n (p + 1) 1 _ (by omega) d1 ?_
  refine V_callI (M := M_law) (st := []) (v := v) (m' := m1) d2 rfl cA (by rw [hR]; exact fA) hz sh_0 (argl xs k 1 n) (argl_len xs k n 1) (by rw [argl_cv]) (Nat.zero_le _) hA ?_
  refine V_aload_n (M := M_law) d3 rfl rfl 2 rfl <| V_args hX hL hk n (p + 1 + 6 * n + 4) 1 _ (by omega) d4 ?_
  refine V_callI (M := M_law) (st := [.int v]) (v := v) (m' := m2) d5 rfl cB (by rw [hR]; exact fB) hz sh_133 (argl xs k 1 n) (argl_len xs k n 1) (by rw [argl_cv]) (Nat.le_of_ble_eq_true rfl) hB ?_
  exact V_icmp_eq (M := M_law) d6 rfl d7 (fun _ => h m2 hI) (fun z => absurd rfl z)

/-! by night: kinds of places, counts and firsts -/
abbrev Ky : Type := Int64 × Int32
abbrev Kd : Type := Ky × Nat × Nat
def addK (κ : Ky) (p : Nat) : List Kd → List Kd
  | [] => [(κ, 1, p)]
  | k :: t => if k.1 = κ then (κ, k.2.1 + 1, k.2.2) :: t else k :: addK κ p t
def kinds (key : Nat → Ky) : List Kd → List Nat → List Kd
  | ks, [] => ks
  | ks, p :: t => kinds key (addK (key p) p ks) t
def sumK (f : Ky → Nat) : List Kd → Nat
  | [] => 0
  | k :: t => k.2.1 * f k.1 + sumK f t
def orK (h : Ky → Nat → Option (List Nat)) : List Kd → Option (List Nat)
  | [] => none
  | k :: t => (h k.1 k.2.2).or (orK h t)
def sumQ (f : Nat → Nat) : List Nat → Nat
  | [] => 0
  | p :: t => f p + sumQ f t
def orQ (h : Nat → Option (List Nat)) : List Nat → Option (List Nat)
  | [] => none
  | p :: t => (h p).or (orQ h t)
theorem sumK_add (f : Ky → Nat) (κ : Ky) (p : Nat) : ∀ ks, sumK f (addK κ p ks) = sumK f ks + f κ
  | [] => by simp [addK, sumK]
  | k :: t => by
    unfold addK
    split
    · next h => subst h; simp only [sumK]; rw [Nat.add_mul]; omega
    · simp only [sumK]; rw [sumK_add f κ p t]; omega
theorem orK_add {h : Ky → Nat → Option (List Nat)} (hh : ∀ κ p q, h κ p = none → h κ q = none) (κ : Ky) (p : Nat) : ∀ ks, orK h (addK κ p ks) = (orK h ks).or (h κ p)
  | [] => by simp [addK, orK]
  | k :: t => by
    unfold addK
    split
    · next e =>
      subst e
      simp only [orK]
      cases z : h k.1 k.2.2 with
      | none => rw [hh _ _ p z]; simp
      | some w => simp
    · simp only [orK]; rw [orK_add hh κ p t, Option.or_assoc]
theorem sumK_kinds (f : Ky → Nat) (key : Nat → Ky) : ∀ Q ks, sumK f (kinds key ks Q) = sumK f ks + sumQ (fun p => f (key p)) Q
  | [], ks => rfl
  | p :: t, ks => by
    simp only [kinds, sumQ]
    rw [sumK_kinds f key t, sumK_add]; omega
theorem orK_kinds {h : Ky → Nat → Option (List Nat)} (hh : ∀ κ p q, h κ p = none → h κ q = none) (key : Nat → Ky) : ∀ Q ks, orK h (kinds key ks Q) = (orK h ks).or (orQ (fun p => h (key p) p) Q)
  | [], ks => by simp [kinds, orQ]
  | p :: t, ks => by
    simp only [kinds, orQ]
    rw [orK_kinds hh key t, orK_add hh, Option.or_assoc]
abbrev Ac : Type := Nat × Option (List Nat)
def ac (a b : Ac) : Ac := (a.1 + b.1, a.2.or b.2)
abbrev ac0 : Ac := (0, none)
theorem ac_as (a b c : Ac) : ac (ac a b) c = ac a (ac b c) := by simp only [ac, Nat.add_assoc, Option.or_assoc]
theorem ac_0 (a : Ac) : ac a ac0 = a := by simp [ac]
theorem ac_l (a : Ac) : ac ac0 a = a := by simp [ac]
def acL {α : Type} (a : α → Ac) : List α → Ac
  | [] => ac0
  | x :: t => ac (a x) (acL a t)
theorem acL_app {α : Type} (a : α → Ac) : ∀ s t, acL a (s ++ t) = ac (acL a s) (acL a t)
  | [], t => (ac_l _).symm
  | x :: s, t => by simp only [List.cons_append, acL]; rw [acL_app a s t, ac_as]
theorem acL_cong {α : Type} {a b : α → Ac} : ∀ s, (∀ x ∈ s, a x = b x) → acL a s = acL b s
  | [], _ => rfl
  | x :: s, h => by simp only [acL]; rw [h x (List.mem_cons_self ..), acL_cong s (fun y hy => h y (List.mem_cons_of_mem _ hy))]
theorem acL_1 (f : Nat → Nat) (h : Nat → Option (List Nat)) : ∀ Q, acL (fun p => (f p, h p)) Q = (sumQ f Q, orQ h Q)
  | [] => rfl
  | p :: t => by simp only [acL, sumQ, orQ]; rw [acL_1 f h t]; rfl
theorem acL_K (f : Ky → Nat) (h : Ky → Nat → Option (List Nat)) : ∀ ks : List Kd, acL (fun k => (k.2.1 * f k.1, h k.1 k.2.2)) ks = (sumK f ks, orK h ks)
  | [] => rfl
  | p :: t => by simp only [acL, sumK, orK]; rw [acL_K f h t]; rfl
/-- places of one kind do alike: kind by kind is as place by place -/
theorem acL_kinds {f : Ky → Nat} {h : Ky → Nat → Option (List Nat)} (hh : ∀ κ p q, h κ p = none → h κ q = none) (key : Nat → Ky) (Q : List Nat) : acL (fun k : Kd => (k.2.1 * f k.1, h k.1 k.2.2)) (kinds key [] Q) = acL (fun p => (f (key p), h (key p) p)) Q := by
  rw [acL_K, acL_1, sumK_kinds, orK_kinds hh]
  simp [sumK, orK]
def oneI (g : Bool) (c : Nat) (w : List Nat) : Ac := if g then (c, some w) else ac0
theorem kind_one (g : Ky → Bool) (w : Nat → List Nat) (key : Nat → Ky) (Q : List Nat) : acL (fun k : Kd => oneI (g k.1) k.2.1 (w k.2.2)) (kinds key [] Q) = acL (fun p => oneI (g (key p)) 1 (w p)) Q := by
  have h := acL_kinds (f := fun κ => if g κ then 1 else 0) (h := fun κ p => if g κ then some (w p) else none) (fun κ p q z => by
    cases e : g κ with
    | true => rw [e] at z; cases z
    | false => simp) key Q
  refine Eq.trans (acL_cong _ (fun k _ => ?_)) (h.trans (acL_cong _ (fun p _ => ?_)))
  · unfold oneI; cases g k.1 <;> simp
  · unfold oneI; cases g (key p) <;> simp
theorem acL_mul (s : Nat) (g : Ky → Bool) (w : Nat → List Nat) : ∀ ls : List Kd, acL (fun l : Kd => oneI (g l.1) (s * l.2.1) (w l.2.2)) ls = (s * (acL (fun l : Kd => oneI (g l.1) l.2.1 (w l.2.2)) ls).1, (acL (fun l : Kd => oneI (g l.1) l.2.1 (w l.2.2)) ls).2)
  | [] => by simp [acL]
  | l :: t => by
    simp only [acL]
    rw [acL_mul s g w t]
    unfold oneI ac
    cases g l.1 <;> simp [Nat.mul_add]
theorem acL_none (g : Nat → Bool) (w : Nat → List Nat) : ∀ Q, (acL (fun p => oneI (g p) 1 (w p)) Q).2 = none ↔ ∀ p ∈ Q, g p = false
  | [] => by simp [acL]
  | p :: t => by
    simp only [acL]
    have ih := acL_none g w t
    unfold oneI at *
    cases z : g p with
    | true => simp [ac, z]
    | false => simp [ac, z]; simpa using ih
theorem kind_two (g : Ky → Ky → Bool) (w : Nat → Nat → List Nat) (ki kj : Nat → Ky) (Qi Qj : List Nat) :
    acL (fun k : Kd => acL (fun l : Kd => oneI (g k.1 l.1) (k.2.1 * l.2.1) (w k.2.2 l.2.2)) (kinds kj [] Qj)) (kinds ki [] Qi) = acL (fun p => acL (fun q => oneI (g (ki p) (kj q)) 1 (w p q)) Qj) Qi := by
  have h := acL_kinds (f := fun κ => (acL (fun q => oneI (g κ (kj q)) 1 []) Qj).1) (h := fun κ p => (acL (fun q => oneI (g κ (kj q)) 1 (w p q)) Qj).2) (fun κ p q z => by
    rw [acL_none] at z ⊢; exact z) ki Qi
  have c : ∀ κ p, (acL (fun q => oneI (g κ (kj q)) 1 (w p q)) Qj).1 = (acL (fun q => oneI (g κ (kj q)) 1 []) Qj).1 := fun κ p => by
    have : ∀ Q : List Nat, (acL (fun q => oneI (g κ (kj q)) 1 (w p q)) Q).1 = (acL (fun q => oneI (g κ (kj q)) 1 []) Q).1 := by
      intro Q
      induction Q with
      | nil => rfl
      | cons q t ih =>
        simp only [acL, ac, ih]
        unfold oneI
        cases g κ (kj q) <;> rfl
    exact this Qj
  refine Eq.trans (acL_cong _ (fun k _ => ?_)) (h.trans (acL_cong _ (fun p _ => ?_)))
  · rw [acL_mul k.2.1 (fun κ => g k.1 κ) (fun q => w k.2.2 q), kind_one (fun κ => g k.1 κ) (fun q => w k.2.2 q) kj Qj, c]
  · rw [← c (ki p) p]
theorem addK_len (κ : Ky) (p : Nat) : ∀ ks, (addK κ p ks).length ≤ ks.length + 1
  | [] => by simp [addK]
  | k :: t => by
    unfold addK
    have := addK_len κ p t
    split <;> simp <;> omega
theorem kinds_len (key : Nat → Ky) : ∀ Q ks, (kinds key ks Q).length ≤ ks.length + Q.length
  | [], ks => by simp [kinds]
  | p :: t, ks => by
    have h1 := kinds_len key t (addK (key p) p ks)
    have h2 := addK_len (key p) p ks
    simp only [kinds, List.length_cons]; omega
theorem kinds_app (key : Nat → Ky) : ∀ Q R ks, kinds key ks (Q ++ R) = kinds key (kinds key ks Q) R
  | [], R, ks => rfl
  | p :: t, R, ks => by simp only [List.cons_append, kinds]; exact kinds_app key t R _

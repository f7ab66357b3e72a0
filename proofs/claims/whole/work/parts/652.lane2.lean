/-! by night: what the lanes mean -/
def evP (b : Nat → Nat) (ax ay bx by' : Int) (p : Nat) : Int := if onZ ax ay bx by' (b (3 * p)) (b (3 * p + 1)) then 0 else r1 ax ay bx by' (b (3 * p)) (b (3 * p + 1))
def onB (b : Nat → Nat) (ax ay bx by' : Int) (p : Nat) : Bool := onZ ax ay bx by' (b (3 * p)) (b (3 * p + 1))
theorem evP_bd (b : Nat → Nat) (ax ay bx by' : Int) (p : Nat) : bd 1 (evP b ax ay bx by' p) := by
  unfold evP
  split
  · omega
  · exact r1_bd _ _ _ _ _ _
def eR (b : Nat → Nat) (N : Nat) (ax ay bx by' : Int) : Int64 := jz (pkS (evP b ax ay bx by') N)
def onV (f : Nat → Bool) : Nat → Int32
  | 0 => 0
  | p + 1 => if f p then onV f p ||| jshl 1 (nI p) else onV f p
def eO (b : Nat → Nat) (N : Nat) (ax ay bx by' : Int) : Int32 := onV (onB b ax ay bx by') N
theorem tb_onV (f : Nat → Bool) : ∀ N, N ≤ 8 → ∀ q, q < 8 → tb (onV f N) q = (decide (q < N) && f q)
  | 0, _, q, _ => by simp [onV, tb_0]
  | N + 1, h, q, hq => by
    have ih := tb_onV f N (by omega) q hq
    simp only [onV]
    by_cases e : q = N
    · subst e
      cases z : f q with
      | true => rw [if_pos rfl, tb_or, tb_jshl q (by omega) q (by omega)]; simp
      | false => rw [if_neg (by decide), ih]; simp [z]
    · have d : decide (q < N + 1) = decide (q < N) := decide_eq_decide.mpr (by omega)
      rw [d]
      split
      · rw [tb_or, ih, tb_jshl N (by omega) q hq, decide_eq_false e, Bool.or_false]
      · exact ih
/-- lanes and bits of a long and an int -/
def LR (N : Nat) (z : Int64) (s : Nat → Int) : Prop := z = jz (pkS (fun p => 16 + (if p < N then s p else 0)) 8)
def OR (N : Nat) (x : Int32) (o : Nat → Bool) : Prop := ∀ p, p < N → tb x p = o p
theorem pkS_cut {N : Nat} (hN : N ≤ 8) (f : Nat → Int) : pkS f N = pkS (fun p => if p < N then f p else 0) 8 := by
  obtain ⟨d, hd⟩ : ∃ d, N + d = 8 := ⟨8 - N, by omega⟩
  rw [← hd, pkS_zero (fun p hp => if_neg (by omega)) d]
  exact pkS_cong N (fun p hp => (if_pos hp).symm)
theorem LR.add {N : Nat} (hN : N ≤ 8) {z : Int64} {s : Nat → Int} (f : Nat → Int) (h : LR N z s) : LR N (z + jz (pkS f N)) (fun p => s p + f p) := by
  unfold LR at *
  rw [h, pkS_cut hN f, jz_add, ← pkS_add]
  congr 1
  apply pkS_cong
  intro p hp
  show 16 + (if p < N then s p else 0) + (if p < N then f p else 0) = 16 + (if p < N then s p + f p else 0)
  split <;> omega
theorem LR.cong {N : Nat} {z : Int64} {s s' : Nat → Int} (h : LR N z s) (e : ∀ p, p < N → s p = s' p) : LR N z s' := by
  unfold LR at *
  rw [h]
  congr 1
  apply pkS_cong
  intro p hp
  split
  · next q => rw [e p q]
  · rfl
theorem LR.zero (N : Nat) : LR N 1157442765409226768 (fun _ => 0) := by
  unfold LR
  rw [pkS_cong (g := fun _ => 16) 8 (fun p _ => by split <;> rfl)]
  decide +kernel
theorem LR.rd {N : Nat} (hN : N ≤ 8) {z : Int64} {s : Nat → Int} (h : LR N z s) (hb : ∀ p, p < N → bd 15 (s p)) {p : Nat} (hp : p < N) : PT_roundOf z (nI p) = iz (s p) := by
  unfold LR at h
  rw [h, roundOf_eq (f := fun p => if p < N then s p else 0) (fun p _ => by
    show bd 15 (if p < N then s p else 0)
    split
    · next q => exact hb p q
    · omega) (by omega), if_pos hp]
theorem OR.add {N : Nat} {x y : Int32} {o u : Nat → Bool} (h : OR N x o) (k : OR N y u) : OR N (x ||| y) (fun p => o p || u p) := fun p hp => by rw [tb_or, h p hp, k p hp]
theorem OR.on {N : Nat} (hN : N ≤ 8) (b : Nat → Nat) (ax ay bx by' : Int) : OR N (eO b N ax ay bx by') (onB b ax ay bx by') := fun p hp => by
  unfold eO
  rw [tb_onV _ N hN p (by omega), decide_eq_true hp, Bool.true_and]
theorem OR.zero (N : Nat) : OR N 0 (fun _ => false) := fun p _ => tb_0 p
theorem OR.cong {N : Nat} {x : Int32} {o u : Nat → Bool} (h : OR N x o) (e : ∀ p, p < N → o p = u p) : OR N x u := fun p hp => by rw [h p hp, e p hp]
/-! sums over edges -/
def sEd (w : Nat → Int) : Nat → Int
  | 0 => 0
  | n + 1 => sEd w n + w n
def oE (o : Nat → Bool) : Nat → Bool
  | 0 => false
  | n + 1 => oE o n || o n
def sL (w : Nat → Int) : List Nat → Int
  | [] => 0
  | e :: t => w e + sL w t
theorem sEd_cong {v w : Nat → Int} : ∀ n, (∀ e, e < n → v e = w e) → sEd v n = sEd w n
  | 0, _ => rfl
  | n + 1, h => by simp only [sEd]; rw [sEd_cong n (fun e he => h e (by omega)), h n (by omega)]
theorem sEd_one {w : Nat → Int} {a : Nat} : ∀ n, a < n → sEd w n = sEd (fun e => if e = a then 0 else w e) n + w a
  | n + 1, h => by
    simp only [sEd]
    by_cases q : a = n
    · subst q
      rw [if_pos rfl, sEd_cong (v := fun e => if e = a then 0 else w e) (w := w) a (fun e he => if_neg (by omega))]; omega
    · rw [sEd_one (a := a) n (by omega), if_neg (fun z => q z.symm)]; omega
theorem sEd_ex (w : Nat → Int) (n : Nat) : ∀ l : List Nat, l.Nodup → (∀ e ∈ l, e < n) → sEd w n = sEd (fun e => if e ∈ l then 0 else w e) n + sL w l
  | [], _, _ => by simp [sL]
  | a :: t, hd, hl => by
    obtain ⟨h1, h2⟩ := List.nodup_cons.mp hd
    rw [sEd_ex w n t h2 (fun e he => hl e (List.mem_cons_of_mem _ he)), sEd_one (a := a) n (hl a (List.mem_cons_self ..)), if_neg h1]
    simp only [sL]
    rw [sEd_cong (v := fun e => if e = a then 0 else if e ∈ t then 0 else w e) (w := fun e => if e ∈ a :: t then 0 else w e) n (fun e _ => by
      by_cases q : e = a
      · rw [if_pos q, if_pos (by rw [q]; exact List.mem_cons_self ..)]
      · by_cases r : e ∈ t
        · rw [if_neg q, if_pos r, if_pos (List.mem_cons_of_mem _ r)]
        · rw [if_neg q, if_neg r, if_neg (by rw [List.mem_cons]; rintro (z | z); exact q z; exact r z)])]
    omega
theorem oE_iff {o : Nat → Bool} : ∀ n, oE o n = true ↔ ∃ e, e < n ∧ o e = true
  | 0 => by simp [oE]
  | n + 1 => by
    simp only [oE, Bool.or_eq_true]
    rw [oE_iff n]
    constructor
    · rintro (⟨e, h1, h2⟩ | h)
      · exact ⟨e, by omega, h2⟩
      · exact ⟨n, by omega, h⟩
    · rintro ⟨e, h1, h2⟩
      by_cases q : e = n
      · subst q; exact Or.inr h2
      · exact Or.inl ⟨e, by omega, h2⟩
theorem sEd_bd {w : Nat → Int} : ∀ n : Nat, (∀ e, e < n → bd 1 (w e)) → bd n (sEd w n)
  | 0, _ => by simp only [sEd]; constructor <;> omega
  | n + 1, h => by
    have a := sEd_bd n (fun e he => h e (by omega))
    have c := h n (by omega)
    simp only [sEd]
    constructor <;> omega
/-- the edge e of a line -/
abbrev eW (b : Nat → Nat) (n : Nat) (X Y : Nat → Int) (e p : Nat) : Int := evP b (X e) (Y e) (X (nx n e)) (Y (nx n e)) p
abbrev eB (b : Nat → Nat) (n : Nat) (X Y : Nat → Int) (e p : Nat) : Bool := onB b (X e) (Y e) (X (nx n e)) (Y (nx n e)) p
theorem onP_oE (b : Nat → Nat) (n : Nat) (X Y : Nat → Int) (p : Nat) : ∀ d, d ≤ n → onP (clz n X) (clz n Y) (b (3 * p)) (b (3 * p + 1)) d = oE (fun e => eB b n X Y e p) d
  | 0, _ => rfl
  | d + 1, h => by
    simp only [onP, oE]
    rw [onP_oE b n X Y p d (by omega), clz_lt (show d < n by omega), clz_lt (show d < n by omega), clz_nx (show d < n by omega), clz_nx (show d < n by omega)]
    rfl
theorem rndP_sEd (b : Nat → Nat) (n : Nat) (X Y : Nat → Int) (p : Nat) : ∀ d, d ≤ n → oE (fun e => eB b n X Y e p) d = false → rndP (clz n X) (clz n Y) (b (3 * p)) (b (3 * p + 1)) d = sEd (fun e => eW b n X Y e p) d
  | 0, _, _ => rfl
  | d + 1, h, ho => by
    simp only [oE, Bool.or_eq_false_iff] at ho
    simp only [rndP, sEd]
    rw [rndP_sEd b n X Y p d (by omega) ho.1, clz_lt (show d < n by omega), clz_lt (show d < n by omega), clz_nx (show d < n by omega), clz_nx (show d < n by omega)]
    have := ho.2
    unfold eB onB at this
    unfold eW evP
    rw [this, if_neg (by decide)]
/-! does all fit -/
def alN (g : Nat → Bool) : Nat → Nat → Bool
  | 0, _ => true
  | n + 1, j => g j && alN g n (j + 1)
theorem alN_cong {g h : Nat → Bool} : ∀ n j, (∀ i, j ≤ i → i < j + n → g i = h i) → alN g n j = alN h n j
  | 0, _, _ => rfl
  | n + 1, j, q => by
    simp only [alN]
    rw [q j (by omega) (by omega), alN_cong n (j + 1) (fun i a c => q i (by omega) (by omega))]
theorem soB_alN (b : Nat → Nat) (f : Nat → Nat → Bool) : ∀ n j, soB b f n j = alN (fun p => f (b (3 * p)) (b (3 * p + 1)) == decide (b (3 * p + 2) = 1)) n j
  | 0, _ => rfl
  | n + 1, j => by simp only [soB, alN]; rw [soB_alN b f n (j + 1)]
def ft (lw ed : Int32) (o : Bool) (t : Int32) (w : Nat) : Bool := if o then decide (nI w = ed) else decide (OH_isHis lw t = b2i (decide (w = 1)))
def fit1 (b : Nat → Nat) (lw ed : Int32) (z : Int64) (x : Int32) (p : Nat) : Bool := ft lw ed (tb x p) (PT_roundOf z (nI p)) (b (3 * p + 2))
def fitE (b : Nat → Nat) (lw ed : Int32) (z : Int64) (x : Int32) (ax ay bx by' : Int) (p : Nat) : Bool := ft lw ed (onB b ax ay bx by' p || tb x p) (PT_roundOf z (nI p) + iz (evP b ax ay bx by' p)) (b (3 * p + 2))
theorem ft_eq {lw ed : Int32} {U V : Nat → Int} {n w : Nat} {x y t : Int} {o : Bool} (hed : ed = 0 ∨ ed = 1) (hw : w ≤ 1) (ht : bd 20 t) (ho : onP U V x y n = o) (hr : o = false → rndP U V x y n = t) : ft lw ed o (iz t) w = (hisP lw ed U V x y n == decide (w = 1)) := by
  unfold ft hisP
  rw [ho]
  cases o with
  | true =>
    rw [if_pos rfl, if_pos rfl]
    rcases hed with rfl | rfl <;> rcases (show w = 0 ∨ w = 1 by omega) with rfl | rfl <;> decide
  | false =>
    rw [if_neg (by decide), if_neg (by decide), OH_isHis_eq ht, hr rfl]
    generalize (if lw = 0 then decide (t % 2 = 1) else if lw = 1 then decide (t ≠ 0) else decide (0 < t)) = A
    cases A <;> rcases (show w = 0 ∨ w = 1 by omega) with rfl | rfl <;> decide
/-- all edges but those skipped -/
def rsR (w : Nat → Int64) (sk : Nat → Bool) : Nat → Int64
  | 0 => 1157442765409226768
  | e + 1 => if sk e then rsR w sk e else rsR w sk e + w e
def rsO (w : Nat → Int32) (sk : Nat → Bool) : Nat → Int32
  | 0 => 0
  | e + 1 => if sk e then rsO w sk e else rsO w sk e ||| w e
abbrev edR (b : Nat → Nat) (N n : Nat) (X Y : Nat → Int) (e : Nat) : Int64 := eR b N (X e) (Y e) (X (nx n e)) (Y (nx n e))
abbrev edO' (b : Nat → Nat) (N n : Nat) (X Y : Nat → Int) (e : Nat) : Int32 := eO b N (X e) (Y e) (X (nx n e)) (Y (nx n e))
theorem rsR_LR {N n : Nat} (hN : N ≤ 8) (b : Nat → Nat) (X Y : Nat → Int) (sk : Nat → Bool) : ∀ d, LR N (rsR (edR b N n X Y) sk d) (fun p => sEd (fun e => if sk e then 0 else eW b n X Y e p) d)
  | 0 => LR.zero N
  | d + 1 => by
    have ih := rsR_LR hN b X Y sk (n := n) d
    simp only [rsR, sEd]
    cases z : sk d with
    | true => rw [if_pos rfl]; exact ih.cong (fun p _ => by simp)
    | false => rw [if_neg (by decide)]; exact (ih.add hN _).cong (fun p _ => by simp)
theorem rsO_OR {N n : Nat} (hN : N ≤ 8) (b : Nat → Nat) (X Y : Nat → Int) (sk : Nat → Bool) : ∀ d, OR N (rsO (edO' b N n X Y) sk d) (fun p => oE (fun e => !sk e && eB b n X Y e p) d)
  | 0 => OR.zero N
  | d + 1 => by
    have ih := rsO_OR hN b X Y sk (n := n) d
    simp only [rsO, oE]
    cases z : sk d with
    | true => rw [if_pos rfl]; exact ih.cong (fun p _ => by simp)
    | false => rw [if_neg (by decide)]; exact (ih.add (OR.on hN b _ _ _ _)).cong (fun p _ => by simp)
/-- the line with some corners elsewhere: l are the edges that changed -/
def Chg (n : Nat) (X Y X' Y' : Nat → Int) (sk : Nat → Bool) (l : List Nat) : Prop := l.Nodup ∧ (∀ e ∈ l, e < n) ∧ ∀ e, e < n → (sk e = decide (e ∈ l)) ∧ (e ∉ l → X' e = X e ∧ Y' e = Y e ∧ X' (nx n e) = X (nx n e) ∧ Y' (nx n e) = Y (nx n e))
theorem Chg.sum {n : Nat} {X Y X' Y' : Nat → Int} {sk : Nat → Bool} {l : List Nat} (b : Nat → Nat) (C : Chg n X Y X' Y' sk l) (p : Nat) : sEd (fun e => if sk e then 0 else eW b n X Y e p) n + sL (fun e => eW b n X' Y' e p) l = sEd (fun e => eW b n X' Y' e p) n := by
  rw [sEd_ex (fun e => eW b n X' Y' e p) n l C.1 C.2.1]
  congr 1
  apply sEd_cong
  intro e he
  obtain ⟨h1, h2⟩ := C.2.2 e he
  rw [h1]
  by_cases q : e ∈ l
  · rw [if_pos (by simpa using q), if_pos q]
  · obtain ⟨a1, a2, a3, a4⟩ := h2 q
    rw [if_neg (by simpa using q), if_neg q, eW, eW, a1, a2, a3, a4]
theorem Chg.on {n : Nat} {X Y X' Y' : Nat → Int} {sk : Nat → Bool} {l : List Nat} (b : Nat → Nat) (C : Chg n X Y X' Y' sk l) (p : Nat) : (oE (fun e => !sk e && eB b n X Y e p) n || l.any (fun e => eB b n X' Y' e p)) = oE (fun e => eB b n X' Y' e p) n := by
  rw [Bool.eq_iff_iff, Bool.or_eq_true, oE_iff, oE_iff, List.any_eq_true]
  constructor
  · rintro (⟨e, h1, h2⟩ | ⟨e, h1, h2⟩)
    · obtain ⟨g1, g2⟩ := C.2.2 e h1
      simp only [Bool.and_eq_true, Bool.not_eq_true'] at h2
      rw [g1, decide_eq_false_iff_not] at h2
      obtain ⟨a1, a2, a3, a4⟩ := g2 h2.1
      exact ⟨e, h1, by have := h2.2; rw [eB] at this ⊢; rw [a1, a2, a3, a4]; exact this⟩
    · exact ⟨e, C.2.1 e h1, h2⟩
  · rintro ⟨e, h1, h2⟩
    obtain ⟨g1, g2⟩ := C.2.2 e h1
    by_cases q : e ∈ l
    · exact Or.inr ⟨e, q, h2⟩
    · obtain ⟨a1, a2, a3, a4⟩ := g2 q
      refine Or.inl ⟨e, h1, ?_⟩
      rw [g1, decide_eq_false q, Bool.not_false, Bool.true_and]
      rw [eB] at h2 ⊢; rw [a1, a2, a3, a4] at h2; exact h2
abbrev soP (b : Nat → Nat) (N : Nat) (lw ed : Int32) (n : Nat) (X Y : Nat → Int) : Bool := soB b (fun x y => hisP lw ed (clz n X) (clz n Y) x y n) N 0
theorem fit_mean {N n : Nat} {b : Nat → Nat} {lw ed : Int32} {X' Y' : Nat → Int} {z : Int64} {x : Int32} (hN : N ≤ 8) (hn : n ≤ 12) (hb : ∀ i, i < 3 * N → okP b i) (hed : ed = 0 ∨ ed = 1) (hz : LR N z (fun p => sEd (fun e => eW b n X' Y' e p) n)) (hx : OR N x (fun p => oE (fun e => eB b n X' Y' e p) n)) : alN (fit1 b lw ed z x) N 0 = soP b N lw ed n X' Y' := by
  unfold soP
  rw [soB_alN]
  apply alN_cong
  intro p _ hp
  have hp' : p < N := by omega
  have bb : ∀ p, p < N → bd 15 (sEd (fun e => eW b n X' Y' e p) n) := fun p _ => by
    have := sEd_bd (w := fun e => eW b n X' Y' e p) n (fun e _ => evP_bd _ _ _ _ _ _)
    omega
  have := bb p hp'
  unfold fit1
  rw [hz.rd hN bb hp', hx p hp']
  exact ft_eq hed (okP3 hb hp').2.2 (by omega) (onP_oE b n X' Y' p n (by omega)) (fun q => rndP_sEd b n X' Y' p n (by omega) q)
theorem fitE_mean {N n : Nat} {b : Nat → Nat} {lw ed : Int32} {X' Y' : Nat → Int} {z : Int64} {x : Int32} {ax ay bx by' : Int} {s : Nat → Int} {o : Nat → Bool} (hN : N ≤ 8) (hn : n ≤ 12) (hb : ∀ i, i < 3 * N → okP b i) (hed : ed = 0 ∨ ed = 1) (hz : LR N z s) (hx : OR N x o) (hs : ∀ p, p < N → s p + evP b ax ay bx by' p = sEd (fun e => eW b n X' Y' e p) n) (ho : ∀ p, p < N → (onB b ax ay bx by' p || o p) = oE (fun e => eB b n X' Y' e p) n) : alN (fitE b lw ed z x ax ay bx by') N 0 = soP b N lw ed n X' Y' := by
  unfold soP
  rw [soB_alN]
  apply alN_cong
  intro p _ hp
  have hp' : p < N := by omega
  have bb : ∀ p, p < N → bd 12 (sEd (fun e => eW b n X' Y' e p) n) := fun p _ => by
    have := sEd_bd (w := fun e => eW b n X' Y' e p) n (fun e _ => evP_bd _ _ _ _ _ _)
    omega
  have b2 : ∀ p, p < N → bd 15 (s p) := fun p hp => by
    have h1 := bb p hp
    have h2 := hs p hp
    have h3 := evP_bd b ax ay bx by' p
    omega
  have := bb p hp'
  unfold fitE
  rw [hz.rd hN b2 hp', hx p hp', ho p hp', iz_add, hs p hp']
  exact ft_eq hed (okP3 hb hp').2.2 (by omega) (onP_oE b n X' Y' p n (by omega)) (fun q => rndP_sEd b n X' Y' p n (by omega) q)

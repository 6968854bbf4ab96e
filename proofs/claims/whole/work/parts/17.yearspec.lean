/-! years -/
def mn1 (f : Nat → Nat) : Nat → Nat
  | 0 => f 0
  | i + 1 => min (mn1 f i) (f (i + 1))
def lts (f : Nat → Nat) : Nat → Nat
  | 0 => 1073741824
  | i + 1 => min (lts f i) (f i)
def cmv (co sh : Nat → Nat) (cg k j : Nat) : Nat := co j + cg * sm (mv1 (sh j) (sh k)) 7
def cyf (wt sw sh : Nat → Nat) (cg : Nat) : Nat → Nat → Nat
  | 0 => fun k => wt 0 * sw k
  | y + 1 => fun k => mn1 (cmv (cyf wt sw sh cg y) sh cg k) 3 + wt (y + 1) * sw k
def upTo (f : Nat → Nat) (f0 : Nat → Nat) : Nat → Nat → Nat
  | 0 => f0
  | i + 1 => up (upTo f f0 i) i (f i)
theorem upTo_at (f f0 : Nat → Nat) : ∀ n j, j < n → upTo f f0 n j = f j := by
  intro n
  induction n with
  | zero => intro j h; omega
  | succ n ih =>
    intro j h
    by_cases e : j = n
    · subst e; exact up_s _ _ _
    · exact (up_n _ _ e).trans (ih j (by omega))
theorem lts_le (f : Nat → Nat) : ∀ i, lts f i ≤ 1073741824 := by
  intro i
  induction i with
  | zero => exact Nat.le_refl _
  | succ i ih => exact Nat.le_trans (Nat.min_le_left _ _) ih
theorem lts_mn {f : Nat → Nat} (h : ∀ j, f j ≤ 1073741824) : lts f 4 = mn1 f 3 := by
  show min (min (min (min 1073741824 (f 0)) (f 1)) (f 2)) (f 3) = min (min (min (f 0) (f 1)) (f 2)) (f 3)
  rw [Nat.min_eq_right (h 0)]
theorem mv1_le (a b m : Nat) : mv1 a b m ≤ 1 := by unfold mv1; split <;> omega
theorem mvs_le (a b : Nat) : sm (mv1 a b) 7 ≤ 7 := Nat.le_trans (sm_bd (fun m _ => mv1_le a b m)) (by decide)
theorem mn1_le (f : Nat → Nat) : ∀ i, mn1 f i ≤ f 0 := by
  intro i
  induction i with
  | zero => exact Nat.le_refl _
  | succ i ih => exact Nat.le_trans (Nat.min_le_left _ _) ih
theorem cmv_le {co sh : Nat → Nat} {cg B : Nat} (hc : ∀ j, co j ≤ B) (hg : cg ≤ 50) (k j : Nat) : cmv co sh cg k j ≤ B + 350 := by
  have h1 := hc j
  have h2 : cg * sm (mv1 (sh j) (sh k)) 7 ≤ 50 * 7 := Nat.mul_le_mul hg (mvs_le _ _)
  unfold cmv; omega
theorem cyf_le {wt sw sh : Nat → Nat} {cg : Nat} (hw : ∀ j, wt j < 10) (hs : ∀ j, sw j < 5000) (hg : cg ≤ 50) : ∀ y k, cyf wt sw sh cg y k ≤ (y + 1) * 46000 := by
  intro y
  induction y with
  | zero =>
    intro k
    have h : wt 0 * sw k ≤ 9 * 5000 := Nat.mul_le_mul (Nat.le_of_lt_succ (hw 0)) (Nat.le_of_lt (hs k))
    show wt 0 * sw k ≤ (0 + 1) * 46000
    omega
  | succ y ih =>
    intro k
    have h : wt (y + 1) * sw k ≤ 9 * 5000 := Nat.mul_le_mul (Nat.le_of_lt_succ (hw (y + 1))) (Nat.le_of_lt (hs k))
    have h1 := mn1_le (cmv (cyf wt sw sh cg y) sh cg k) 3
    have h2 := cmv_le (sh := sh) (B := (y + 1) * 46000) ih hg k 0
    show mn1 (cmv (cyf wt sw sh cg y) sh cg k) 3 + wt (y + 1) * sw k ≤ (y + 1 + 1) * 46000
    omega

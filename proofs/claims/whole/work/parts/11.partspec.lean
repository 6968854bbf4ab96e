/-! parts: their sets, what wanders, loads, likeness -/
def setB (sets : Nat → Nat) (sc k : Nat) : Nat := sets (2 * k + bt sc k)
def wdp (M g : Nat) (sets amts : Nat → Nat) (sc k : Nat) : Nat := amts k * wn M g (setB sets sc k)
def idp (M g : Nat) (sets : Nat → Nat) (sc k : Nat) : Nat := il M g (setB sets sc k)
def ldp (sets amts : Nat → Nat) (sc m k : Nat) : Nat := if bt (setB sets sc k) m = 1 then amts k else 0
def bop (sets : Nat → Nat) (sc a b k : Nat) : Nat := if bt (setB sets sc k) a = 1 ∧ bt (setB sets sc k) b = 1 then 1 else 0
def eip (sets : Nat → Nat) (sc a b k : Nat) : Nat := if bt (setB sets sc k) a = 1 ∨ bt (setB sets sc k) b = 1 then 1 else 0
def kpp (M g : Nat) (sets amts : Nat → Nat) (sc m d k : Nat) : Nat := if bt (setB sets sc k) m = 1 ∧ hm M g (setB sets sc k) = d then amts k else 0
def eith (P : Nat) (sets : Nat → Nat) (sc a b : Nat) : Nat := max (sm (eip sets sc a b) P) 1
/-- a choice of routes with one bit put -/
def setb (ch k w : Nat) : Nat := ch - bt ch k * 2 ^ k + w * 2 ^ k
theorem nI_setb : ∀ ch, ch < 256 → ∀ k, k < 8 → ∀ w, w < 2 → (nI ch &&& (nI (2 ^ k) ^^^ (-1))) ||| nI (w * 2 ^ k) = nI (setb ch k w) := by decide +kernel
theorem setb_lt : ∀ ch, ch < 256 → ∀ k, k < 8 → ∀ w, w < 2 → setb ch k w < 256 := by decide +kernel
theorem setb_bt : ∀ ch, ch < 256 → ∀ k, k < 8 → ∀ w, w < 2 → ∀ j, j < 8 → bt (setb ch k w) j = if j = k then w else bt ch j := by decide +kernel
theorem setb_big : ∀ P, P ≤ 8 → ∀ ch, ch < 2 ^ P → ∀ k, k < P → ∀ w, w < 2 → setb ch k w < 2 ^ P := by decide +kernel

/-! the tree of likeness -/
def tcm (P : Nat) (sets : Nat → Nat) (ch : Nat) (hp : Nat → Nat) (a b : Nat) (t : TS) : TS := if t.2.2.1 * nI (eith P sets ch a b) < nI (sm (bop sets ch a b) P) * t.2.2.2 then (hp a, hp b, nI (sm (bop sets ch a b) P), nI (eith P sets ch a b)) else t
def tb (P : Nat) (sets : Nat → Nat) (ch : Nat) (hp : Nat → Nat) (f g a : Nat) (t : TS) : Nat → TS
  | 0 => t
  | b + 1 => if hp a = f ∧ hp b = g then tcm P sets ch hp a b (tb P sets ch hp f g a t b) else tb P sets ch hp f g a t b
def ta (P : Nat) (sets : Nat → Nat) (ch : Nat) (hp : Nat → Nat) (f g M : Nat) (t : TS) : Nat → TS
  | 0 => t
  | a + 1 => tb P sets ch hp f g a (ta P sets ch hp f g M t a) M
/-- the class looks at names of heaps alone -/
def tso (P : Nat) (sets : Nat → Nat) (ch : Nat) (hp : Nat → Nat) (M : Nat) (t : TS) (f : Nat) : Nat → TS
  | 0 => t
  | o + 1 => if f < o ∧ hp f = f ∧ hp o = o then ta P sets ch hp f o M (tso P sets ch hp M t f o) M else tso P sets ch hp M t f o
def tsf (P : Nat) (sets : Nat → Nat) (ch : Nat) (hp : Nat → Nat) (M : Nat) (t : TS) : Nat → TS
  | 0 => t
  | f + 1 => tso P sets ch hp M (tsf P sets ch hp M t f) f M
def spj (P : Nat) (sets : Nat → Nat) (ch : Nat) (hp : Nat → Nat) (M : Nat) (t : TS) : TS := tsf P sets ch hp M (t.1, t.2.1, (-1), nI 1) M
def un (fi se : Nat) (hp : Nat → Nat) : Nat → Nat → Nat
  | 0 => hp
  | i + 1 => up (un fi se hp i) i (if un fi se hp i i = se then fi else un fi se hp i i)
def hin (hp : Nat → Nat) : Nat → Nat → Nat
  | 0 => hp
  | i + 1 => up (hin hp i) i i
def gj (P : Nat) (sets : Nat → Nat) (ch M : Nat) (hp : Nat → Nat) (t : TS) : Nat → (Nat → Nat) × TS
  | 0 => (hp, t)
  | k + 1 => (un (spj P sets ch (gj P sets ch M hp t k).1 M (gj P sets ch M hp t k).2).1 (spj P sets ch (gj P sets ch M hp t k).1 M (gj P sets ch M hp t k).2).2.1 (gj P sets ch M hp t k).1 M, spj P sets ch (gj P sets ch M hp t k).1 M (gj P sets ch M hp t k).2)
def tok (t : TS) : Prop := t.1 < 8 ∧ t.2.1 < 8
theorem up_self {α : Type} (g : Nat → α) (k : Nat) : up g k (g k) = g := by
  funext j
  unfold up
  by_cases h : j = k
  · rw [if_pos h, h]
  · rw [if_neg h]
theorem tso_lo (P : Nat) (sets : Nat → Nat) (ch : Nat) (hp : Nat → Nat) (M : Nat) (t : TS) (f : Nat) : ∀ o, o ≤ f + 1 → tso P sets ch hp M t f o = t := by
  intro o
  induction o with
  | zero => intro _; rfl
  | succ o ih =>
    intro h
    rw [show tso P sets ch hp M t f (o + 1) = tso P sets ch hp M t f o from if_neg (fun q => by omega)]
    exact ih (by omega)
section Tok
variable {P : Nat} {sets : Nat → Nat} {ch : Nat} {hp : Nat → Nat} (hh : ∀ j, hp j < 8)
theorem tcm_ok (a b : Nat) {t : TS} (h : tok t) (hh : ∀ j, hp j < 8) : tok (tcm P sets ch hp a b t) := by
  unfold tcm
  split
  · exact ⟨hh a, hh b⟩
  · exact h
theorem tb_ok (f g a : Nat) {t : TS} (h : tok t) (hh : ∀ j, hp j < 8) : ∀ b, tok (tb P sets ch hp f g a t b) := by
  intro b
  induction b with
  | zero => exact h
  | succ b ih =>
    show tok (if _ then _ else _)
    split
    · exact tcm_ok a b ih hh
    · exact ih
theorem ta_ok (f g M : Nat) {t : TS} (h : tok t) (hh : ∀ j, hp j < 8) : ∀ a, tok (ta P sets ch hp f g M t a) := by
  intro a
  induction a with
  | zero => exact h
  | succ a ih => exact tb_ok f g a ih hh M
theorem tso_ok (M f : Nat) {t : TS} (h : tok t) (hh : ∀ j, hp j < 8) : ∀ o, tok (tso P sets ch hp M t f o) := by
  intro o
  induction o with
  | zero => exact h
  | succ o ih =>
    show tok (if _ then _ else _)
    split
    · exact ta_ok f o M ih hh M
    · exact ih
theorem tsf_ok (M : Nat) {t : TS} (h : tok t) (hh : ∀ j, hp j < 8) : ∀ f, tok (tsf P sets ch hp M t f) := by
  intro f
  induction f with
  | zero => exact h
  | succ f ih => exact tso_ok M f ih hh M
theorem spj_ok (M : Nat) {t : TS} (h : tok t) (hh : ∀ j, hp j < 8) : tok (spj P sets ch hp M t) := tsf_ok (t := (t.1, t.2.1, (-1), nI 1)) M h hh M
theorem un_lt {fi se : Nat} (hf : fi < 8) (hh : ∀ j, hp j < 8) : ∀ i j, un fi se hp i j < 8 := by
  intro i
  induction i with
  | zero => exact hh
  | succ i ih =>
    intro j
    show up (un fi se hp i) i _ j < 8
    unfold up
    split
    · split
      · exact hf
      · exact ih i
    · exact ih j
theorem hin_lt (hh : ∀ j, hp j < 8) : ∀ i, i ≤ 8 → ∀ j, hin hp i j < 8 := by
  intro i
  induction i with
  | zero => intro _; exact hh
  | succ i ih =>
    intro h j
    show up (hin hp i) i i j < 8
    unfold up
    split
    · omega
    · exact ih (by omega) j
theorem gj_ok (M : Nat) {t : TS} (h : tok t) (hh : ∀ j, hp j < 8) : ∀ k, (∀ j, (gj P sets ch M hp t k).1 j < 8) ∧ tok (gj P sets ch M hp t k).2 := by
  intro k
  induction k with
  | zero => exact ⟨hh, h⟩
  | succ k ih =>
    have h1 := spj_ok (P := P) (sets := sets) (ch := ch) M ih.2 ih.1
    exact ⟨un_lt h1.1 ih.1 M, h1⟩
end Tok
def tel (t : TS) (w : Nat) : Int32 := if w = 0 then nI t.1 else if w = 1 then nI t.2.1 else if w = 2 then t.2.2.1 else t.2.2.2

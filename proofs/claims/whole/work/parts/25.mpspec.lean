/-! the reference: joins, routes, copies, the floor, years -/
def tmo (P : Nat) (sets : Nat → Nat) (ch : Nat) (hp : Nat → Nat) (M : Nat) (t : TS) (f : Nat) : Nat → TS
  | 0 => t
  | o + 1 => if f < o then ta P sets ch hp f o M (tmo P sets ch hp M t f o) M else tmo P sets ch hp M t f o
def tmf (P : Nat) (sets : Nat → Nat) (ch : Nat) (hp : Nat → Nat) (M : Nat) (t : TS) : Nat → TS
  | 0 => t
  | f + 1 => tmo P sets ch hp M (tmf P sets ch hp M t f) f M
def mpj (P : Nat) (sets : Nat → Nat) (ch : Nat) (hp : Nat → Nat) (M : Nat) (t : TS) : TS := tmf P sets ch hp M (t.1, t.2.1, (-1), nI 1) M
def gm (P : Nat) (sets : Nat → Nat) (ch M : Nat) (hp : Nat → Nat) (t : TS) : Nat → (Nat → Nat) × TS
  | 0 => (hp, t)
  | k + 1 => (un (mpj P sets ch (gm P sets ch M hp t k).1 M (gm P sets ch M hp t k).2).1 (mpj P sets ch (gm P sets ch M hp t k).1 M (gm P sets ch M hp t k).2).2.1 (gm P sets ch M hp t k).1 M, mpj P sets ch (gm P sets ch M hp t k).1 M (gm P sets ch M hp t k).2)
theorem tmo_lo (P : Nat) (sets : Nat → Nat) (ch : Nat) (hp : Nat → Nat) (M : Nat) (t : TS) (f : Nat) : ∀ o, o ≤ f + 1 → tmo P sets ch hp M t f o = t := by
  intro o
  induction o with
  | zero => intro _; rfl
  | succ o ih =>
    intro h
    rw [show tmo P sets ch hp M t f (o + 1) = tmo P sets ch hp M t f o from if_neg (by omega)]
    exact ih (by omega)
theorem tmo_ok {P : Nat} {sets : Nat → Nat} {ch : Nat} {hp : Nat → Nat} (M f : Nat) {t : TS} (h : tok t) (hh : ∀ j, hp j < 8) : ∀ o, tok (tmo P sets ch hp M t f o) := by
  intro o
  induction o with
  | zero => exact h
  | succ o ih =>
    show tok (if _ then _ else _)
    split
    · exact ta_ok f o M ih hh M
    · exact ih
theorem tmf_ok {P : Nat} {sets : Nat → Nat} {ch : Nat} {hp : Nat → Nat} (M : Nat) {t : TS} (h : tok t) (hh : ∀ j, hp j < 8) : ∀ f, tok (tmf P sets ch hp M t f) := by
  intro f
  induction f with
  | zero => exact h
  | succ f ih => exact tmo_ok M f ih hh M
theorem mpj_ok {P : Nat} {sets : Nat → Nat} {ch : Nat} {hp : Nat → Nat} (M : Nat) {t : TS} (h : tok t) (hh : ∀ j, hp j < 8) : tok (mpj P sets ch hp M t) := tmf_ok (t := (t.1, t.2.1, (-1), nI 1)) M h hh M
theorem gm_ok {P : Nat} {sets : Nat → Nat} {ch : Nat} {hp : Nat → Nat} (M : Nat) {t : TS} (h : tok t) (hh : ∀ j, hp j < 8) : ∀ k, (∀ j, (gm P sets ch M hp t k).1 j < 8) ∧ tok (gm P sets ch M hp t k).2 := by
  intro k
  induction k with
  | zero => exact ⟨hh, h⟩
  | succ k ih =>
    have h1 := mpj_ok (P := P) (sets := sets) (ch := ch) M ih.2 ih.1
    exact ⟨un_lt h1.1 ih.1 M, h1⟩
theorem tel_at (t : TS) (f : Nat → Int32) (h0 : f 0 = nI t.1) (h1 : f 1 = nI t.2.1) (h2 : f 2 = t.2.2.1) (h3 : f 3 = t.2.2.2) : ∀ j, j < 4 → f j = tel t j := by
  intro j hj
  rcases (show j = 0 ∨ j = 1 ∨ j = 2 ∨ j = 3 by omega) with rfl | rfl | rfl | rfl
  · exact h0
  · exact h1
  · exact h2
  · exact h3
noncomputable def rmm (M g P : Nat) (sets amts bo : Nat → Nat) : Nat → Int32 × Nat
  | 0 => (-9, 0)
  | b + 1 => cnd (right M P sets amts bo b ∧ ((rmm M g P sets amts bo b).1 = -9 ∨ sm (fun z => wn M g (setB sets b z) * amts z) P < (rmm M g P sets amts bo b).2)) (nI b, sm (fun z => wn M g (setB sets b z) * amts z) P) (rmm M g P sets amts bo b)
def wdm (M g : Nat) (sets amts : Nat → Nat) (sc k : Nat) : Nat := wn M g (setB sets sc k) * amts k
theorem wdm_eq (M g : Nat) (sets amts : Nat → Nat) (sc P : Nat) : sm (wdm M g sets amts sc) P = sm (wdp M g sets amts sc) P := sm_congr fun k _ => Nat.mul_comm _ _
theorem rmm_le {M g P : Nat} {sets amts bo : Nat → Nat} (hM : M ≤ 7) (hP : P ≤ 8) (ha : ∀ j, amts j < 10) : ∀ b, (rmm M g P sets amts bo b).2 < 5000 := by
  intro b
  induction b with
  | zero => show (0 : Nat) < 5000; decide
  | succ b ih =>
    by_cases h : right M P sets amts bo b ∧ ((rmm M g P sets amts bo b).1 = -9 ∨ sm (fun z => wn M g (setB sets b z) * amts z) P < (rmm M g P sets amts bo b).2)
    · rw [show rmm M g P sets amts bo (b + 1) = (nI b, sm (fun z => wn M g (setB sets b z) * amts z) P) from cnd_t h]
      show sm (wdm M g sets amts b) P < 5000
      rw [wdm_eq]; exact wds_le hM hP ha
    · rw [show rmm M g P sets amts bo (b + 1) = rmm M g P sets amts bo b from cnd_f h]; exact ih
noncomputable def aRoutM (M g P : Nat) (sets amts bo : Nat → Nat) (w : Nat) : Int32 := cnd ((rmm M g P sets amts bo (2 ^ P)).1 = -9) (-2) (if w = 0 then (rmm M g P sets amts bo (2 ^ P)).1 else nI (rmm M g P sets amts bo (2 ^ P)).2)
def svG (M g P : Nat) (sets amts pr : Nat → Nat) (ch pu : Nat) (f0 : Nat → Nat) : Nat → Nat → Nat
  | 0 => f0
  | m + 1 => oc M g P sets amts ch (pr m) pu m (svG M g P sets amts pr ch pu f0 m) 4
theorem svG_le {M g P : Nat} {sets amts pr : Nat → Nat} {ch pu B : Nat} {f0 : Nat → Nat} (hf : ∀ j, f0 j ≤ B) (hP : P ≤ 8) (ha : ∀ j, amts j < 10) (hp : pu ≤ 200) : ∀ m j, svG M g P sets amts pr ch pu f0 m j ≤ B + m * 60000 := by
  intro m
  induction m with
  | zero => intro j; have := hf j; show f0 j ≤ B + 0 * 60000; omega
  | succ m ih =>
    intro j
    have h := oc_le (M := M) (g := g) (sets := sets) (ch := ch) (cost := pr m) (m := m) hP ha hp ih 4 j
    show oc M g P sets amts ch (pr m) pu m (svG M g P sets amts pr ch pu f0 m) 4 j ≤ _
    omega
theorem fillF_le {f : Nat → Nat} {v B : Nat} (hf : ∀ j, f j ≤ B) (hv : v ≤ B) : ∀ n j, fillF f v n j ≤ B := by
  intro n
  induction n with
  | zero => exact hf
  | succ n ih =>
    intro j
    show up (fillF f v n) n v j ≤ B
    unfold up
    split
    · exact hv
    · exact ih j
noncomputable def bsr (W : Nat → Nat) (b0 : Nat → Int32) : Nat → Nat → Int32
  | 0 => up b0 4 (-9)
  | k + 1 => cnd (eo k ∧ (bsr W b0 k 4 = -9 ∨ nI (W k) < bsr W b0 k 4)) (up (up (up (up (up (bsr W b0 k) 0 (nI (k / 2 ^ 6))) 1 (nI (k / 2 ^ 4 % 4))) 2 (nI (k / 2 ^ 2 % 4))) 3 (nI (k % 4))) 4 (nI (W k))) (bsr W b0 k)
theorem ord_cat : ∀ k, k < 256 → ord (k / 2 ^ 6) (k / 2 ^ 4 % 4) (k / 2 ^ 2 % 4) (k % 4) = k := by decide +kernel
def mnb (b : Nat) (f : Nat → Nat) : Nat → Nat
  | 0 => b
  | j + 1 => if f j < mnb b f j then f j else mnb b f j
theorem mnb_le (b : Nat) (f : Nat → Nat) : ∀ j, mnb b f j ≤ b := by
  intro j
  induction j with
  | zero => exact Nat.le_refl _
  | succ j ih =>
    by_cases h : f j < mnb b f j
    · rw [show mnb b f (j + 1) = f j from if_pos h]; omega
    · rw [show mnb b f (j + 1) = mnb b f j from if_neg h]; exact ih
def cmm (M : Nat) (co sh : Nat → Nat) (cg k j : Nat) : Nat := co j + cg * sm (mvm (sh j) (sh k)) M
def cym (M : Nat) (wt sw sh : Nat → Nat) (cg : Nat) : Nat → Nat → Nat
  | 0 => fun k => wt 0 * sw k
  | y + 1 => fun k => mnb (cym M wt sw sh cg y k) (cmm M (cym M wt sw sh cg y) sh cg k) 4 + wt (y + 1) * sw k
theorem cym_le {M : Nat} {wt sw sh : Nat → Nat} {cg : Nat} (hw : ∀ j, wt j < 10) (hs : ∀ j, sw j < 6000) : ∀ y k, cym M wt sw sh cg y k ≤ (y + 1) * 54000 := by
  intro y
  induction y with
  | zero =>
    intro k
    have h : wt 0 * sw k ≤ 9 * 6000 := Nat.mul_le_mul (Nat.le_of_lt_succ (hw 0)) (Nat.le_of_lt (hs k))
    show wt 0 * sw k ≤ (0 + 1) * 54000
    omega
  | succ y ih =>
    intro k
    have h : wt (y + 1) * sw k ≤ 9 * 6000 := Nat.mul_le_mul (Nat.le_of_lt_succ (hw (y + 1))) (Nat.le_of_lt (hs k))
    have h1 := mnb_le (cym M wt sw sh cg y k) (cmm M (cym M wt sw sh cg y) sh cg k) 4
    have h2 := ih k
    show mnb (cym M wt sw sh cg y k) (cmm M (cym M wt sw sh cg y) sh cg k) 4 + wt (y + 1) * sw k ≤ (y + 1 + 1) * 54000
    omega
theorem up_up {α : Type} (f : Nat → α) (k : Nat) (a b : α) : up (up f k a) k b = up f k b := by
  funext j
  unfold up
  split <;> rfl
theorem mvms_le (a b M : Nat) : sm (mvm a b) M ≤ M := Nat.le_trans (sm_bd (b := 1) (fun m _ => by unfold mvm; split <;> omega)) (by omega)
theorem cmm_le {M : Nat} {co sh : Nat → Nat} {cg B : Nat} (hM : M ≤ 7) (hc : ∀ j, co j ≤ B) (hg : cg ≤ 50) (k j : Nat) : cmm M co sh cg k j ≤ B + 350 := by
  have h1 := hc j
  have h3 := mvms_le (sh j) (sh k) M
  have h2 : cg * sm (mvm (sh j) (sh k)) M ≤ 50 * 7 := Nat.mul_le_mul hg (by omega)
  unfold cmm; omega
def mnr (f : Nat → Nat) : Nat → Nat
  | 0 => f 0
  | i + 1 => if f (i + 1) < mnr f i then f (i + 1) else mnr f i
theorem mnr_le (f : Nat → Nat) : ∀ i, mnr f i ≤ f 0 := by
  intro i
  induction i with
  | zero => exact Nat.le_refl _
  | succ i ih =>
    by_cases h : f (i + 1) < mnr f i
    · rw [show mnr f (i + 1) = f (i + 1) from if_pos h]; omega
    · rw [show mnr f (i + 1) = mnr f i from if_neg h]; exact ih
def aCntM (M P g ny : Nat) (sh : Nat → Nat) (x : Int32) : Int32 := aCount M P g ny sh x
theorem pt_add (n k d : Nat) : nI n + (nI d - nI (cl n k)) * nI (2 ^ (2 * k)) = nI (pt n k d) := by
  have hle : cl n k * 2 ^ (2 * k) ≤ n := by
    have h := cl_split n k
    have e : cl n k * 2 ^ (2 * k) = 2 ^ (2 * k) * cl n k := Nat.mul_comm _ _
    rw [e]; omega
  unfold pt
  rw [← nI_add, ← pk_sub hle, ← pk_mul, ← pk_mul]
  rw [Int32.sub_eq_add_neg, Int32.sub_eq_add_neg, Int32.add_mul, Int32.neg_mul]
  rw [Int32.add_assoc, Int32.add_comm (nI d * _)]

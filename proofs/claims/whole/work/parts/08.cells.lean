/-! the cells of the two worlds -/
abbrev aN (cA : ClassId) (q n : Nat) (f : Nat → Nat) : Nat × va_E := (q, ar cA n f)
abbrev aR (cA : ClassId) (q n : Nat) (f : Nat → Int32) : Nat × va_E := (q, arR cA n f)
abbrev oG (q qm mc n : Nat) : Nat × va_E := (q, .inr (0, [.ref qm, .int (nI mc), .int (nI n)]))
abbrev oP (q qs qa size ch : Nat) : Nat × va_E := (q, .inr (1, [.ref qs, .ref qa, .int (nI size), .int (nI ch)]))
abbrev oR (q qt qp : Nat) : Nat × va_E := (q, .inr (2, [.ref qt, .ref qp]))
abbrev TS : Type := Nat × Nat × Int32 × Int32
abbrev oT (q qh mc : Nat) (t : TS) : Nat × va_E := (q, .inr (3, [.ref qh, .int (nI mc), .int (nI t.1), .int (nI t.2.1), .int t.2.2.1, .int t.2.2.2]))
abbrev oY (q qw qc qn size mv : Nat) : Nat × va_E := (q, .inr (4, [.ref qw, .ref qc, .ref qn, .int (nI size), .int (nI mv)]))
abbrev oX (q : Nat → Nat) (mc bn bl : Nat) (tr : Int64) : Nat × va_E := (q 0, .inr (5, [.ref (q 1), .ref (q 4), .ref (q 6), .ref (q 8), .ref (q 10), .ref (q 13), .ref (q 17), .ref (q 18), .ref (q 19), .ref (q 20), .ref (q 21), .int (nI mc), .int (nI bn), .int (nI bl), .long tr]))
abbrev oM (q : Nat → Nat) (th : Nat) (tr : Int64) (mc pp num yn cg : Nat) : Nat × va_E := (q 0, .inr (6, [.int (nI th), .long tr, .int (nI mc), .int (nI pp), .ref (q 1), .ref (q 2), .ref (q 3), .ref (q 4), .ref (q 5), .int (nI num), .ref (q 6), .int (nI yn), .ref (q 7), .int (nI cg), .ref (q 8), .ref (q 9), .ref (q 10), .ref (q 11), .ref (q 12), .ref (q 13), .ref (q 14)]))
theorem nI_one : nI 1 = 1 := by decide

theorem pop_lt (n : Nat) : pop n < 8 := Nat.lt_succ_of_le (pop_le n)
/-- the grouping with a machine put into a cell -/
def pt (n k c : Nat) : Nat := n - cl n k * 2 ^ (2 * k) + c * 2 ^ (2 * k)
theorem cl_split (n k : Nat) : n = 2 ^ (2 * k + 2) * (n / 2 ^ (2 * k + 2)) + (2 ^ (2 * k) * cl n k + n % 2 ^ (2 * k)) := by
  have h1 := Nat.div_add_mod n (2 ^ (2 * k))
  have h2 := Nat.div_add_mod (n / 2 ^ (2 * k)) 4
  have h3 : n / 2 ^ (2 * k) / 4 = n / 2 ^ (2 * k + 2) := by rw [Nat.div_div_eq_div_mul, ← show (2 : Nat) ^ 2 = 4 by decide, ← Nat.pow_add]
  have h4 : 2 ^ (2 * k + 2) = 2 ^ (2 * k) * 4 := by rw [Nat.pow_add]
  rw [h3] at h2
  unfold cl
  rw [h4] at h2 ⊢
  rw [Nat.mul_assoc, ← Nat.add_assoc, ← Nat.mul_add, h2, h1]
theorem cl_sub (n k : Nat) : n - cl n k * 2 ^ (2 * k) = 2 ^ (2 * k + 2) * (n / 2 ^ (2 * k + 2)) + n % 2 ^ (2 * k) := by
  have h := cl_split n k
  have e : cl n k * 2 ^ (2 * k) = 2 ^ (2 * k) * cl n k := Nat.mul_comm _ _
  rw [e]
  omega
theorem pt_or {n k c : Nat} (hc : c < 4) : (n - cl n k * 2 ^ (2 * k)) ||| (c * 2 ^ (2 * k)) = pt n k c := by
  unfold pt
  rw [cl_sub]
  have hlo : n % 2 ^ (2 * k) < 2 ^ (2 * k) := Nat.mod_lt _ (Nat.two_pow_pos _)
  have hlo2 : n % 2 ^ (2 * k) < 2 ^ (2 * k + 2) := Nat.lt_of_lt_of_le hlo (Nat.pow_le_pow_right (by decide) (by omega))
  have hmid : 2 ^ (2 * k) * c + n % 2 ^ (2 * k) < 2 ^ (2 * k + 2) := by
    have h4 : 2 ^ (2 * k + 2) = 2 ^ (2 * k) * 4 := by rw [Nat.pow_add]
    have h5 : 2 ^ (2 * k) * c ≤ 2 ^ (2 * k) * 3 := Nat.mul_le_mul_left _ (by omega)
    rw [h4]; omega
  rw [Nat.two_pow_add_eq_or_of_lt hlo2, Nat.or_assoc, Nat.or_comm (n % 2 ^ (2 * k)), Nat.mul_comm c, ← Nat.two_pow_add_eq_or_of_lt hlo, ← Nat.two_pow_add_eq_or_of_lt hmid, ← Nat.two_pow_add_eq_or_of_lt hlo2]
  omega
theorem pt_lt {M n k c : Nat} (hn : n < 2 ^ (2 * M)) (hk : k < M) (hc : c < 4) : pt n k c < 2 ^ (2 * M) := by
  rw [← pt_or hc]
  refine Nat.or_lt_two_pow (Nat.lt_of_le_of_lt (Nat.sub_le _ _) hn) ?_
  have h4 : 2 ^ (2 * k + 2) = 2 ^ (2 * k) * 4 := by rw [Nat.pow_add]
  have h5 : 2 ^ (2 * k) * c < 2 ^ (2 * k) * 4 := Nat.mul_lt_mul_of_pos_left hc (Nat.two_pow_pos _)
  rw [Nat.mul_comm]
  exact Nat.lt_of_lt_of_le h5 (by rw [← h4]; exact Nat.pow_le_pow_right (by decide) (by omega))
theorem nI_clr {n k : Nat} (hn : n < 2 ^ 31) (hk : k < 15) : nI n &&& (nI (3 * 2 ^ (2 * k)) ^^^ (-1)) = nI (n - cl n k * 2 ^ (2 * k)) := by
  rw [cl_sub]
  have hs := cl_split n k
  have hlo : n % 2 ^ (2 * k) < 2 ^ (2 * k) := Nat.mod_lt _ (Nat.two_pow_pos _)
  have hlo2 : n % 2 ^ (2 * k) < 2 ^ (2 * k + 2) := Nat.lt_of_lt_of_le hlo (Nat.pow_le_pow_right (by decide) (by omega))
  have hmid : 2 ^ (2 * k) * cl n k + n % 2 ^ (2 * k) < 2 ^ (2 * k + 2) := by
    have h4 : 2 ^ (2 * k + 2) = 2 ^ (2 * k) * 4 := by rw [Nat.pow_add]
    have h5 : 2 ^ (2 * k) * cl n k ≤ 2 ^ (2 * k) * 3 := Nat.mul_le_mul_left _ (by have := cl_lt n k; omega)
    rw [h4]; omega
  apply Int32.toBitVec_inj.1
  show BitVec.ofNat 32 n &&& (BitVec.ofNat 32 (3 * 2 ^ (2 * k)) ^^^ (-1 : Int32).toBitVec) = BitVec.ofNat 32 _
  apply BitVec.eq_of_getLsbD_eq
  intro i hi
  have e : ((-1 : Int32).toBitVec).getLsbD i = true := (by decide +kernel : ∀ i, i < 32 → ((-1 : Int32).toBitVec).getLsbD i = true) i hi
  rw [BitVec.getLsbD_and, BitVec.getLsbD_xor, e, BitVec.getLsbD_ofNat, BitVec.getLsbD_ofNat, BitVec.getLsbD_ofNat]
  simp only [hi, decide_true, Bool.true_and, Bool.bne_true]
  have e3 : (3 * 2 ^ (2 * k)).testBit i = (decide (2 * k ≤ i) && decide (i < 2 * k + 2)) := by
    rw [Nat.mul_comm, Nat.testBit_two_pow_mul]
    by_cases h : 2 * k ≤ i
    · simp only [h, decide_true, Bool.true_and]
      by_cases h2 : i < 2 * k + 2
      · have : i - 2 * k = 0 ∨ i - 2 * k = 1 := by omega
        rcases this with q | q <;> rw [q, show decide (i < 2 * k + 2) = true by simp [h2]] <;> decide
      · rw [show decide (i < 2 * k + 2) = false by simp [h2]]
        exact Nat.testBit_lt_two_pow (Nat.lt_of_lt_of_le (by decide : 3 < 2 ^ 2) (Nat.pow_le_pow_right (by decide) (by omega)))
    · simp [h]
  rw [e3, Nat.testBit_two_pow_mul_add _ hlo2]
  have en : n.testBit i = (2 ^ (2 * k + 2) * (n / 2 ^ (2 * k + 2)) + (2 ^ (2 * k) * cl n k + n % 2 ^ (2 * k))).testBit i := by rw [← hs]
  rw [en, Nat.testBit_two_pow_mul_add _ hmid, Nat.testBit_two_pow_mul_add _ hlo]
  by_cases h1 : i < 2 * k
  · simp [show i < 2 * k + 2 by omega, h1, show ¬ 2 * k ≤ i by omega]
  · by_cases h2 : i < 2 * k + 2
    · have h3 : (n % 2 ^ (2 * k)).testBit i = false := Nat.testBit_lt_two_pow (Nat.lt_of_lt_of_le hlo (Nat.pow_le_pow_right (by decide) (by omega)))
      simp [h2, h1, show 2 * k ≤ i by omega, h3]
    · simp [h2, show 2 * k ≤ i by omega]
/-! plain groupings; the most members of a cell; squares; what has moved -/
def opn (g : Nat) : Nat → Nat
  | 0 => 0
  | i + 1 => if cl g i = opn g i then opn g i + 1 else opn g i
def plain (M g : Nat) : Prop := ∀ i, i < M → cl g i ≤ opn g i
theorem opn_le (g : Nat) : ∀ i, opn g i ≤ i := by
  intro i
  induction i with
  | zero => exact Nat.le_refl _
  | succ i ih =>
    have e : opn g (i + 1) = if cl g i = opn g i then opn g i + 1 else opn g i := rfl
    rw [e]
    by_cases h : cl g i = opn g i
    · rw [if_pos h]; omega
    · rw [if_neg h]; omega
def mx (M g st : Nat) : Nat → Nat
  | 0 => 0
  | i + 1 => ic M g st (hmi M g st (i + 1))
theorem mx_le (M g st i : Nat) : mx M g st i ≤ M := by
  cases i with
  | zero => exact Nat.zero_le _
  | succ i => exact ic_le _ _ _ _
theorem mx_t {M g st k : Nat} (h : mx M g st k < ic M g st k) : hmi M g st (k + 1) = k ∧ mx M g st (k + 1) = ic M g st k := by
  have e : hmi M g st (k + 1) = k := by
    cases k with
    | zero => show (if _ then 0 else hmi M g st 0) = 0; split <;> rfl
    | succ j => exact if_pos h
  exact ⟨e, by show ic M g st (hmi M g st (k + 1)) = _; rw [e]⟩
theorem mx_f {M g st k : Nat} (h : ic M g st k ≤ mx M g st k) : hmi M g st (k + 1) = hmi M g st k ∧ mx M g st (k + 1) = mx M g st k := by
  cases k with
  | zero =>
    have e : hmi M g st 1 = 0 := by show (if _ then 0 else hmi M g st 0) = 0; split <;> rfl
    refine ⟨e, ?_⟩
    show ic M g st (hmi M g st 1) = 0
    rw [e]
    exact Nat.le_zero.mp h
  | succ j =>
    have e : hmi M g st (j + 1 + 1) = hmi M g st (j + 1) := if_neg (Nat.not_lt.mpr h)
    exact ⟨e, by show ic M g st (hmi M g st (j + 1 + 1)) = _; rw [e]; rfl⟩
def sq (M g c : Nat) : Nat := ic M g (2 ^ M - 1) c * ic M g (2 ^ M - 1) c
def lrg (M g : Nat) : Nat → Nat
  | 0 => 0
  | i + 1 => max (lrg M g i) (ic M g (2 ^ M - 1) i)
theorem lrg_le (M g : Nat) : ∀ i, lrg M g i ≤ M := by
  intro i
  induction i with
  | zero => exact Nat.zero_le _
  | succ i ih => exact Nat.max_le.mpr ⟨ih, ic_le _ _ _ _⟩
def mv1 (a b m : Nat) : Nat := if cl (a ^^^ b) m = 0 then 0 else 1

/-! the reference: its own words -/
def icp (g st d m : Nat) : Nat := if bt st m = 1 ∧ cl g m = d then 1 else 0
theorem hmi_1 (M g st : Nat) : hmi M g st 1 = 0 := by show (if _ then 0 else hmi M g st 0) = 0; split <;> rfl
theorem hmi_lt4 {M g st i : Nat} (h : i ≤ 4) : hmi M g st i < 4 := by
  rcases hmi_lt M g st i with q | q
  · exact q
  · omega
def wnp (M g st d : Nat) : Nat := if d = hm M g st then 0 else ic M g st d
def lmp (M g : Nat) (sets amts : Nat → Nat) (ch kd k : Nat) : Nat := wn M g (setB sets ch k) * amts k + (if 0 < kd then il M g (setB sets ch k) else 0)
def lossM (M g P : Nat) (sets amts : Nat → Nat) (ch kd : Nat) : Nat := sm (lmp M g sets amts ch kd) P + (if kd = 2 then sm (sq M g) 4 else 0)
theorem lossM_V {M g P : Nat} {sets amts : Nat → Nat} {ch kd : Nat} (hk : kd < 3) : lossM M g P sets amts ch kd = lossV M g P sets amts ch kd := by
  have e : sm (lmp M g sets amts ch kd) P = sm (wdp M g sets amts ch) P + (if 1 ≤ kd then sm (idp M g sets ch) P else 0) := by
    by_cases h : 1 ≤ kd
    · rw [if_pos h, sm_add]
      refine sm_congr fun k _ => ?_
      unfold lmp wdp idp
      rw [if_pos (by omega), Nat.mul_comm]
    · rw [if_neg h, Nat.add_zero]
      refine sm_congr fun k _ => ?_
      unfold lmp wdp
      rw [if_neg (by omega), Nat.add_zero, Nat.mul_comm]
  unfold lossM lossV
  rw [e]
  by_cases h : kd = 2
  · rw [if_pos h, if_pos (show 2 ≤ kd by omega)]
  · rw [if_neg h, if_neg (show ¬ 2 ≤ kd by omega)]
theorem trk0 : (nI (trk 0)).toInt64 = 1 := by decide
theorem trk1 : (nI (trk 1)).toInt64 = 11 := by decide
theorem trk2 : (nI (trk 2)).toInt64 = 111 := by decide
theorem all_succ {Pr : Nat → Prop} {i : Nat} : ((∀ j, j < i → Pr j) ∧ Pr i) ↔ ∀ j, j < i + 1 → Pr j :=
  ⟨fun h j hj => (Nat.lt_succ_iff_lt_or_eq.mp hj).elim (h.1 j) (fun e => e ▸ h.2), fun h => ⟨fun j hj => h j (by omega), h i (Nat.lt_succ_self i)⟩⟩
theorem all_0 {Pr : Nat → Prop} : ∀ j, j < 0 → Pr j := fun j h => absurd h (Nat.not_lt_zero j)
def wth (M g L : Nat) : Prop := ∀ j, j < 4 → ic M g (2 ^ M - 1) j ≤ L
noncomputable def bm (M P : Nat) (sets amts : Nat → Nat) (ch kd L : Nat) : Nat → Int32 × Nat
  | 0 => (-9, 0)
  | g + 1 => cnd (plain M g ∧ wth M g L ∧ ((bm M P sets amts ch kd L g).1 = -9 ∨ lossM M g P sets amts ch kd < (bm M P sets amts ch kd L g).2)) (nI g, lossM M g P sets amts ch kd) (bm M P sets amts ch kd L g)
noncomputable def aBestM (M P : Nat) (sets amts : Nat → Nat) (ch kd L w : Nat) : Int32 := cnd ((bm M P sets amts ch kd L (2 ^ (2 * M))).1 = -9) (-2) (if w = 0 then (bm M P sets amts ch kd L (2 ^ (2 * M))).1 else nI (bm M P sets amts ch kd L (2 ^ (2 * M))).2)
theorem bm_le {M P : Nat} {sets amts : Nat → Nat} {ch kd L : Nat} (hM : M ≤ 7) (hP : P ≤ 8) (ha : ∀ j, amts j < 10) (hk : kd < 3) : ∀ g, (bm M P sets amts ch kd L g).2 < 6000 := by
  intro g
  induction g with
  | zero => show (0 : Nat) < 6000; decide
  | succ g ih =>
    by_cases h : plain M g ∧ wth M g L ∧ ((bm M P sets amts ch kd L g).1 = -9 ∨ lossM M g P sets amts ch kd < (bm M P sets amts ch kd L g).2)
    · rw [show bm M P sets amts ch kd L (g + 1) = (nI g, lossM M g P sets amts ch kd) from cnd_t h]
      show lossM M g P sets amts ch kd < 6000
      rw [lossM_V hk]; exact lossV_le hM hP ha
    · rw [show bm M P sets amts ch kd L (g + 1) = bm M P sets amts ch kd L g from cnd_f h]; exact ih
theorem bt_div (s a : Nat) : bt (s / 2 ^ a) 0 = bt s a := by unfold bt; simp
theorem mod2_bt (x : Nat) : x % 2 = bt x 0 := by unfold bt; simp
theorem and2 (sets : Nat → Nat) (ch a b k : Nat) : (setB sets ch k / 2 ^ a &&& setB sets ch k / 2 ^ b) % 2 = bop sets ch a b k := by
  rw [mod2_bt, bt_and, bt_div, bt_div]
  unfold bop
  have h1 := bt_lt (setB sets ch k) a
  have h2 := bt_lt (setB sets ch k) b
  by_cases e : bt (setB sets ch k) a = 1
  · by_cases f : bt (setB sets ch k) b = 1
    · simp [e, f]
    · have : bt (setB sets ch k) b = 0 := by omega
      simp [this]
  · have : bt (setB sets ch k) a = 0 := by omega
    simp [this]
theorem or2 (sets : Nat → Nat) (ch a b k : Nat) : (setB sets ch k / 2 ^ a ||| setB sets ch k / 2 ^ b) % 2 = eip sets ch a b k := by
  rw [mod2_bt, bt_or, bt_div, bt_div]
  rfl
theorem ldp_mul (sets amts : Nat → Nat) (sc m k : Nat) : bt (setB sets sc k) m * amts k = ldp sets amts sc m k := by
  unfold ldp
  have h1 := bt_lt (setB sets sc k) m
  by_cases e : bt (setB sets sc k) m = 1
  · simp [e]
  · have : bt (setB sets sc k) m = 0 := by omega
    simp [this]
def bsv (ch : Nat) : Nat → Nat
  | 0 => 0
  | k + 1 => bsv ch k ||| bt ch k * 2 ^ k
theorem bsv_mod (ch : Nat) : ∀ k, bsv ch k = ch % 2 ^ k := by
  intro k
  induction k with
  | zero => show 0 = ch % 1; omega
  | succ k ih =>
    have h1 : ch % 2 ^ k < 2 ^ k := Nat.mod_lt _ (Nat.two_pow_pos k)
    show bsv ch k ||| bt ch k * 2 ^ k = _
    rw [ih, Nat.or_comm, Nat.mul_comm, ← Nat.two_pow_add_eq_or_of_lt h1, Nat.mod_pow_succ]
    unfold bt
    omega
theorem bsv_eq {ch P : Nat} (h : ch < 2 ^ P) : bsv ch P = ch := by rw [bsv_mod, Nat.mod_eq_of_lt h]
def mvm (a b m : Nat) : Nat := if cl a m = cl b m then 0 else 1
def wyi (M g : Nat) (sets amts : Nat → Nat) (ch : Nat) (pl : Nat → Nat) (k i : Nat) : Nat := bt (setB sets ch k) i * amts k * dist (pl (hm M g (setB sets ch k))) (pl (cl g i))
def wym (M g : Nat) (sets amts : Nat → Nat) (ch : Nat) (pl : Nat → Nat) (k : Nat) : Nat := sm (wyi M g sets amts ch pl k) M
theorem nI_absp {a b : Nat} (ha : a < 2 ^ 30) (hb : b < 2 ^ 30) (h : 0 ≤ nI a - nI b) : nI a - nI b = nI (dist a b) := (if_pos h).symm.trans (nI_abs ha hb)
theorem nI_absn {a b : Nat} (ha : a < 2 ^ 30) (hb : b < 2 ^ 30) (h : ¬ 0 ≤ nI a - nI b) : -(nI a - nI b) = nI (dist a b) := by
  rw [← nI_abs ha hb, if_neg h, Int32.sub_eq_add_neg 0, Int32.zero_add]
theorem lay_eo : ∀ a, a < 4 → ∀ b, b < 4 → ∀ d, d < 4 → ∀ f, f < 4 → (((2 ^ a ||| 2 ^ b) ||| 2 ^ d) ||| 2 ^ f) = sn (ord a b d f) 4 := by decide +kernel
theorem or15 {a b d f : Nat} (ha : a < 4) (hb : b < 4) (hd : d < 4) (hf : f < 4) : (((2 ^ a ||| 2 ^ b) ||| 2 ^ d) ||| 2 ^ f) < 2 ^ 4 :=
  Nat.or_lt_two_pow (Nat.or_lt_two_pow (Nat.or_lt_two_pow (Nat.pow_lt_pow_right (by decide) ha) (Nat.pow_lt_pow_right (by decide) hb)) (Nat.pow_lt_pow_right (by decide) hd)) (Nat.pow_lt_pow_right (by decide) hf)
def rtf (f : Nat → Nat) : Nat → Nat → Nat
  | 0 => f
  | i + 1 => up (up (rtf f i) (2 * i) 0) (2 * i + 1) 0
theorem rtf_at (f : Nat → Nat) : ∀ n j, j < 2 * n → rtf f n j = 0 := by
  intro n
  induction n with
  | zero => intro j h; omega
  | succ n ih =>
    intro j h
    show up (up (rtf f n) (2 * n) 0) (2 * n + 1) 0 j = 0
    unfold up
    split
    · rfl
    · split
      · rfl
      · exact ih j (by omega)
theorem bt_0 (j : Nat) : bt 0 j = 0 := by unfold bt; simp
theorem shr0 {st M : Nat} (hM : M < 32) (hs : st < 2 ^ 31) : (st / 2 ^ M = 0) ↔ st < 2 ^ M := by
  constructor
  · intro h
    have h1 := Nat.div_add_mod st (2 ^ M)
    rw [h] at h1
    have h2 := Nat.mod_lt st (Nat.two_pow_pos M)
    omega
  · exact fun h => Nat.div_eq_of_lt h

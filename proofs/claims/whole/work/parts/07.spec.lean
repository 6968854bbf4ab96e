/-! the mathematical words: sums, bits, cells, homes -/
theorem n_inc (a n : Nat) {z : Int} (h : Int32.ofInt z = nI n) : nI a + Int32.ofInt z = nI (a + n) := by rw [h, nI_add]
theorem n_dec {a n : Nat} (h1 : n ≤ a) {z : Int} (h : Int32.ofInt z = -nI n) : nI a + Int32.ofInt z = nI (a - n) := by rw [h, ← Int32.sub_eq_add_neg, pk_sub h1]
def sm (f : Nat → Nat) : Nat → Nat
  | 0 => 0
  | n + 1 => sm f n + f n
def bt (x j : Nat) : Nat := x / 2 ^ j % 2
def cl (g m : Nat) : Nat := g / 2 ^ (2 * m) % 4
def ic (M g set c : Nat) : Nat := sm (fun m => if bt set m = 1 ∧ cl g m = c then 1 else 0) M
def hmi (M g set : Nat) : Nat → Nat
  | 0 => 0
  | i + 1 => if ic M g set (hmi M g set i) < ic M g set i then i else hmi M g set i
def hm (M g set : Nat) : Nat := hmi M g set 4
def wn (M g set : Nat) : Nat := sm (fun c => if c = hm M g set then 0 else ic M g set c) 4
def il (M g set : Nat) : Nat := ic M g (2 ^ M - 1 - set) (hm M g set)
def pop (n : Nat) : Nat := sm (fun m => bt n m) 7
theorem sm_le {f g : Nat → Nat} {n : Nat} (h : ∀ m, m < n → f m ≤ g m) : sm f n ≤ sm g n := by
  induction n with
  | zero => exact Nat.le_refl _
  | succ n ih => exact Nat.add_le_add (ih fun m hm => h m (by omega)) (h n (by omega))
theorem sm_congr {f g : Nat → Nat} {n : Nat} (h : ∀ m, m < n → f m = g m) : sm f n = sm g n := by
  induction n with
  | zero => rfl
  | succ n ih => show sm f n + f n = sm g n + g n; rw [ih fun m hm => h m (by omega), h n (by omega)]
theorem sm_bd {f : Nat → Nat} {n b : Nat} (h : ∀ m, m < n → f m ≤ b) : sm f n ≤ n * b := by
  induction n with
  | zero => exact Nat.zero_le _
  | succ n ih =>
    have h1 := ih fun m hm => h m (by omega)
    have h2 := h n (by omega)
    show sm f n + f n ≤ (n + 1) * b
    rw [Nat.succ_mul]; omega
theorem sm_add (f g : Nat → Nat) (n : Nat) : sm f n + sm g n = sm (fun m => f m + g m) n := by
  induction n with
  | zero => rfl
  | succ n ih => show sm f n + f n + (sm g n + g n) = sm (fun m => f m + g m) n + (f n + g n); rw [← ih]; omega
theorem sm_cut {f g : Nat → Nat} {M n : Nat} (hM : M ≤ n) (h1 : ∀ m, m < M → f m = g m) (h2 : ∀ m, M ≤ m → m < n → f m = 0) : sm f n = sm g M := by
  induction n with
  | zero => have : M = 0 := by omega
            subst this; rfl
  | succ n ih =>
    by_cases h : M = n + 1
    · subst h; exact sm_congr h1
    · show sm f n + f n = sm g M
      rw [ih (by omega) (fun m a b => h2 m a (by omega)), h2 n (by omega) (by omega)]
      rfl
theorem sm_mul (f : Nat → Nat) (k n : Nat) : k * sm f n = sm (fun m => k * f m) n := by
  induction n with
  | zero => rfl
  | succ n ih => show k * (sm f n + f n) = sm (fun m => k * f m) n + k * f n; rw [Nat.mul_add, ih]
theorem sm_swap (f : Nat → Nat → Nat) (n k : Nat) : sm (fun i => sm (fun j => f i j) k) n = sm (fun j => sm (fun i => f i j) n) k := by
  induction n with
  | zero =>
    show 0 = sm (fun _ => 0) k
    induction k with
    | zero => rfl
    | succ k ih => show 0 = sm (fun _ => 0) k + 0; omega
  | succ n ih =>
    show sm (fun i => sm (fun j => f i j) k) n + sm (fun j => f n j) k = _
    rw [ih, sm_add]
    rfl
theorem bt_lt (x j : Nat) : bt x j < 2 := Nat.mod_lt _ (by decide)
theorem bt_tb (x j : Nat) : bt x j = (x.testBit j).toNat := (Nat.toNat_testBit x j).symm
theorem bt_and (a b j : Nat) : bt (a &&& b) j = bt a j * bt b j := by
  rw [bt_tb, bt_tb, bt_tb, Nat.testBit_and]
  cases a.testBit j <;> cases b.testBit j <;> rfl
theorem bt_or (a b j : Nat) : bt (a ||| b) j = if bt a j = 1 ∨ bt b j = 1 then 1 else 0 := by
  rw [bt_tb, bt_tb, bt_tb, Nat.testBit_or]
  cases a.testBit j <;> cases b.testBit j <;> rfl
theorem bt_big {x k : Nat} (h : x < 2 ^ k) {j : Nat} (hj : k ≤ j) : bt x j = 0 := by
  rw [bt_tb, Nat.testBit_lt_two_pow (Nat.lt_of_lt_of_le h (Nat.pow_le_pow_right (by decide) hj))]; rfl
theorem bt_pow (k j : Nat) : bt (2 ^ k) j = if j = k then 1 else 0 := by
  rw [bt_tb, Nat.testBit_two_pow]
  by_cases h : k = j
  · subst h; simp
  · rw [if_neg (fun q => h q.symm)]; simp [h]
theorem bt_not {M x j : Nat} (h : x < 2 ^ M) (hj : j < M) : bt (2 ^ M - 1 - x) j = 1 - bt x j := by
  have e : 2 ^ M - 1 - x = 2 ^ M - (x + 1) := by omega
  rw [e, bt_tb, bt_tb, Nat.testBit_two_pow_sub_succ h]
  cases x.testBit j <;> simp [hj]
theorem bt_ext {a b k : Nat} (ha : a < 2 ^ k) (hb : b < 2 ^ k) (h : ∀ j, j < k → bt a j = bt b j) : a = b := by
  apply Nat.eq_of_testBit_eq
  intro i
  by_cases hi : i < k
  · have e := h i hi
    rw [bt_tb, bt_tb] at e
    revert e
    cases a.testBit i <;> cases b.testBit i <;> simp
  · rw [Nat.testBit_lt_two_pow (Nat.lt_of_lt_of_le ha (Nat.pow_le_pow_right (by decide) (by omega))), Nat.testBit_lt_two_pow (Nat.lt_of_lt_of_le hb (Nat.pow_le_pow_right (by decide) (by omega)))]
theorem cl_lt (g m : Nat) : cl g m < 4 := Nat.mod_lt _ (by decide)
theorem ic_le (M g set c : Nat) : ic M g set c ≤ M := by
  have h := sm_bd (f := fun m => if bt set m = 1 ∧ cl g m = c then 1 else 0) (n := M) (b := 1) (fun m _ => by split <;> omega)
  unfold ic; omega
theorem hmi_lt (M g set : Nat) : ∀ i, hmi M g set i < 4 ∨ hmi M g set i < i := by
  intro i
  induction i with
  | zero => exact Or.inl (show (0 : Nat) < 4 by decide)
  | succ i ih =>
    show (if _ then i else hmi M g set i) < 4 ∨ (if _ then i else hmi M g set i) < i + 1
    split
    · exact Or.inr (by omega)
    · omega
theorem hm_lt (M g set : Nat) : hm M g set < 4 := (hmi_lt M g set 4).elim id id
theorem wn_le {M : Nat} (g set : Nat) : wn M g set ≤ 4 * M := by
  refine sm_bd (fun c _ => ?_)
  split
  · omega
  · exact ic_le M g set c
theorem il_le {M : Nat} (g set : Nat) : il M g set ≤ M := ic_le _ _ _ _
theorem ic_full {M : Nat} (g c : Nat) : ic M g (2 ^ M - 1) c = sm (fun m => if cl g m = c then 1 else 0) M := by
  refine sm_congr fun m hm => ?_
  have h : bt (2 ^ M - 1) m = 1 := by
    have := bt_not (M := M) (x := 0) (Nat.two_pow_pos M) hm
    rw [Nat.sub_zero] at this
    rw [this]
    show 1 - 0 / 2 ^ m % 2 = 1
    rw [Nat.zero_div]
  simp [h]
/-! the class's picture of a grouping: for each cell the set of its machines -/
def mOk (M g : Nat) (mem : Nat → Nat) : Prop := ∀ c, c < 4 → mem c < 128 ∧ ∀ m, m < 7 → bt (mem c) m = if m < M ∧ cl g m = c then 1 else 0
def mF (g : Nat) : Nat → Nat → Nat
  | 0 => fun _ => 0
  | i + 1 => up (mF g i) (cl g i) (mF g i (cl g i) ||| 2 ^ i)
theorem mF_ok (g : Nat) : ∀ M, M ≤ 7 → mOk M g (mF g M) := by
  intro M
  induction M with
  | zero =>
    intro _ c _
    refine ⟨by show (0 : Nat) < 128; decide, fun m _ => ?_⟩
    rw [if_neg (by omega)]
    show 0 / 2 ^ m % 2 = 0
    rw [Nat.zero_div]
  | succ M ih =>
    intro hM c hc
    obtain ⟨h1, h2⟩ := ih (by omega) c hc
    have h7 : (2 : Nat) ^ M < 2 ^ 7 := Nat.pow_lt_pow_right (by decide) (by omega)
    by_cases e : c = cl g M
    · subst e
      have ev : mF g (M + 1) (cl g M) = mF g M (cl g M) ||| 2 ^ M := up_s _ _ _
      rw [ev]
      refine ⟨Nat.or_lt_two_pow (n := 7) h1 h7, fun m hm => ?_⟩
      rw [bt_or, h2 m hm, bt_pow]
      by_cases a : m = M
      · subst a; simp
      · by_cases b : m < M
        · rw [if_neg a]
          by_cases d : cl g m = cl g M
          · simp [b, d]; omega
          · simp [d]
        · rw [if_neg a]; simp [b]; omega
    · have ev : mF g (M + 1) c = mF g M c := up_n _ _ e
      rw [ev]
      refine ⟨h1, fun m hm => ?_⟩
      rw [h2 m hm]
      by_cases a : m = M
      · subst a; simp; exact fun h => e h.symm
      · by_cases b : m < M
        · simp [b, show m < M + 1 by omega]
        · simp [b, show ¬ m < M + 1 by omega]
theorem pop_ic {M g set c : Nat} {mem : Nat → Nat} (h : mOk M g mem) (hM : M ≤ 7) (hc : c < 4) : pop (mem c &&& set) = ic M g set c := by
  refine sm_cut hM (fun m hm => ?_) (fun m h1 h2 => ?_)
  · rw [bt_and, (h c hc).2 m (by omega)]
    have hb := bt_lt set m
    by_cases a : cl g m = c
    · by_cases b : bt set m = 1
      · simp [a, b, hm]
      · have : bt set m = 0 := by omega
        simp [this]
    · simp [a]
  · rw [bt_and, (h c hc).2 m h2, if_neg (by omega), Nat.zero_mul]
theorem pop_full {M g c : Nat} {mem : Nat → Nat} (h : mOk M g mem) (hM : M ≤ 7) (hc : c < 4) : pop (mem c) = ic M g (2 ^ M - 1) c := by
  rw [ic_full]
  refine sm_cut hM (fun m hm => ?_) (fun m h1 h2 => ?_)
  · rw [(h c hc).2 m (by omega)]; simp [hm]
  · rw [(h c hc).2 m h2, if_neg (by omega)]
def andn (a b : Nat) : Nat := a &&& (127 ^^^ b)
theorem bt_andn {a b j : Nat} (hj : j < 7) : bt (andn a b) j = bt a j * (1 - bt b j) := by
  unfold andn
  rw [bt_tb, Nat.testBit_and, Nat.testBit_xor, bt_tb, bt_tb]
  have h : Nat.testBit 127 j = true := (by decide : ∀ j, j < 7 → Nat.testBit 127 j = true) j hj
  rw [h]
  cases a.testBit j <;> cases b.testBit j <;> rfl
theorem andn_lt {a : Nat} (b : Nat) (h : a < 128) : andn a b < 128 := Nat.lt_of_le_of_lt (Nat.and_le_left) h
theorem nI_andn {a b : Nat} (ha : a < 128) : nI a &&& (nI b ^^^ (-1)) = nI (andn a b) := by
  apply Int32.toBitVec_inj.1
  show BitVec.ofNat 32 a &&& (BitVec.ofNat 32 b ^^^ (-1 : Int32).toBitVec) = BitVec.ofNat 32 (a &&& (127 ^^^ b))
  apply BitVec.eq_of_getLsbD_eq
  intro i hi
  have e : ((-1 : Int32).toBitVec).getLsbD i = true := (by decide +kernel : ∀ i, i < 32 → ((-1 : Int32).toBitVec).getLsbD i = true) i hi
  rw [BitVec.getLsbD_and, BitVec.getLsbD_xor, e, BitVec.getLsbD_ofNat, BitVec.getLsbD_ofNat, BitVec.getLsbD_ofNat, Nat.testBit_and, Nat.testBit_xor]
  by_cases h : i < 7
  · have h2 : Nat.testBit 127 i = true := (by decide : ∀ j, j < 7 → Nat.testBit 127 j = true) i h
    rw [h2]; simp [hi]
  · have h2 : a.testBit i = false := Nat.testBit_lt_two_pow (Nat.lt_of_lt_of_le (show a < 2 ^ 7 from ha) (Nat.pow_le_pow_right (by decide) (by omega)))
    rw [h2]; simp
theorem pop_wn {M g set : Nat} {mem : Nat → Nat} (h : mOk M g mem) (hM : M ≤ 7) (hs : set < 2 ^ M) : pop (andn set (mem (hm M g set))) = wn M g set := by
  have hh := hm_lt M g set
  unfold wn
  generalize hm M g set = t at hh ⊢
  have e1 : pop (andn set (mem t)) = sm (fun m => if bt set m = 1 ∧ cl g m ≠ t then 1 else 0) M := by
    refine sm_cut hM (fun m hm => ?_) (fun m h1 h2 => ?_)
    · rw [bt_andn (by omega), (h t hh).2 m (by omega)]
      have hb := bt_lt set m
      by_cases a : cl g m = t
      · simp [a, hm]
      · by_cases b : bt set m = 1
        · simp [a, b]
        · have : bt set m = 0 := by omega
          simp [this]
    · rw [bt_andn h2, bt_big hs h1, Nat.zero_mul]
  rw [e1]
  have e2 : ∀ c, (if c = t then 0 else ic M g set c) = sm (fun m => if c = t then 0 else if bt set m = 1 ∧ cl g m = c then 1 else 0) M := by
    intro c
    by_cases hc : c = t
    · simp only [hc, if_true]
      exact (Nat.le_zero.mp (Nat.le_trans (sm_bd (b := 0) (fun _ _ => Nat.le_refl 0)) (by simp))).symm
    · simp only [hc, if_false]; rfl
  have e3 : sm (fun c => if c = t then 0 else ic M g set c) 4 = sm (fun c => sm (fun m => if c = t then 0 else if bt set m = 1 ∧ cl g m = c then 1 else 0) M) 4 := sm_congr fun c _ => e2 c
  rw [e3, sm_swap]
  refine sm_congr fun m _ => ?_
  have h4 := cl_lt g m
  generalize cl g m = k at h4 ⊢
  by_cases b : bt set m = 1
  · simp only [b, true_and]
    exact (by decide : ∀ k, k < 4 → ∀ t, t < 4 → (if k ≠ t then 1 else 0) = sm (fun c => if c = t then 0 else if k = c then 1 else 0) 4) k h4 t hh
  · simp only [b, false_and, if_false]
    exact (by decide : ∀ t, t < 4 → 0 = sm (fun c => if c = t then 0 else 0) 4) t hh
theorem pop_il {M g set : Nat} {mem : Nat → Nat} (h : mOk M g mem) (hM : M ≤ 7) (hs : set < 2 ^ M) : pop (andn (mem (hm M g set)) set) = il M g set := by
  have hh := hm_lt M g set
  unfold il
  generalize hm M g set = t at hh ⊢
  refine sm_cut hM (fun m hm => ?_) (fun m h1 h2 => ?_)
  · rw [bt_andn (by omega), (h t hh).2 m (by omega), bt_not hs hm]
    have hb := bt_lt set m
    by_cases a : cl g m = t
    · by_cases b : bt set m = 1
      · simp [a, b, hm]
      · have : bt set m = 0 := by omega
        simp [a, this, hm]
    · simp [a]
  · rw [bt_andn h2, (h t hh).2 m h2, if_neg (by omega), Nat.zero_mul]
def fillF (f : Nat → Nat) (v : Nat) : Nat → Nat → Nat
  | 0 => f
  | i + 1 => up (fillF f v i) i v
theorem fillF_at (f : Nat → Nat) (v : Nat) : ∀ n j, j < n → fillF f v n j = v := by
  intro n
  induction n with
  | zero => intro j h; omega
  | succ n ih =>
    intro j h
    by_cases e : j = n
    · subst e; exact up_s _ _ _
    · exact (up_n _ _ e).trans (ih j (by omega))
/-! Integer.bitCount, as it is written -/
def bcs (x : Int32) (k : Nat) : Int32 := (x.toUInt32 >>> ((nI k).toUInt32 &&& Int32.toUInt32 31)).toInt32
def bc1 (x : Int32) : Int32 := x - (bcs x 1 &&& nI 1431655765)
def bc2 (x : Int32) : Int32 := (x &&& nI 858993459) + (bcs x 2 &&& nI 858993459)
def bc3 (x : Int32) : Int32 := (x + bcs x 4) &&& nI 252645135
def bc4 (x : Int32) : Int32 := x + bcs x 8
def bc5 (x : Int32) : Int32 := x + bcs x 16
theorem bc_ok : ∀ n, n < 128 → bc5 (bc4 (bc3 (bc2 (bc1 (nI n))))) &&& nI 63 = nI (pop n) := by decide +kernel
theorem pop_le (n : Nat) : pop n ≤ 7 := by
  have h := sm_bd (f := fun m => bt n m) (n := 7) (b := 1) (fun m _ => by have := bt_lt n m; omega)
  unfold pop; omega

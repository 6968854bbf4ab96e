/-! ways, copies, years, the tree: the class's words and the reference's -/
theorem wft_up (tp pl : Nat → Nat) (x : Nat) : ∀ h, h < 4 → ∀ d, d < 4 → sm (wfs (up tp (4 * h + d) (tp (4 * h + d) + x)) pl) 4 = sm (wfs tp pl) 4 + x * dist (pl h) (pl d) := by
  intro h hh d hd
  rcases (show h = 0 ∨ h = 1 ∨ h = 2 ∨ h = 3 by omega) with rfl | rfl | rfl | rfl <;> rcases (show d = 0 ∨ d = 1 ∨ d = 2 ∨ d = 3 by omega) with rfl | rfl | rfl | rfl <;> (simp [sm, wfs, wft, up, Nat.add_mul]; try omega)
theorem way_oi {M g : Nat} {sets amts : Nat → Nat} {ch k : Nat} (f0 pl : Nat → Nat) : ∀ i, sm (wfs (oi M g sets amts ch k f0 i) pl) 4 = sm (wfs f0 pl) 4 + sm (wyi M g sets amts ch pl k) i := by
  intro i
  induction i with
  | zero => rfl
  | succ i ih =>
    have hb := bt_lt (setB sets ch k) i
    by_cases h : bt (setB sets ch k) i = 1
    · rw [show oi M g sets amts ch k f0 (i + 1) = up (oi M g sets amts ch k f0 i) (4 * hm M g (setB sets ch k) + cl g i) (oi M g sets amts ch k f0 i (4 * hm M g (setB sets ch k) + cl g i) + amts k) from if_pos h]
      rw [wft_up _ _ _ _ (hm_lt _ _ _) _ (cl_lt _ _), ih]
      show _ = sm (wfs f0 pl) 4 + (sm (wyi M g sets amts ch pl k) i + wyi M g sets amts ch pl k i)
      unfold wyi
      rw [h, Nat.one_mul, Nat.add_assoc]
    · rw [show oi M g sets amts ch k f0 (i + 1) = oi M g sets amts ch k f0 i from if_neg h, ih]
      show _ = sm (wfs f0 pl) 4 + (sm (wyi M g sets amts ch pl k) i + wyi M g sets amts ch pl k i)
      unfold wyi
      rw [show bt (setB sets ch k) i = 0 by omega, Nat.zero_mul, Nat.zero_mul, Nat.add_zero]
theorem E_way {M g : Nat} {sets amts : Nat → Nat} {ch : Nat} (pl : Nat → Nat) : ∀ P, sm (wfs (ob M g sets amts ch P) pl) 4 = sm (wym M g sets amts ch pl) P := by
  intro P
  induction P with
  | zero => show sm (wfs (fun _ => 0) pl) 4 = 0; simp [sm, wfs, wft]
  | succ P ih =>
    show sm (wfs (oi M g sets amts ch P (ob M g sets amts ch P) M) pl) 4 = sm (wym M g sets amts ch pl) P + wym M g sets amts ch pl P
    rw [way_oi, ih]
    rfl
theorem dist_lt {a b : Nat} (ha : a < 4) (hb : b < 4) : dist a b ≤ 3 := by unfold dist; omega
theorem way_lt {M g P : Nat} {sets amts : Nat → Nat} {ch : Nat} (hM : M ≤ 7) (hP : P ≤ 8) (ha : ∀ j, amts j < 10) (o : Nat) : sm (wfs (ob M g sets amts ch P) (plc o)) 4 < 2 ^ 30 := by
  rw [E_way]
  have h : sm (wym M g sets amts ch (plc o)) P ≤ P * 189 := sm_bd (fun k _ => by
    have h1 : sm (wyi M g sets amts ch (plc o) k) M ≤ M * 27 := sm_bd (fun i _ => by
      have h2 := bt_lt (setB sets ch k) i
      have h3 := ha k
      have h4 : bt (setB sets ch k) i * amts k ≤ 1 * 9 := Nat.mul_le_mul (by omega) (by omega)
      exact Nat.le_trans (Nat.mul_le_mul h4 (dist_lt (plc_lt _ _) (plc_lt _ _))) (by decide))
    show sm (wyi M g sets amts ch (plc o) k) M ≤ 189
    omega)
  omega
section Floor
variable {M g P : Nat} {sets amts : Nat → Nat} {ch : Nat}
theorem fl_rel (hM : M ≤ 7) (hP : P ≤ 8) (ha : ∀ j, amts j < 10) (be : Nat → Int32) : ∀ n, n ≤ 256 →
    (bsr (fun z => sm (wym M g sets amts ch (plc z)) P) be n 4 = -9 ∧ (bo (ob M g sets amts ch P) n).2 = 1073741824) ∨
    ((bo (ob M g sets amts ch P) n).2 = sm (wfs (ob M g sets amts ch P) (plc (bo (ob M g sets amts ch P) n).1)) 4 ∧ bsr (fun z => sm (wym M g sets amts ch (plc z)) P) be n 4 = nI (bo (ob M g sets amts ch P) n).2 ∧ ∀ j, j < 4 → bsr (fun z => sm (wym M g sets amts ch (plc z)) P) be n j = nI (cat (bo (ob M g sets amts ch P) n).1 j)) := by
  intro n
  generalize hW : (fun z => sm (wym M g sets amts ch (plc z)) P) = W
  have hWk : ∀ k, sm (wfs (ob M g sets amts ch P) (plc k)) 4 = W k := fun k => by rw [← hW]; exact E_way (plc k) P
  have hWl : ∀ k, W k < 2 ^ 30 := fun k => by rw [← hWk]; exact way_lt hM hP ha k
  generalize ob M g sets amts ch P = tp at hWk ⊢
  induction n with
  | zero => intro _; exact Or.inl ⟨up_s _ _ _, rfl⟩
  | succ n ih =>
    intro hn
    have ih := ih (by omega)
    have hl := hWl n
    by_cases he : eo n
    · have put : ∀ j, j < 4 → up (up (up (up (up (bsr W be n) 0 (nI (n / 2 ^ 6))) 1 (nI (n / 2 ^ 4 % 4))) 2 (nI (n / 2 ^ 2 % 4))) 3 (nI (n % 4))) 4 (nI (W n)) j = nI (cat n j) := by
        intro j hj
        rcases (show j = 0 ∨ j = 1 ∨ j = 2 ∨ j = 3 by omega) with rfl | rfl | rfl | rfl
        · show nI (n / 2 ^ 6) = nI (n / 2 ^ 6 % 4)
          congr 1; omega
        · rfl
        · rfl
        · show nI (n % 4) = nI (n / 1 % 4)
          rw [Nat.div_one]
      rcases ih with ⟨q1, q2⟩ | ⟨q1, q2, q3⟩
      · rw [show bsr W be (n + 1) = up (up (up (up (up (bsr W be n) 0 (nI (n / 2 ^ 6))) 1 (nI (n / 2 ^ 4 % 4))) 2 (nI (n / 2 ^ 2 % 4))) 3 (nI (n % 4))) 4 (nI (W n)) from cnd_t ⟨he, Or.inl q1⟩,
          show bo tp (n + 1) = (n, sm (wfs tp (plc n)) 4) from if_pos ⟨he, by rw [q2, hWk]; omega⟩]
        exact Or.inr ⟨rfl, by rw [up_s]; show nI (W n) = nI (sm (wfs tp (plc n)) 4); rw [hWk], put⟩
      · have hne : bsr W be n 4 ≠ -9 := by rw [q2]; exact nI_n9 (by rw [q1, hWk]; have := hWl (bo tp n).1; omega)
        have hcmp : (nI (W n) < bsr W be n 4) ↔ W n < (bo tp n).2 := by
          rw [q2]; exact nI_ltI (by omega) (by rw [q1, hWk]; have := hWl (bo tp n).1; omega)
        by_cases hlt : W n < (bo tp n).2
        · rw [show bsr W be (n + 1) = up (up (up (up (up (bsr W be n) 0 (nI (n / 2 ^ 6))) 1 (nI (n / 2 ^ 4 % 4))) 2 (nI (n / 2 ^ 2 % 4))) 3 (nI (n % 4))) 4 (nI (W n)) from cnd_t ⟨he, Or.inr (hcmp.mpr hlt)⟩,
            show bo tp (n + 1) = (n, sm (wfs tp (plc n)) 4) from if_pos ⟨he, by rw [hWk]; exact hlt⟩]
          exact Or.inr ⟨rfl, by rw [up_s]; show nI (W n) = nI (sm (wfs tp (plc n)) 4); rw [hWk], put⟩
        · rw [show bsr W be (n + 1) = bsr W be n from cnd_f (fun h => h.2.elim hne (fun z => hlt (hcmp.mp z))),
            show bo tp (n + 1) = bo tp n from if_neg (fun h => hlt (by rw [← hWk]; exact h.2))]
          exact Or.inr ⟨q1, q2, q3⟩
    · rw [show bsr W be (n + 1) = bsr W be n from cnd_f (fun h => he h.1), show bo tp (n + 1) = bo tp n from if_neg (fun h => he h.1)]
      exact ih
theorem E_floor (hM : M ≤ 7) (hP : P ≤ 8) (ha : ∀ j, amts j < 10) (be : Nat → Int32) {w : Nat} (hw : w ≤ 4) :
    nI (if w = 4 then sm (wfs (ob M g sets amts ch P) (plc (bo (ob M g sets amts ch P) 256).1)) 4 else cat (bo (ob M g sets amts ch P) 256).1 w) = bsr (fun z => sm (wym M g sets amts ch (plc z)) P) be 256 w := by
  have hB : ∀ o, sm (wfs (ob M g sets amts ch P) (plc o)) 4 < 2 ^ 30 := way_lt hM hP ha
  rcases fl_rel (g := g) (sets := sets) (ch := ch) hM hP ha be 256 (Nat.le_refl _) with ⟨-, q2⟩ | ⟨q1, q2, q3⟩
  · exfalso
    -- the order 27 has been met
    have k28 : ∀ n, 28 ≤ n → (bo (ob M g sets amts ch P) n).2 < 1073741824 := by
      intro n
      induction n with
      | zero => intro h; omega
      | succ n ih =>
        intro h
        by_cases hc : sn n 4 = 15 ∧ sm (wfs (ob M g sets amts ch P) (plc n)) 4 < (bo (ob M g sets amts ch P) n).2
        · rw [show bo (ob M g sets amts ch P) (n + 1) = (n, sm (wfs (ob M g sets amts ch P) (plc n)) 4) from if_pos hc]
          exact hB n
        · rw [show bo (ob M g sets amts ch P) (n + 1) = bo (ob M g sets amts ch P) n from if_neg hc]
          by_cases e : n = 27
          · subst e
            have hle := bo_le (ob M g sets amts ch P) 27
            have : ¬ sm (wfs (ob M g sets amts ch P) (plc 27)) 4 < (bo (ob M g sets amts ch P) 27).2 := fun q => hc ⟨by decide, q⟩
            have := hB 27
            omega
          · exact ih (by omega)
    have := k28 256 (by decide)
    omega
  · by_cases h : w = 4
    · subst h
      rw [if_pos rfl, q2, ← q1]
    · rw [if_neg h, q3 w (by omega)]
end Floor
/-! copies -/
section Saved
theorem ofs_agree {cost gain pu : Nat} {f f' : Nat → Nat} (h : ∀ j, j ≤ pu → f j = f' j) : ∀ i j, j ≤ pu → ofs cost gain pu f i j = ofs cost gain pu f' i j := by
  intro i
  induction i with
  | zero => exact h
  | succ i ih =>
    intro j hj
    show up (ofs cost gain pu f i) (pu - i) _ j = up (ofs cost gain pu f' i) (pu - i) _ j
    unfold up
    split
    · rw [ih (pu - i) (by omega), ih (pu - i - cost) (by omega)]
    · exact ih j hj
theorem ofs_far {cost gain pu : Nat} {f : Nat → Nat} : ∀ i j, pu < j → ofs cost gain pu f i j = f j := by
  intro i
  induction i with
  | zero => intro j _; rfl
  | succ i ih =>
    intro j hj
    exact (up_n _ _ (by omega)).trans (ih j hj)
variable {M g P : Nat} {sets amts pr : Nat → Nat} {ch pu : Nat}
theorem oc_agree {cost m : Nat} {f f' : Nat → Nat} (h : ∀ j, j ≤ pu → f j = f' j) : ∀ d j, j ≤ pu → oc M g P sets amts ch cost pu m f d j = oc M g P sets amts ch cost pu m f' d j := by
  intro d
  induction d with
  | zero => exact h
  | succ d ih =>
    intro j hj
    show (if d = cl g m then _ else _ : Nat → Nat) j = (if d = cl g m then _ else _ : Nat → Nat) j
    by_cases e : d = cl g m
    · rw [if_pos e, if_pos e]; exact ih j hj
    · rw [if_neg e, if_neg e]; exact ofs_agree ih _ j hj
theorem oc_far {cost m : Nat} {f : Nat → Nat} : ∀ d j, pu < j → oc M g P sets amts ch cost pu m f d j = f j := by
  intro d
  induction d with
  | zero => intro j _; rfl
  | succ d ih =>
    intro j hj
    show (if d = cl g m then _ else _ : Nat → Nat) j = f j
    by_cases e : d = cl g m
    · rw [if_pos e]; exact ih j hj
    · rw [if_neg e, ofs_far _ j hj]; exact ih j hj
theorem sv_agree {f0 : Nat → Nat} (h : ∀ j, j ≤ pu → f0 j = 0) : ∀ m j, j ≤ pu → svG M g P sets amts pr ch pu f0 m j = svF M g P sets amts pr ch pu m j := by
  intro m
  induction m with
  | zero => exact h
  | succ m ih =>
    intro j hj
    exact oc_agree ih 4 j hj
theorem sv_far {f0 : Nat → Nat} : ∀ m j, pu < j → svG M g P sets amts pr ch pu f0 m j = f0 j := by
  intro m
  induction m with
  | zero => intro j _; rfl
  | succ m ih =>
    intro j hj
    exact (oc_far 4 j hj).trans (ih j hj)
theorem fillF_far (f : Nat → Nat) (v : Nat) : ∀ n j, n ≤ j → fillF f v n j = f j := by
  intro n
  induction n with
  | zero => intro j _; rfl
  | succ n ih => intro j hj; exact (up_n _ _ (by omega)).trans (ih j (by omega))
theorem E_saved (mo : Nat → Nat) : svF M g P sets amts pr ch pu M pu = svG M g P sets amts pr ch pu (fillF mo 0 (pu + 1)) M pu :=
  (sv_agree (fun j hj => fillF_at mo 0 (pu + 1) j (by omega)) M pu (Nat.le_refl _)).symm
theorem mo_keep {mo : Nat → Nat} (hM : M ≤ 7) (hP : P ≤ 8) (ha : ∀ j, amts j < 10) (hp : pu ≤ 200) (h : ∀ j, mo j ≤ 420000) : ∀ j, svG M g P sets amts pr ch pu (fillF mo 0 (pu + 1)) M j ≤ 420000 := by
  intro j
  by_cases hj : j ≤ pu
  · rw [sv_agree (fun j hj => fillF_at mo 0 (pu + 1) j (by omega)) M j hj]
    have := svF_le (M := M) (g := g) (sets := sets) (pr := pr) (ch := ch) hP ha hp M j
    omega
  · rw [sv_far M j (by omega), fillF_far mo 0 (pu + 1) j (by omega)]
    exact h j
end Saved
/-! years -/
theorem cl_xor (a b m : Nat) : cl (a ^^^ b) m = cl a m ^^^ cl b m := by
  unfold cl
  rw [← Nat.shiftRight_eq_div_pow, ← Nat.shiftRight_eq_div_pow, ← Nat.shiftRight_eq_div_pow, Nat.shiftRight_xor_distrib]
  exact Nat.xor_mod_two_pow (n := 2)
theorem xor4 : ∀ x, x < 4 → ∀ y, y < 4 → (x ^^^ y = 0 ↔ x = y) := by decide
theorem mv_eq {a b m : Nat} : mv1 a b m = mvm a b m := by
  unfold mv1 mvm
  rw [cl_xor]
  by_cases h : cl a m = cl b m
  · rw [if_pos ((xor4 _ (cl_lt a m) _ (cl_lt b m)).mpr h), if_pos h]
  · rw [if_neg (fun q => h ((xor4 _ (cl_lt a m) _ (cl_lt b m)).mp q)), if_neg h]
theorem cl_big {a M m : Nat} (h : a < 2 ^ (2 * M)) (hm : M ≤ m) : cl a m = 0 := by
  unfold cl
  rw [Nat.div_eq_of_lt (Nat.lt_of_lt_of_le h (Nat.pow_le_pow_right (by decide) (by omega)))]
theorem mvs_eq {a b M : Nat} (hM : M ≤ 7) (ha : a < 2 ^ (2 * M)) (hb : b < 2 ^ (2 * M)) : sm (mv1 a b) 7 = sm (mvm a b) M :=
  sm_cut hM (fun m _ => mv_eq) (fun m h1 h2 => by rw [mv_eq]; unfold mvm; rw [cl_big ha h1, cl_big hb h1, if_pos rfl])
theorem mv_self (a M : Nat) : sm (mvm a a) M = 0 := by
  induction M with
  | zero => rfl
  | succ M ih => show sm (mvm a a) M + mvm a a M = 0; rw [ih]; unfold mvm; rw [if_pos rfl]
theorem mnr_mn1 (f : Nat → Nat) : ∀ i, mnr f i = mn1 f i := by
  intro i
  induction i with
  | zero => rfl
  | succ i ih =>
    show (if f (i + 1) < mnr f i then f (i + 1) else mnr f i) = min (mn1 f i) (f (i + 1))
    rw [ih]
    by_cases h : f (i + 1) < mn1 f i
    · rw [if_pos h, Nat.min_eq_right (by omega)]
    · rw [if_neg h, Nat.min_eq_left (by omega)]
theorem mnb_min (b : Nat) (f : Nat → Nat) : mnb b f 4 = min b (mn1 f 3) := by
  have st : ∀ x y : Nat, (if x < y then x else y) = min y x := fun x y => by
    by_cases h : x < y
    · rw [if_pos h, Nat.min_eq_right (by omega)]
    · rw [if_neg h, Nat.min_eq_left (by omega)]
  show (if f 3 < mnb b f 3 then f 3 else mnb b f 3) = min b (min (min (min (f 0) (f 1)) (f 2)) (f 3))
  rw [st, show mnb b f 3 = (if f 2 < mnb b f 2 then f 2 else mnb b f 2) from rfl, st, show mnb b f 2 = (if f 1 < mnb b f 1 then f 1 else mnb b f 1) from rfl, st, show mnb b f 1 = (if f 0 < b then f 0 else b) from rfl, st]
  rw [Nat.min_assoc, Nat.min_assoc, Nat.min_assoc, Nat.min_assoc, Nat.min_assoc]
theorem mn1_at (f : Nat → Nat) : ∀ n k, k ≤ n → mn1 f n ≤ f k := by
  intro n
  induction n with
  | zero => intro k h; rw [show k = 0 by omega]; exact Nat.le_refl _
  | succ n ih =>
    intro k h
    by_cases e : k = n + 1
    · subst e; exact Nat.min_le_right _ _
    · exact Nat.le_trans (Nat.min_le_left _ _) (ih k (by omega))
theorem mn1_congr {f f' : Nat → Nat} : ∀ n, (∀ k, k ≤ n → f k = f' k) → mn1 f n = mn1 f' n := by
  intro n
  induction n with
  | zero => intro h; exact h 0 (Nat.le_refl _)
  | succ n ih => intro h; show min (mn1 f n) (f (n + 1)) = min (mn1 f' n) (f' (n + 1)); rw [ih (fun k hk => h k (by omega)), h (n + 1) (Nat.le_refl _)]
theorem cy_eq {M : Nat} {wt sw sw' sh : Nat → Nat} {cg : Nat} (hM : M ≤ 7) (hs : ∀ j, sh j < 2 ^ (2 * M)) (hw : ∀ j, sw j = sw' j) : ∀ y k, k < 4 → cyf wt sw sh cg y k = cym M wt sw' sh cg y k := by
  intro y
  induction y with
  | zero => intro k _; show wt 0 * sw k = wt 0 * sw' k; rw [hw]
  | succ y ih =>
    intro k hk
    show mn1 (cmv (cyf wt sw sh cg y) sh cg k) 3 + wt (y + 1) * sw k = mnb (cym M wt sw' sh cg y k) (cmm M (cym M wt sw' sh cg y) sh cg k) 4 + wt (y + 1) * sw' k
    rw [hw, mnb_min]
    have e : mn1 (cmv (cyf wt sw sh cg y) sh cg k) 3 = mn1 (cmm M (cym M wt sw' sh cg y) sh cg k) 3 := mn1_congr 3 (fun j hj => by
      unfold cmv cmm
      rw [ih j (by omega), mvs_eq hM (hs j) (hs k)])
    rw [e]
    have h1 := mn1_at (cmm M (cym M wt sw' sh cg y) sh cg k) 3 k (by omega)
    have h2 : cmm M (cym M wt sw' sh cg y) sh cg k k = cym M wt sw' sh cg y k := by unfold cmm; rw [mv_self, Nat.mul_zero, Nat.add_zero]
    rw [Nat.min_eq_right (by omega)]
theorem E_plan {M P : Nat} {sets amts wt sh : Nat → Nat} {ch cg ny : Nat} (hM : M ≤ 7) (hs : ∀ j, sh j < 2 ^ (2 * M)) :
    mn1 (cyf wt (fun z => sm (wdp M (sh z) sets amts ch) P) sh cg (ny - 1)) 3 = mnr (cym M wt (fun z => lossM M (sh z) P sets amts ch 0) sh cg (ny - 1)) 3 := by
  rw [mnr_mn1]
  exact mn1_congr 3 (fun k hk => cy_eq hM hs (fun j => by show sm (wdp M (sh j) sets amts ch) P = lossM M (sh j) P sets amts ch 0; rw [lossM_V (by decide), lossV_0 (by decide)]) _ k (by omega))

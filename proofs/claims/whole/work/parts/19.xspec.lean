/-! the class: losses, the best of groupings and of routes, copies -/
noncomputable def cnd {α : Type} (P : Prop) (a b : α) : α := @ite α P (Classical.propDecidable P) a b
theorem cnd_t {α : Type} {P : Prop} {a b : α} (h : P) : cnd P a b = a := if_pos h
theorem cnd_f {α : Type} {P : Prop} {a b : α} (h : ¬ P) : cnd P a b = b := if_neg h
theorem inr_ok {a j b : Nat} (h1 : a ≤ j) (h2 : j ≤ b) (hb : b < 2 ^ 31) : nI a ≤ nI j ∧ nI j ≤ nI b := ⟨nI_le h1 (by omega), nI_le h2 hb⟩
def lossV (M g P : Nat) (sets amts : Nat → Nat) (ch kd : Nat) : Nat := sm (wdp M g sets amts ch) P + (if 1 ≤ kd then sm (idp M g sets ch) P else 0) + (if 2 ≤ kd then sm (sq M g) 4 else 0)
theorem lossV_0 {M g P : Nat} {sets amts : Nat → Nat} {ch kd : Nat} (h : kd < 1) : lossV M g P sets amts ch kd = sm (wdp M g sets amts ch) P := by
  unfold lossV; simp [show ¬ 1 ≤ kd by omega, show ¬ 2 ≤ kd by omega]
theorem lossV_1 {M g P : Nat} {sets amts : Nat → Nat} {ch kd : Nat} (h : 1 ≤ kd) (h2 : kd < 2) : lossV M g P sets amts ch kd = sm (wdp M g sets amts ch) P + sm (idp M g sets ch) P := by
  unfold lossV; simp [h, show ¬ 2 ≤ kd by omega]
theorem lossV_2 {M g P : Nat} {sets amts : Nat → Nat} {ch kd : Nat} (h : 1 ≤ kd) (h2 : 2 ≤ kd) : lossV M g P sets amts ch kd = sm (wdp M g sets amts ch) P + sm (idp M g sets ch) P + sm (sq M g) 4 := by
  unfold lossV; rw [if_pos h, if_pos h2]
theorem wds_le {M g P : Nat} {sets amts : Nat → Nat} {ch : Nat} (hM : M ≤ 7) (hP : P ≤ 8) (ha : ∀ j, amts j < 10) : sm (wdp M g sets amts ch) P < 5000 := by
  have h : sm (wdp M g sets amts ch) P ≤ P * 252 := sm_bd (fun k _ => by
    have h1 := ha k
    have h2 := wn_le (M := M) g (setB sets ch k)
    have h3 : amts k * wn M g (setB sets ch k) ≤ 9 * 28 := Nat.mul_le_mul (by omega) (by omega)
    exact h3)
  omega
theorem lossV_le {M g P : Nat} {sets amts : Nat → Nat} {ch kd : Nat} (hM : M ≤ 7) (hP : P ≤ 8) (ha : ∀ j, amts j < 10) : lossV M g P sets amts ch kd < 6000 := by
  have h1 := wds_le (M := M) (g := g) (P := P) (sets := sets) (amts := amts) (ch := ch) hM hP ha
  have h2 : sm (idp M g sets ch) P ≤ P * 7 := sm_bd (fun k _ => Nat.le_trans (il_le g _) hM)
  have h3 : sm (sq M g) 4 ≤ 4 * 49 := sm_bd (fun k _ => Nat.mul_le_mul (Nat.le_trans (ic_le _ _ _ _) hM) (Nat.le_trans (ic_le _ _ _ _) hM))
  unfold lossV
  split <;> split <;> omega
/-- the class's search: numbers in steps of four -/
noncomputable def sgb (M P : Nat) (sets amts : Nat → Nat) (ch kd L : Nat) : Nat → Nat × Nat
  | 0 => (0, 1073741824)
  | i + 1 => cnd (plain M (4 * i) ∧ lrg M (4 * i) 4 ≤ L ∧ lossV M (4 * i) P sets amts ch kd < (sgb M P sets amts ch kd L i).2) (4 * i, lossV M (4 * i) P sets amts ch kd) (sgb M P sets amts ch kd L i)
theorem sgb_le (M P : Nat) (sets amts : Nat → Nat) (ch kd L : Nat) : ∀ i, (sgb M P sets amts ch kd L i).2 ≤ 1073741824 := by
  intro i
  induction i with
  | zero => exact Nat.le_refl _
  | succ i ih =>
    by_cases h : plain M (4 * i) ∧ lrg M (4 * i) 4 ≤ L ∧ lossV M (4 * i) P sets amts ch kd < (sgb M P sets amts ch kd L i).2
    · rw [show sgb M P sets amts ch kd L (i + 1) = (4 * i, lossV M (4 * i) P sets amts ch kd) from cnd_t h]
      exact Nat.le_trans (Nat.le_of_lt h.2.2) ih
    · rw [show sgb M P sets amts ch kd L (i + 1) = sgb M P sets amts ch kd L i from cnd_f h]; exact ih
def right (M P : Nat) (sets amts bo : Nat → Nat) (sc : Nat) : Prop := ∀ m, m < M → sm (ldp sets amts sc m) P ≤ bo m
noncomputable def bch (M g P : Nat) (sets amts bo : Nat → Nat) : Nat → Int32 × Nat
  | 0 => (-9, 1073741824)
  | i + 1 => cnd (sm (wdp M g sets amts i) P < (bch M g P sets amts bo i).2 ∧ right M P sets amts bo i) (nI i, sm (wdp M g sets amts i) P) (bch M g P sets amts bo i)
theorem bch_le (M g P : Nat) (sets amts bo : Nat → Nat) : ∀ i, (bch M g P sets amts bo i).2 ≤ 1073741824 := by
  intro i
  induction i with
  | zero => exact Nat.le_refl _
  | succ i ih =>
    by_cases h : sm (wdp M g sets amts i) P < (bch M g P sets amts bo i).2 ∧ right M P sets amts bo i
    · rw [show bch M g P sets amts bo (i + 1) = (nI i, sm (wdp M g sets amts i) P) from cnd_t h]
      exact Nat.le_trans (Nat.le_of_lt h.1) ih
    · rw [show bch M g P sets amts bo (i + 1) = bch M g P sets amts bo i from cnd_f h]; exact ih
theorem lds_le {P : Nat} {sets amts : Nat → Nat} {sc m : Nat} (hP : P ≤ 8) (ha : ∀ j, amts j < 10) : sm (ldp sets amts sc m) P ≤ 72 := by
  have h : sm (ldp sets amts sc m) P ≤ P * 9 := sm_bd (fun k _ => by unfold ldp; have := ha k; split <;> omega)
  omega
theorem kps_le {M g P : Nat} {sets amts : Nat → Nat} {ch m d : Nat} (hP : P ≤ 8) (ha : ∀ j, amts j < 10) : sm (kpp M g sets amts ch m d) P ≤ 72 := by
  have h : sm (kpp M g sets amts ch m d) P ≤ P * 9 := sm_bd (fun k _ => by unfold kpp; have := ha k; split <;> omega)
  omega
/-- one copy offered, from the full purse downwards -/
def ofs (cost gain pu : Nat) (f : Nat → Nat) : Nat → Nat → Nat
  | 0 => f
  | i + 1 => up (ofs cost gain pu f i) (pu - i) (max (ofs cost gain pu f i (pu - i)) (ofs cost gain pu f i (pu - i - cost) + gain))
theorem ofs_le {cost gain pu B : Nat} {f : Nat → Nat} (hf : ∀ j, f j ≤ B) : ∀ i j, ofs cost gain pu f i j ≤ B + i * gain := by
  intro i
  induction i with
  | zero => intro j; have := hf j; show f j ≤ B + 0 * gain; omega
  | succ i ih =>
    intro j
    have e : (i + 1) * gain = i * gain + gain := Nat.succ_mul i gain
    show up (ofs cost gain pu f i) (pu - i) _ j ≤ _
    unfold up
    split
    · have h1 := ih (pu - i)
      have h2 := ih (pu - i - cost)
      exact Nat.max_le.mpr ⟨by omega, by omega⟩
    · have h1 := ih j
      omega
def oc (M g P : Nat) (sets amts : Nat → Nat) (ch cost pu m : Nat) (f : Nat → Nat) : Nat → Nat → Nat
  | 0 => f
  | d + 1 => if d = cl g m then oc M g P sets amts ch cost pu m f d else ofs cost (sm (kpp M g sets amts ch m d) P) pu (oc M g P sets amts ch cost pu m f d) (pu + 1 - cost)
theorem oc_le {M g P : Nat} {sets amts : Nat → Nat} {ch cost pu m B : Nat} {f : Nat → Nat} (hP : P ≤ 8) (ha : ∀ j, amts j < 10) (hp : pu ≤ 200) (hf : ∀ j, f j ≤ B) : ∀ d j, oc M g P sets amts ch cost pu m f d j ≤ B + d * 15000 := by
  intro d
  induction d with
  | zero => intro j; have := hf j; show f j ≤ B + 0 * 15000; omega
  | succ d ih =>
    intro j
    show (if d = cl g m then oc M g P sets amts ch cost pu m f d else ofs cost (sm (kpp M g sets amts ch m d) P) pu (oc M g P sets amts ch cost pu m f d) (pu + 1 - cost)) j ≤ _
    split
    · exact Nat.le_trans (ih j) (by omega)
    · have h1 := ofs_le (cost := cost) (gain := sm (kpp M g sets amts ch m d) P) (pu := pu) ih (pu + 1 - cost) j
      have h2 := kps_le (M := M) (g := g) (sets := sets) (ch := ch) (m := m) (d := d) hP ha
      have h3 : (pu + 1 - cost) * sm (kpp M g sets amts ch m d) P ≤ 201 * 72 := Nat.mul_le_mul (by omega) h2
      exact Nat.le_trans h1 (by omega)
def svF (M g P : Nat) (sets amts pr : Nat → Nat) (ch pu : Nat) : Nat → Nat → Nat
  | 0 => fun _ => 0
  | m + 1 => oc M g P sets amts ch (pr m) pu m (svF M g P sets amts pr ch pu m) 4
theorem svF_le {M g P : Nat} {sets amts pr : Nat → Nat} {ch pu : Nat} (hP : P ≤ 8) (ha : ∀ j, amts j < 10) (hp : pu ≤ 200) : ∀ m j, svF M g P sets amts pr ch pu m j ≤ m * 60000 := by
  intro m
  induction m with
  | zero => intro j; exact Nat.le_refl _
  | succ m ih =>
    intro j
    have h := oc_le (M := M) (g := g) (sets := sets) (ch := ch) (cost := pr m) (m := m) hP ha hp ih 4 j
    show oc M g P sets amts ch (pr m) pu m (svF M g P sets amts pr ch pu m) 4 j ≤ _
    omega
/-- the best order is an order, if ways are small -/
theorem bo_ok {tp : Nat → Nat} (hB : ∀ o, sm (wfs tp (plc o)) 4 < 2 ^ 30) : ∀ n, (n ≤ 27 ∨ (eo (bo tp n).1 ∧ (bo tp n).1 < n)) := by
  have key : ∀ n, (bo tp n).2 = 1073741824 ∨ (eo (bo tp n).1 ∧ (bo tp n).1 < n) := by
    intro n
    induction n with
    | zero => exact Or.inl rfl
    | succ n ih =>
      by_cases h : sn n 4 = 15 ∧ sm (wfs tp (plc n)) 4 < (bo tp n).2
      · rw [show bo tp (n + 1) = (n, sm (wfs tp (plc n)) 4) from if_pos h]
        exact Or.inr ⟨h.1, Nat.lt_succ_self n⟩
      · rw [show bo tp (n + 1) = bo tp n from if_neg h]
        rcases ih with q | q
        · exact Or.inl q
        · exact Or.inr ⟨q.1, Nat.lt_succ_of_lt q.2⟩
  have s28 : eo (bo tp 28).1 ∧ (bo tp 28).1 < 28 := by
    by_cases h : sn 27 4 = 15 ∧ sm (wfs tp (plc 27)) 4 < (bo tp 27).2
    · rw [show bo tp 28 = (27, sm (wfs tp (plc 27)) 4) from if_pos h]
      exact ⟨h.1, show 27 < 28 by decide⟩
    · rw [show bo tp 28 = bo tp 27 from if_neg h]
      rcases key 27 with q | q
      · exact absurd ⟨by decide, by rw [q]; exact hB 27⟩ h
      · exact ⟨q.1, Nat.lt_succ_of_lt q.2⟩
  intro n
  induction n with
  | zero => exact Or.inl (by decide)
  | succ n ih =>
    by_cases hn : n + 1 ≤ 27
    · exact Or.inl hn
    · refine Or.inr ?_
      by_cases e : n = 27
      · subst e; exact s28
      · rcases ih with q | q
        · omega
        · by_cases h : sn n 4 = 15 ∧ sm (wfs tp (plc n)) 4 < (bo tp n).2
          · rw [show bo tp (n + 1) = (n, sm (wfs tp (plc n)) 4) from if_pos h]
            exact ⟨h.1, Nat.lt_succ_self n⟩
          · rw [show bo tp (n + 1) = bo tp n from if_neg h]
            exact ⟨q.1, Nat.lt_succ_of_lt q.2⟩
def aAbout (M g P : Nat) (sets amts : Nat → Nat) (ch k : Nat) (x : Int32) : Int32 := if x = nI 0 then nI (hm M g (setB sets ch k)) else if x = nI 1 then nI (wn M g (setB sets ch k)) else if x = nI 2 then nI (il M g (setB sets ch k)) else if x = nI 3 then nI (amts k) else if x = nI 4 then nI (bt ch k) else if x = nI 5 then nI (setB sets ch k) else -1
def aCount (M P g ny : Nat) (sh : Nat → Nat) (x : Int32) : Int32 := if x = nI 0 then nI M else if x = nI 1 then nI P else if x = nI 2 then nI g else if x = nI 3 then nI ny else if x = nI 4 then nI (sh 0) else -1
theorem notS {x : Int32} {n k : Nat} (h : x.toInt < 0 ∨ ((n : Int) - 1) < x.toInt) (hk : k < n) (hn : n < 2 ^ 31) : x ≠ nI k := by
  intro e
  rw [e, nI_toInt (by omega)] at h
  omega

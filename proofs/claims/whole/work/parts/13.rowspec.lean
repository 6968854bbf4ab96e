/-! the floor; a switch's cases; a row copied -/
theorem tsw (x : Int32) (n : Nat) (hn : n < 2 ^ 31) : (∃ j : Nat, j < n ∧ x = nI j) ∨ (x.toInt < 0 ∨ ((n : Int) - 1) < x.toInt) := by
  rcases pk_ix x hn with h | h | h
  · exact Or.inr (Or.inl (by have := Int32.lt_iff_toInt_lt.mp h; rwa [Int32.toInt_zero] at this))
  · refine Or.inr (Or.inr ?_)
    have := Int32.le_iff_toInt_le.mp h
    rw [nI_toInt hn] at this
    omega
  · exact Or.inl h
def dist (a b : Nat) : Nat := (a - b) + (b - a)
theorem nI_abs {a b : Nat} (ha : a < 2 ^ 30) (hb : b < 2 ^ 30) : (if 0 ≤ nI a - nI b then nI a - nI b else 0 - (nI a - nI b)) = nI (dist a b) := by
  have e := pk_sub_toInt ha hb
  unfold dist
  by_cases h : b ≤ a
  · rw [if_pos (by rw [Int32.le_iff_toInt_le, e, Int32.toInt_zero]; omega), pk_sub h]
    congr 1; omega
  · rw [if_neg (by rw [Int32.le_iff_toInt_le, e, Int32.toInt_zero]; omega)]
    have e2 : (0 : Int32) - (nI a - nI b) = nI b - nI a := by
      rw [Int32.sub_eq_add_neg, Int32.zero_add, Int32.neg_sub]
    rw [e2, pk_sub (by omega)]
    congr 1; omega
def cat (o i : Nat) : Nat := o / 2 ^ (2 * (3 - i)) % 4
theorem cat_lt (o i : Nat) : cat o i < 4 := Nat.mod_lt _ (by decide)
def ord (a b d e : Nat) : Nat := ((a * 2 ^ 6 ||| b * 2 ^ 4) ||| d * 2 ^ 2) ||| e
theorem ord_lt : ∀ a, a < 4 → ∀ b, b < 4 → ∀ d, d < 4 → ∀ e, e < 4 → ord a b d e < 256 := by decide +kernel
theorem ord_0 : ∀ a, a < 4 → ∀ b, b < 4 → ∀ d, d < 4 → ∀ e, e < 4 → cat (ord a b d e) 0 = a := by decide +kernel
theorem ord_1 : ∀ a, a < 4 → ∀ b, b < 4 → ∀ d, d < 4 → ∀ e, e < 4 → cat (ord a b d e) 1 = b := by decide +kernel
theorem ord_2 : ∀ a, a < 4 → ∀ b, b < 4 → ∀ d, d < 4 → ∀ e, e < 4 → cat (ord a b d e) 2 = d := by decide +kernel
theorem ord_3 : ∀ a, a < 4 → ∀ b, b < 4 → ∀ d, d < 4 → ∀ e, e < 4 → cat (ord a b d e) 3 = e := by decide +kernel
def sn (o : Nat) : Nat → Nat
  | 0 => 0
  | i + 1 => sn o i ||| 2 ^ cat o i
theorem sn_lt (o : Nat) : ∀ i, sn o i < 2 ^ 4 := by
  intro i
  induction i with
  | zero => show (0 : Nat) < 16; decide
  | succ i ih => exact Nat.or_lt_two_pow ih (Nat.pow_lt_pow_right (by decide) (cat_lt o i))
def eo (o : Nat) : Prop := sn o 4 = 15
def plc (o j : Nat) : Nat := if j = cat o 3 then 3 else if j = cat o 2 then 2 else if j = cat o 1 then 1 else 0
theorem plc_lt (o j : Nat) : plc o j < 4 := by unfold plc; split; · decide
                                               split; · decide
                                               split <;> decide
theorem eo_all : ∀ o, o < 256 → sn o 4 = 15 → ∀ j, j < 4 → j = cat o 3 ∨ j = cat o 2 ∨ j = cat o 1 ∨ j = cat o 0 := by decide +kernel
def plo (o : Nat) (pl : Nat → Nat) : Nat → Nat → Nat
  | 0 => pl
  | i + 1 => up (plo o pl i) (cat o i) i
theorem plo_plc {o : Nat} (ho : o < 256) (he : eo o) (pl : Nat → Nat) {j : Nat} (hj : j < 4) : plo o pl 4 j = plc o j := by
  show (if j = cat o 3 then 3 else if j = cat o 2 then 2 else if j = cat o 1 then 1 else if j = cat o 0 then 0 else pl j) = plc o j
  unfold plc
  rcases eo_all o ho he j hj with h | h | h | h
  · rw [if_pos h, if_pos h]
  · by_cases a : j = cat o 3
    · rw [if_pos a, if_pos a]
    · rw [if_neg a, if_neg a, if_pos h, if_pos h]
  · by_cases a : j = cat o 3
    · rw [if_pos a, if_pos a]
    · rw [if_neg a, if_neg a]
      by_cases b : j = cat o 2
      · rw [if_pos b, if_pos b]
      · rw [if_neg b, if_neg b, if_pos h, if_pos h]
  · rw [if_pos h]
def wft (tp pl : Nat → Nat) (f t : Nat) : Nat := tp (4 * f + t) * dist (pl f) (pl t)
def wfs (tp pl : Nat → Nat) (f : Nat) : Nat := sm (wft tp pl f) 4
/-- the pieces between cells, part by part, machine by machine -/
def oi (M g : Nat) (sets amts : Nat → Nat) (ch k : Nat) (f0 : Nat → Nat) : Nat → Nat → Nat
  | 0 => f0
  | i + 1 => if bt (setB sets ch k) i = 1 then up (oi M g sets amts ch k f0 i) (4 * hm M g (setB sets ch k) + cl g i) (oi M g sets amts ch k f0 i (4 * hm M g (setB sets ch k) + cl g i) + amts k) else oi M g sets amts ch k f0 i
def ob (M g : Nat) (sets amts : Nat → Nat) (ch : Nat) : Nat → Nat → Nat
  | 0 => fun _ => 0
  | k + 1 => oi M g sets amts ch k (ob M g sets amts ch k) M
def bo (tp : Nat → Nat) : Nat → Nat × Nat
  | 0 => (0, 1073741824)
  | o + 1 => if sn o 4 = 15 ∧ sm (wfs tp (plc o)) 4 < (bo tp o).2 then (o, sm (wfs tp (plc o)) 4) else bo tp o
theorem bo_le (tp : Nat → Nat) : ∀ o, (bo tp o).2 ≤ 1073741824 := by
  intro o
  induction o with
  | zero => exact Nat.le_refl _
  | succ o ih =>
    by_cases h : sn o 4 = 15 ∧ sm (wfs tp (plc o)) 4 < (bo tp o).2
    · rw [show bo tp (o + 1) = (o, sm (wfs tp (plc o)) 4) from if_pos h]
      exact Nat.le_trans (Nat.le_of_lt h.2) ih
    · rw [show bo tp (o + 1) = bo tp o from if_neg h]; exact ih
section Copy
variable {p : Program} {l : Launch} {e : Env} {R : Room} {s : State} {m : MethodId} {args : Array Value} {below : List Frame} {meth : Method} {c : Code} {H : Heap} {locs : List Loc} {cells slots : Nat} {Q : State → Prop}
variable {cc : ByteArray} {nL : Nat} {own : String} {D : va_G} {cA : ClassId} {A : Nat → Prop} {ws w1 : va_W} {pc : Nat} {ls : Array Slot} {rest : List Value} {a a0 : Nat}
theorem c_copy4 (E : Ev p s m args c cc nL own D cA A) (Z : Wd D A s ws H locs) (hls : ls.size = nL) {index : Nat} (hl : Cond.methodLink own index ⟨"java/lang/System", "arraycopy", "(Ljava/lang/Object;ILjava/lang/Object;II)V"⟩ ∈ UW) (hdg : decode cc pc = .ok (.invokestatic index, 3)) (q0 q1 : Nat) {f g f' : Nat → Int32} (he0 : ws[q0]? = some (a0, arR cA 4 f)) (he1 : ws[q1]? = some (a, arR cA 4 g)) (hf' : ∀ j, j < 4 → f j = f' j) (hw : ws.set q1 (a, arR cA 4 f') = w1)
    (hfr : 1 ≤ R.frames) (hlo : (rest.map fun v => v.category).sum + (nativeFrameWords "java/lang/System" "arraycopy" 5 + 11) ≤ R.locals)
    (kk : ∀ (H : Heap) (locs : List Loc), Wd D A s w1 H locs → W p l e R s m args below meth c H locs cells slots Q (F0 m (pc + 3) ls rest)) : W p l e R s m args below meth c H locs cells slots Q (F0 m pc ls (.int (nI 4) :: .int (nI 0) :: .ref a :: .int (nI 0) :: .ref a0 :: rest)) := by
  obtain ⟨⟨hx, hb, hml, ho, ht⟩, hK, hA⟩ := E
  have z4 : (nI 4).toNatClampNeg = 4 := nI_clamp (by decide)
  have z0 : (nI 0).toNatClampNeg = 0 := nI_clamp (by decide)
  refine va_copyi hx hb (hml.trans hls.symm) ho (ht _ hl) (ht _ mNat_arraycopy) (ht _ mT_java_lang_System_arraycopy) (ht _ mN_J10) hK Z.1 Z.2.1 Z.2.2 q0 q1 0 0 he0 he1 rfl rfl rfl (by decide) (by decide) (by decide) (by rw [z4, z0]; decide) (by rw [z4, z0]; decide) (fun _ _ => rfl) hfr hlo hdg (fun H1 locs1 h1 h2 h3 => ?_)
  rw [z4, z0] at h1 h2
  have Z1 : Wd D A s (ws.set q1 (a, arR cA 4 (va_cpy f g 0 0 4))) H1 locs1 := ⟨h1, h2, h3⟩
  have hlt : q1 < ws.length := (List.getElem?_eq_some_iff.mp he1).1
  refine kk H1 locs1 (Z1.norm (f' := f') q1 (by rw [List.getElem?_set, if_pos rfl, if_pos hlt]) (fun j hj => ?_) (by rw [List.set_set]; exact hw))
  rw [pk_cpy_in (Nat.zero_le _) (by omega), Nat.zero_add, Nat.sub_zero]
  exact hf' j hj
end Copy

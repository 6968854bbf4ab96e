/-! the law: the two worlds side by side, what stays true, what a round of its loop needs -/
def LInv (mc size ch num ny cg : Nat) (sets amts hp wt bo pr sh mo : Nat → Nat) (t : TS) : Prop := 1 ≤ mc ∧ mc ≤ 7 ∧ 1 ≤ size ∧ size ≤ 8 ∧ ch < 2 ^ size ∧ (∀ j, sets j < 2 ^ mc) ∧ (∀ j, amts j < 10) ∧ num < 2 ^ (2 * mc) ∧ tok t ∧ (∀ j, hp j < 8) ∧ ny ≤ 6 ∧ cg ≤ 50 ∧ (∀ j, wt j < 10) ∧ (∀ j, bo j < 100) ∧ (∀ j, 1 ≤ pr j ∧ pr j ≤ 50) ∧ (∀ j, sh j < 2 ^ (2 * mc)) ∧ (∀ j, mo j ≤ 420000)
def LW (cA : ClassId) (q q2 : Nat → Nat) (mc size ch num ny cg bn bl tmc tn tm : Nat) (sets amts hp wt bo pr sh tmem tp pl co nc sw sv mo pl2 co2 nx : Nat → Nat) (t : TS) (tr : Int64) (be : Nat → Int32) : va_W := [oX q mc bn bl tr, oP (q 1) (q 2) (q 3) size ch, aN cA (q 2) 16 sets, aN cA (q 3) 8 amts, oG (q 4) (q 5) mc num, aN cA (q 5) 4 (mF num mc), oG (q 6) (q 7) tmc tn, aN cA (q 7) 4 tmem, oT (q 8) (q 9) tm t, aN cA (q 9) 7 hp, oR (q 10) (q 11) (q 12), aN cA (q 11) 16 tp, aN cA (q 12) 4 pl, oY (q 13) (q 14) (q 15) (q 16) ny cg, aN cA (q 14) 6 wt, aN cA (q 15) 4 co, aN cA (q 16) 4 nc, aN cA (q 17) 7 bo, aN cA (q 18) 7 pr, aN cA (q 19) 4 sh, aN cA (q 20) 4 sw, aN cA (q 21) 201 sv, oM q2 0 tr mc size num ny cg, aN cA (q2 1) 16 sets, aN cA (q2 2) 8 (bt ch), aN cA (q2 3) 8 amts, aN cA (q2 4) 7 bo, aN cA (q2 5) 7 pr, aN cA (q2 6) 4 sh, aN cA (q2 7) 6 wt, aN cA (q2 8) 7 hp, aR cA (q2 9) 4 (tel t), aN cA (q2 10) 201 mo, aN cA (q2 11) 4 pl2, aR cA (q2 12) 5 be, aN cA (q2 13) 4 co2, aN cA (q2 14) 4 nx]
def LN (p : Program) (l : Launch) (e : Env) (s : State) (m : MethodId) (below : List Frame) (meth : Method) (c : Code) (D : va_G) (cA : ClassId) (A : Nat → Prop) (b : Nat) (Q : State → Prop) (q q2 : Nat → Nat) (i : Nat) : Prop :=
  ∀ (mc size ch num ny cg bn bl tmc tn tm : Nat) (sets amts hp wt bo pr sh tmem tp pl co nc sw sv mo pl2 co2 nx : Nat → Nat) (t : TS) (tr : Int64) (be : Nat → Int32), LInv mc size ch num ny cg sets amts hp wt bo pr sh mo t → ∀ (H : Heap) (locs : List Loc), Wd D A s (LW cA q q2 mc size ch num ny cg bn bl tmc tn tm sets amts hp wt bo pr sh tmem tp pl co nc sw sv mo pl2 co2 nx t tr be) H locs → ∀ (ls : Array Slot), lv_has ls 4 [(0, .ref b), (1, .ref (q 0)), (2, .ref (q2 0)), (3, .int (nI i))] → W p l e room_1 s m #[Value.ref b] below meth c H locs 37 640 Q (F0 m 901 ls [])
theorem up_all {P : Nat → Prop} {f : Nat → Nat} {k v : Nat} (h : ∀ j, P (f j)) (hv : P v) : ∀ j, P (up f k v j) := by
  intro j
  unfold up
  split
  · exact hv
  · exact h j
theorem ch256 {ch P : Nat} (h : ch < 2 ^ P) (hP : P ≤ 8) : ch < 256 := Nat.lt_of_lt_of_le h (show 2 ^ P ≤ 2 ^ 8 from Nat.pow_le_pow_right (by decide) hP)
theorem lgc (x : Int64) : lg_cmp x x = 0 := by unfold lg_cmp; simp
section Script
variable {p : Program} {l : Launch} {e : Env} {R : Room} {s : State} {m : MethodId} {args : Array Value} {below : List Frame} {meth : Method} {c : Code} {H : Heap} {locs : List Loc} {cells slots : Nat} {Q : State → Prop}
variable {cc : ByteArray} {nL : Nat} {own : String} {D : va_G} {cA : ClassId} {A : Nat → Prop} {ws : va_W} {pc : Nat} {ls : Array Slot} {rest : List Value} {b L : Nat} {xs : Nat → Int32}
theorem r_sld (E : Ev p s m args c cc nL own D cA A) (Z : Wd D A s ws H locs) (SC : va_X b L xs s s.heap ∧ b < s.heap.size ∧ ¬ A b) {j : Nat} (hj : j < L) (hL : L ≤ 2560) (hdg : decode cc pc = .ok (.iaload, 1))
    (kk : W p l e R s m args below meth c H locs cells slots Q (F0 m (pc + 1) ls (.int (xs j) :: rest))) : W p l e R s m args below meth c H locs cells slots Q (F0 m pc ls (.int (nI j) :: .ref b :: rest)) := by
  obtain ⟨⟨hx, hb, hml, ho, ht⟩, hK, hA⟩ := E
  refine va_sld hx hb SC.1 SC.2.1 SC.2.2 Z.2.2 (vp_in_nI hj (by omega)) hdg ?_
  rw [nI_clamp (by omega)]
  exact kk
theorem r_slen (E : Ev p s m args c cc nL own D cA A) (Z : Wd D A s ws H locs) (SC : va_X b L xs s s.heap ∧ b < s.heap.size ∧ ¬ A b) (hdg : decode cc pc = .ok (.arraylength, 1))
    (kk : W p l e R s m args below meth c H locs cells slots Q (F0 m (pc + 1) ls (.int (nI L) :: rest))) : W p l e R s m args below meth c H locs cells slots Q (F0 m pc ls (.ref b :: rest)) := by
  obtain ⟨⟨hx, hb, hml, ho, ht⟩, hK, hA⟩ := E
  exact va_slen hx hb SC.1 SC.2.1 SC.2.2 Z.2.2 hdg kk
end Script

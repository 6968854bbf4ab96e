abbrev rm_k_X0_init : Room := { frames := 1, cells := 1, slots := 4, locals := 21 }
set_option maxHeartbeats 4000000 in
set_option maxRecDepth 100000 in
theorem k_X0_init (l : Launch) (D : va_G) (cA : ClassId) (b : Nat) : CtN l yX0_init cX0_init 1 rm_k_X0_init D cA b (.inr (0, [.null, .int (nI 0), .int (nI 0)])) (fun _ => True) (fun (_ : Nat) => True) (fun u => [oG b u 0 0, aN cA u 4 (fun _ => 0)]) 1 4 := by
  refine st_N (by decide) (by decide) ?_
  intro p e s m args below meth c A Q E hX hin ret Z ls hl
  have hx := E.1.1
  have hb := E.1.2.1
  have hinit : meth.name = "<init>" := hin
  refine lv_aload_n hx hb dX0_init_0 rfl (lv_at hl 0 rfl) ?_
  refine r_objInit E hl.1 mM_X0_3 dX0_init_1 (Nat.le_of_ble_eq_true rfl) (Nat.le_of_ble_eq_true rfl) ?_
  refine lv_aload_n hx hb dX0_init_4 rfl (lv_at hl 0 rfl) ?_
  refine lv_iconst (v := nI 4) hx hb dX0_init_5 (by decide) ?_
  refine r_newa (N := 4) E Z (by decide) dX0_init_6 (Nat.le_of_ble_eq_true rfl) (Nat.le_of_ble_eq_true rfl) (fun q6 H Z => ?_)
  replace Z : Wd D A s [(b, .inr (0, [.null, .int (nI 0), .int (nI 0)])), aN cA q6 4 (fun _ => 0)] _ _ := Z
  refine pF_X0_9 (w1 := [(b, .inr (0, [.ref q6, .int (nI 0), .int (nI 0)])), aN cA q6 4 (fun _ => 0)]) E Z hinit dX0_init_8 0 rfl (Nat.le_of_ble_eq_true rfl) rfl (fun H locs Z => ?_)
  refine W.widen (k := 1) (n := 4) (Nat.le_of_ble_eq_true rfl) (Nat.le_of_ble_eq_true rfl) ?_
  exact ret q6 Z dX0_init_11 rfl trivial
abbrev rm_k_X1_init : Room := { frames := 1, cells := 2, slots := 24, locals := 21 }
set_option maxHeartbeats 4000000 in
set_option maxRecDepth 100000 in
theorem k_X1_init (l : Launch) (D : va_G) (cA : ClassId) (b : Nat) : CtN l yX1_init cX1_init 1 rm_k_X1_init D cA b (.inr (1, [.null, .null, .int (nI 0), .int (nI 0)])) (fun _ => True) (fun (_ : Nat × Nat) => True) (fun u => [oP b u.1 u.2 0 0, aN cA u.1 16 (fun _ => 0), aN cA u.2 8 (fun _ => 0)]) 2 24 := by
  refine st_N (by decide) (by decide) ?_
  intro p e s m args below meth c A Q E hX hin ret Z ls hl
  have hx := E.1.1
  have hb := E.1.2.1
  have hinit : meth.name = "<init>" := hin
  refine lv_aload_n hx hb dX1_init_0 rfl (lv_at hl 0 rfl) ?_
  refine r_objInit E hl.1 mM_X1_3 dX1_init_1 (Nat.le_of_ble_eq_true rfl) (Nat.le_of_ble_eq_true rfl) ?_
  refine lv_aload_n hx hb dX1_init_4 rfl (lv_at hl 0 rfl) ?_
  refine lv_bipush (v := nI 16) hx hb dX1_init_5 (by decide) ?_
  refine r_newa (N := 16) E Z (by decide) dX1_init_7 (Nat.le_of_ble_eq_true rfl) (Nat.le_of_ble_eq_true rfl) (fun q7 H Z => ?_)
  replace Z : Wd D A s [(b, .inr (1, [.null, .null, .int (nI 0), .int (nI 0)])), aN cA q7 16 (fun _ => 0)] _ _ := Z
  refine pF_X1_9 (w1 := [(b, .inr (1, [.ref q7, .null, .int (nI 0), .int (nI 0)])), aN cA q7 16 (fun _ => 0)]) E Z hinit dX1_init_9 0 rfl (Nat.le_of_ble_eq_true rfl) rfl (fun H locs Z => ?_)
  refine lv_aload_n hx hb dX1_init_12 rfl (lv_at hl 0 rfl) ?_
  refine lv_bipush (v := nI 8) hx hb dX1_init_13 (by decide) ?_
  refine r_newa (N := 8) E Z (by decide) dX1_init_15 (Nat.le_of_ble_eq_true rfl) (Nat.le_of_ble_eq_true rfl) (fun q15 H Z => ?_)
  replace Z : Wd D A s [(b, .inr (1, [.ref q7, .null, .int (nI 0), .int (nI 0)])), aN cA q7 16 (fun _ => 0), aN cA q15 8 (fun _ => 0)] _ _ := Z
  refine pF_X1_15 (w1 := [(b, .inr (1, [.ref q7, .ref q15, .int (nI 0), .int (nI 0)])), aN cA q7 16 (fun _ => 0), aN cA q15 8 (fun _ => 0)]) E Z hinit dX1_init_17 0 rfl (Nat.le_of_ble_eq_true rfl) rfl (fun H locs Z => ?_)
  refine W.widen (k := 2) (n := 24) (Nat.le_of_ble_eq_true rfl) (Nat.le_of_ble_eq_true rfl) ?_
  exact ret (q7, q15) Z dX1_init_20 rfl trivial
abbrev rm_k_X2_init : Room := { frames := 1, cells := 2, slots := 20, locals := 21 }
set_option maxHeartbeats 4000000 in
set_option maxRecDepth 100000 in
theorem k_X2_init (l : Launch) (D : va_G) (cA : ClassId) (b : Nat) : CtN l yX2_init cX2_init 1 rm_k_X2_init D cA b (.inr (2, [.null, .null])) (fun _ => True) (fun (_ : Nat × Nat) => True) (fun u => [oR b u.1 u.2, aN cA u.1 16 (fun _ => 0), aN cA u.2 4 (fun _ => 0)]) 2 20 := by
  refine st_N (by decide) (by decide) ?_
  intro p e s m args below meth c A Q E hX hin ret Z ls hl
  have hx := E.1.1
  have hb := E.1.2.1
  have hinit : meth.name = "<init>" := hin
  refine lv_aload_n hx hb dX2_init_0 rfl (lv_at hl 0 rfl) ?_
  refine r_objInit E hl.1 mM_X2_3 dX2_init_1 (Nat.le_of_ble_eq_true rfl) (Nat.le_of_ble_eq_true rfl) ?_
  refine lv_aload_n hx hb dX2_init_4 rfl (lv_at hl 0 rfl) ?_
  refine lv_bipush (v := nI 16) hx hb dX2_init_5 (by decide) ?_
  refine r_newa (N := 16) E Z (by decide) dX2_init_7 (Nat.le_of_ble_eq_true rfl) (Nat.le_of_ble_eq_true rfl) (fun q7 H Z => ?_)
  replace Z : Wd D A s [(b, .inr (2, [.null, .null])), aN cA q7 16 (fun _ => 0)] _ _ := Z
  refine pF_X2_9 (w1 := [(b, .inr (2, [.ref q7, .null])), aN cA q7 16 (fun _ => 0)]) E Z hinit dX2_init_9 0 rfl (Nat.le_of_ble_eq_true rfl) rfl (fun H locs Z => ?_)
  refine lv_aload_n hx hb dX2_init_12 rfl (lv_at hl 0 rfl) ?_
  refine lv_iconst (v := nI 4) hx hb dX2_init_13 (by decide) ?_
  refine r_newa (N := 4) E Z (by decide) dX2_init_14 (Nat.le_of_ble_eq_true rfl) (Nat.le_of_ble_eq_true rfl) (fun q14 H Z => ?_)
  replace Z : Wd D A s [(b, .inr (2, [.ref q7, .null])), aN cA q7 16 (fun _ => 0), aN cA q14 4 (fun _ => 0)] _ _ := Z
  refine pF_X2_15 (w1 := [(b, .inr (2, [.ref q7, .ref q14])), aN cA q7 16 (fun _ => 0), aN cA q14 4 (fun _ => 0)]) E Z hinit dX2_init_16 0 rfl (Nat.le_of_ble_eq_true rfl) rfl (fun H locs Z => ?_)
  refine W.widen (k := 2) (n := 20) (Nat.le_of_ble_eq_true rfl) (Nat.le_of_ble_eq_true rfl) ?_
  exact ret (q7, q14) Z dX2_init_19 rfl trivial
abbrev rm_k_X3_init : Room := { frames := 1, cells := 1, slots := 7, locals := 21 }
set_option maxHeartbeats 4000000 in
set_option maxRecDepth 100000 in
theorem k_X3_init (l : Launch) (D : va_G) (cA : ClassId) (b : Nat) : CtN l yX3_init cX3_init 1 rm_k_X3_init D cA b (.inr (3, [.null, .int (nI 0), .int (nI 0), .int (nI 0), .int (nI 0), .int (nI 0)])) (fun _ => True) (fun (_ : Nat) => True) (fun u => [oT b u 0 (0, 0, nI 0, nI 0), aN cA u 7 (fun _ => 0)]) 1 7 := by
  refine st_N (by decide) (by decide) ?_
  intro p e s m args below meth c A Q E hX hin ret Z ls hl
  have hx := E.1.1
  have hb := E.1.2.1
  have hinit : meth.name = "<init>" := hin
  refine lv_aload_n hx hb dX3_init_0 rfl (lv_at hl 0 rfl) ?_
  refine r_objInit E hl.1 mM_X3_3 dX3_init_1 (Nat.le_of_ble_eq_true rfl) (Nat.le_of_ble_eq_true rfl) ?_
  refine lv_aload_n hx hb dX3_init_4 rfl (lv_at hl 0 rfl) ?_
  refine lv_bipush (v := nI 7) hx hb dX3_init_5 (by decide) ?_
  refine r_newa (N := 7) E Z (by decide) dX3_init_7 (Nat.le_of_ble_eq_true rfl) (Nat.le_of_ble_eq_true rfl) (fun q7 H Z => ?_)
  replace Z : Wd D A s [(b, .inr (3, [.null, .int (nI 0), .int (nI 0), .int (nI 0), .int (nI 0), .int (nI 0)])), aN cA q7 7 (fun _ => 0)] _ _ := Z
  refine pF_X3_9 (w1 := [(b, .inr (3, [.ref q7, .int (nI 0), .int (nI 0), .int (nI 0), .int (nI 0), .int (nI 0)])), aN cA q7 7 (fun _ => 0)]) E Z hinit dX3_init_9 0 rfl (Nat.le_of_ble_eq_true rfl) rfl (fun H locs Z => ?_)
  refine W.widen (k := 1) (n := 7) (Nat.le_of_ble_eq_true rfl) (Nat.le_of_ble_eq_true rfl) ?_
  exact ret q7 Z dX3_init_12 rfl trivial
abbrev rm_k_X4_init : Room := { frames := 1, cells := 3, slots := 14, locals := 21 }
set_option maxHeartbeats 4000000 in
set_option maxRecDepth 100000 in
theorem k_X4_init (l : Launch) (D : va_G) (cA : ClassId) (b : Nat) : CtN l yX4_init cX4_init 1 rm_k_X4_init D cA b (.inr (4, [.null, .null, .null, .int (nI 0), .int (nI 0)])) (fun _ => True) (fun (_ : Nat × Nat × Nat) => True) (fun u => [oY b u.1 u.2.1 u.2.2 0 5, aN cA u.1 6 (fun _ => 0), aN cA u.2.1 4 (fun _ => 0), aN cA u.2.2 4 (fun _ => 0)]) 3 14 := by
  refine st_N (by decide) (by decide) ?_
  intro p e s m args below meth c A Q E hX hin ret Z ls hl
  have hx := E.1.1
  have hb := E.1.2.1
  have hinit : meth.name = "<init>" := hin
  refine lv_aload_n hx hb dX4_init_0 rfl (lv_at hl 0 rfl) ?_
  refine r_objInit E hl.1 mM_X4_3 dX4_init_1 (Nat.le_of_ble_eq_true rfl) (Nat.le_of_ble_eq_true rfl) ?_
  refine lv_aload_n hx hb dX4_init_4 rfl (lv_at hl 0 rfl) ?_
  refine lv_bipush (v := nI 6) hx hb dX4_init_5 (by decide) ?_
  refine r_newa (N := 6) E Z (by decide) dX4_init_7 (Nat.le_of_ble_eq_true rfl) (Nat.le_of_ble_eq_true rfl) (fun q7 H Z => ?_)
  replace Z : Wd D A s [(b, .inr (4, [.null, .null, .null, .int (nI 0), .int (nI 0)])), aN cA q7 6 (fun _ => 0)] _ _ := Z
  refine pF_X4_9 (w1 := [(b, .inr (4, [.ref q7, .null, .null, .int (nI 0), .int (nI 0)])), aN cA q7 6 (fun _ => 0)]) E Z hinit dX4_init_9 0 rfl (Nat.le_of_ble_eq_true rfl) rfl (fun H locs Z => ?_)
  refine lv_aload_n hx hb dX4_init_12 rfl (lv_at hl 0 rfl) ?_
  refine lv_iconst (v := nI 4) hx hb dX4_init_13 (by decide) ?_
  refine r_newa (N := 4) E Z (by decide) dX4_init_14 (Nat.le_of_ble_eq_true rfl) (Nat.le_of_ble_eq_true rfl) (fun q14 H Z => ?_)
  replace Z : Wd D A s [(b, .inr (4, [.ref q7, .null, .null, .int (nI 0), .int (nI 0)])), aN cA q7 6 (fun _ => 0), aN cA q14 4 (fun _ => 0)] _ _ := Z
  refine pF_X4_15 (w1 := [(b, .inr (4, [.ref q7, .ref q14, .null, .int (nI 0), .int (nI 0)])), aN cA q7 6 (fun _ => 0), aN cA q14 4 (fun _ => 0)]) E Z hinit dX4_init_16 0 rfl (Nat.le_of_ble_eq_true rfl) rfl (fun H locs Z => ?_)
  refine lv_aload_n hx hb dX4_init_19 rfl (lv_at hl 0 rfl) ?_
  refine lv_iconst (v := nI 4) hx hb dX4_init_20 (by decide) ?_
  refine r_newa (N := 4) E Z (by decide) dX4_init_21 (Nat.le_of_ble_eq_true rfl) (Nat.le_of_ble_eq_true rfl) (fun q21 H Z => ?_)
  replace Z : Wd D A s [(b, .inr (4, [.ref q7, .ref q14, .null, .int (nI 0), .int (nI 0)])), aN cA q7 6 (fun _ => 0), aN cA q14 4 (fun _ => 0), aN cA q21 4 (fun _ => 0)] _ _ := Z
  refine pF_X4_18 (w1 := [(b, .inr (4, [.ref q7, .ref q14, .ref q21, .int (nI 0), .int (nI 0)])), aN cA q7 6 (fun _ => 0), aN cA q14 4 (fun _ => 0), aN cA q21 4 (fun _ => 0)]) E Z hinit dX4_init_23 0 rfl (Nat.le_of_ble_eq_true rfl) rfl (fun H locs Z => ?_)
  refine lv_aload_n hx hb dX4_init_26 rfl (lv_at hl 0 rfl) ?_
  refine lv_iconst (v := nI 5) hx hb dX4_init_27 (by decide) ?_
  refine pF_X4_21 (w1 := [(b, .inr (4, [.ref q7, .ref q14, .ref q21, .int (nI 0), .int (nI 5)])), aN cA q7 6 (fun _ => 0), aN cA q14 4 (fun _ => 0), aN cA q21 4 (fun _ => 0)]) E Z dX4_init_28 0 rfl (Nat.le_of_ble_eq_true rfl) rfl (fun H locs Z => ?_)
  refine W.widen (k := 3) (n := 14) (Nat.le_of_ble_eq_true rfl) (Nat.le_of_ble_eq_true rfl) ?_
  exact ret (q7, q14, q21) Z dX4_init_31 rfl trivial
def q22 (a0 a1 a2 a3 a4 a5 a6 a7 a8 a9 a10 a11 a12 a13 a14 a15 a16 a17 a18 a19 a20 a21 : Nat) : Nat → Nat := fun k => match k with
  | 0 => a0
  | 1 => a1
  | 2 => a2
  | 3 => a3
  | 4 => a4
  | 5 => a5
  | 6 => a6
  | 7 => a7
  | 8 => a8
  | 9 => a9
  | 10 => a10
  | 11 => a11
  | 12 => a12
  | 13 => a13
  | 14 => a14
  | 15 => a15
  | 16 => a16
  | 17 => a17
  | 18 => a18
  | 19 => a19
  | 20 => a20
  | _ => a21
def q15 (a0 a1 a2 a3 a4 a5 a6 a7 a8 a9 a10 a11 a12 a13 a14 : Nat) : Nat → Nat := fun k => match k with
  | 0 => a0
  | 1 => a1
  | 2 => a2
  | 3 => a3
  | 4 => a4
  | 5 => a5
  | 6 => a6
  | 7 => a7
  | 8 => a8
  | 9 => a9
  | 10 => a10
  | 11 => a11
  | 12 => a12
  | 13 => a13
  | _ => a14
abbrev rm_k_X5_init : Room := { frames := 3, cells := 21, slots := 319, locals := 68 }
set_option maxHeartbeats 4000000 in
set_option maxRecDepth 100000 in
theorem k_X5_init (l : Launch) (D : va_G) (cA : ClassId) (b : Nat) : CtN l yX5_init cX5_init 1 rm_k_X5_init D cA b (.inr (5, [.null, .null, .null, .null, .null, .null, .null, .null, .null, .null, .null, .int (nI 0), .int (nI 0), .int (nI 0), .long 0])) (fun U => va_Nw (Cond.methodLinkNest RX5 9 yX1_init RX5) U ∧ va_Nw (Cond.methodLinkNest RX5 18 yX0_init RX5) U ∧ va_Nw (Cond.methodLinkNest RX5 28 yX3_init RX5) U ∧ va_Nw (Cond.methodLinkNest RX5 35 yX2_init RX5) U ∧ va_Nw (Cond.methodLinkNest RX5 42 yX4_init RX5) U) (fun (q : Nat → Nat) => q 0 = b) (fun q => [oX q 4 0 0 0, oP (q 1) (q 2) (q 3) 4 0, aN cA (q 2) 16 (fun _ => 0), aN cA (q 3) 8 (fun _ => 1), oG (q 4) (q 5) 4 0, aN cA (q 5) 4 (mF 0 4), oG (q 6) (q 7) 0 0, aN cA (q 7) 4 (fun _ => 0), oT (q 8) (q 9) 0 (0, 0, nI 0, nI 0), aN cA (q 9) 7 (fun _ => 0), oR (q 10) (q 11) (q 12), aN cA (q 11) 16 (fun _ => 0), aN cA (q 12) 4 (fun _ => 0), oY (q 13) (q 14) (q 15) (q 16) 0 5, aN cA (q 14) 6 (fun _ => 0), aN cA (q 15) 4 (fun _ => 0), aN cA (q 16) 4 (fun _ => 0), aN cA (q 17) 7 (fun _ => 99), aN cA (q 18) 7 (fun _ => 10), aN cA (q 19) 4 (fun _ => 0), aN cA (q 20) 4 (fun _ => 0), aN cA (q 21) 201 (fun _ => 0)]) 21 319 := by
  refine st_N (by decide) (by decide) ?_
  intro p e s m args below meth c A Q E hX hin ret Z ls hl
  have hx := E.1.1
  have hb := E.1.2.1
  have hinit : meth.name = "<init>" := hin
  refine lv_aload_n hx hb dX5_init_0 rfl (lv_at hl 0 rfl) ?_
  refine r_objInit E hl.1 mM_X5_1 dX5_init_1 (Nat.le_of_ble_eq_true rfl) (Nat.le_of_ble_eq_true rfl) ?_
  refine lv_aload_n hx hb dX5_init_4 rfl (lv_at hl 0 rfl) ?_
  refine r_new (ci := 1) (fs := [.null, .null, .int (nI 0), .int (nI 0)]) E Z inX1 rfl tyX1 tyX1_ok mL_X5_7 mO_X1 mN_X1 (fun j hj => by rcases (show j = 0 ∨ j = 1 ∨ j = 2 ∨ j = 3 by omega) with rfl | rfl | rfl | rfl <;> first | rfl | exact dflt0) dX5_init_5 (Nat.le_of_ble_eq_true rfl) (Nat.le_of_ble_eq_true rfl) (fun q5 H Z => ?_)
  refine lv_dup hx hb dX5_init_8 rfl ?_
  refine c_Nn (host := RX5) (ws0 := [(b, .inr (5, [.null, .null, .null, .null, .null, .null, .null, .null, .null, .null, .null, .int (nI 0), .int (nI 0), .int (nI 0), .long 0]))]) (rest := [.ref q5, .ref b]) E Z (k_X1_init l D cA q5) (va_Nw.use rfl hX.1) mI_X1_init mN_X1 mC_X1_init (by decide +kernel) rfl ⟨rfl, rfl, (Nat.le_of_ble_eq_true rfl), (Nat.le_of_ble_eq_true rfl)⟩ hl.1 rfl (Nat.le_of_ble_eq_true rfl) dX5_init_9 ⟨(Nat.le_of_ble_eq_true rfl), (Nat.le_of_ble_eq_true rfl)⟩ (fun u9 H locs _ Z => ?_)
  replace Z : Wd D A s [(b, .inr (5, [.null, .null, .null, .null, .null, .null, .null, .null, .null, .null, .null, .int (nI 0), .int (nI 0), .int (nI 0), .long 0])), oP q5 u9.1 u9.2 0 0, aN cA u9.1 16 (fun _ => 0), aN cA u9.2 8 (fun _ => 0)] _ _ := Z
  refine pF_X5_10 (w1 := [(b, .inr (5, [.ref q5, .null, .null, .null, .null, .null, .null, .null, .null, .null, .null, .int (nI 0), .int (nI 0), .int (nI 0), .long 0])), oP q5 u9.1 u9.2 0 0, aN cA u9.1 16 (fun _ => 0), aN cA u9.2 8 (fun _ => 0)]) E Z hinit dX5_init_12 0 rfl (Nat.le_of_ble_eq_true rfl) rfl (fun H locs Z => ?_)
  refine lv_aload_n hx hb dX5_init_15 rfl (lv_at hl 0 rfl) ?_
  refine r_new (ci := 0) (fs := [.null, .int (nI 0), .int (nI 0)]) E Z inX0 rfl tyX0 tyX0_ok mL_X5_16 mO_X0 mN_X0 (fun j hj => by rcases (show j = 0 ∨ j = 1 ∨ j = 2 by omega) with rfl | rfl | rfl <;> first | rfl | exact dflt0) dX5_init_16 (Nat.le_of_ble_eq_true rfl) (Nat.le_of_ble_eq_true rfl) (fun q16 H Z => ?_)
  refine lv_dup hx hb dX5_init_19 rfl ?_
  refine c_Nn (host := RX5) (ws0 := [(b, .inr (5, [.ref q5, .null, .null, .null, .null, .null, .null, .null, .null, .null, .null, .int (nI 0), .int (nI 0), .int (nI 0), .long 0])), oP q5 u9.1 u9.2 0 0, aN cA u9.1 16 (fun _ => 0), aN cA u9.2 8 (fun _ => 0)]) (rest := [.ref q16, .ref b]) E Z (k_X0_init l D cA q16) (va_Nw.use rfl hX.2.1) mI_X0_init mN_X0 mC_X0_init (by decide +kernel) rfl ⟨rfl, rfl, (Nat.le_of_ble_eq_true rfl), (Nat.le_of_ble_eq_true rfl)⟩ hl.1 rfl (Nat.le_of_ble_eq_true rfl) dX5_init_20 ⟨(Nat.le_of_ble_eq_true rfl), (Nat.le_of_ble_eq_true rfl)⟩ (fun u20 H locs _ Z => ?_)
  replace Z : Wd D A s [(b, .inr (5, [.ref q5, .null, .null, .null, .null, .null, .null, .null, .null, .null, .null, .int (nI 0), .int (nI 0), .int (nI 0), .long 0])), oP q5 u9.1 u9.2 0 0, aN cA u9.1 16 (fun _ => 0), aN cA u9.2 8 (fun _ => 0), oG q16 u20 0 0, aN cA u20 4 (fun _ => 0)] _ _ := Z
  refine pF_X5_19 (w1 := [(b, .inr (5, [.ref q5, .ref q16, .null, .null, .null, .null, .null, .null, .null, .null, .null, .int (nI 0), .int (nI 0), .int (nI 0), .long 0])), oP q5 u9.1 u9.2 0 0, aN cA u9.1 16 (fun _ => 0), aN cA u9.2 8 (fun _ => 0), oG q16 u20 0 0, aN cA u20 4 (fun _ => 0)]) E Z hinit dX5_init_23 0 rfl (Nat.le_of_ble_eq_true rfl) rfl (fun H locs Z => ?_)
  refine lv_aload_n hx hb dX5_init_26 rfl (lv_at hl 0 rfl) ?_
  refine r_new (ci := 0) (fs := [.null, .int (nI 0), .int (nI 0)]) E Z inX0 rfl tyX0 tyX0_ok mL_X5_16 mO_X0 mN_X0 (fun j hj => by rcases (show j = 0 ∨ j = 1 ∨ j = 2 by omega) with rfl | rfl | rfl <;> first | rfl | exact dflt0) dX5_init_27 (Nat.le_of_ble_eq_true rfl) (Nat.le_of_ble_eq_true rfl) (fun q27 H Z => ?_)
  refine lv_dup hx hb dX5_init_30 rfl ?_
  refine c_Nn (host := RX5) (ws0 := [(b, .inr (5, [.ref q5, .ref q16, .null, .null, .null, .null, .null, .null, .null, .null, .null, .int (nI 0), .int (nI 0), .int (nI 0), .long 0])), oP q5 u9.1 u9.2 0 0, aN cA u9.1 16 (fun _ => 0), aN cA u9.2 8 (fun _ => 0), oG q16 u20 0 0, aN cA u20 4 (fun _ => 0)]) (rest := [.ref q27, .ref b]) E Z (k_X0_init l D cA q27) (va_Nw.use rfl hX.2.1) mI_X0_init mN_X0 mC_X0_init (by decide +kernel) rfl ⟨rfl, rfl, (Nat.le_of_ble_eq_true rfl), (Nat.le_of_ble_eq_true rfl)⟩ hl.1 rfl (Nat.le_of_ble_eq_true rfl) dX5_init_31 ⟨(Nat.le_of_ble_eq_true rfl), (Nat.le_of_ble_eq_true rfl)⟩ (fun u31 H locs _ Z => ?_)
  replace Z : Wd D A s [(b, .inr (5, [.ref q5, .ref q16, .null, .null, .null, .null, .null, .null, .null, .null, .null, .int (nI 0), .int (nI 0), .int (nI 0), .long 0])), oP q5 u9.1 u9.2 0 0, aN cA u9.1 16 (fun _ => 0), aN cA u9.2 8 (fun _ => 0), oG q16 u20 0 0, aN cA u20 4 (fun _ => 0), oG q27 u31 0 0, aN cA u31 4 (fun _ => 0)] _ _ := Z
  refine pF_X5_23 (w1 := [(b, .inr (5, [.ref q5, .ref q16, .ref q27, .null, .null, .null, .null, .null, .null, .null, .null, .int (nI 0), .int (nI 0), .int (nI 0), .long 0])), oP q5 u9.1 u9.2 0 0, aN cA u9.1 16 (fun _ => 0), aN cA u9.2 8 (fun _ => 0), oG q16 u20 0 0, aN cA u20 4 (fun _ => 0), oG q27 u31 0 0, aN cA u31 4 (fun _ => 0)]) E Z hinit dX5_init_34 0 rfl (Nat.le_of_ble_eq_true rfl) rfl (fun H locs Z => ?_)
  refine lv_aload_n hx hb dX5_init_37 rfl (lv_at hl 0 rfl) ?_
  refine r_new (ci := 3) (fs := [.null, .int (nI 0), .int (nI 0), .int (nI 0), .int (nI 0), .int (nI 0)]) E Z inX3 rfl tyX3 tyX3_ok mL_X5_26 mO_X3 mN_X3 (fun j hj => by rcases (show j = 0 ∨ j = 1 ∨ j = 2 ∨ j = 3 ∨ j = 4 ∨ j = 5 by omega) with rfl | rfl | rfl | rfl | rfl | rfl <;> first | rfl | exact dflt0) dX5_init_38 (Nat.le_of_ble_eq_true rfl) (Nat.le_of_ble_eq_true rfl) (fun q38 H Z => ?_)
  refine lv_dup hx hb dX5_init_41 rfl ?_
  refine c_Nn (host := RX5) (ws0 := [(b, .inr (5, [.ref q5, .ref q16, .ref q27, .null, .null, .null, .null, .null, .null, .null, .null, .int (nI 0), .int (nI 0), .int (nI 0), .long 0])), oP q5 u9.1 u9.2 0 0, aN cA u9.1 16 (fun _ => 0), aN cA u9.2 8 (fun _ => 0), oG q16 u20 0 0, aN cA u20 4 (fun _ => 0), oG q27 u31 0 0, aN cA u31 4 (fun _ => 0)]) (rest := [.ref q38, .ref b]) E Z (k_X3_init l D cA q38) (va_Nw.use rfl hX.2.2.1) mI_X3_init mN_X3 mC_X3_init (by decide +kernel) rfl ⟨rfl, rfl, (Nat.le_of_ble_eq_true rfl), (Nat.le_of_ble_eq_true rfl)⟩ hl.1 rfl (Nat.le_of_ble_eq_true rfl) dX5_init_42 ⟨(Nat.le_of_ble_eq_true rfl), (Nat.le_of_ble_eq_true rfl)⟩ (fun u42 H locs _ Z => ?_)
  replace Z : Wd D A s [(b, .inr (5, [.ref q5, .ref q16, .ref q27, .null, .null, .null, .null, .null, .null, .null, .null, .int (nI 0), .int (nI 0), .int (nI 0), .long 0])), oP q5 u9.1 u9.2 0 0, aN cA u9.1 16 (fun _ => 0), aN cA u9.2 8 (fun _ => 0), oG q16 u20 0 0, aN cA u20 4 (fun _ => 0), oG q27 u31 0 0, aN cA u31 4 (fun _ => 0), oT q38 u42 0 (0, 0, nI 0, nI 0), aN cA u42 7 (fun _ => 0)] _ _ := Z
  refine pF_X5_29 (w1 := [(b, .inr (5, [.ref q5, .ref q16, .ref q27, .ref q38, .null, .null, .null, .null, .null, .null, .null, .int (nI 0), .int (nI 0), .int (nI 0), .long 0])), oP q5 u9.1 u9.2 0 0, aN cA u9.1 16 (fun _ => 0), aN cA u9.2 8 (fun _ => 0), oG q16 u20 0 0, aN cA u20 4 (fun _ => 0), oG q27 u31 0 0, aN cA u31 4 (fun _ => 0), oT q38 u42 0 (0, 0, nI 0, nI 0), aN cA u42 7 (fun _ => 0)]) E Z hinit dX5_init_45 0 rfl (Nat.le_of_ble_eq_true rfl) rfl (fun H locs Z => ?_)
  refine lv_aload_n hx hb dX5_init_48 rfl (lv_at hl 0 rfl) ?_
  refine r_new (ci := 2) (fs := [.null, .null]) E Z inX2 rfl tyX2 tyX2_ok mL_X5_33 mO_X2 mN_X2 (fun j hj => by rcases (show j = 0 ∨ j = 1 by omega) with rfl | rfl <;> first | rfl | exact dflt0) dX5_init_49 (Nat.le_of_ble_eq_true rfl) (Nat.le_of_ble_eq_true rfl) (fun q49 H Z => ?_)
  refine lv_dup hx hb dX5_init_52 rfl ?_
  refine c_Nn (host := RX5) (ws0 := [(b, .inr (5, [.ref q5, .ref q16, .ref q27, .ref q38, .null, .null, .null, .null, .null, .null, .null, .int (nI 0), .int (nI 0), .int (nI 0), .long 0])), oP q5 u9.1 u9.2 0 0, aN cA u9.1 16 (fun _ => 0), aN cA u9.2 8 (fun _ => 0), oG q16 u20 0 0, aN cA u20 4 (fun _ => 0), oG q27 u31 0 0, aN cA u31 4 (fun _ => 0), oT q38 u42 0 (0, 0, nI 0, nI 0), aN cA u42 7 (fun _ => 0)]) (rest := [.ref q49, .ref b]) E Z (k_X2_init l D cA q49) (va_Nw.use rfl hX.2.2.2.1) mI_X2_init mN_X2 mC_X2_init (by decide +kernel) rfl ⟨rfl, rfl, (Nat.le_of_ble_eq_true rfl), (Nat.le_of_ble_eq_true rfl)⟩ hl.1 rfl (Nat.le_of_ble_eq_true rfl) dX5_init_53 ⟨(Nat.le_of_ble_eq_true rfl), (Nat.le_of_ble_eq_true rfl)⟩ (fun u53 H locs _ Z => ?_)
  replace Z : Wd D A s [(b, .inr (5, [.ref q5, .ref q16, .ref q27, .ref q38, .null, .null, .null, .null, .null, .null, .null, .int (nI 0), .int (nI 0), .int (nI 0), .long 0])), oP q5 u9.1 u9.2 0 0, aN cA u9.1 16 (fun _ => 0), aN cA u9.2 8 (fun _ => 0), oG q16 u20 0 0, aN cA u20 4 (fun _ => 0), oG q27 u31 0 0, aN cA u31 4 (fun _ => 0), oT q38 u42 0 (0, 0, nI 0, nI 0), aN cA u42 7 (fun _ => 0), oR q49 u53.1 u53.2, aN cA u53.1 16 (fun _ => 0), aN cA u53.2 4 (fun _ => 0)] _ _ := Z
  refine pF_X5_36 (w1 := [(b, .inr (5, [.ref q5, .ref q16, .ref q27, .ref q38, .ref q49, .null, .null, .null, .null, .null, .null, .int (nI 0), .int (nI 0), .int (nI 0), .long 0])), oP q5 u9.1 u9.2 0 0, aN cA u9.1 16 (fun _ => 0), aN cA u9.2 8 (fun _ => 0), oG q16 u20 0 0, aN cA u20 4 (fun _ => 0), oG q27 u31 0 0, aN cA u31 4 (fun _ => 0), oT q38 u42 0 (0, 0, nI 0, nI 0), aN cA u42 7 (fun _ => 0), oR q49 u53.1 u53.2, aN cA u53.1 16 (fun _ => 0), aN cA u53.2 4 (fun _ => 0)]) E Z hinit dX5_init_56 0 rfl (Nat.le_of_ble_eq_true rfl) rfl (fun H locs Z => ?_)
  refine lv_aload_n hx hb dX5_init_59 rfl (lv_at hl 0 rfl) ?_
  refine r_new (ci := 4) (fs := [.null, .null, .null, .int (nI 0), .int (nI 0)]) E Z inX4 rfl tyX4 tyX4_ok mL_X5_40 mO_X4 mN_X4 (fun j hj => by rcases (show j = 0 ∨ j = 1 ∨ j = 2 ∨ j = 3 ∨ j = 4 by omega) with rfl | rfl | rfl | rfl | rfl <;> first | rfl | exact dflt0) dX5_init_60 (Nat.le_of_ble_eq_true rfl) (Nat.le_of_ble_eq_true rfl) (fun q60 H Z => ?_)
  refine lv_dup hx hb dX5_init_63 rfl ?_
  refine c_Nn (host := RX5) (ws0 := [(b, .inr (5, [.ref q5, .ref q16, .ref q27, .ref q38, .ref q49, .null, .null, .null, .null, .null, .null, .int (nI 0), .int (nI 0), .int (nI 0), .long 0])), oP q5 u9.1 u9.2 0 0, aN cA u9.1 16 (fun _ => 0), aN cA u9.2 8 (fun _ => 0), oG q16 u20 0 0, aN cA u20 4 (fun _ => 0), oG q27 u31 0 0, aN cA u31 4 (fun _ => 0), oT q38 u42 0 (0, 0, nI 0, nI 0), aN cA u42 7 (fun _ => 0), oR q49 u53.1 u53.2, aN cA u53.1 16 (fun _ => 0), aN cA u53.2 4 (fun _ => 0)]) (rest := [.ref q60, .ref b]) E Z (k_X4_init l D cA q60) (va_Nw.use rfl hX.2.2.2.2) mI_X4_init mN_X4 mC_X4_init (by decide +kernel) rfl ⟨rfl, rfl, (Nat.le_of_ble_eq_true rfl), (Nat.le_of_ble_eq_true rfl)⟩ hl.1 rfl (Nat.le_of_ble_eq_true rfl) dX5_init_64 ⟨(Nat.le_of_ble_eq_true rfl), (Nat.le_of_ble_eq_true rfl)⟩ (fun u64 H locs _ Z => ?_)
  replace Z : Wd D A s [(b, .inr (5, [.ref q5, .ref q16, .ref q27, .ref q38, .ref q49, .null, .null, .null, .null, .null, .null, .int (nI 0), .int (nI 0), .int (nI 0), .long 0])), oP q5 u9.1 u9.2 0 0, aN cA u9.1 16 (fun _ => 0), aN cA u9.2 8 (fun _ => 0), oG q16 u20 0 0, aN cA u20 4 (fun _ => 0), oG q27 u31 0 0, aN cA u31 4 (fun _ => 0), oT q38 u42 0 (0, 0, nI 0, nI 0), aN cA u42 7 (fun _ => 0), oR q49 u53.1 u53.2, aN cA u53.1 16 (fun _ => 0), aN cA u53.2 4 (fun _ => 0), oY q60 u64.1 u64.2.1 u64.2.2 0 5, aN cA u64.1 6 (fun _ => 0), aN cA u64.2.1 4 (fun _ => 0), aN cA u64.2.2 4 (fun _ => 0)] _ _ := Z
  refine pF_X5_43 (w1 := [(b, .inr (5, [.ref q5, .ref q16, .ref q27, .ref q38, .ref q49, .ref q60, .null, .null, .null, .null, .null, .int (nI 0), .int (nI 0), .int (nI 0), .long 0])), oP q5 u9.1 u9.2 0 0, aN cA u9.1 16 (fun _ => 0), aN cA u9.2 8 (fun _ => 0), oG q16 u20 0 0, aN cA u20 4 (fun _ => 0), oG q27 u31 0 0, aN cA u31 4 (fun _ => 0), oT q38 u42 0 (0, 0, nI 0, nI 0), aN cA u42 7 (fun _ => 0), oR q49 u53.1 u53.2, aN cA u53.1 16 (fun _ => 0), aN cA u53.2 4 (fun _ => 0), oY q60 u64.1 u64.2.1 u64.2.2 0 5, aN cA u64.1 6 (fun _ => 0), aN cA u64.2.1 4 (fun _ => 0), aN cA u64.2.2 4 (fun _ => 0)]) E Z hinit dX5_init_67 0 rfl (Nat.le_of_ble_eq_true rfl) rfl (fun H locs Z => ?_)
  refine lv_aload_n hx hb dX5_init_70 rfl (lv_at hl 0 rfl) ?_
  refine lv_bipush (v := nI 7) hx hb dX5_init_71 (by decide) ?_
  refine r_newa (N := 7) E Z (by decide) dX5_init_73 (Nat.le_of_ble_eq_true rfl) (Nat.le_of_ble_eq_true rfl) (fun q73 H Z => ?_)
  replace Z : Wd D A s [(b, .inr (5, [.ref q5, .ref q16, .ref q27, .ref q38, .ref q49, .ref q60, .null, .null, .null, .null, .null, .int (nI 0), .int (nI 0), .int (nI 0), .long 0])), oP q5 u9.1 u9.2 0 0, aN cA u9.1 16 (fun _ => 0), aN cA u9.2 8 (fun _ => 0), oG q16 u20 0 0, aN cA u20 4 (fun _ => 0), oG q27 u31 0 0, aN cA u31 4 (fun _ => 0), oT q38 u42 0 (0, 0, nI 0, nI 0), aN cA u42 7 (fun _ => 0), oR q49 u53.1 u53.2, aN cA u53.1 16 (fun _ => 0), aN cA u53.2 4 (fun _ => 0), oY q60 u64.1 u64.2.1 u64.2.2 0 5, aN cA u64.1 6 (fun _ => 0), aN cA u64.2.1 4 (fun _ => 0), aN cA u64.2.2 4 (fun _ => 0), aN cA q73 7 (fun _ => 0)] _ _ := Z
  refine pF_X5_47 (w1 := [(b, .inr (5, [.ref q5, .ref q16, .ref q27, .ref q38, .ref q49, .ref q60, .ref q73, .null, .null, .null, .null, .int (nI 0), .int (nI 0), .int (nI 0), .long 0])), oP q5 u9.1 u9.2 0 0, aN cA u9.1 16 (fun _ => 0), aN cA u9.2 8 (fun _ => 0), oG q16 u20 0 0, aN cA u20 4 (fun _ => 0), oG q27 u31 0 0, aN cA u31 4 (fun _ => 0), oT q38 u42 0 (0, 0, nI 0, nI 0), aN cA u42 7 (fun _ => 0), oR q49 u53.1 u53.2, aN cA u53.1 16 (fun _ => 0), aN cA u53.2 4 (fun _ => 0), oY q60 u64.1 u64.2.1 u64.2.2 0 5, aN cA u64.1 6 (fun _ => 0), aN cA u64.2.1 4 (fun _ => 0), aN cA u64.2.2 4 (fun _ => 0), aN cA q73 7 (fun _ => 0)]) E Z hinit dX5_init_75 0 rfl (Nat.le_of_ble_eq_true rfl) rfl (fun H locs Z => ?_)
  refine lv_aload_n hx hb dX5_init_78 rfl (lv_at hl 0 rfl) ?_
  refine lv_bipush (v := nI 7) hx hb dX5_init_79 (by decide) ?_
  refine r_newa (N := 7) E Z (by decide) dX5_init_81 (Nat.le_of_ble_eq_true rfl) (Nat.le_of_ble_eq_true rfl) (fun q81 H Z => ?_)
  replace Z : Wd D A s [(b, .inr (5, [.ref q5, .ref q16, .ref q27, .ref q38, .ref q49, .ref q60, .ref q73, .null, .null, .null, .null, .int (nI 0), .int (nI 0), .int (nI 0), .long 0])), oP q5 u9.1 u9.2 0 0, aN cA u9.1 16 (fun _ => 0), aN cA u9.2 8 (fun _ => 0), oG q16 u20 0 0, aN cA u20 4 (fun _ => 0), oG q27 u31 0 0, aN cA u31 4 (fun _ => 0), oT q38 u42 0 (0, 0, nI 0, nI 0), aN cA u42 7 (fun _ => 0), oR q49 u53.1 u53.2, aN cA u53.1 16 (fun _ => 0), aN cA u53.2 4 (fun _ => 0), oY q60 u64.1 u64.2.1 u64.2.2 0 5, aN cA u64.1 6 (fun _ => 0), aN cA u64.2.1 4 (fun _ => 0), aN cA u64.2.2 4 (fun _ => 0), aN cA q73 7 (fun _ => 0), aN cA q81 7 (fun _ => 0)] _ _ := Z
  refine pF_X5_51 (w1 := [(b, .inr (5, [.ref q5, .ref q16, .ref q27, .ref q38, .ref q49, .ref q60, .ref q73, .ref q81, .null, .null, .null, .int (nI 0), .int (nI 0), .int (nI 0), .long 0])), oP q5 u9.1 u9.2 0 0, aN cA u9.1 16 (fun _ => 0), aN cA u9.2 8 (fun _ => 0), oG q16 u20 0 0, aN cA u20 4 (fun _ => 0), oG q27 u31 0 0, aN cA u31 4 (fun _ => 0), oT q38 u42 0 (0, 0, nI 0, nI 0), aN cA u42 7 (fun _ => 0), oR q49 u53.1 u53.2, aN cA u53.1 16 (fun _ => 0), aN cA u53.2 4 (fun _ => 0), oY q60 u64.1 u64.2.1 u64.2.2 0 5, aN cA u64.1 6 (fun _ => 0), aN cA u64.2.1 4 (fun _ => 0), aN cA u64.2.2 4 (fun _ => 0), aN cA q73 7 (fun _ => 0), aN cA q81 7 (fun _ => 0)]) E Z hinit dX5_init_83 0 rfl (Nat.le_of_ble_eq_true rfl) rfl (fun H locs Z => ?_)
  refine lv_aload_n hx hb dX5_init_86 rfl (lv_at hl 0 rfl) ?_
  refine lv_iconst (v := nI 4) hx hb dX5_init_87 (by decide) ?_
  refine r_newa (N := 4) E Z (by decide) dX5_init_88 (Nat.le_of_ble_eq_true rfl) (Nat.le_of_ble_eq_true rfl) (fun q88 H Z => ?_)
  replace Z : Wd D A s [(b, .inr (5, [.ref q5, .ref q16, .ref q27, .ref q38, .ref q49, .ref q60, .ref q73, .ref q81, .null, .null, .null, .int (nI 0), .int (nI 0), .int (nI 0), .long 0])), oP q5 u9.1 u9.2 0 0, aN cA u9.1 16 (fun _ => 0), aN cA u9.2 8 (fun _ => 0), oG q16 u20 0 0, aN cA u20 4 (fun _ => 0), oG q27 u31 0 0, aN cA u31 4 (fun _ => 0), oT q38 u42 0 (0, 0, nI 0, nI 0), aN cA u42 7 (fun _ => 0), oR q49 u53.1 u53.2, aN cA u53.1 16 (fun _ => 0), aN cA u53.2 4 (fun _ => 0), oY q60 u64.1 u64.2.1 u64.2.2 0 5, aN cA u64.1 6 (fun _ => 0), aN cA u64.2.1 4 (fun _ => 0), aN cA u64.2.2 4 (fun _ => 0), aN cA q73 7 (fun _ => 0), aN cA q81 7 (fun _ => 0), aN cA q88 4 (fun _ => 0)] _ _ := Z
  refine pF_X5_54 (w1 := [(b, .inr (5, [.ref q5, .ref q16, .ref q27, .ref q38, .ref q49, .ref q60, .ref q73, .ref q81, .ref q88, .null, .null, .int (nI 0), .int (nI 0), .int (nI 0), .long 0])), oP q5 u9.1 u9.2 0 0, aN cA u9.1 16 (fun _ => 0), aN cA u9.2 8 (fun _ => 0), oG q16 u20 0 0, aN cA u20 4 (fun _ => 0), oG q27 u31 0 0, aN cA u31 4 (fun _ => 0), oT q38 u42 0 (0, 0, nI 0, nI 0), aN cA u42 7 (fun _ => 0), oR q49 u53.1 u53.2, aN cA u53.1 16 (fun _ => 0), aN cA u53.2 4 (fun _ => 0), oY q60 u64.1 u64.2.1 u64.2.2 0 5, aN cA u64.1 6 (fun _ => 0), aN cA u64.2.1 4 (fun _ => 0), aN cA u64.2.2 4 (fun _ => 0), aN cA q73 7 (fun _ => 0), aN cA q81 7 (fun _ => 0), aN cA q88 4 (fun _ => 0)]) E Z hinit dX5_init_90 0 rfl (Nat.le_of_ble_eq_true rfl) rfl (fun H locs Z => ?_)
  refine lv_aload_n hx hb dX5_init_93 rfl (lv_at hl 0 rfl) ?_
  refine lv_iconst (v := nI 4) hx hb dX5_init_94 (by decide) ?_
  refine r_newa (N := 4) E Z (by decide) dX5_init_95 (Nat.le_of_ble_eq_true rfl) (Nat.le_of_ble_eq_true rfl) (fun q95 H Z => ?_)
  replace Z : Wd D A s [(b, .inr (5, [.ref q5, .ref q16, .ref q27, .ref q38, .ref q49, .ref q60, .ref q73, .ref q81, .ref q88, .null, .null, .int (nI 0), .int (nI 0), .int (nI 0), .long 0])), oP q5 u9.1 u9.2 0 0, aN cA u9.1 16 (fun _ => 0), aN cA u9.2 8 (fun _ => 0), oG q16 u20 0 0, aN cA u20 4 (fun _ => 0), oG q27 u31 0 0, aN cA u31 4 (fun _ => 0), oT q38 u42 0 (0, 0, nI 0, nI 0), aN cA u42 7 (fun _ => 0), oR q49 u53.1 u53.2, aN cA u53.1 16 (fun _ => 0), aN cA u53.2 4 (fun _ => 0), oY q60 u64.1 u64.2.1 u64.2.2 0 5, aN cA u64.1 6 (fun _ => 0), aN cA u64.2.1 4 (fun _ => 0), aN cA u64.2.2 4 (fun _ => 0), aN cA q73 7 (fun _ => 0), aN cA q81 7 (fun _ => 0), aN cA q88 4 (fun _ => 0), aN cA q95 4 (fun _ => 0)] _ _ := Z
  refine pF_X5_57 (w1 := [(b, .inr (5, [.ref q5, .ref q16, .ref q27, .ref q38, .ref q49, .ref q60, .ref q73, .ref q81, .ref q88, .ref q95, .null, .int (nI 0), .int (nI 0), .int (nI 0), .long 0])), oP q5 u9.1 u9.2 0 0, aN cA u9.1 16 (fun _ => 0), aN cA u9.2 8 (fun _ => 0), oG q16 u20 0 0, aN cA u20 4 (fun _ => 0), oG q27 u31 0 0, aN cA u31 4 (fun _ => 0), oT q38 u42 0 (0, 0, nI 0, nI 0), aN cA u42 7 (fun _ => 0), oR q49 u53.1 u53.2, aN cA u53.1 16 (fun _ => 0), aN cA u53.2 4 (fun _ => 0), oY q60 u64.1 u64.2.1 u64.2.2 0 5, aN cA u64.1 6 (fun _ => 0), aN cA u64.2.1 4 (fun _ => 0), aN cA u64.2.2 4 (fun _ => 0), aN cA q73 7 (fun _ => 0), aN cA q81 7 (fun _ => 0), aN cA q88 4 (fun _ => 0), aN cA q95 4 (fun _ => 0)]) E Z hinit dX5_init_97 0 rfl (Nat.le_of_ble_eq_true rfl) rfl (fun H locs Z => ?_)
  refine lv_aload_n hx hb dX5_init_100 rfl (lv_at hl 0 rfl) ?_
  refine lv_sipush (v := nI 201) hx hb dX5_init_101 (by decide) ?_
  refine r_newa (N := 201) E Z (by decide) dX5_init_104 (Nat.le_of_ble_eq_true rfl) (Nat.le_of_ble_eq_true rfl) (fun q104 H Z => ?_)
  replace Z : Wd D A s [(b, .inr (5, [.ref q5, .ref q16, .ref q27, .ref q38, .ref q49, .ref q60, .ref q73, .ref q81, .ref q88, .ref q95, .null, .int (nI 0), .int (nI 0), .int (nI 0), .long 0])), oP q5 u9.1 u9.2 0 0, aN cA u9.1 16 (fun _ => 0), aN cA u9.2 8 (fun _ => 0), oG q16 u20 0 0, aN cA u20 4 (fun _ => 0), oG q27 u31 0 0, aN cA u31 4 (fun _ => 0), oT q38 u42 0 (0, 0, nI 0, nI 0), aN cA u42 7 (fun _ => 0), oR q49 u53.1 u53.2, aN cA u53.1 16 (fun _ => 0), aN cA u53.2 4 (fun _ => 0), oY q60 u64.1 u64.2.1 u64.2.2 0 5, aN cA u64.1 6 (fun _ => 0), aN cA u64.2.1 4 (fun _ => 0), aN cA u64.2.2 4 (fun _ => 0), aN cA q73 7 (fun _ => 0), aN cA q81 7 (fun _ => 0), aN cA q88 4 (fun _ => 0), aN cA q95 4 (fun _ => 0), aN cA q104 201 (fun _ => 0)] _ _ := Z
  refine pF_X5_60 (w1 := [(b, .inr (5, [.ref q5, .ref q16, .ref q27, .ref q38, .ref q49, .ref q60, .ref q73, .ref q81, .ref q88, .ref q95, .ref q104, .int (nI 0), .int (nI 0), .int (nI 0), .long 0])), oP q5 u9.1 u9.2 0 0, aN cA u9.1 16 (fun _ => 0), aN cA u9.2 8 (fun _ => 0), oG q16 u20 0 0, aN cA u20 4 (fun _ => 0), oG q27 u31 0 0, aN cA u31 4 (fun _ => 0), oT q38 u42 0 (0, 0, nI 0, nI 0), aN cA u42 7 (fun _ => 0), oR q49 u53.1 u53.2, aN cA u53.1 16 (fun _ => 0), aN cA u53.2 4 (fun _ => 0), oY q60 u64.1 u64.2.1 u64.2.2 0 5, aN cA u64.1 6 (fun _ => 0), aN cA u64.2.1 4 (fun _ => 0), aN cA u64.2.2 4 (fun _ => 0), aN cA q73 7 (fun _ => 0), aN cA q81 7 (fun _ => 0), aN cA q88 4 (fun _ => 0), aN cA q95 4 (fun _ => 0), aN cA q104 201 (fun _ => 0)]) E Z hinit dX5_init_106 0 rfl (Nat.le_of_ble_eq_true rfl) rfl (fun H locs Z => ?_)
  refine lv_aload_n hx hb dX5_init_109 rfl (lv_at hl 0 rfl) ?_
  refine lv_iconst (v := nI 4) hx hb dX5_init_110 (by decide) ?_
  refine lv_iconst (v := nI 4) hx hb dX5_init_111 (by decide) ?_
  obtain ⟨q, hq⟩ : ∃ q, q = q22 b q5 u9.1 u9.2 q16 u20 q27 u31 q38 u42 q49 u53.1 u53.2 q60 u64.1 u64.2.1 u64.2.2 q73 q81 q88 q95 q104 := ⟨_, rfl⟩
  have Z1 : Wd D A s ([oX q 0 0 0 0, oP (q 1) (q 2) (q 3) 0 0, aN cA (q 2) 16 (fun _ => 0), aN cA (q 3) 8 (fun _ => 0), oG (q 4) (q 5) 0 0, aN cA (q 5) 4 (fun _ => 0), oG (q 6) (q 7) 0 0, aN cA (q 7) 4 (fun _ => 0), oT (q 8) (q 9) 0 (0, 0, nI 0, nI 0), aN cA (q 9) 7 (fun _ => 0), oR (q 10) (q 11) (q 12), aN cA (q 11) 16 (fun _ => 0), aN cA (q 12) 4 (fun _ => 0), oY (q 13) (q 14) (q 15) (q 16) 0 5, aN cA (q 14) 6 (fun _ => 0), aN cA (q 15) 4 (fun _ => 0), aN cA (q 16) 4 (fun _ => 0), aN cA (q 17) 7 (fun _ => 0), aN cA (q 18) 7 (fun _ => 0), aN cA (q 19) 4 (fun _ => 0), aN cA (q 20) 4 (fun _ => 0), aN cA (q 21) 201 (fun _ => 0)]) H locs := by rw [hq]; exact Z
  replace Z := Z1
  have hqb : q 0 = b := by rw [hq]; rfl
  rw [show F0 m 112 ls [.int (nI 4), .int (nI 4), .ref b] = F0 m 112 ls [.int (nI 4), .int (nI 4), .ref (q 0)] by rw [hqb]]
  refine c_Vv (As := [.int (nI 4), .int (nI 4)]) (rest := []) (w2 := fun _ => [oX q 4 0 0 0, oP (q 1) (q 2) (q 3) 4 0, aN cA (q 2) 16 (fun _ => 0), aN cA (q 3) 8 (fun _ => 1), oG (q 4) (q 5) 4 0, aN cA (q 5) 4 (mF 0 4), oG (q 6) (q 7) 0 0, aN cA (q 7) 4 (fun _ => 0), oT (q 8) (q 9) 0 (0, 0, nI 0, nI 0), aN cA (q 9) 7 (fun _ => 0), oR (q 10) (q 11) (q 12), aN cA (q 11) 16 (fun _ => 0), aN cA (q 12) 4 (fun _ => 0), oY (q 13) (q 14) (q 15) (q 16) 0 5, aN cA (q 14) 6 (fun _ => 0), aN cA (q 15) 4 (fun _ => 0), aN cA (q 16) 4 (fun _ => 0), aN cA (q 17) 7 (fun _ => 99), aN cA (q 18) 7 (fun _ => 10), aN cA (q 19) 4 (fun _ => 0), aN cA (q 20) 4 (fun _ => 0), aN cA (q 21) 201 (fun _ => 0)]) E Z (k_X5_begin l D cA q 0 0 0 0 0 0 (fun _ => 0) (fun _ => 0) 0 0 (fun _ => 0) (fun _ => 0) (fun _ => 0) (fun _ => 0) 4 4 (by first | assumption | omega)) wv_X5_63 ⟨rfl, rfl, Nat.le_of_ble_eq_true rfl, Nat.le_of_ble_eq_true rfl⟩ [0, 1, 2, 3, 4, 5, 17, 18, 19] rfl rfl rfl rfl (q0 := 0) rfl (fun _ => rfl) (fun _ => rfl) rfl hl.1 rfl (Nat.le_of_ble_eq_true rfl) dX5_init_112 ⟨(Nat.le_of_ble_eq_true rfl), (Nat.le_of_ble_eq_true rfl)⟩ (fun _ H locs hp112 Z => ?_)
  refine W.widen (k := 21) (n := 319) (Nat.le_of_ble_eq_true rfl) (Nat.le_of_ble_eq_true rfl) ?_
  exact ret q Z dX5_init_115 rfl hqb
abbrev rm_k_X6_init : Room := { frames := 1, cells := 14, slots := 285, locals := 23 }
set_option maxHeartbeats 4000000 in
set_option maxRecDepth 100000 in
theorem k_X6_init (l : Launch) (D : va_G) (cA : ClassId) (b : Nat) : CtN l yX6_init cX6_init 1 rm_k_X6_init D cA b (.inr (6, [.int (nI 0), .long 0, .int (nI 0), .int (nI 0), .null, .null, .null, .null, .null, .int (nI 0), .null, .int (nI 0), .null, .int (nI 0), .null, .null, .null, .null, .null, .null, .null])) (fun _ => True) (fun (q : Nat → Nat) => q 0 = b) (fun q => [oM q 0 0 4 4 0 0 5, aN cA (q 1) 16 (fun _ => 0), aN cA (q 2) 8 (bt 0), aN cA (q 3) 8 (fun _ => 1), aN cA (q 4) 7 (fun _ => 99), aN cA (q 5) 7 (fun _ => 10), aN cA (q 6) 4 (fun _ => 0), aN cA (q 7) 6 (fun _ => 0), aN cA (q 8) 7 (fun _ => 0), aR cA (q 9) 4 (tel (0, 0, nI 0, nI 0)), aN cA (q 10) 201 (fun _ => 0), aN cA (q 11) 4 (fun _ => 0), aR cA (q 12) 5 (nA (fun _ => 0)), aN cA (q 13) 4 (fun _ => 0), aN cA (q 14) 4 (fun _ => 0)]) 14 285 := by
  refine st_N (by decide) (by decide) ?_
  intro p e s m args below meth c A Q E hX hin ret Z ls hl
  have hx := E.1.1
  have hb := E.1.2.1
  have hinit : meth.name = "<init>" := hin
  refine lv_aload_n hx hb dX6_init_0 rfl (lv_at hl 0 rfl) ?_
  refine r_objInit E hl.1 mM_X6_1 dX6_init_1 (Nat.le_of_ble_eq_true rfl) (Nat.le_of_ble_eq_true rfl) ?_
  refine lv_aload_n hx hb dX6_init_4 rfl (lv_at hl 0 rfl) ?_
  refine lv_iconst (v := nI 4) hx hb dX6_init_5 (by decide) ?_
  refine pF_X6_7 (w1 := [(b, .inr (6, [.int (nI 0), .long 0, .int (nI 4), .int (nI 0), .null, .null, .null, .null, .null, .int (nI 0), .null, .int (nI 0), .null, .int (nI 0), .null, .null, .null, .null, .null, .null, .null]))]) E Z dX6_init_6 0 rfl (Nat.le_of_ble_eq_true rfl) rfl (fun H locs Z => ?_)
  refine lv_aload_n hx hb dX6_init_9 rfl (lv_at hl 0 rfl) ?_
  refine lv_iconst (v := nI 4) hx hb dX6_init_10 (by decide) ?_
  refine pF_X6_13 (w1 := [(b, .inr (6, [.int (nI 0), .long 0, .int (nI 4), .int (nI 4), .null, .null, .null, .null, .null, .int (nI 0), .null, .int (nI 0), .null, .int (nI 0), .null, .null, .null, .null, .null, .null, .null]))]) E Z dX6_init_11 0 rfl (Nat.le_of_ble_eq_true rfl) rfl (fun H locs Z => ?_)
  refine lv_aload_n hx hb dX6_init_14 rfl (lv_at hl 0 rfl) ?_
  refine lv_bipush (v := nI 16) hx hb dX6_init_15 (by decide) ?_
  refine r_newa (N := 16) E Z (by decide) dX6_init_17 (Nat.le_of_ble_eq_true rfl) (Nat.le_of_ble_eq_true rfl) (fun q17 H Z => ?_)
  replace Z : Wd D A s [(b, .inr (6, [.int (nI 0), .long 0, .int (nI 4), .int (nI 4), .null, .null, .null, .null, .null, .int (nI 0), .null, .int (nI 0), .null, .int (nI 0), .null, .null, .null, .null, .null, .null, .null])), aN cA q17 16 (fun _ => 0)] _ _ := Z
  refine pF_X6_16 (w1 := [(b, .inr (6, [.int (nI 0), .long 0, .int (nI 4), .int (nI 4), .ref q17, .null, .null, .null, .null, .int (nI 0), .null, .int (nI 0), .null, .int (nI 0), .null, .null, .null, .null, .null, .null, .null])), aN cA q17 16 (fun _ => 0)]) E Z hinit dX6_init_19 0 rfl (Nat.le_of_ble_eq_true rfl) rfl (fun H locs Z => ?_)
  refine lv_aload_n hx hb dX6_init_22 rfl (lv_at hl 0 rfl) ?_
  refine lv_bipush (v := nI 8) hx hb dX6_init_23 (by decide) ?_
  refine r_newa (N := 8) E Z (by decide) dX6_init_25 (Nat.le_of_ble_eq_true rfl) (Nat.le_of_ble_eq_true rfl) (fun q25 H Z => ?_)
  replace Z : Wd D A s [(b, .inr (6, [.int (nI 0), .long 0, .int (nI 4), .int (nI 4), .ref q17, .null, .null, .null, .null, .int (nI 0), .null, .int (nI 0), .null, .int (nI 0), .null, .null, .null, .null, .null, .null, .null])), aN cA q17 16 (fun _ => 0), aN cA q25 8 (fun _ => 0)] _ _ := Z
  refine pF_X6_20 (w1 := [(b, .inr (6, [.int (nI 0), .long 0, .int (nI 4), .int (nI 4), .ref q17, .ref q25, .null, .null, .null, .int (nI 0), .null, .int (nI 0), .null, .int (nI 0), .null, .null, .null, .null, .null, .null, .null])), aN cA q17 16 (fun _ => 0), aN cA q25 8 (fun _ => 0)]) E Z hinit dX6_init_27 0 rfl (Nat.le_of_ble_eq_true rfl) rfl (fun H locs Z => ?_)
  refine lv_aload_n hx hb dX6_init_30 rfl (lv_at hl 0 rfl) ?_
  refine lv_bipush (v := nI 8) hx hb dX6_init_31 (by decide) ?_
  refine r_newa (N := 8) E Z (by decide) dX6_init_33 (Nat.le_of_ble_eq_true rfl) (Nat.le_of_ble_eq_true rfl) (fun q33 H Z => ?_)
  replace Z : Wd D A s [(b, .inr (6, [.int (nI 0), .long 0, .int (nI 4), .int (nI 4), .ref q17, .ref q25, .null, .null, .null, .int (nI 0), .null, .int (nI 0), .null, .int (nI 0), .null, .null, .null, .null, .null, .null, .null])), aN cA q17 16 (fun _ => 0), aN cA q25 8 (fun _ => 0), aN cA q33 8 (fun _ => 0)] _ _ := Z
  refine pF_X6_23 (w1 := [(b, .inr (6, [.int (nI 0), .long 0, .int (nI 4), .int (nI 4), .ref q17, .ref q25, .ref q33, .null, .null, .int (nI 0), .null, .int (nI 0), .null, .int (nI 0), .null, .null, .null, .null, .null, .null, .null])), aN cA q17 16 (fun _ => 0), aN cA q25 8 (fun _ => 0), aN cA q33 8 (fun _ => 0)]) E Z hinit dX6_init_35 0 rfl (Nat.le_of_ble_eq_true rfl) rfl (fun H locs Z => ?_)
  refine lv_aload_n hx hb dX6_init_38 rfl (lv_at hl 0 rfl) ?_
  refine lv_bipush (v := nI 7) hx hb dX6_init_39 (by decide) ?_
  refine r_newa (N := 7) E Z (by decide) dX6_init_41 (Nat.le_of_ble_eq_true rfl) (Nat.le_of_ble_eq_true rfl) (fun q41 H Z => ?_)
  replace Z : Wd D A s [(b, .inr (6, [.int (nI 0), .long 0, .int (nI 4), .int (nI 4), .ref q17, .ref q25, .ref q33, .null, .null, .int (nI 0), .null, .int (nI 0), .null, .int (nI 0), .null, .null, .null, .null, .null, .null, .null])), aN cA q17 16 (fun _ => 0), aN cA q25 8 (fun _ => 0), aN cA q33 8 (fun _ => 0), aN cA q41 7 (fun _ => 0)] _ _ := Z
  refine pF_X6_26 (w1 := [(b, .inr (6, [.int (nI 0), .long 0, .int (nI 4), .int (nI 4), .ref q17, .ref q25, .ref q33, .ref q41, .null, .int (nI 0), .null, .int (nI 0), .null, .int (nI 0), .null, .null, .null, .null, .null, .null, .null])), aN cA q17 16 (fun _ => 0), aN cA q25 8 (fun _ => 0), aN cA q33 8 (fun _ => 0), aN cA q41 7 (fun _ => 0)]) E Z hinit dX6_init_43 0 rfl (Nat.le_of_ble_eq_true rfl) rfl (fun H locs Z => ?_)
  refine lv_aload_n hx hb dX6_init_46 rfl (lv_at hl 0 rfl) ?_
  refine lv_bipush (v := nI 7) hx hb dX6_init_47 (by decide) ?_
  refine r_newa (N := 7) E Z (by decide) dX6_init_49 (Nat.le_of_ble_eq_true rfl) (Nat.le_of_ble_eq_true rfl) (fun q49 H Z => ?_)
  replace Z : Wd D A s [(b, .inr (6, [.int (nI 0), .long 0, .int (nI 4), .int (nI 4), .ref q17, .ref q25, .ref q33, .ref q41, .null, .int (nI 0), .null, .int (nI 0), .null, .int (nI 0), .null, .null, .null, .null, .null, .null, .null])), aN cA q17 16 (fun _ => 0), aN cA q25 8 (fun _ => 0), aN cA q33 8 (fun _ => 0), aN cA q41 7 (fun _ => 0), aN cA q49 7 (fun _ => 0)] _ _ := Z
  refine pF_X6_29 (w1 := [(b, .inr (6, [.int (nI 0), .long 0, .int (nI 4), .int (nI 4), .ref q17, .ref q25, .ref q33, .ref q41, .ref q49, .int (nI 0), .null, .int (nI 0), .null, .int (nI 0), .null, .null, .null, .null, .null, .null, .null])), aN cA q17 16 (fun _ => 0), aN cA q25 8 (fun _ => 0), aN cA q33 8 (fun _ => 0), aN cA q41 7 (fun _ => 0), aN cA q49 7 (fun _ => 0)]) E Z hinit dX6_init_51 0 rfl (Nat.le_of_ble_eq_true rfl) rfl (fun H locs Z => ?_)
  refine lv_aload_n hx hb dX6_init_54 rfl (lv_at hl 0 rfl) ?_
  refine lv_iconst (v := nI 4) hx hb dX6_init_55 (by decide) ?_
  refine r_newa (N := 4) E Z (by decide) dX6_init_56 (Nat.le_of_ble_eq_true rfl) (Nat.le_of_ble_eq_true rfl) (fun q56 H Z => ?_)
  replace Z : Wd D A s [(b, .inr (6, [.int (nI 0), .long 0, .int (nI 4), .int (nI 4), .ref q17, .ref q25, .ref q33, .ref q41, .ref q49, .int (nI 0), .null, .int (nI 0), .null, .int (nI 0), .null, .null, .null, .null, .null, .null, .null])), aN cA q17 16 (fun _ => 0), aN cA q25 8 (fun _ => 0), aN cA q33 8 (fun _ => 0), aN cA q41 7 (fun _ => 0), aN cA q49 7 (fun _ => 0), aN cA q56 4 (fun _ => 0)] _ _ := Z
  refine pF_X6_32 (w1 := [(b, .inr (6, [.int (nI 0), .long 0, .int (nI 4), .int (nI 4), .ref q17, .ref q25, .ref q33, .ref q41, .ref q49, .int (nI 0), .ref q56, .int (nI 0), .null, .int (nI 0), .null, .null, .null, .null, .null, .null, .null])), aN cA q17 16 (fun _ => 0), aN cA q25 8 (fun _ => 0), aN cA q33 8 (fun _ => 0), aN cA q41 7 (fun _ => 0), aN cA q49 7 (fun _ => 0), aN cA q56 4 (fun _ => 0)]) E Z hinit dX6_init_58 0 rfl (Nat.le_of_ble_eq_true rfl) rfl (fun H locs Z => ?_)
  refine lv_aload_n hx hb dX6_init_61 rfl (lv_at hl 0 rfl) ?_
  refine lv_bipush (v := nI 6) hx hb dX6_init_62 (by decide) ?_
  refine r_newa (N := 6) E Z (by decide) dX6_init_64 (Nat.le_of_ble_eq_true rfl) (Nat.le_of_ble_eq_true rfl) (fun q64 H Z => ?_)
  replace Z : Wd D A s [(b, .inr (6, [.int (nI 0), .long 0, .int (nI 4), .int (nI 4), .ref q17, .ref q25, .ref q33, .ref q41, .ref q49, .int (nI 0), .ref q56, .int (nI 0), .null, .int (nI 0), .null, .null, .null, .null, .null, .null, .null])), aN cA q17 16 (fun _ => 0), aN cA q25 8 (fun _ => 0), aN cA q33 8 (fun _ => 0), aN cA q41 7 (fun _ => 0), aN cA q49 7 (fun _ => 0), aN cA q56 4 (fun _ => 0), aN cA q64 6 (fun _ => 0)] _ _ := Z
  refine pF_X6_35 (w1 := [(b, .inr (6, [.int (nI 0), .long 0, .int (nI 4), .int (nI 4), .ref q17, .ref q25, .ref q33, .ref q41, .ref q49, .int (nI 0), .ref q56, .int (nI 0), .ref q64, .int (nI 0), .null, .null, .null, .null, .null, .null, .null])), aN cA q17 16 (fun _ => 0), aN cA q25 8 (fun _ => 0), aN cA q33 8 (fun _ => 0), aN cA q41 7 (fun _ => 0), aN cA q49 7 (fun _ => 0), aN cA q56 4 (fun _ => 0), aN cA q64 6 (fun _ => 0)]) E Z hinit dX6_init_66 0 rfl (Nat.le_of_ble_eq_true rfl) rfl (fun H locs Z => ?_)
  refine lv_aload_n hx hb dX6_init_69 rfl (lv_at hl 0 rfl) ?_
  refine lv_iconst (v := nI 5) hx hb dX6_init_70 (by decide) ?_
  refine pF_X6_38 (w1 := [(b, .inr (6, [.int (nI 0), .long 0, .int (nI 4), .int (nI 4), .ref q17, .ref q25, .ref q33, .ref q41, .ref q49, .int (nI 0), .ref q56, .int (nI 0), .ref q64, .int (nI 5), .null, .null, .null, .null, .null, .null, .null])), aN cA q17 16 (fun _ => 0), aN cA q25 8 (fun _ => 0), aN cA q33 8 (fun _ => 0), aN cA q41 7 (fun _ => 0), aN cA q49 7 (fun _ => 0), aN cA q56 4 (fun _ => 0), aN cA q64 6 (fun _ => 0)]) E Z dX6_init_71 0 rfl (Nat.le_of_ble_eq_true rfl) rfl (fun H locs Z => ?_)
  refine lv_aload_n hx hb dX6_init_74 rfl (lv_at hl 0 rfl) ?_
  refine lv_bipush (v := nI 7) hx hb dX6_init_75 (by decide) ?_
  refine r_newa (N := 7) E Z (by decide) dX6_init_77 (Nat.le_of_ble_eq_true rfl) (Nat.le_of_ble_eq_true rfl) (fun q77 H Z => ?_)
  replace Z : Wd D A s [(b, .inr (6, [.int (nI 0), .long 0, .int (nI 4), .int (nI 4), .ref q17, .ref q25, .ref q33, .ref q41, .ref q49, .int (nI 0), .ref q56, .int (nI 0), .ref q64, .int (nI 5), .null, .null, .null, .null, .null, .null, .null])), aN cA q17 16 (fun _ => 0), aN cA q25 8 (fun _ => 0), aN cA q33 8 (fun _ => 0), aN cA q41 7 (fun _ => 0), aN cA q49 7 (fun _ => 0), aN cA q56 4 (fun _ => 0), aN cA q64 6 (fun _ => 0), aN cA q77 7 (fun _ => 0)] _ _ := Z
  refine pF_X6_41 (w1 := [(b, .inr (6, [.int (nI 0), .long 0, .int (nI 4), .int (nI 4), .ref q17, .ref q25, .ref q33, .ref q41, .ref q49, .int (nI 0), .ref q56, .int (nI 0), .ref q64, .int (nI 5), .ref q77, .null, .null, .null, .null, .null, .null])), aN cA q17 16 (fun _ => 0), aN cA q25 8 (fun _ => 0), aN cA q33 8 (fun _ => 0), aN cA q41 7 (fun _ => 0), aN cA q49 7 (fun _ => 0), aN cA q56 4 (fun _ => 0), aN cA q64 6 (fun _ => 0), aN cA q77 7 (fun _ => 0)]) E Z hinit dX6_init_79 0 rfl (Nat.le_of_ble_eq_true rfl) rfl (fun H locs Z => ?_)
  refine lv_aload_n hx hb dX6_init_82 rfl (lv_at hl 0 rfl) ?_
  refine lv_iconst (v := nI 4) hx hb dX6_init_83 (by decide) ?_
  refine r_newa (N := 4) E Z (by decide) dX6_init_84 (Nat.le_of_ble_eq_true rfl) (Nat.le_of_ble_eq_true rfl) (fun q84 H Z => ?_)
  replace Z : Wd D A s [(b, .inr (6, [.int (nI 0), .long 0, .int (nI 4), .int (nI 4), .ref q17, .ref q25, .ref q33, .ref q41, .ref q49, .int (nI 0), .ref q56, .int (nI 0), .ref q64, .int (nI 5), .ref q77, .null, .null, .null, .null, .null, .null])), aN cA q17 16 (fun _ => 0), aN cA q25 8 (fun _ => 0), aN cA q33 8 (fun _ => 0), aN cA q41 7 (fun _ => 0), aN cA q49 7 (fun _ => 0), aN cA q56 4 (fun _ => 0), aN cA q64 6 (fun _ => 0), aN cA q77 7 (fun _ => 0), aN cA q84 4 (fun _ => 0)] _ _ := Z
  refine pF_X6_44 (w1 := [(b, .inr (6, [.int (nI 0), .long 0, .int (nI 4), .int (nI 4), .ref q17, .ref q25, .ref q33, .ref q41, .ref q49, .int (nI 0), .ref q56, .int (nI 0), .ref q64, .int (nI 5), .ref q77, .ref q84, .null, .null, .null, .null, .null])), aN cA q17 16 (fun _ => 0), aN cA q25 8 (fun _ => 0), aN cA q33 8 (fun _ => 0), aN cA q41 7 (fun _ => 0), aN cA q49 7 (fun _ => 0), aN cA q56 4 (fun _ => 0), aN cA q64 6 (fun _ => 0), aN cA q77 7 (fun _ => 0), aN cA q84 4 (fun _ => 0)]) E Z hinit dX6_init_86 0 rfl (Nat.le_of_ble_eq_true rfl) rfl (fun H locs Z => ?_)
  refine lv_aload_n hx hb dX6_init_89 rfl (lv_at hl 0 rfl) ?_
  refine lv_sipush (v := nI 201) hx hb dX6_init_90 (by decide) ?_
  refine r_newa (N := 201) E Z (by decide) dX6_init_93 (Nat.le_of_ble_eq_true rfl) (Nat.le_of_ble_eq_true rfl) (fun q93 H Z => ?_)
  replace Z : Wd D A s [(b, .inr (6, [.int (nI 0), .long 0, .int (nI 4), .int (nI 4), .ref q17, .ref q25, .ref q33, .ref q41, .ref q49, .int (nI 0), .ref q56, .int (nI 0), .ref q64, .int (nI 5), .ref q77, .ref q84, .null, .null, .null, .null, .null])), aN cA q17 16 (fun _ => 0), aN cA q25 8 (fun _ => 0), aN cA q33 8 (fun _ => 0), aN cA q41 7 (fun _ => 0), aN cA q49 7 (fun _ => 0), aN cA q56 4 (fun _ => 0), aN cA q64 6 (fun _ => 0), aN cA q77 7 (fun _ => 0), aN cA q84 4 (fun _ => 0), aN cA q93 201 (fun _ => 0)] _ _ := Z
  refine pF_X6_47 (w1 := [(b, .inr (6, [.int (nI 0), .long 0, .int (nI 4), .int (nI 4), .ref q17, .ref q25, .ref q33, .ref q41, .ref q49, .int (nI 0), .ref q56, .int (nI 0), .ref q64, .int (nI 5), .ref q77, .ref q84, .ref q93, .null, .null, .null, .null])), aN cA q17 16 (fun _ => 0), aN cA q25 8 (fun _ => 0), aN cA q33 8 (fun _ => 0), aN cA q41 7 (fun _ => 0), aN cA q49 7 (fun _ => 0), aN cA q56 4 (fun _ => 0), aN cA q64 6 (fun _ => 0), aN cA q77 7 (fun _ => 0), aN cA q84 4 (fun _ => 0), aN cA q93 201 (fun _ => 0)]) E Z hinit dX6_init_95 0 rfl (Nat.le_of_ble_eq_true rfl) rfl (fun H locs Z => ?_)
  refine lv_aload_n hx hb dX6_init_98 rfl (lv_at hl 0 rfl) ?_
  refine lv_iconst (v := nI 4) hx hb dX6_init_99 (by decide) ?_
  refine r_newa (N := 4) E Z (by decide) dX6_init_100 (Nat.le_of_ble_eq_true rfl) (Nat.le_of_ble_eq_true rfl) (fun q100 H Z => ?_)
  replace Z : Wd D A s [(b, .inr (6, [.int (nI 0), .long 0, .int (nI 4), .int (nI 4), .ref q17, .ref q25, .ref q33, .ref q41, .ref q49, .int (nI 0), .ref q56, .int (nI 0), .ref q64, .int (nI 5), .ref q77, .ref q84, .ref q93, .null, .null, .null, .null])), aN cA q17 16 (fun _ => 0), aN cA q25 8 (fun _ => 0), aN cA q33 8 (fun _ => 0), aN cA q41 7 (fun _ => 0), aN cA q49 7 (fun _ => 0), aN cA q56 4 (fun _ => 0), aN cA q64 6 (fun _ => 0), aN cA q77 7 (fun _ => 0), aN cA q84 4 (fun _ => 0), aN cA q93 201 (fun _ => 0), aN cA q100 4 (fun _ => 0)] _ _ := Z
  refine pF_X6_50 (w1 := [(b, .inr (6, [.int (nI 0), .long 0, .int (nI 4), .int (nI 4), .ref q17, .ref q25, .ref q33, .ref q41, .ref q49, .int (nI 0), .ref q56, .int (nI 0), .ref q64, .int (nI 5), .ref q77, .ref q84, .ref q93, .ref q100, .null, .null, .null])), aN cA q17 16 (fun _ => 0), aN cA q25 8 (fun _ => 0), aN cA q33 8 (fun _ => 0), aN cA q41 7 (fun _ => 0), aN cA q49 7 (fun _ => 0), aN cA q56 4 (fun _ => 0), aN cA q64 6 (fun _ => 0), aN cA q77 7 (fun _ => 0), aN cA q84 4 (fun _ => 0), aN cA q93 201 (fun _ => 0), aN cA q100 4 (fun _ => 0)]) E Z hinit dX6_init_102 0 rfl (Nat.le_of_ble_eq_true rfl) rfl (fun H locs Z => ?_)
  refine lv_aload_n hx hb dX6_init_105 rfl (lv_at hl 0 rfl) ?_
  refine lv_iconst (v := nI 5) hx hb dX6_init_106 (by decide) ?_
  refine r_newa (N := 5) E Z (by decide) dX6_init_107 (Nat.le_of_ble_eq_true rfl) (Nat.le_of_ble_eq_true rfl) (fun q107 H Z => ?_)
  replace Z : Wd D A s [(b, .inr (6, [.int (nI 0), .long 0, .int (nI 4), .int (nI 4), .ref q17, .ref q25, .ref q33, .ref q41, .ref q49, .int (nI 0), .ref q56, .int (nI 0), .ref q64, .int (nI 5), .ref q77, .ref q84, .ref q93, .ref q100, .null, .null, .null])), aN cA q17 16 (fun _ => 0), aN cA q25 8 (fun _ => 0), aN cA q33 8 (fun _ => 0), aN cA q41 7 (fun _ => 0), aN cA q49 7 (fun _ => 0), aN cA q56 4 (fun _ => 0), aN cA q64 6 (fun _ => 0), aN cA q77 7 (fun _ => 0), aN cA q84 4 (fun _ => 0), aN cA q93 201 (fun _ => 0), aN cA q100 4 (fun _ => 0), aN cA q107 5 (fun _ => 0)] _ _ := Z
  refine pF_X6_53 (w1 := [(b, .inr (6, [.int (nI 0), .long 0, .int (nI 4), .int (nI 4), .ref q17, .ref q25, .ref q33, .ref q41, .ref q49, .int (nI 0), .ref q56, .int (nI 0), .ref q64, .int (nI 5), .ref q77, .ref q84, .ref q93, .ref q100, .ref q107, .null, .null])), aN cA q17 16 (fun _ => 0), aN cA q25 8 (fun _ => 0), aN cA q33 8 (fun _ => 0), aN cA q41 7 (fun _ => 0), aN cA q49 7 (fun _ => 0), aN cA q56 4 (fun _ => 0), aN cA q64 6 (fun _ => 0), aN cA q77 7 (fun _ => 0), aN cA q84 4 (fun _ => 0), aN cA q93 201 (fun _ => 0), aN cA q100 4 (fun _ => 0), aN cA q107 5 (fun _ => 0)]) E Z hinit dX6_init_109 0 rfl (Nat.le_of_ble_eq_true rfl) rfl (fun H locs Z => ?_)
  refine lv_aload_n hx hb dX6_init_112 rfl (lv_at hl 0 rfl) ?_
  refine lv_iconst (v := nI 4) hx hb dX6_init_113 (by decide) ?_
  refine r_newa (N := 4) E Z (by decide) dX6_init_114 (Nat.le_of_ble_eq_true rfl) (Nat.le_of_ble_eq_true rfl) (fun q114 H Z => ?_)
  replace Z : Wd D A s [(b, .inr (6, [.int (nI 0), .long 0, .int (nI 4), .int (nI 4), .ref q17, .ref q25, .ref q33, .ref q41, .ref q49, .int (nI 0), .ref q56, .int (nI 0), .ref q64, .int (nI 5), .ref q77, .ref q84, .ref q93, .ref q100, .ref q107, .null, .null])), aN cA q17 16 (fun _ => 0), aN cA q25 8 (fun _ => 0), aN cA q33 8 (fun _ => 0), aN cA q41 7 (fun _ => 0), aN cA q49 7 (fun _ => 0), aN cA q56 4 (fun _ => 0), aN cA q64 6 (fun _ => 0), aN cA q77 7 (fun _ => 0), aN cA q84 4 (fun _ => 0), aN cA q93 201 (fun _ => 0), aN cA q100 4 (fun _ => 0), aN cA q107 5 (fun _ => 0), aN cA q114 4 (fun _ => 0)] _ _ := Z
  refine pF_X6_56 (w1 := [(b, .inr (6, [.int (nI 0), .long 0, .int (nI 4), .int (nI 4), .ref q17, .ref q25, .ref q33, .ref q41, .ref q49, .int (nI 0), .ref q56, .int (nI 0), .ref q64, .int (nI 5), .ref q77, .ref q84, .ref q93, .ref q100, .ref q107, .ref q114, .null])), aN cA q17 16 (fun _ => 0), aN cA q25 8 (fun _ => 0), aN cA q33 8 (fun _ => 0), aN cA q41 7 (fun _ => 0), aN cA q49 7 (fun _ => 0), aN cA q56 4 (fun _ => 0), aN cA q64 6 (fun _ => 0), aN cA q77 7 (fun _ => 0), aN cA q84 4 (fun _ => 0), aN cA q93 201 (fun _ => 0), aN cA q100 4 (fun _ => 0), aN cA q107 5 (fun _ => 0), aN cA q114 4 (fun _ => 0)]) E Z hinit dX6_init_116 0 rfl (Nat.le_of_ble_eq_true rfl) rfl (fun H locs Z => ?_)
  refine lv_aload_n hx hb dX6_init_119 rfl (lv_at hl 0 rfl) ?_
  refine lv_iconst (v := nI 4) hx hb dX6_init_120 (by decide) ?_
  refine r_newa (N := 4) E Z (by decide) dX6_init_121 (Nat.le_of_ble_eq_true rfl) (Nat.le_of_ble_eq_true rfl) (fun q121 H Z => ?_)
  replace Z : Wd D A s [(b, .inr (6, [.int (nI 0), .long 0, .int (nI 4), .int (nI 4), .ref q17, .ref q25, .ref q33, .ref q41, .ref q49, .int (nI 0), .ref q56, .int (nI 0), .ref q64, .int (nI 5), .ref q77, .ref q84, .ref q93, .ref q100, .ref q107, .ref q114, .null])), aN cA q17 16 (fun _ => 0), aN cA q25 8 (fun _ => 0), aN cA q33 8 (fun _ => 0), aN cA q41 7 (fun _ => 0), aN cA q49 7 (fun _ => 0), aN cA q56 4 (fun _ => 0), aN cA q64 6 (fun _ => 0), aN cA q77 7 (fun _ => 0), aN cA q84 4 (fun _ => 0), aN cA q93 201 (fun _ => 0), aN cA q100 4 (fun _ => 0), aN cA q107 5 (fun _ => 0), aN cA q114 4 (fun _ => 0), aN cA q121 4 (fun _ => 0)] _ _ := Z
  refine pF_X6_59 (w1 := [(b, .inr (6, [.int (nI 0), .long 0, .int (nI 4), .int (nI 4), .ref q17, .ref q25, .ref q33, .ref q41, .ref q49, .int (nI 0), .ref q56, .int (nI 0), .ref q64, .int (nI 5), .ref q77, .ref q84, .ref q93, .ref q100, .ref q107, .ref q114, .ref q121])), aN cA q17 16 (fun _ => 0), aN cA q25 8 (fun _ => 0), aN cA q33 8 (fun _ => 0), aN cA q41 7 (fun _ => 0), aN cA q49 7 (fun _ => 0), aN cA q56 4 (fun _ => 0), aN cA q64 6 (fun _ => 0), aN cA q77 7 (fun _ => 0), aN cA q84 4 (fun _ => 0), aN cA q93 201 (fun _ => 0), aN cA q100 4 (fun _ => 0), aN cA q107 5 (fun _ => 0), aN cA q114 4 (fun _ => 0), aN cA q121 4 (fun _ => 0)]) E Z hinit dX6_init_123 0 rfl (Nat.le_of_ble_eq_true rfl) rfl (fun H locs Z => ?_)
  refine lv_aload_n hx hb dX6_init_126 rfl (lv_at hl 0 rfl) ?_
  refine lv_iconst (v := nI 4) hx hb dX6_init_127 (by decide) ?_
  refine lv_iconst (v := nI 4) hx hb dX6_init_128 (by decide) ?_
  obtain ⟨q, hq⟩ : ∃ q, q = q15 b q17 q25 q33 q41 q49 q56 q64 q77 q84 q93 q100 q107 q114 q121 := ⟨_, rfl⟩
  have Z1 : Wd D A s ([oM q 0 0 4 4 0 0 5, aN cA (q 1) 16 (fun _ => 0), aN cA (q 2) 8 (fun _ => 0), aN cA (q 3) 8 (fun _ => 0), aN cA (q 4) 7 (fun _ => 0), aN cA (q 5) 7 (fun _ => 0), aN cA (q 6) 4 (fun _ => 0), aN cA (q 7) 6 (fun _ => 0), aN cA (q 8) 7 (fun _ => 0), aN cA (q 9) 4 (fun _ => 0), aN cA (q 10) 201 (fun _ => 0), aN cA (q 11) 4 (fun _ => 0), aR cA (q 12) 5 (nA (fun _ => 0)), aN cA (q 13) 4 (fun _ => 0), aN cA (q 14) 4 (fun _ => 0)]) H locs := by rw [hq]; exact Z
  replace Z := Z1
  replace Z : Wd D A s ([oM q 0 0 4 4 0 0 5, aN cA (q 1) 16 (fun _ => 0), aN cA (q 2) 8 (fun _ => 0), aN cA (q 3) 8 (fun _ => 0), aN cA (q 4) 7 (fun _ => 0), aN cA (q 5) 7 (fun _ => 0), aN cA (q 6) 4 (fun _ => 0), aN cA (q 7) 6 (fun _ => 0), aN cA (q 8) 7 (fun _ => 0), aR cA (q 9) 4 (tel (0, 0, nI 0, nI 0)), aN cA (q 10) 201 (fun _ => 0), aN cA (q 11) 4 (fun _ => 0), aR cA (q 12) 5 (nA (fun _ => 0)), aN cA (q 13) 4 (fun _ => 0), aN cA (q 14) 4 (fun _ => 0)]) _ _ := Z.norm 9 rfl (tel_at (0, 0, nI 0, nI 0) _ rfl rfl rfl rfl) rfl
  have hqb : q 0 = b := by rw [hq]; rfl
  rw [show F0 m 129 ls [.int (nI 4), .int (nI 4), .ref b] = F0 m 129 ls [.int (nI 4), .int (nI 4), .ref (q 0)] by rw [hqb]]
  refine c_Vv (As := [.int (nI 4), .int (nI 4)]) (rest := []) (w2 := fun _ => [oM q 0 0 4 4 0 0 5, aN cA (q 1) 16 (fun _ => 0), aN cA (q 2) 8 (bt 0), aN cA (q 3) 8 (fun _ => 1), aN cA (q 4) 7 (fun _ => 99), aN cA (q 5) 7 (fun _ => 10), aN cA (q 6) 4 (fun _ => 0), aN cA (q 7) 6 (fun _ => 0), aN cA (q 8) 7 (fun _ => 0), aR cA (q 9) 4 (tel (0, 0, nI 0, nI 0)), aN cA (q 10) 201 (fun _ => 0), aN cA (q 11) 4 (fun _ => 0), aR cA (q 12) 5 (nA (fun _ => 0)), aN cA (q 13) 4 (fun _ => 0), aN cA (q 14) 4 (fun _ => 0)]) E Z (k_X6_begins l D cA q 0 4 4 0 0 5 (fun _ => 0) (fun _ => 0) (fun _ => 0) (fun _ => 0) (fun _ => 0) (fun _ => 0) 4 4 ) wv_X6_62 ⟨rfl, rfl, Nat.le_of_ble_eq_true rfl, Nat.le_of_ble_eq_true rfl⟩ [0, 1, 2, 3, 4, 5, 6] rfl rfl rfl rfl (q0 := 0) rfl (fun _ => rfl) (fun _ => rfl) rfl hl.1 rfl (Nat.le_of_ble_eq_true rfl) dX6_init_129 ⟨(Nat.le_of_ble_eq_true rfl), (Nat.le_of_ble_eq_true rfl)⟩ (fun _ H locs hp129 Z => ?_)
  refine W.widen (k := 14) (n := 285) (Nat.le_of_ble_eq_true rfl) (Nat.le_of_ble_eq_true rfl) ?_
  exact ret q Z dX6_init_132 rfl hqb

abbrev rm_k_J6_bitCount_0f7a4 : Room := { frames := 0, cells := 0, slots := 0, locals := 0 }
set_option maxHeartbeats 4000000 in
set_option maxRecDepth 100000 in
theorem k_J6_bitCount_0f7a4 (l : Launch) (D : va_G) (cA : ClassId) (n : Nat) (hn : n < 128) : Cti l yJ6_bitCount_0f7a4 cJ6_bitCount_0f7a4 1 (some .int) rm_k_J6_bitCount_0f7a4 D cA [.int (nI n)] ([]) (fun (r : Int32) (_ : Unit) => r = nI (pop n)) (fun _ => []) := by
  refine st_i (by decide) (Nat.le_of_ble_eq_true rfl) ?_
  intro p e s m args below meth c A Q E ret Z ls hl
  have hx := E.1.1
  have hb := E.1.2.1
  have hl : lv_has ls 1 [(0, .int (nI n))] := hl
  refine lv_iload_n hx hb dJ6_bitCount_0f7a4_0 rfl (lv_at hl 0 rfl) ?_
  refine lv_iload_n hx hb dJ6_bitCount_0f7a4_1 rfl (lv_at hl 0 rfl) ?_
  refine lv_iconst (v := nI 1) hx hb dJ6_bitCount_0f7a4_2 (by decide) ?_
  refine lv_iushr (v := ((nI n).toUInt32 >>> ((nI 1).toUInt32 &&& Int32.toUInt32 31)).toInt32) hx hb dJ6_bitCount_0f7a4_3 rfl ?_
  refine lv_ldcw (v := 1431655765) hx hb E.1.2.2.2.1 (E.1.2.2.2.2 _ mK_J6_265) dJ6_bitCount_0f7a4_4 ?_
  refine r_top (y := nI 1431655765) (by decide) ?_
  refine lv_iand hx hb dJ6_bitCount_0f7a4_7 ?_
  refine lv_isub hx hb dJ6_bitCount_0f7a4_8 ?_
  refine r_top (y := (bc1 (nI n))) rfl ?_
  refine lv_istore_n (lv' := [(0, .int (bc1 (nI n)))]) hx hb dJ6_bitCount_0f7a4_9 rfl hl (by decide) rfl (fun ls hl => ?_)
  refine lv_iload_n hx hb dJ6_bitCount_0f7a4_10 rfl (lv_at hl 0 rfl) ?_
  refine lv_ldcw (v := 858993459) hx hb E.1.2.2.2.1 (E.1.2.2.2.2 _ mK_J6_266) dJ6_bitCount_0f7a4_11 ?_
  refine r_top (y := nI 858993459) (by decide) ?_
  refine lv_iand hx hb dJ6_bitCount_0f7a4_14 ?_
  refine lv_iload_n hx hb dJ6_bitCount_0f7a4_15 rfl (lv_at hl 0 rfl) ?_
  refine lv_iconst (v := nI 2) hx hb dJ6_bitCount_0f7a4_16 (by decide) ?_
  refine lv_iushr (v := ((bc1 (nI n)).toUInt32 >>> ((nI 2).toUInt32 &&& Int32.toUInt32 31)).toInt32) hx hb dJ6_bitCount_0f7a4_17 rfl ?_
  refine lv_ldcw (v := 858993459) hx hb E.1.2.2.2.1 (E.1.2.2.2.2 _ mK_J6_266) dJ6_bitCount_0f7a4_18 ?_
  refine r_top (y := nI 858993459) (by decide) ?_
  refine lv_iand hx hb dJ6_bitCount_0f7a4_21 ?_
  refine lv_iadd hx hb dJ6_bitCount_0f7a4_22 ?_
  refine r_top (y := (bc2 (bc1 (nI n)))) rfl ?_
  refine lv_istore_n (lv' := [(0, .int (bc2 (bc1 (nI n))))]) hx hb dJ6_bitCount_0f7a4_23 rfl hl (by decide) rfl (fun ls hl => ?_)
  refine lv_iload_n hx hb dJ6_bitCount_0f7a4_24 rfl (lv_at hl 0 rfl) ?_
  refine lv_iload_n hx hb dJ6_bitCount_0f7a4_25 rfl (lv_at hl 0 rfl) ?_
  refine lv_iconst (v := nI 4) hx hb dJ6_bitCount_0f7a4_26 (by decide) ?_
  refine lv_iushr (v := ((bc2 (bc1 (nI n))).toUInt32 >>> ((nI 4).toUInt32 &&& Int32.toUInt32 31)).toInt32) hx hb dJ6_bitCount_0f7a4_27 rfl ?_
  refine lv_iadd hx hb dJ6_bitCount_0f7a4_28 ?_
  refine lv_ldcw (v := 252645135) hx hb E.1.2.2.2.1 (E.1.2.2.2.2 _ mK_J6_267) dJ6_bitCount_0f7a4_29 ?_
  refine r_top (y := nI 252645135) (by decide) ?_
  refine lv_iand hx hb dJ6_bitCount_0f7a4_32 ?_
  refine r_top (y := (bc3 (bc2 (bc1 (nI n))))) rfl ?_
  refine lv_istore_n (lv' := [(0, .int (bc3 (bc2 (bc1 (nI n)))))]) hx hb dJ6_bitCount_0f7a4_33 rfl hl (by decide) rfl (fun ls hl => ?_)
  refine lv_iload_n hx hb dJ6_bitCount_0f7a4_34 rfl (lv_at hl 0 rfl) ?_
  refine lv_iload_n hx hb dJ6_bitCount_0f7a4_35 rfl (lv_at hl 0 rfl) ?_
  refine lv_bipush (v := nI 8) hx hb dJ6_bitCount_0f7a4_36 (by decide) ?_
  refine lv_iushr (v := ((bc3 (bc2 (bc1 (nI n)))).toUInt32 >>> ((nI 8).toUInt32 &&& Int32.toUInt32 31)).toInt32) hx hb dJ6_bitCount_0f7a4_38 rfl ?_
  refine lv_iadd hx hb dJ6_bitCount_0f7a4_39 ?_
  refine r_top (y := (bc4 (bc3 (bc2 (bc1 (nI n)))))) rfl ?_
  refine lv_istore_n (lv' := [(0, .int (bc4 (bc3 (bc2 (bc1 (nI n))))))]) hx hb dJ6_bitCount_0f7a4_40 rfl hl (by decide) rfl (fun ls hl => ?_)
  refine lv_iload_n hx hb dJ6_bitCount_0f7a4_41 rfl (lv_at hl 0 rfl) ?_
  refine lv_iload_n hx hb dJ6_bitCount_0f7a4_42 rfl (lv_at hl 0 rfl) ?_
  refine lv_bipush (v := nI 16) hx hb dJ6_bitCount_0f7a4_43 (by decide) ?_
  refine lv_iushr (v := ((bc4 (bc3 (bc2 (bc1 (nI n))))).toUInt32 >>> ((nI 16).toUInt32 &&& Int32.toUInt32 31)).toInt32) hx hb dJ6_bitCount_0f7a4_45 rfl ?_
  refine lv_iadd hx hb dJ6_bitCount_0f7a4_46 ?_
  refine r_top (y := (bc5 (bc4 (bc3 (bc2 (bc1 (nI n))))))) rfl ?_
  refine lv_istore_n (lv' := [(0, .int (bc5 (bc4 (bc3 (bc2 (bc1 (nI n)))))))]) hx hb dJ6_bitCount_0f7a4_47 rfl hl (by decide) rfl (fun ls hl => ?_)
  refine lv_iload_n hx hb dJ6_bitCount_0f7a4_48 rfl (lv_at hl 0 rfl) ?_
  refine lv_bipush (v := nI 63) hx hb dJ6_bitCount_0f7a4_49 (by decide) ?_
  refine lv_iand hx hb dJ6_bitCount_0f7a4_51 ?_
  exact ret () Z dJ6_bitCount_0f7a4_52 rfl (bc_ok n hn)
abbrev rm_k_J7_fill_53178 : Room := { frames := 0, cells := 0, slots := 0, locals := 0 }
set_option maxHeartbeats 4000000 in
set_option maxRecDepth 100000 in
theorem k_J7_fill_53178 (l : Launch) (D : va_G) (cA : ClassId) (q : Nat) (n : Nat) (f : Nat → Nat) (fv : Nat) (hn : n < 1000) : Ctv l yJ7_fill_53178 cJ7_fill_53178 4 none rm_k_J7_fill_53178 D cA [.ref q, .int (nI fv)] ([aN cA q n f]) (fun (_ : Unit) => True) (fun _ => [aN cA q n (fun _ => fv)]) := by
  refine st_v (by decide) (Nat.le_of_ble_eq_true rfl) ?_
  intro p e s m args below meth c A Q E ret Z ls hl
  have hx := E.1.1
  have hb := E.1.2.1
  have hl : lv_has ls 4 [(0, .ref q), (1, .int (nI fv))] := hl
  refine lv_iconst (v := nI 0) hx hb dJ7_fill_53178_0 (by decide) ?_
  refine lv_istore_n (lv' := [(2, .int (nI 0)), (0, .ref q), (1, .int (nI fv))]) hx hb dJ7_fill_53178_1 rfl hl (by decide) rfl (fun ls hl => ?_)
  refine lv_aload_n hx hb dJ7_fill_53178_2 rfl (lv_at hl 1 rfl) ?_
  refine r_alen E Z dJ7_fill_53178_3 0 rfl ?_
  refine lv_istore_n (lv' := [(3, .int (nI n)), (2, .int (nI 0)), (0, .ref q), (1, .int (nI fv))]) hx hb dJ7_fill_53178_4 rfl hl (by decide) rfl (fun ls hl => ?_)
  have L5 : ∀ (n5 i : Nat), n + 1 ≤ i + n5 → i ≤ n → ∀ (H : Heap) (locs : List Loc), Wd D A s ([aN cA q n (fillF f fv i)]) H locs → ∀ (ls : Array Slot), lv_has ls 4 [(0, .ref q), (1, .int (nI fv)), (2, .int (nI i)), (3, .int (nI n))] → W p l e rm_k_J7_fill_53178 s m args below meth c H locs 0 0 Q (F0 m 5 ls []) := by
    intro n5
    induction n5 with
    | zero => exact fun i h1 h2 => absurd h1 (by omega)
    | succ n5 ih5 =>
      intro i hn5 hi5  H locs Z ls hl
      refine lv_iload_n hx hb dJ7_fill_53178_5 rfl (lv_at hl 2 rfl) ?_
      refine lv_iload_n hx hb dJ7_fill_53178_6 rfl (lv_at hl 3 rfl) ?_
      refine n_icmp_ge (tgt := 20) hx hb dJ7_fill_53178_7 (by decide) (by omega) (by omega) (fun c7 => ?_) (fun c7 => ?_)
      · obtain rfl : n = i := by omega
        replace Z : Wd D A s ([aN cA q n (fun _ => fv)]) _ _ := Z.norm 0 rfl (fun j hj => congrArg nI (fillF_at f fv n j hj)) rfl
        exact ret () Z dJ7_fill_53178_20 rfl trivial
      · refine lv_aload_n hx hb dJ7_fill_53178_10 rfl (lv_at hl 0 rfl) ?_
        refine lv_iload_n hx hb dJ7_fill_53178_11 rfl (lv_at hl 2 rfl) ?_
        refine lv_iload_n hx hb dJ7_fill_53178_12 rfl (lv_at hl 1 rfl) ?_
        refine r_ast (w1 := [aN cA q n (up (fillF f fv i) i fv)]) E Z dJ7_fill_53178_13 0 rfl (by omega) hn rfl (fun H locs Z => ?_)
        refine lv_iinc (v := nI (i + 1)) (lv' := [(2, .int (nI (i + 1))), (0, .ref q), (1, .int (nI fv)), (3, .int (nI n))]) hx hb dJ7_fill_53178_14 hl (k := 2) rfl (n_inc _ _ (by decide)) (by decide) rfl (fun ls hl => ?_)
        refine lv_goto (tgt := 5) hx hb dJ7_fill_53178_17 (by decide) ?_
        exact ih5 (i + 1) (by omega) (by omega)   _ _ Z ls (lv_sub hl [1, 2, 0, 3] rfl)
  exact L5 (n + 1) 0 (by omega) (by omega)   _ _ Z ls (lv_sub hl [2, 3, 1, 0] rfl)
abbrev rm_k_X0_cellOf : Room := { frames := 0, cells := 0, slots := 0, locals := 0 }
set_option maxHeartbeats 4000000 in
set_option maxRecDepth 100000 in
theorem k_X0_cellOf (l : Launch) (D : va_G) (cA : ClassId) (q : Nat) (qm : Nat) (mc : Nat) (n : Nat) (k : Nat) (hn : n < 2 ^ 31) (hk : k < 16) : Cti l yX0_cellOf cX0_cellOf 2 (some .int) rm_k_X0_cellOf D cA [.ref q, .int (nI k)] ([oG q qm mc n]) (fun (r : Int32) (_ : Unit) => r = nI (cl n k)) (fun _ => [oG q qm mc n]) := by
  refine st_i (by decide) (Nat.le_of_ble_eq_true rfl) ?_
  intro p e s m args below meth c A Q E ret Z ls hl
  have hx := E.1.1
  have hb := E.1.2.1
  have hl : lv_has ls 2 [(0, .ref q), (1, .int (nI k))] := hl
  refine lv_aload_n hx hb dX0_cellOf_0 rfl (lv_at hl 0 rfl) ?_
  refine gF_X0_15 E Z dX0_cellOf_1 0 rfl rfl ?_
  refine lv_iconst (v := nI 2) hx hb dX0_cellOf_4 (by decide) ?_
  refine lv_iload_n hx hb dX0_cellOf_5 rfl (lv_at hl 1 rfl) ?_
  refine n_imul hx hb dX0_cellOf_6 ?_
  refine n_ishr hx hb dX0_cellOf_7 (by omega) (by omega) ?_
  refine lv_iconst (v := nI 3) hx hb dX0_cellOf_8 (by decide) ?_
  refine n_iand3 hx hb dX0_cellOf_9 ?_
  refine r_top (y := nI (cl n k)) rfl ?_
  exact ret () Z dX0_cellOf_10 rfl rfl
abbrev rm_k_X0_become : Room := { frames := 1, cells := 0, slots := 0, locals := 23 }
set_option maxHeartbeats 4000000 in
set_option maxRecDepth 100000 in
theorem k_X0_become (l : Launch) (D : va_G) (cA : ClassId) (q : Nat) (qm : Nat) (mc : Nat) (n : Nat) (mem : Nat → Nat) (g : Nat) (M : Nat) (hg : g < 2 ^ 31) (hM : M ≤ 7) : Ctv l yX0_become cX0_become 4 none rm_k_X0_become D cA [.ref q, .int (nI g), .int (nI M)] ([oG q qm mc n, aN cA qm 4 mem]) (fun (_ : Unit) => True) (fun _ => [oG q qm M g, aN cA qm 4 (mF g M)]) := by
  refine st_v (by decide) (Nat.le_of_ble_eq_true rfl) ?_
  intro p e s m args below meth c A Q E ret Z ls hl
  have hx := E.1.1
  have hb := E.1.2.1
  have hl : lv_has ls 4 [(0, .ref q), (1, .int (nI g)), (2, .int (nI M))] := hl
  refine lv_aload_n hx hb dX0_become_0 rfl (lv_at hl 0 rfl) ?_
  refine lv_iload_n hx hb dX0_become_1 rfl (lv_at hl 1 rfl) ?_
  refine pF_X0_15 (w1 := [oG q qm mc g, aN cA qm 4 mem]) E Z dX0_become_2 0 rfl (Nat.le_of_ble_eq_true rfl) rfl (fun H locs Z => ?_)
  refine lv_aload_n hx hb dX0_become_5 rfl (lv_at hl 0 rfl) ?_
  refine lv_iload_n hx hb dX0_become_6 rfl (lv_at hl 2 rfl) ?_
  refine pF_X0_19 (w1 := [oG q qm M g, aN cA qm 4 mem]) E Z dX0_become_7 0 rfl (Nat.le_of_ble_eq_true rfl) rfl (fun H locs Z => ?_)
  refine lv_aload_n hx hb dX0_become_10 rfl (lv_at hl 0 rfl) ?_
  refine gF_X0_9 E Z dX0_become_11 0 rfl rfl ?_
  refine lv_iconst (v := nI 0) hx hb dX0_become_14 (by decide) ?_
  refine c_Sv (As := [.ref qm, .int (nI 0)]) (rest := []) (w2 := fun _ => [oG q qm M g, aN cA qm 4 (fun _ => 0)]) E Z (k_J7_fill_53178 l D cA qm 4 mem 0 (by decide)) ws_X0_22 ⟨rfl, rfl, Nat.le_of_ble_eq_true rfl, Nat.le_of_ble_eq_true rfl⟩ [1] rfl rfl (fun _ => rfl) (fun _ => rfl) rfl hl.1 rfl (Nat.le_of_ble_eq_true rfl) dX0_become_15 ⟨Nat.zero_le _, Nat.zero_le _⟩ (fun _ H locs hp15 Z => ?_)
  refine lv_iconst (v := nI 0) hx hb dX0_become_18 (by decide) ?_
  refine lv_istore_n (lv' := [(3, .int (nI 0)), (0, .ref q), (1, .int (nI g)), (2, .int (nI M))]) hx hb dX0_become_19 rfl hl (by decide) rfl (fun ls hl => ?_)
  have L20 : ∀ (n20 i : Nat), M + 1 ≤ i + n20 → i ≤ M → ∀ (H : Heap) (locs : List Loc), Wd D A s ([oG q qm M g, aN cA qm 4 (mF g i)]) H locs → ∀ (ls : Array Slot), lv_has ls 4 [(0, .ref q), (1, .int (nI g)), (2, .int (nI M)), (3, .int (nI i))] → W p l e rm_k_X0_become s m args below meth c H locs 0 0 Q (F0 m 20 ls []) := by
    intro n20
    induction n20 with
    | zero => exact fun i h1 h2 => absurd h1 (by omega)
    | succ n20 ih20 =>
      intro i hn20 hi20  H locs Z ls hl
      refine lv_iload_n hx hb dX0_become_20 rfl (lv_at hl 3 rfl) ?_
      refine lv_aload_n hx hb dX0_become_21 rfl (lv_at hl 0 rfl) ?_
      refine gF_X0_19 E Z dX0_become_22 0 rfl rfl ?_
      refine n_icmp_ge (tgt := 50) hx hb dX0_become_25 (by decide) (by omega) (by omega) (fun c25 => ?_) (fun c25 => ?_)
      · obtain rfl : M = i := by omega
        exact ret () Z dX0_become_50 rfl trivial
      · refine lv_aload_n hx hb dX0_become_28 rfl (lv_at hl 0 rfl) ?_
        refine gF_X0_9 E Z dX0_become_29 0 rfl rfl ?_
        refine lv_aload_n hx hb dX0_become_32 rfl (lv_at hl 0 rfl) ?_
        refine lv_iload_n hx hb dX0_become_33 rfl (lv_at hl 3 rfl) ?_
        refine c_Vi (As := [.int (nI i)]) (rest := [.ref qm]) (w2 := fun _ => [oG q qm M g, aN cA qm 4 (mF g i)]) E Z (k_X0_cellOf l D cA q qm M g i (by first | assumption | omega) (by first | assumption | omega)) wv_X0_28 ⟨rfl, rfl, Nat.le_of_ble_eq_true rfl, Nat.le_of_ble_eq_true rfl⟩ [0] rfl rfl rfl rfl (q0 := 0) rfl (fun _ => rfl) (fun _ => rfl) rfl hl.1 rfl (Nat.le_of_ble_eq_true rfl) dX0_become_34 ⟨Nat.zero_le _, Nat.zero_le _⟩ (fun r34 _ H locs hp34 Z => ?_)
        subst hp34
        refine lv_dup2_11 hx hb dX0_become_37 rfl rfl ?_
        refine r_ald E Z dX0_become_38 1 rfl (cl_lt _ _) (by decide) ?_
        refine lv_iconst (v := nI 1) hx hb dX0_become_39 (by decide) ?_
        refine lv_iload_n hx hb dX0_become_40 rfl (lv_at hl 3 rfl) ?_
        refine n_ishl1 hx hb dX0_become_41 (by omega) ?_
        refine n_ior hx hb dX0_become_42 ?_
        refine r_ast (w1 := [oG q qm M g, aN cA qm 4 (up (mF g i) (cl g i) (((mF g i) (cl g i)) ||| (2 ^ i)))]) E Z dX0_become_43 1 rfl (cl_lt _ _) (by decide) rfl (fun H locs Z => ?_)
        refine lv_iinc (v := nI (i + 1)) (lv' := [(3, .int (nI (i + 1))), (0, .ref q), (1, .int (nI g)), (2, .int (nI M))]) hx hb dX0_become_44 hl (k := 3) rfl (n_inc _ _ (by decide)) (by decide) rfl (fun ls hl => ?_)
        refine lv_goto (tgt := 20) hx hb dX0_become_47 (by decide) ?_
        exact ih20 (i + 1) (by omega) (by omega)   _ _ Z ls (lv_sub hl [1, 2, 3, 0] rfl)
  exact L20 (M + 1) 0 (by omega) (by omega)   _ _ Z ls (lv_sub hl [1, 2, 3, 0] rfl)
abbrev rm_k_X0_put : Room := { frames := 2, cells := 0, slots := 0, locals := 46 }
set_option maxHeartbeats 4000000 in
set_option maxRecDepth 100000 in
theorem k_X0_put (l : Launch) (D : va_G) (cA : ClassId) (q : Nat) (qm : Nat) (mc : Nat) (n : Nat) (mem : Nat → Nat) (k : Nat) (d : Nat) (hn : n < 2 ^ (2 * mc)) (hM : mc ≤ 7) (hk : k < mc) (hd : d < 4) : Ctv l yX0_put cX0_put 4 none rm_k_X0_put D cA [.ref q, .int (nI k), .int (nI d)] ([oG q qm mc n, aN cA qm 4 mem]) (fun (_ : Unit) => True) (fun _ => [oG q qm mc (pt n k d), aN cA qm 4 (mF (pt n k d) mc)]) := by
  refine st_v (by decide) (Nat.le_of_ble_eq_true rfl) ?_
  intro p e s m args below meth c A Q E ret Z ls hl
  have hx := E.1.1
  have hb := E.1.2.1
  have hl : lv_has ls 4 [(0, .ref q), (1, .int (nI k)), (2, .int (nI d))] := hl
  have h14 : 2 ^ (2 * mc) ≤ 2 ^ 14 := Nat.pow_le_pow_right (by decide) (by omega)
  have hp := pt_lt hn hk hd
  refine lv_aload_n hx hb dX0_put_0 rfl (lv_at hl 0 rfl) ?_
  refine gF_X0_15 E Z dX0_put_1 0 rfl rfl ?_
  refine lv_iconst (v := nI 3) hx hb dX0_put_4 (by decide) ?_
  refine lv_iconst (v := nI 2) hx hb dX0_put_5 (by decide) ?_
  refine lv_iload_n hx hb dX0_put_6 rfl (lv_at hl 1 rfl) ?_
  refine n_imul hx hb dX0_put_7 ?_
  refine n_ishl hx hb dX0_put_8 (by omega) ?_
  refine lv_iconst (v := (-1)) hx hb dX0_put_9 (by decide) ?_
  refine lv_ixor hx hb dX0_put_10 ?_
  refine lv_iand hx hb dX0_put_11 ?_
  refine r_top (y := nI (n - cl n k * 2 ^ (2 * k))) (nI_clr (by omega) (by omega)) ?_
  refine lv_istore_n (lv' := [(3, .int (nI (n - cl n k * 2 ^ (2 * k)))), (0, .ref q), (1, .int (nI k)), (2, .int (nI d))]) hx hb dX0_put_12 rfl hl (by decide) rfl (fun ls hl => ?_)
  refine lv_aload_n hx hb dX0_put_13 rfl (lv_at hl 1 rfl) ?_
  refine lv_iload_n hx hb dX0_put_14 rfl (lv_at hl 0 rfl) ?_
  refine lv_iload_n hx hb dX0_put_15 rfl (lv_at hl 3 rfl) ?_
  refine lv_iconst (v := nI 2) hx hb dX0_put_16 (by decide) ?_
  refine lv_iload_n hx hb dX0_put_17 rfl (lv_at hl 2 rfl) ?_
  refine n_imul hx hb dX0_put_18 ?_
  refine n_ishl hx hb dX0_put_19 (by omega) ?_
  refine n_ior hx hb dX0_put_20 ?_
  refine r_top (y := nI (pt n k d)) (congrArg nI (pt_or hd)) ?_
  refine lv_aload_n hx hb dX0_put_21 rfl (lv_at hl 1 rfl) ?_
  refine gF_X0_19 E Z dX0_put_22 0 rfl rfl ?_
  refine c_Vv (As := [.int (nI (pt n k d)), .int (nI mc)]) (rest := []) (w2 := fun _ => [oG q qm mc (pt n k d), aN cA qm 4 (mF (pt n k d) mc)]) E Z (k_X0_become l D cA q qm mc n mem (pt n k d) mc (by first | assumption | omega) (by first | assumption | omega)) wv_X0_32 ⟨rfl, rfl, Nat.le_of_ble_eq_true rfl, Nat.le_of_ble_eq_true rfl⟩ [0, 1] rfl rfl rfl rfl (q0 := 0) rfl (fun _ => rfl) (fun _ => rfl) rfl hl.1 rfl (Nat.le_of_ble_eq_true rfl) dX0_put_25 ⟨Nat.zero_le _, Nat.zero_le _⟩ (fun _ H locs hp25 Z => ?_)
  exact ret () Z dX0_put_28 rfl trivial
abbrev rm_k_X0_numbered : Room := { frames := 0, cells := 0, slots := 0, locals := 0 }
set_option maxHeartbeats 4000000 in
set_option maxRecDepth 100000 in
theorem k_X0_numbered (l : Launch) (D : va_G) (cA : ClassId) (q : Nat) (qm : Nat) (mc : Nat) (n : Nat)  : Cti l yX0_numbered cX0_numbered 1 (some .int) rm_k_X0_numbered D cA [.ref q] ([oG q qm mc n]) (fun (r : Int32) (_ : Unit) => r = nI n) (fun _ => [oG q qm mc n]) := by
  refine st_i (by decide) (Nat.le_of_ble_eq_true rfl) ?_
  intro p e s m args below meth c A Q E ret Z ls hl
  have hx := E.1.1
  have hb := E.1.2.1
  have hl : lv_has ls 1 [(0, .ref q)] := hl
  refine lv_aload_n hx hb dX0_numbered_0 rfl (lv_at hl 0 rfl) ?_
  refine gF_X0_15 E Z dX0_numbered_1 0 rfl rfl ?_
  exact ret () Z dX0_numbered_4 rfl rfl
abbrev rm_k_X0_isPlain : Room := { frames := 0, cells := 0, slots := 0, locals := 0 }
set_option maxHeartbeats 4000000 in
set_option maxRecDepth 100000 in
theorem k_X0_isPlain (l : Launch) (D : va_G) (cA : ClassId) (g : Nat) (M : Nat) (hg : g < 2 ^ 31) (hM : M ≤ 7) : Cti l yX0_isPlain cX0_isPlain 5 (some .boolean) rm_k_X0_isPlain D cA [.int (nI g), .int (nI M)] ([]) (fun (r : Int32) (_ : Unit) => r = bI (plain M g)) (fun _ => []) := by
  refine st_z (by decide) (Nat.le_of_ble_eq_true rfl) ?_
  intro p e s m args below meth c A Q E ret Z ls hl
  have hx := E.1.1
  have hb := E.1.2.1
  have hl : lv_has ls 5 [(0, .int (nI g)), (1, .int (nI M))] := hl
  refine lv_iconst (v := nI 0) hx hb dX0_isPlain_0 (by decide) ?_
  refine lv_istore_n (lv' := [(2, .int (nI 0)), (0, .int (nI g)), (1, .int (nI M))]) hx hb dX0_isPlain_1 rfl hl (by decide) rfl (fun ls hl => ?_)
  refine lv_iconst (v := nI 0) hx hb dX0_isPlain_2 (by decide) ?_
  refine lv_istore_n (lv' := [(3, .int (nI 0)), (2, .int (nI 0)), (0, .int (nI g)), (1, .int (nI M))]) hx hb dX0_isPlain_3 rfl hl (by decide) rfl (fun ls hl => ?_)
  have L4 : ∀ (n4 i : Nat), M + 1 ≤ i + n4 → i ≤ M → (∀ j, j < i → cl g j ≤ opn g j) → ∀ (H : Heap) (locs : List Loc), Wd D A s ([]) H locs → ∀ (ls : Array Slot), lv_has ls 5 [(0, .int (nI g)), (1, .int (nI M)), (2, .int (nI (opn g i))), (3, .int (nI i))] → W p l e rm_k_X0_isPlain s m args below meth c H locs 0 0 Q (F0 m 4 ls []) := by
    intro n4
    induction n4 with
    | zero => exact fun i h1 h2 => absurd h1 (by omega)
    | succ n4 ih4 =>
      intro i hn4 hi4 hv H locs Z ls hl
      refine lv_iload_n hx hb dX0_isPlain_4 rfl (lv_at hl 3 rfl) ?_
      refine lv_iload_n hx hb dX0_isPlain_5 rfl (lv_at hl 1 rfl) ?_
      refine n_icmp_ge (tgt := 41) hx hb dX0_isPlain_6 (by decide) (by omega) (by omega) (fun c6 => ?_) (fun c6 => ?_)
      · obtain rfl : M = i := by omega
        refine lv_iconst (v := nI 1) hx hb dX0_isPlain_41 (by decide) ?_
        exact ret () Z dX0_isPlain_42 (Or.inr nI_one) rfl (nI_one.trans (bI_t hv).symm)
      · refine lv_iload_n hx hb dX0_isPlain_9 rfl (lv_at hl 0 rfl) ?_
        refine lv_iconst (v := nI 2) hx hb dX0_isPlain_10 (by decide) ?_
        refine lv_iload_n hx hb dX0_isPlain_11 rfl (lv_at hl 3 rfl) ?_
        refine n_imul hx hb dX0_isPlain_12 ?_
        refine n_ishr hx hb dX0_isPlain_13 (by omega) (by omega) ?_
        refine lv_iconst (v := nI 3) hx hb dX0_isPlain_14 (by decide) ?_
        refine n_iand3 hx hb dX0_isPlain_15 ?_
        refine r_top (y := nI (cl g i)) rfl ?_
        refine lv_istore (lv' := [(4, .int (nI (cl g i))), (0, .int (nI g)), (1, .int (nI M)), (2, .int (nI (opn g i))), (3, .int (nI i))]) hx hb dX0_isPlain_16 hl (by decide) rfl (fun ls hl => ?_)
        have h4 := cl_lt g i
        have ho := opn_le g i
        refine lv_iload hx hb dX0_isPlain_18 (lv_at hl 0 rfl) ?_
        refine lv_iload_n hx hb dX0_isPlain_20 rfl (lv_at hl 3 rfl) ?_
        refine n_icmp_le (tgt := 26) hx hb dX0_isPlain_21 (by decide) (by omega) (by omega) (fun c21 => ?_) (fun c21 => ?_)
        · refine lv_iload hx hb dX0_isPlain_26 (lv_at hl 0 rfl) ?_
          refine lv_iload_n hx hb dX0_isPlain_28 rfl (lv_at hl 3 rfl) ?_
          refine n_icmp_ne (tgt := 35) hx hb dX0_isPlain_29 (by decide) (by omega) (by omega) (fun c29 => ?_) (fun c29 => ?_)
          · replace hl : lv_has ls 5 [(4, .int (nI (cl g i))), (0, .int (nI g)), (1, .int (nI M)), (2, .int (nI (opn g (i + 1)))), (3, .int (nI i))] := by rw [show opn g (i + 1) = opn g i from if_neg c29]; exact hl
            refine lv_iinc (v := nI (i + 1)) (lv' := [(3, .int (nI (i + 1))), (4, .int (nI (cl g i))), (0, .int (nI g)), (1, .int (nI M)), (2, .int (nI (opn g (i + 1))))]) hx hb dX0_isPlain_35 hl (k := 4) rfl (n_inc _ _ (by decide)) (by decide) rfl (fun ls hl => ?_)
            refine lv_goto (tgt := 4) hx hb dX0_isPlain_38 (by decide) ?_
            exact ih4 (i + 1) (by omega) (by omega)  (fun j h => (Nat.lt_succ_iff_lt_or_eq.mp h).elim (hv j) (fun q => q ▸ c21)) _ _ Z ls (lv_sub hl [2, 3, 4, 0] rfl)
          · refine lv_iinc (v := nI (opn g i + 1)) (lv' := [(2, .int (nI (opn g i + 1))), (4, .int (nI (cl g i))), (0, .int (nI g)), (1, .int (nI M)), (3, .int (nI i))]) hx hb dX0_isPlain_32 hl (k := 3) rfl (n_inc _ _ (by decide)) (by decide) rfl (fun ls hl => ?_)
            replace hl : lv_has ls 5 [(2, .int (nI (opn g (i + 1)))), (4, .int (nI (cl g i))), (0, .int (nI g)), (1, .int (nI M)), (3, .int (nI i))] := by rw [show opn g (i + 1) = opn g i + 1 from if_pos c29]; exact hl
            refine lv_iinc (v := nI (i + 1)) (lv' := [(3, .int (nI (i + 1))), (2, .int (nI (opn g (i + 1)))), (4, .int (nI (cl g i))), (0, .int (nI g)), (1, .int (nI M))]) hx hb dX0_isPlain_35 hl (k := 4) rfl (n_inc _ _ (by decide)) (by decide) rfl (fun ls hl => ?_)
            refine lv_goto (tgt := 4) hx hb dX0_isPlain_38 (by decide) ?_
            exact ih4 (i + 1) (by omega) (by omega)  (fun j h => (Nat.lt_succ_iff_lt_or_eq.mp h).elim (hv j) (fun q => q ▸ c21)) _ _ Z ls (lv_sub hl [3, 4, 1, 0] rfl)
        · refine lv_iconst (v := nI 0) hx hb dX0_isPlain_24 (by decide) ?_
          exact ret () Z dX0_isPlain_25 (Or.inl nI_0) rfl (nI_0.trans (bI_f (fun h => absurd (h i (by omega)) (by omega))).symm)
  exact L4 (M + 1) 0 (by omega) (by omega)  (fun j h => absurd h (Nat.not_lt_zero j)) _ _ Z ls (lv_sub hl [2, 3, 1, 0] rfl)
abbrev rm_k_X0_homeOf : Room := { frames := 1, cells := 0, slots := 0, locals := 20 }
set_option maxHeartbeats 4000000 in
set_option maxRecDepth 100000 in
theorem k_X0_homeOf (l : Launch) (D : va_G) (cA : ClassId) (q : Nat) (qm : Nat) (mc : Nat) (n : Nat) (mem : Nat → Nat) (st : Nat) (hm0 : mOk mc n mem) (hM : mc ≤ 7) : Cti l yX0_homeOf cX0_homeOf 6 (some .int) rm_k_X0_homeOf D cA [.ref q, .int (nI st)] ([oG q qm mc n, aN cA qm 4 mem]) (fun (r : Int32) (_ : Unit) => r = nI (hm mc n st)) (fun _ => [oG q qm mc n, aN cA qm 4 mem]) := by
  refine st_i (by decide) (Nat.le_of_ble_eq_true rfl) ?_
  intro p e s m args below meth c A Q E ret Z ls hl
  have hx := E.1.1
  have hb := E.1.2.1
  have hl : lv_has ls 6 [(0, .ref q), (1, .int (nI st))] := hl
  refine lv_iconst (v := nI 0) hx hb dX0_homeOf_0 (by decide) ?_
  refine lv_istore_n (lv' := [(2, .int (nI 0)), (0, .ref q), (1, .int (nI st))]) hx hb dX0_homeOf_1 rfl hl (by decide) rfl (fun ls hl => ?_)
  refine lv_iconst (v := nI 0) hx hb dX0_homeOf_2 (by decide) ?_
  refine lv_istore_n (lv' := [(3, .int (nI 0)), (2, .int (nI 0)), (0, .ref q), (1, .int (nI st))]) hx hb dX0_homeOf_3 rfl hl (by decide) rfl (fun ls hl => ?_)
  refine lv_iconst (v := nI 0) hx hb dX0_homeOf_4 (by decide) ?_
  refine lv_istore (lv' := [(4, .int (nI 0)), (3, .int (nI 0)), (2, .int (nI 0)), (0, .ref q), (1, .int (nI st))]) hx hb dX0_homeOf_5 hl (by decide) rfl (fun ls hl => ?_)
  have L7 : ∀ (n7 k : Nat), 4 + 1 ≤ k + n7 → k ≤ 4 → ∀ (H : Heap) (locs : List Loc), Wd D A s ([oG q qm mc n, aN cA qm 4 mem]) H locs → ∀ (ls : Array Slot), lv_has ls 6 [(0, .ref q), (1, .int (nI st)), (2, .int (nI (hmi mc n st k))), (3, .int (nI (mx mc n st k))), (4, .int (nI k))] → W p l e rm_k_X0_homeOf s m args below meth c H locs 0 0 Q (F0 m 7 ls []) := by
    intro n7
    induction n7 with
    | zero => exact fun k h1 h2 => absurd h1 (by omega)
    | succ n7 ih7 =>
      intro k hn7 hi7  H locs Z ls hl
      refine lv_iload hx hb dX0_homeOf_7 (lv_at hl 4 rfl) ?_
      refine lv_iconst (v := nI 4) hx hb dX0_homeOf_9 (by decide) ?_
      refine n_icmp_ge (tgt := 45) hx hb dX0_homeOf_10 (by decide) (by omega) (by omega) (fun c10 => ?_) (fun c10 => ?_)
      · obtain rfl : 4 = k := by omega
        refine lv_iload_n hx hb dX0_homeOf_45 rfl (lv_at hl 2 rfl) ?_
        exact ret () Z dX0_homeOf_46 rfl rfl
      · refine lv_aload_n hx hb dX0_homeOf_13 rfl (lv_at hl 0 rfl) ?_
        refine gF_X0_9 E Z dX0_homeOf_14 0 rfl rfl ?_
        refine lv_iload hx hb dX0_homeOf_17 (lv_at hl 4 rfl) ?_
        refine r_ald E Z dX0_homeOf_19 1 rfl (by omega) (by decide) ?_
        refine lv_iload_n hx hb dX0_homeOf_20 rfl (lv_at hl 1 rfl) ?_
        refine n_iand hx hb dX0_homeOf_21 ?_
        refine c_Si (As := [.int (nI ((mem k) &&& st))]) (rest := []) (w2 := fun _ => [oG q qm mc n, aN cA qm 4 mem]) E Z (k_J6_bitCount_0f7a4 l D cA ((mem k) &&& st) (Nat.lt_of_le_of_lt Nat.and_le_left (hm0 k (by omega)).1)) ws_X0_36 ⟨rfl, rfl, Nat.le_of_ble_eq_true rfl, Nat.le_of_ble_eq_true rfl⟩ [] rfl rfl (fun _ => rfl) (fun _ => rfl) rfl hl.1 rfl (Nat.le_of_ble_eq_true rfl) dX0_homeOf_22 ⟨Nat.zero_le _, Nat.zero_le _⟩ (fun r22 _ H locs hp22 Z => ?_)
        subst hp22
        refine r_top (y := nI (ic mc n st k)) (congrArg nI (pop_ic hm0 hM (by omega))) ?_
        refine lv_istore (lv' := [(5, .int (nI (ic mc n st k))), (0, .ref q), (1, .int (nI st)), (2, .int (nI (hmi mc n st k))), (3, .int (nI (mx mc n st k))), (4, .int (nI k))]) hx hb dX0_homeOf_25 hl (by decide) rfl (fun ls hl => ?_)
        have h1 := ic_le mc n st k
        have h2 := mx_le mc n st k
        refine lv_iload hx hb dX0_homeOf_27 (lv_at hl 0 rfl) ?_
        refine lv_iload_n hx hb dX0_homeOf_29 rfl (lv_at hl 4 rfl) ?_
        refine n_icmp_le (tgt := 39) hx hb dX0_homeOf_30 (by decide) (by omega) (by omega) (fun c30 => ?_) (fun c30 => ?_)
        · replace hl : lv_has ls 6 [(5, .int (nI (ic mc n st k))), (0, .ref q), (1, .int (nI st)), (2, .int (nI (hmi mc n st (k + 1)))), (3, .int (nI (mx mc n st k))), (4, .int (nI k))] := by rw [(mx_f c30).1]; exact hl
          replace hl : lv_has ls 6 [(5, .int (nI (ic mc n st k))), (0, .ref q), (1, .int (nI st)), (2, .int (nI (hmi mc n st (k + 1)))), (3, .int (nI (mx mc n st (k + 1)))), (4, .int (nI k))] := by rw [(mx_f c30).2]; exact hl
          refine lv_iinc (v := nI (k + 1)) (lv' := [(4, .int (nI (k + 1))), (5, .int (nI (ic mc n st k))), (0, .ref q), (1, .int (nI st)), (2, .int (nI (hmi mc n st (k + 1)))), (3, .int (nI (mx mc n st (k + 1))))]) hx hb dX0_homeOf_39 hl (k := 5) rfl (n_inc _ _ (by decide)) (by decide) rfl (fun ls hl => ?_)
          refine lv_goto (tgt := 7) hx hb dX0_homeOf_42 (by decide) ?_
          exact ih7 (k + 1) (by omega) (by omega)   _ _ Z ls (lv_sub hl [2, 3, 4, 5, 0] rfl)
        · refine lv_iload hx hb dX0_homeOf_33 (lv_at hl 0 rfl) ?_
          refine lv_istore_n (lv' := [(3, .int (nI (ic mc n st k))), (5, .int (nI (ic mc n st k))), (0, .ref q), (1, .int (nI st)), (2, .int (nI (hmi mc n st k))), (4, .int (nI k))]) hx hb dX0_homeOf_35 rfl hl (by decide) rfl (fun ls hl => ?_)
          refine lv_iload hx hb dX0_homeOf_36 (lv_at hl 5 rfl) ?_
          refine lv_istore_n (lv' := [(2, .int (nI k)), (3, .int (nI (ic mc n st k))), (5, .int (nI (ic mc n st k))), (0, .ref q), (1, .int (nI st)), (4, .int (nI k))]) hx hb dX0_homeOf_38 rfl hl (by decide) rfl (fun ls hl => ?_)
          replace hl : lv_has ls 6 [(2, .int (nI (hmi mc n st (k + 1)))), (3, .int (nI (ic mc n st k))), (5, .int (nI (ic mc n st k))), (0, .ref q), (1, .int (nI st)), (4, .int (nI k))] := by rw [(mx_t c30).1]; exact hl
          replace hl : lv_has ls 6 [(2, .int (nI (hmi mc n st (k + 1)))), (3, .int (nI (mx mc n st (k + 1)))), (5, .int (nI (ic mc n st k))), (0, .ref q), (1, .int (nI st)), (4, .int (nI k))] := by rw [(mx_t c30).2]; exact hl
          refine lv_iinc (v := nI (k + 1)) (lv' := [(4, .int (nI (k + 1))), (2, .int (nI (hmi mc n st (k + 1)))), (3, .int (nI (mx mc n st (k + 1)))), (5, .int (nI (ic mc n st k))), (0, .ref q), (1, .int (nI st))]) hx hb dX0_homeOf_39 hl (k := 5) rfl (n_inc _ _ (by decide)) (by decide) rfl (fun ls hl => ?_)
          refine lv_goto (tgt := 7) hx hb dX0_homeOf_42 (by decide) ?_
          exact ih7 (k + 1) (by omega) (by omega)   _ _ Z ls (lv_sub hl [4, 5, 1, 2, 0] rfl)
  exact L7 (4 + 1) 0 (by omega) (by omega)   _ _ Z ls (lv_sub hl [3, 4, 2, 1, 0] rfl)
abbrev rm_k_X0_wandersOf : Room := { frames := 2, cells := 0, slots := 0, locals := 45 }
set_option maxHeartbeats 4000000 in
set_option maxRecDepth 100000 in
theorem k_X0_wandersOf (l : Launch) (D : va_G) (cA : ClassId) (q : Nat) (qm : Nat) (mc : Nat) (n : Nat) (mem : Nat → Nat) (st : Nat) (hm0 : mOk mc n mem) (hM : mc ≤ 7) (hs : st < 2 ^ mc) : Cti l yX0_wandersOf cX0_wandersOf 2 (some .int) rm_k_X0_wandersOf D cA [.ref q, .int (nI st)] ([oG q qm mc n, aN cA qm 4 mem]) (fun (r : Int32) (_ : Unit) => r = nI (wn mc n st)) (fun _ => [oG q qm mc n, aN cA qm 4 mem]) := by
  refine st_i (by decide) (Nat.le_of_ble_eq_true rfl) ?_
  intro p e s m args below meth c A Q E ret Z ls hl
  have hx := E.1.1
  have hb := E.1.2.1
  have hl : lv_has ls 2 [(0, .ref q), (1, .int (nI st))] := hl
  have h7 : 2 ^ mc ≤ 2 ^ 7 := Nat.pow_le_pow_right (by decide) hM
  refine lv_iload_n hx hb dX0_wandersOf_0 rfl (lv_at hl 1 rfl) ?_
  refine lv_aload_n hx hb dX0_wandersOf_1 rfl (lv_at hl 0 rfl) ?_
  refine gF_X0_9 E Z dX0_wandersOf_2 0 rfl rfl ?_
  refine lv_aload_n hx hb dX0_wandersOf_5 rfl (lv_at hl 0 rfl) ?_
  refine lv_iload_n hx hb dX0_wandersOf_6 rfl (lv_at hl 1 rfl) ?_
  refine c_Vi (As := [.int (nI st)]) (rest := [.ref qm, .int (nI st)]) (w2 := fun _ => [oG q qm mc n, aN cA qm 4 mem]) E Z (k_X0_homeOf l D cA q qm mc n mem st (by first | assumption | omega) (by first | assumption | omega)) wv_X0_41 ⟨rfl, rfl, Nat.le_of_ble_eq_true rfl, Nat.le_of_ble_eq_true rfl⟩ [0, 1] rfl rfl rfl rfl (q0 := 0) rfl (fun _ => rfl) (fun _ => rfl) rfl hl.1 rfl (Nat.le_of_ble_eq_true rfl) dX0_wandersOf_7 ⟨Nat.zero_le _, Nat.zero_le _⟩ (fun r7 _ H locs hp7 Z => ?_)
  subst hp7
  refine r_ald E Z dX0_wandersOf_10 1 rfl (hm_lt _ _ _) (by decide) ?_
  refine lv_iconst (v := (-1)) hx hb dX0_wandersOf_11 (by decide) ?_
  refine lv_ixor hx hb dX0_wandersOf_12 ?_
  refine lv_iand hx hb dX0_wandersOf_13 ?_
  refine r_top (y := nI (andn st (mem (hm mc n st)))) (nI_andn (by omega)) ?_
  refine c_Si (As := [.int (nI (andn st (mem (hm mc n st))))]) (rest := []) (w2 := fun _ => [oG q qm mc n, aN cA qm 4 mem]) E Z (k_J6_bitCount_0f7a4 l D cA (andn st (mem (hm mc n st))) (andn_lt _ (by omega))) ws_X0_36 ⟨rfl, rfl, Nat.le_of_ble_eq_true rfl, Nat.le_of_ble_eq_true rfl⟩ [] rfl rfl (fun _ => rfl) (fun _ => rfl) rfl hl.1 rfl (Nat.le_of_ble_eq_true rfl) dX0_wandersOf_14 ⟨Nat.zero_le _, Nat.zero_le _⟩ (fun r14 _ H locs hp14 Z => ?_)
  subst hp14
  exact ret () Z dX0_wandersOf_17 rfl (congrArg nI (pop_wn hm0 hM hs))
abbrev rm_k_X0_idleOf : Room := { frames := 2, cells := 0, slots := 0, locals := 45 }
set_option maxHeartbeats 4000000 in
set_option maxRecDepth 100000 in
theorem k_X0_idleOf (l : Launch) (D : va_G) (cA : ClassId) (q : Nat) (qm : Nat) (mc : Nat) (n : Nat) (mem : Nat → Nat) (st : Nat) (hm0 : mOk mc n mem) (hM : mc ≤ 7) (hs : st < 2 ^ mc) : Cti l yX0_idleOf cX0_idleOf 2 (some .int) rm_k_X0_idleOf D cA [.ref q, .int (nI st)] ([oG q qm mc n, aN cA qm 4 mem]) (fun (r : Int32) (_ : Unit) => r = nI (il mc n st)) (fun _ => [oG q qm mc n, aN cA qm 4 mem]) := by
  refine st_i (by decide) (Nat.le_of_ble_eq_true rfl) ?_
  intro p e s m args below meth c A Q E ret Z ls hl
  have hx := E.1.1
  have hb := E.1.2.1
  have hl : lv_has ls 2 [(0, .ref q), (1, .int (nI st))] := hl
  refine lv_aload_n hx hb dX0_idleOf_0 rfl (lv_at hl 0 rfl) ?_
  refine gF_X0_9 E Z dX0_idleOf_1 0 rfl rfl ?_
  refine lv_aload_n hx hb dX0_idleOf_4 rfl (lv_at hl 0 rfl) ?_
  refine lv_iload_n hx hb dX0_idleOf_5 rfl (lv_at hl 1 rfl) ?_
  refine c_Vi (As := [.int (nI st)]) (rest := [.ref qm]) (w2 := fun _ => [oG q qm mc n, aN cA qm 4 mem]) E Z (k_X0_homeOf l D cA q qm mc n mem st (by first | assumption | omega) (by first | assumption | omega)) wv_X0_41 ⟨rfl, rfl, Nat.le_of_ble_eq_true rfl, Nat.le_of_ble_eq_true rfl⟩ [0, 1] rfl rfl rfl rfl (q0 := 0) rfl (fun _ => rfl) (fun _ => rfl) rfl hl.1 rfl (Nat.le_of_ble_eq_true rfl) dX0_idleOf_6 ⟨Nat.zero_le _, Nat.zero_le _⟩ (fun r6 _ H locs hp6 Z => ?_)
  subst hp6
  refine r_ald E Z dX0_idleOf_9 1 rfl (hm_lt _ _ _) (by decide) ?_
  refine lv_iload_n hx hb dX0_idleOf_10 rfl (lv_at hl 1 rfl) ?_
  refine lv_iconst (v := (-1)) hx hb dX0_idleOf_11 (by decide) ?_
  refine lv_ixor hx hb dX0_idleOf_12 ?_
  refine lv_iand hx hb dX0_idleOf_13 ?_
  refine r_top (y := nI (andn (mem (hm mc n st)) st)) (nI_andn (hm0 _ (hm_lt _ _ _)).1) ?_
  refine c_Si (As := [.int (nI (andn (mem (hm mc n st)) st))]) (rest := []) (w2 := fun _ => [oG q qm mc n, aN cA qm 4 mem]) E Z (k_J6_bitCount_0f7a4 l D cA (andn (mem (hm mc n st)) st) (andn_lt _ (hm0 _ (hm_lt _ _ _)).1)) ws_X0_36 ⟨rfl, rfl, Nat.le_of_ble_eq_true rfl, Nat.le_of_ble_eq_true rfl⟩ [] rfl rfl (fun _ => rfl) (fun _ => rfl) rfl hl.1 rfl (Nat.le_of_ble_eq_true rfl) dX0_idleOf_14 ⟨Nat.zero_le _, Nat.zero_le _⟩ (fun r14 _ H locs hp14 Z => ?_)
  subst hp14
  exact ret () Z dX0_idleOf_17 rfl (congrArg nI (pop_il hm0 hM hs))
abbrev rm_k_X0_squares : Room := { frames := 1, cells := 0, slots := 0, locals := 20 }
set_option maxHeartbeats 4000000 in
set_option maxRecDepth 100000 in
theorem k_X0_squares (l : Launch) (D : va_G) (cA : ClassId) (q : Nat) (qm : Nat) (mc : Nat) (n : Nat) (mem : Nat → Nat) (hm0 : mOk mc n mem) (hM : mc ≤ 7) : Cti l yX0_squares cX0_squares 4 (some .int) rm_k_X0_squares D cA [.ref q] ([oG q qm mc n, aN cA qm 4 mem]) (fun (r : Int32) (_ : Unit) => r = nI (sm (sq mc n) 4)) (fun _ => [oG q qm mc n, aN cA qm 4 mem]) := by
  refine st_i (by decide) (Nat.le_of_ble_eq_true rfl) ?_
  intro p e s m args below meth c A Q E ret Z ls hl
  have hx := E.1.1
  have hb := E.1.2.1
  have hl : lv_has ls 4 [(0, .ref q)] := hl
  refine lv_iconst (v := nI 0) hx hb dX0_squares_0 (by decide) ?_
  refine lv_istore_n (lv' := [(1, .int (nI 0)), (0, .ref q)]) hx hb dX0_squares_1 rfl hl (by decide) rfl (fun ls hl => ?_)
  refine lv_iconst (v := nI 0) hx hb dX0_squares_2 (by decide) ?_
  refine lv_istore_n (lv' := [(2, .int (nI 0)), (1, .int (nI 0)), (0, .ref q)]) hx hb dX0_squares_3 rfl hl (by decide) rfl (fun ls hl => ?_)
  have L4 : ∀ (n4 k : Nat), 4 + 1 ≤ k + n4 → k ≤ 4 → ∀ (H : Heap) (locs : List Loc), Wd D A s ([oG q qm mc n, aN cA qm 4 mem]) H locs → ∀ (ls : Array Slot), lv_has ls 4 [(0, .ref q), (1, .int (nI (sm (sq mc n) k))), (2, .int (nI k))] → W p l e rm_k_X0_squares s m args below meth c H locs 0 0 Q (F0 m 4 ls []) := by
    intro n4
    induction n4 with
    | zero => exact fun k h1 h2 => absurd h1 (by omega)
    | succ n4 ih4 =>
      intro k hn4 hi4  H locs Z ls hl
      refine lv_iload_n hx hb dX0_squares_4 rfl (lv_at hl 2 rfl) ?_
      refine lv_iconst (v := nI 4) hx hb dX0_squares_5 (by decide) ?_
      refine n_icmp_ge (tgt := 31) hx hb dX0_squares_6 (by decide) (by omega) (by omega) (fun c6 => ?_) (fun c6 => ?_)
      · obtain rfl : 4 = k := by omega
        refine lv_iload_n hx hb dX0_squares_31 rfl (lv_at hl 1 rfl) ?_
        exact ret () Z dX0_squares_32 rfl rfl
      · refine lv_aload_n hx hb dX0_squares_9 rfl (lv_at hl 0 rfl) ?_
        refine gF_X0_9 E Z dX0_squares_10 0 rfl rfl ?_
        refine lv_iload_n hx hb dX0_squares_13 rfl (lv_at hl 2 rfl) ?_
        refine r_ald E Z dX0_squares_14 1 rfl (by omega) (by decide) ?_
        refine c_Si (As := [.int (nI (mem k))]) (rest := []) (w2 := fun _ => [oG q qm mc n, aN cA qm 4 mem]) E Z (k_J6_bitCount_0f7a4 l D cA (mem k) (hm0 k (by omega)).1) ws_X0_36 ⟨rfl, rfl, Nat.le_of_ble_eq_true rfl, Nat.le_of_ble_eq_true rfl⟩ [] rfl rfl (fun _ => rfl) (fun _ => rfl) rfl hl.1 rfl (Nat.le_of_ble_eq_true rfl) dX0_squares_15 ⟨Nat.zero_le _, Nat.zero_le _⟩ (fun r15 _ H locs hp15 Z => ?_)
        subst hp15
        refine r_top (y := nI (ic mc n (2 ^ mc - 1) k)) (congrArg nI (pop_full hm0 hM (by omega))) ?_
        refine lv_istore_n (lv' := [(3, .int (nI (ic mc n (2 ^ mc - 1) k))), (0, .ref q), (1, .int (nI (sm (sq mc n) k))), (2, .int (nI k))]) hx hb dX0_squares_18 rfl hl (by decide) rfl (fun ls hl => ?_)
        refine lv_iload_n hx hb dX0_squares_19 rfl (lv_at hl 2 rfl) ?_
        refine lv_iload_n hx hb dX0_squares_20 rfl (lv_at hl 0 rfl) ?_
        refine lv_iload_n hx hb dX0_squares_21 rfl (lv_at hl 0 rfl) ?_
        refine n_imul hx hb dX0_squares_22 ?_
        refine n_iadd hx hb dX0_squares_23 ?_
        refine lv_istore_n (lv' := [(1, .int (nI (sm (sq mc n) k + ((ic mc n (2 ^ mc - 1) k) * (ic mc n (2 ^ mc - 1) k))))), (3, .int (nI (ic mc n (2 ^ mc - 1) k))), (0, .ref q), (2, .int (nI k))]) hx hb dX0_squares_24 rfl hl (by decide) rfl (fun ls hl => ?_)
        refine lv_iinc (v := nI (k + 1)) (lv' := [(2, .int (nI (k + 1))), (1, .int (nI (sm (sq mc n) k + ((ic mc n (2 ^ mc - 1) k) * (ic mc n (2 ^ mc - 1) k))))), (3, .int (nI (ic mc n (2 ^ mc - 1) k))), (0, .ref q)]) hx hb dX0_squares_25 hl (k := 3) rfl (n_inc _ _ (by decide)) (by decide) rfl (fun ls hl => ?_)
        refine lv_goto (tgt := 4) hx hb dX0_squares_28 (by decide) ?_
        exact ih4 (k + 1) (by omega) (by omega)   _ _ Z ls (lv_sub hl [3, 1, 0] rfl)
  exact L4 (4 + 1) 0 (by omega) (by omega)   _ _ Z ls (lv_sub hl [2, 1, 0] rfl)
abbrev rm_k_X0_largest : Room := { frames := 1, cells := 0, slots := 0, locals := 21 }
set_option maxHeartbeats 4000000 in
set_option maxRecDepth 100000 in
theorem k_X0_largest (l : Launch) (D : va_G) (cA : ClassId) (q : Nat) (qm : Nat) (mc : Nat) (n : Nat) (mem : Nat → Nat) (hm0 : mOk mc n mem) (hM : mc ≤ 7) : Cti l yX0_largest cX0_largest 3 (some .int) rm_k_X0_largest D cA [.ref q] ([oG q qm mc n, aN cA qm 4 mem]) (fun (r : Int32) (_ : Unit) => r = nI (lrg mc n 4)) (fun _ => [oG q qm mc n, aN cA qm 4 mem]) := by
  refine st_i (by decide) (Nat.le_of_ble_eq_true rfl) ?_
  intro p e s m args below meth c A Q E ret Z ls hl
  have hx := E.1.1
  have hb := E.1.2.1
  have hl : lv_has ls 3 [(0, .ref q)] := hl
  refine lv_iconst (v := nI 0) hx hb dX0_largest_0 (by decide) ?_
  refine lv_istore_n (lv' := [(1, .int (nI 0)), (0, .ref q)]) hx hb dX0_largest_1 rfl hl (by decide) rfl (fun ls hl => ?_)
  refine lv_iconst (v := nI 0) hx hb dX0_largest_2 (by decide) ?_
  refine lv_istore_n (lv' := [(2, .int (nI 0)), (1, .int (nI 0)), (0, .ref q)]) hx hb dX0_largest_3 rfl hl (by decide) rfl (fun ls hl => ?_)
  have L4 : ∀ (n4 k : Nat), 4 + 1 ≤ k + n4 → k ≤ 4 → ∀ (H : Heap) (locs : List Loc), Wd D A s ([oG q qm mc n, aN cA qm 4 mem]) H locs → ∀ (ls : Array Slot), lv_has ls 3 [(0, .ref q), (1, .int (nI (lrg mc n k))), (2, .int (nI k))] → W p l e rm_k_X0_largest s m args below meth c H locs 0 0 Q (F0 m 4 ls []) := by
    intro n4
    induction n4 with
    | zero => exact fun k h1 h2 => absurd h1 (by omega)
    | succ n4 ih4 =>
      intro k hn4 hi4  H locs Z ls hl
      refine lv_iload_n hx hb dX0_largest_4 rfl (lv_at hl 2 rfl) ?_
      refine lv_iconst (v := nI 4) hx hb dX0_largest_5 (by decide) ?_
      refine n_icmp_ge (tgt := 29) hx hb dX0_largest_6 (by decide) (by omega) (by omega) (fun c6 => ?_) (fun c6 => ?_)
      · obtain rfl : 4 = k := by omega
        refine lv_iload_n hx hb dX0_largest_29 rfl (lv_at hl 1 rfl) ?_
        exact ret () Z dX0_largest_30 rfl rfl
      · refine lv_iload_n hx hb dX0_largest_9 rfl (lv_at hl 1 rfl) ?_
        refine lv_aload_n hx hb dX0_largest_10 rfl (lv_at hl 0 rfl) ?_
        refine gF_X0_9 E Z dX0_largest_11 0 rfl rfl ?_
        refine lv_iload_n hx hb dX0_largest_14 rfl (lv_at hl 2 rfl) ?_
        refine r_ald E Z dX0_largest_15 1 rfl (by omega) (by decide) ?_
        refine c_Si (As := [.int (nI (mem k))]) (rest := [.int (nI (lrg mc n k))]) (w2 := fun _ => [oG q qm mc n, aN cA qm 4 mem]) E Z (k_J6_bitCount_0f7a4 l D cA (mem k) (hm0 k (by omega)).1) ws_X0_36 ⟨rfl, rfl, Nat.le_of_ble_eq_true rfl, Nat.le_of_ble_eq_true rfl⟩ [] rfl rfl (fun _ => rfl) (fun _ => rfl) rfl hl.1 rfl (Nat.le_of_ble_eq_true rfl) dX0_largest_16 ⟨Nat.zero_le _, Nat.zero_le _⟩ (fun r16 _ H locs hp16 Z => ?_)
        subst hp16
        refine r_top (y := nI (ic mc n (2 ^ mc - 1) k)) (congrArg nI (pop_full hm0 hM (by omega))) ?_
        have h1 := ic_le mc n (2 ^ mc - 1) k
        have h2 := lrg_le mc n k
        refine n_max E hl.1 mML_X0_44 dX0_largest_19 (Nat.le_of_ble_eq_true rfl) (Nat.le_of_ble_eq_true rfl) ⟨Nat.zero_le _, Nat.zero_le _⟩ (by omega) (by omega) ?_
        refine lv_istore_n (lv' := [(1, .int (nI (max (lrg mc n k) (ic mc n (2 ^ mc - 1) k)))), (0, .ref q), (2, .int (nI k))]) hx hb dX0_largest_22 rfl hl (by decide) rfl (fun ls hl => ?_)
        refine lv_iinc (v := nI (k + 1)) (lv' := [(2, .int (nI (k + 1))), (1, .int (nI (max (lrg mc n k) (ic mc n (2 ^ mc - 1) k)))), (0, .ref q)]) hx hb dX0_largest_23 hl (k := 2) rfl (n_inc _ _ (by decide)) (by decide) rfl (fun ls hl => ?_)
        refine lv_goto (tgt := 4) hx hb dX0_largest_26 (by decide) ?_
        exact ih4 (k + 1) (by omega) (by omega)   _ _ Z ls (lv_sub hl [2, 1, 0] rfl)
  exact L4 (4 + 1) 0 (by omega) (by omega)   _ _ Z ls (lv_sub hl [2, 1, 0] rfl)
abbrev rm_k_X0_moved : Room := { frames := 0, cells := 0, slots := 0, locals := 0 }
set_option maxHeartbeats 4000000 in
set_option maxRecDepth 100000 in
theorem k_X0_moved (l : Launch) (D : va_G) (cA : ClassId) (a : Nat) (b : Nat) (ha : a < 2 ^ 31) (hb0 : b < 2 ^ 31) : Cti l yX0_moved cX0_moved 4 (some .int) rm_k_X0_moved D cA [.int (nI a), .int (nI b)] ([]) (fun (r : Int32) (_ : Unit) => r = nI (sm (mv1 a b) 7)) (fun _ => []) := by
  refine st_i (by decide) (Nat.le_of_ble_eq_true rfl) ?_
  intro p e s m args below meth c A Q E ret Z ls hl
  have hx := E.1.1
  have hb := E.1.2.1
  have hl : lv_has ls 4 [(0, .int (nI a)), (1, .int (nI b))] := hl
  have hab : a ^^^ b < 2 ^ 31 := Nat.xor_lt_two_pow ha hb0
  refine lv_iconst (v := nI 0) hx hb dX0_moved_0 (by decide) ?_
  refine lv_istore_n (lv' := [(2, .int (nI 0)), (0, .int (nI a)), (1, .int (nI b))]) hx hb dX0_moved_1 rfl hl (by decide) rfl (fun ls hl => ?_)
  refine lv_iconst (v := nI 0) hx hb dX0_moved_2 (by decide) ?_
  refine lv_istore_n (lv' := [(3, .int (nI 0)), (2, .int (nI 0)), (0, .int (nI a)), (1, .int (nI b))]) hx hb dX0_moved_3 rfl hl (by decide) rfl (fun ls hl => ?_)
  have L4 : ∀ (n4 k : Nat), 7 + 1 ≤ k + n4 → k ≤ 7 → ∀ (H : Heap) (locs : List Loc), Wd D A s ([]) H locs → ∀ (ls : Array Slot), lv_has ls 4 [(0, .int (nI a)), (1, .int (nI b)), (2, .int (nI (sm (mv1 a b) k))), (3, .int (nI k))] → W p l e rm_k_X0_moved s m args below meth c H locs 0 0 Q (F0 m 4 ls []) := by
    intro n4
    induction n4 with
    | zero => exact fun k h1 h2 => absurd h1 (by omega)
    | succ n4 ih4 =>
      intro k hn4 hi4  H locs Z ls hl
      refine lv_iload_n hx hb dX0_moved_4 rfl (lv_at hl 3 rfl) ?_
      refine lv_bipush (v := nI 7) hx hb dX0_moved_5 (by decide) ?_
      refine n_icmp_ge (tgt := 31) hx hb dX0_moved_7 (by decide) (by omega) (by omega) (fun c7 => ?_) (fun c7 => ?_)
      · obtain rfl : 7 = k := by omega
        refine lv_iload_n hx hb dX0_moved_31 rfl (lv_at hl 2 rfl) ?_
        exact ret () Z dX0_moved_32 rfl rfl
      · refine lv_iload_n hx hb dX0_moved_10 rfl (lv_at hl 0 rfl) ?_
        refine lv_iload_n hx hb dX0_moved_11 rfl (lv_at hl 1 rfl) ?_
        refine n_ixor hx hb dX0_moved_12 ?_
        refine lv_iconst (v := nI 2) hx hb dX0_moved_13 (by decide) ?_
        refine lv_iload_n hx hb dX0_moved_14 rfl (lv_at hl 3 rfl) ?_
        refine n_imul hx hb dX0_moved_15 ?_
        refine n_ishr hx hb dX0_moved_16 (by omega) (by omega) ?_
        refine lv_iconst (v := nI 3) hx hb dX0_moved_17 (by decide) ?_
        refine n_iand3 hx hb dX0_moved_18 ?_
        refine r_top (y := nI (cl (a ^^^ b) k)) rfl ?_
        have h4 := cl_lt (a ^^^ b) k
        refine n_if_eq (tgt := 25) hx hb dX0_moved_19 (by decide) (by omega) (fun c19 => ?_) (fun c19 => ?_)
        · replace hl : lv_has ls 4 [(0, .int (nI a)), (1, .int (nI b)), (2, .int (nI (sm (mv1 a b) (k + 1)))), (3, .int (nI k))] := by rw [show sm (mv1 a b) (k + 1) = sm (mv1 a b) k from congrArg (sm (mv1 a b) k + ·) (if_pos c19)]; exact hl
          refine lv_iinc (v := nI (k + 1)) (lv' := [(3, .int (nI (k + 1))), (0, .int (nI a)), (1, .int (nI b)), (2, .int (nI (sm (mv1 a b) (k + 1))))]) hx hb dX0_moved_25 hl (k := 3) rfl (n_inc _ _ (by decide)) (by decide) rfl (fun ls hl => ?_)
          refine lv_goto (tgt := 4) hx hb dX0_moved_28 (by decide) ?_
          exact ih4 (k + 1) (by omega) (by omega)   _ _ Z ls (lv_sub hl [1, 2, 3, 0] rfl)
        · refine lv_iinc (v := nI (sm (mv1 a b) k + 1)) (lv' := [(2, .int (nI (sm (mv1 a b) k + 1))), (0, .int (nI a)), (1, .int (nI b)), (3, .int (nI k))]) hx hb dX0_moved_22 hl (k := 2) rfl (n_inc _ _ (by decide)) (by decide) rfl (fun ls hl => ?_)
          replace hl : lv_has ls 4 [(2, .int (nI (sm (mv1 a b) (k + 1)))), (0, .int (nI a)), (1, .int (nI b)), (3, .int (nI k))] := by rw [show sm (mv1 a b) (k + 1) = sm (mv1 a b) k + 1 from congrArg (sm (mv1 a b) k + ·) (if_neg c19)]; exact hl
          refine lv_iinc (v := nI (k + 1)) (lv' := [(3, .int (nI (k + 1))), (2, .int (nI (sm (mv1 a b) (k + 1)))), (0, .int (nI a)), (1, .int (nI b))]) hx hb dX0_moved_25 hl (k := 3) rfl (n_inc _ _ (by decide)) (by decide) rfl (fun ls hl => ?_)
          refine lv_goto (tgt := 4) hx hb dX0_moved_28 (by decide) ?_
          exact ih4 (k + 1) (by omega) (by omega)   _ _ Z ls (lv_sub hl [2, 3, 1, 0] rfl)
  exact L4 (7 + 1) 0 (by omega) (by omega)   _ _ Z ls (lv_sub hl [2, 3, 1, 0] rfl)

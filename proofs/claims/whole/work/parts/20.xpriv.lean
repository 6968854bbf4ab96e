abbrev rm_k_X5_isWithin : Room := { frames := 0, cells := 0, slots := 0, locals := 0 }
set_option maxHeartbeats 4000000 in
set_option maxRecDepth 100000 in
theorem k_X5_isWithin (l : Launch) (D : va_G) (cA : ClassId) (x : Int32) (a : Int32) (b : Int32)  : Cti l yX5_isWithin cX5_isWithin 3 (some .boolean) rm_k_X5_isWithin D cA [.int x, .int a, .int b] ([]) (fun (r : Int32) (_ : Unit) => r = bI (a ≤ x ∧ x ≤ b)) (fun _ => []) := by
  refine st_z (by decide) (Nat.le_of_ble_eq_true rfl) ?_
  intro p e s m args below meth c A Q E ret Z ls hl
  have hx := E.1.1
  have hb := E.1.2.1
  have hl : lv_has ls 3 [(0, .int x), (1, .int a), (2, .int b)] := hl
  refine lv_iload_n hx hb dX5_isWithin_0 rfl (lv_at hl 0 rfl) ?_
  refine lv_iload_n hx hb dX5_isWithin_1 rfl (lv_at hl 1 rfl) ?_
  refine lv_icmp_lt (tgt := 14) hx hb dX5_isWithin_2 (by decide) (fun c2 => ?_) (fun c2 => ?_)
  · refine lv_iconst (v := nI 0) hx hb dX5_isWithin_14 (by decide) ?_
    exact ret () Z dX5_isWithin_15 (Or.inl nI_0) rfl (nI_0.trans (bI_f (fun h => Int32.not_lt.mpr h.1 c2)).symm)
  · refine lv_iload_n hx hb dX5_isWithin_5 rfl (lv_at hl 0 rfl) ?_
    refine lv_iload_n hx hb dX5_isWithin_6 rfl (lv_at hl 2 rfl) ?_
    refine lv_icmp_gt (tgt := 14) hx hb dX5_isWithin_7 (by decide) (fun c7 => ?_) (fun c7 => ?_)
    · refine lv_iconst (v := nI 0) hx hb dX5_isWithin_14 (by decide) ?_
      exact ret () Z dX5_isWithin_15 (Or.inl nI_0) rfl (nI_0.trans (bI_f (fun h => Int32.not_lt.mpr h.2 c7)).symm)
    · refine lv_iconst (v := nI 1) hx hb dX5_isWithin_10 (by decide) ?_
      refine lv_goto (tgt := 15) hx hb dX5_isWithin_11 (by decide) ?_
      exact ret () Z dX5_isWithin_15 (Or.inr nI_one) rfl (nI_one.trans (bI_t ⟨Int32.not_lt.mp c2, Int32.not_lt.mp c7⟩).symm)
abbrev rm_k_X5_isMachine : Room := { frames := 1, cells := 0, slots := 0, locals := 22 }
set_option maxHeartbeats 4000000 in
set_option maxRecDepth 100000 in
theorem k_X5_isMachine (l : Launch) (D : va_G) (cA : ClassId) (q : Nat → Nat) (mc : Nat) (bn : Nat) (bl : Nat) (tr : Int64) (x : Int32) (hm1 : 1 ≤ mc) : Cti l yX5_isMachine cX5_isMachine 2 (some .boolean) rm_k_X5_isMachine D cA [.ref (q 0), .int x] ([oX q mc bn bl tr]) (fun (r : Int32) (_ : Unit) => r = bI (nI 0 ≤ x ∧ x ≤ nI (mc - 1))) (fun _ => [oX q mc bn bl tr]) := by
  refine st_z (by decide) (Nat.le_of_ble_eq_true rfl) ?_
  intro p e s m args below meth c A Q E ret Z ls hl
  have hx := E.1.1
  have hb := E.1.2.1
  have hl : lv_has ls 2 [(0, .ref (q 0)), (1, .int x)] := hl
  refine lv_iload_n hx hb dX5_isMachine_0 rfl (lv_at hl 1 rfl) ?_
  refine lv_iconst (v := nI 0) hx hb dX5_isMachine_1 (by decide) ?_
  refine lv_aload_n hx hb dX5_isMachine_2 rfl (lv_at hl 0 rfl) ?_
  refine gF_X5_71 E Z dX5_isMachine_3 0 rfl rfl ?_
  refine lv_iconst (v := nI 1) hx hb dX5_isMachine_6 (by decide) ?_
  refine n_isub hx hb dX5_isMachine_7 (by omega) ?_
  refine c_Si (As := [.int x, .int (nI 0), .int (nI (mc - 1))]) (rest := []) (w2 := fun _ => [oX q mc bn bl tr]) E Z (k_X5_isWithin l D cA x (nI 0) (nI (mc - 1)) ) ws_X5_67 ⟨rfl, rfl, Nat.le_of_ble_eq_true rfl, Nat.le_of_ble_eq_true rfl⟩ [] rfl rfl (fun _ => rfl) (fun _ => rfl) rfl hl.1 rfl (Nat.le_of_ble_eq_true rfl) dX5_isMachine_8 ⟨Nat.zero_le _, Nat.zero_le _⟩ (fun r8 _ H locs hp8 Z => ?_)
  subst hp8
  exact ret () Z dX5_isMachine_11 (bI_01 _) rfl rfl
abbrev rm_k_X5_isPart : Room := { frames := 1, cells := 0, slots := 0, locals := 22 }
set_option maxHeartbeats 4000000 in
set_option maxRecDepth 100000 in
theorem k_X5_isPart (l : Launch) (D : va_G) (cA : ClassId) (q : Nat → Nat) (mc : Nat) (bn : Nat) (bl : Nat) (tr : Int64) (size : Nat) (ch : Nat) (x : Int32) (hp1 : 1 ≤ size) : Cti l yX5_isPart cX5_isPart 2 (some .boolean) rm_k_X5_isPart D cA [.ref (q 0), .int x] ([oX q mc bn bl tr, oP (q 1) (q 2) (q 3) size ch]) (fun (r : Int32) (_ : Unit) => r = bI (nI 0 ≤ x ∧ x ≤ nI (size - 1))) (fun _ => [oX q mc bn bl tr, oP (q 1) (q 2) (q 3) size ch]) := by
  refine st_z (by decide) (Nat.le_of_ble_eq_true rfl) ?_
  intro p e s m args below meth c A Q E ret Z ls hl
  have hx := E.1.1
  have hb := E.1.2.1
  have hl : lv_has ls 2 [(0, .ref (q 0)), (1, .int x)] := hl
  refine lv_iload_n hx hb dX5_isPart_0 rfl (lv_at hl 1 rfl) ?_
  refine lv_iconst (v := nI 0) hx hb dX5_isPart_1 (by decide) ?_
  refine lv_aload_n hx hb dX5_isPart_2 rfl (lv_at hl 0 rfl) ?_
  refine gF_X5_10 E Z dX5_isPart_3 0 rfl rfl ?_
  refine c_Vi (As := []) (rest := [.int (nI 0), .int x]) (w2 := fun _ => [oX q mc bn bl tr, oP (q 1) (q 2) (q 3) size ch]) E Z (k_X1_howMany l D cA (q 1) (q 2) (q 3) size ch ) wv_X5_237 ⟨rfl, rfl, Nat.le_of_ble_eq_true rfl, Nat.le_of_ble_eq_true rfl⟩ [1] rfl rfl rfl rfl (q0 := 0) rfl (fun _ => rfl) (fun _ => rfl) rfl hl.1 rfl (Nat.le_of_ble_eq_true rfl) dX5_isPart_6 ⟨Nat.zero_le _, Nat.zero_le _⟩ (fun r6 _ H locs hp6 Z => ?_)
  subst hp6
  refine lv_iconst (v := nI 1) hx hb dX5_isPart_9 (by decide) ?_
  refine n_isub hx hb dX5_isPart_10 (by omega) ?_
  refine c_Si (As := [.int x, .int (nI 0), .int (nI (size - 1))]) (rest := []) (w2 := fun _ => [oX q mc bn bl tr, oP (q 1) (q 2) (q 3) size ch]) E Z (k_X5_isWithin l D cA x (nI 0) (nI (size - 1)) ) ws_X5_67 ⟨rfl, rfl, Nat.le_of_ble_eq_true rfl, Nat.le_of_ble_eq_true rfl⟩ [] rfl rfl (fun _ => rfl) (fun _ => rfl) rfl hl.1 rfl (Nat.le_of_ble_eq_true rfl) dX5_isPart_11 ⟨Nat.zero_le _, Nat.zero_le _⟩ (fun r11 _ H locs hp11 Z => ?_)
  subst hp11
  exact ret () Z dX5_isPart_14 (bI_01 _) rfl rfl
abbrev rm_k_X5_isCell : Room := { frames := 1, cells := 0, slots := 0, locals := 22 }
set_option maxHeartbeats 4000000 in
set_option maxRecDepth 100000 in
theorem k_X5_isCell (l : Launch) (D : va_G) (cA : ClassId) (x : Int32)  : Cti l yX5_isCell cX5_isCell 1 (some .boolean) rm_k_X5_isCell D cA [.int x] ([]) (fun (r : Int32) (_ : Unit) => r = bI (nI 0 ≤ x ∧ x ≤ nI 3)) (fun _ => []) := by
  refine st_z (by decide) (Nat.le_of_ble_eq_true rfl) ?_
  intro p e s m args below meth c A Q E ret Z ls hl
  have hx := E.1.1
  have hb := E.1.2.1
  have hl : lv_has ls 1 [(0, .int x)] := hl
  refine lv_iload_n hx hb dX5_isCell_0 rfl (lv_at hl 0 rfl) ?_
  refine lv_iconst (v := nI 0) hx hb dX5_isCell_1 (by decide) ?_
  refine lv_iconst (v := nI 3) hx hb dX5_isCell_2 (by decide) ?_
  refine c_Si (As := [.int x, .int (nI 0), .int (nI 3)]) (rest := []) (w2 := fun _ => []) E Z (k_X5_isWithin l D cA x (nI 0) (nI 3) ) ws_X5_67 ⟨rfl, rfl, Nat.le_of_ble_eq_true rfl, Nat.le_of_ble_eq_true rfl⟩ [] rfl rfl (fun _ => rfl) (fun _ => rfl) rfl hl.1 rfl (Nat.le_of_ble_eq_true rfl) dX5_isCell_3 ⟨Nat.zero_le _, Nat.zero_le _⟩ (fun r3 _ H locs hp3 Z => ?_)
  subst hp3
  exact ret () Z dX5_isCell_6 (bI_01 _) rfl rfl
abbrev rm_k_X5_isKind : Room := { frames := 1, cells := 0, slots := 0, locals := 22 }
set_option maxHeartbeats 4000000 in
set_option maxRecDepth 100000 in
theorem k_X5_isKind (l : Launch) (D : va_G) (cA : ClassId) (x : Int32)  : Cti l yX5_isKind cX5_isKind 1 (some .boolean) rm_k_X5_isKind D cA [.int x] ([]) (fun (r : Int32) (_ : Unit) => r = bI (nI 0 ≤ x ∧ x ≤ nI 2)) (fun _ => []) := by
  refine st_z (by decide) (Nat.le_of_ble_eq_true rfl) ?_
  intro p e s m args below meth c A Q E ret Z ls hl
  have hx := E.1.1
  have hb := E.1.2.1
  have hl : lv_has ls 1 [(0, .int x)] := hl
  refine lv_iload_n hx hb dX5_isKind_0 rfl (lv_at hl 0 rfl) ?_
  refine lv_iconst (v := nI 0) hx hb dX5_isKind_1 (by decide) ?_
  refine lv_iconst (v := nI 2) hx hb dX5_isKind_2 (by decide) ?_
  refine c_Si (As := [.int x, .int (nI 0), .int (nI 2)]) (rest := []) (w2 := fun _ => []) E Z (k_X5_isWithin l D cA x (nI 0) (nI 2) ) ws_X5_67 ⟨rfl, rfl, Nat.le_of_ble_eq_true rfl, Nat.le_of_ble_eq_true rfl⟩ [] rfl rfl (fun _ => rfl) (fun _ => rfl) rfl hl.1 rfl (Nat.le_of_ble_eq_true rfl) dX5_isKind_3 ⟨Nat.zero_le _, Nat.zero_le _⟩ (fun r3 _ H locs hp3 Z => ?_)
  subst hp3
  exact ret () Z dX5_isKind_6 (bI_01 _) rfl rfl
abbrev rm_k_X5_groupings : Room := { frames := 0, cells := 0, slots := 0, locals := 0 }
set_option maxHeartbeats 4000000 in
set_option maxRecDepth 100000 in
theorem k_X5_groupings (l : Launch) (D : va_G) (cA : ClassId) (q : Nat → Nat) (mc : Nat) (bn : Nat) (bl : Nat) (tr : Int64) (hM : mc ≤ 7) : Cti l yX5_groupings cX5_groupings 1 (some .int) rm_k_X5_groupings D cA [.ref (q 0)] ([oX q mc bn bl tr]) (fun (r : Int32) (_ : Unit) => r = nI (2 ^ (2 * mc))) (fun _ => [oX q mc bn bl tr]) := by
  refine st_i (by decide) (Nat.le_of_ble_eq_true rfl) ?_
  intro p e s m args below meth c A Q E ret Z ls hl
  have hx := E.1.1
  have hb := E.1.2.1
  have hl : lv_has ls 1 [(0, .ref (q 0))] := hl
  refine lv_iconst (v := nI 1) hx hb dX5_groupings_0 (by decide) ?_
  refine lv_iconst (v := nI 2) hx hb dX5_groupings_1 (by decide) ?_
  refine lv_aload_n hx hb dX5_groupings_2 rfl (lv_at hl 0 rfl) ?_
  refine gF_X5_71 E Z dX5_groupings_3 0 rfl rfl ?_
  refine n_imul hx hb dX5_groupings_6 ?_
  refine n_ishl1 hx hb dX5_groupings_7 (by omega) ?_
  exact ret () Z dX5_groupings_8 rfl rfl
abbrev rm_k_X5_begin : Room := { frames := 2, cells := 0, slots := 0, locals := 46 }
set_option maxHeartbeats 4000000 in
set_option maxRecDepth 100000 in
theorem k_X5_begin (l : Launch) (D : va_G) (cA : ClassId) (q : Nat → Nat) (mc : Nat) (bn : Nat) (bl : Nat) (tr : Int64) (size : Nat) (ch : Nat) (sets : Nat → Nat) (amts : Nat → Nat) (gmc : Nat) (num : Nat) (mem : Nat → Nat) (bo : Nat → Nat) (pr : Nat → Nat) (sh : Nat → Nat) (m1 : Nat) (p1 : Nat) (hm1 : m1 ≤ 7) : Ctv l yX5_begin cX5_begin 3 none rm_k_X5_begin D cA [.ref (q 0), .int (nI m1), .int (nI p1)] ([oX q mc bn bl tr, oP (q 1) (q 2) (q 3) size ch, aN cA (q 2) 16 sets, aN cA (q 3) 8 amts, oG (q 4) (q 5) gmc num, aN cA (q 5) 4 mem, aN cA (q 17) 7 bo, aN cA (q 18) 7 pr, aN cA (q 19) 4 sh]) (fun (_ : Unit) => True) (fun _ => [oX q m1 bn bl tr, oP (q 1) (q 2) (q 3) p1 0, aN cA (q 2) 16 (fun _ => 0), aN cA (q 3) 8 (fun _ => 1), oG (q 4) (q 5) m1 0, aN cA (q 5) 4 (mF 0 m1), aN cA (q 17) 7 (fun _ => 99), aN cA (q 18) 7 (fun _ => 10), aN cA (q 19) 4 (fun _ => 0)]) := by
  refine st_v (by decide) (Nat.le_of_ble_eq_true rfl) ?_
  intro p e s m args below meth c A Q E ret Z ls hl
  have hx := E.1.1
  have hb := E.1.2.1
  have hl : lv_has ls 3 [(0, .ref (q 0)), (1, .int (nI m1)), (2, .int (nI p1))] := hl
  refine lv_aload_n hx hb dX5_begin_0 rfl (lv_at hl 0 rfl) ?_
  refine lv_iload_n hx hb dX5_begin_1 rfl (lv_at hl 1 rfl) ?_
  refine pF_X5_71 (w1 := [oX q m1 bn bl tr, oP (q 1) (q 2) (q 3) size ch, aN cA (q 2) 16 sets, aN cA (q 3) 8 amts, oG (q 4) (q 5) gmc num, aN cA (q 5) 4 mem, aN cA (q 17) 7 bo, aN cA (q 18) 7 pr, aN cA (q 19) 4 sh]) E Z dX5_begin_2 0 rfl (Nat.le_of_ble_eq_true rfl) rfl (fun H locs Z => ?_)
  refine lv_aload_n hx hb dX5_begin_5 rfl (lv_at hl 0 rfl) ?_
  refine gF_X5_10 E Z dX5_begin_6 0 rfl rfl ?_
  refine lv_iload_n hx hb dX5_begin_9 rfl (lv_at hl 2 rfl) ?_
  refine c_Vv (As := [.int (nI p1)]) (rest := []) (w2 := fun _ => [oX q m1 bn bl tr, oP (q 1) (q 2) (q 3) p1 0, aN cA (q 2) 16 (fun _ => 0), aN cA (q 3) 8 (fun _ => 1), oG (q 4) (q 5) gmc num, aN cA (q 5) 4 mem, aN cA (q 17) 7 bo, aN cA (q 18) 7 pr, aN cA (q 19) 4 sh]) E Z (k_X1_begin l D cA (q 1) (q 2) (q 3) size ch sets amts p1 ) wv_X5_238 ⟨rfl, rfl, Nat.le_of_ble_eq_true rfl, Nat.le_of_ble_eq_true rfl⟩ [1, 2, 3] rfl rfl rfl rfl (q0 := 0) rfl (fun _ => rfl) (fun _ => rfl) rfl hl.1 rfl (Nat.le_of_ble_eq_true rfl) dX5_begin_10 ⟨Nat.zero_le _, Nat.zero_le _⟩ (fun _ H locs hp10 Z => ?_)
  refine lv_aload_n hx hb dX5_begin_13 rfl (lv_at hl 0 rfl) ?_
  refine gF_X5_19 E Z dX5_begin_14 0 rfl rfl ?_
  refine lv_iconst (v := nI 0) hx hb dX5_begin_17 (by decide) ?_
  refine lv_iload_n hx hb dX5_begin_18 rfl (lv_at hl 1 rfl) ?_
  refine c_Vv (As := [.int (nI 0), .int (nI m1)]) (rest := []) (w2 := fun _ => [oX q m1 bn bl tr, oP (q 1) (q 2) (q 3) p1 0, aN cA (q 2) 16 (fun _ => 0), aN cA (q 3) 8 (fun _ => 1), oG (q 4) (q 5) m1 0, aN cA (q 5) 4 (mF 0 m1), aN cA (q 17) 7 bo, aN cA (q 18) 7 pr, aN cA (q 19) 4 sh]) E Z (k_X0_become l D cA (q 4) (q 5) gmc num mem 0 m1 (by decide) (by first | assumption | omega)) wv_X5_119 ⟨rfl, rfl, Nat.le_of_ble_eq_true rfl, Nat.le_of_ble_eq_true rfl⟩ [4, 5] rfl rfl rfl rfl (q0 := 0) rfl (fun _ => rfl) (fun _ => rfl) rfl hl.1 rfl (Nat.le_of_ble_eq_true rfl) dX5_begin_19 ⟨Nat.zero_le _, Nat.zero_le _⟩ (fun _ H locs hp19 Z => ?_)
  refine lv_aload_n hx hb dX5_begin_22 rfl (lv_at hl 0 rfl) ?_
  refine gF_X5_47 E Z dX5_begin_23 0 rfl rfl ?_
  refine lv_bipush (v := nI 99) hx hb dX5_begin_26 (by decide) ?_
  refine c_Sv (As := [.ref (q 17), .int (nI 99)]) (rest := []) (w2 := fun _ => [oX q m1 bn bl tr, oP (q 1) (q 2) (q 3) p1 0, aN cA (q 2) 16 (fun _ => 0), aN cA (q 3) 8 (fun _ => 1), oG (q 4) (q 5) m1 0, aN cA (q 5) 4 (mF 0 m1), aN cA (q 17) 7 (fun _ => 99), aN cA (q 18) 7 pr, aN cA (q 19) 4 sh]) E Z (k_J7_fill_53178 l D cA (q 17) 7 bo 99 (by decide)) ws_X5_191 ⟨rfl, rfl, Nat.le_of_ble_eq_true rfl, Nat.le_of_ble_eq_true rfl⟩ [6] rfl rfl (fun _ => rfl) (fun _ => rfl) rfl hl.1 rfl (Nat.le_of_ble_eq_true rfl) dX5_begin_28 ⟨Nat.zero_le _, Nat.zero_le _⟩ (fun _ H locs hp28 Z => ?_)
  refine lv_aload_n hx hb dX5_begin_31 rfl (lv_at hl 0 rfl) ?_
  refine gF_X5_51 E Z dX5_begin_32 0 rfl rfl ?_
  refine lv_bipush (v := nI 10) hx hb dX5_begin_35 (by decide) ?_
  refine c_Sv (As := [.ref (q 18), .int (nI 10)]) (rest := []) (w2 := fun _ => [oX q m1 bn bl tr, oP (q 1) (q 2) (q 3) p1 0, aN cA (q 2) 16 (fun _ => 0), aN cA (q 3) 8 (fun _ => 1), oG (q 4) (q 5) m1 0, aN cA (q 5) 4 (mF 0 m1), aN cA (q 17) 7 (fun _ => 99), aN cA (q 18) 7 (fun _ => 10), aN cA (q 19) 4 sh]) E Z (k_J7_fill_53178 l D cA (q 18) 7 pr 10 (by decide)) ws_X5_191 ⟨rfl, rfl, Nat.le_of_ble_eq_true rfl, Nat.le_of_ble_eq_true rfl⟩ [7] rfl rfl (fun _ => rfl) (fun _ => rfl) rfl hl.1 rfl (Nat.le_of_ble_eq_true rfl) dX5_begin_37 ⟨Nat.zero_le _, Nat.zero_le _⟩ (fun _ H locs hp37 Z => ?_)
  refine lv_aload_n hx hb dX5_begin_40 rfl (lv_at hl 0 rfl) ?_
  refine gF_X5_54 E Z dX5_begin_41 0 rfl rfl ?_
  refine lv_iconst (v := nI 0) hx hb dX5_begin_44 (by decide) ?_
  refine c_Sv (As := [.ref (q 19), .int (nI 0)]) (rest := []) (w2 := fun _ => [oX q m1 bn bl tr, oP (q 1) (q 2) (q 3) p1 0, aN cA (q 2) 16 (fun _ => 0), aN cA (q 3) 8 (fun _ => 1), oG (q 4) (q 5) m1 0, aN cA (q 5) 4 (mF 0 m1), aN cA (q 17) 7 (fun _ => 99), aN cA (q 18) 7 (fun _ => 10), aN cA (q 19) 4 (fun _ => 0)]) E Z (k_J7_fill_53178 l D cA (q 19) 4 sh 0 (by decide)) ws_X5_191 ⟨rfl, rfl, Nat.le_of_ble_eq_true rfl, Nat.le_of_ble_eq_true rfl⟩ [8] rfl rfl (fun _ => rfl) (fun _ => rfl) rfl hl.1 rfl (Nat.le_of_ble_eq_true rfl) dX5_begin_45 ⟨Nat.zero_le _, Nat.zero_le _⟩ (fun _ H locs hp45 Z => ?_)
  exact ret () Z dX5_begin_48 rfl trivial
abbrev rm_k_X5_lossOf : Room := { frames := 4, cells := 0, slots := 0, locals := 90 }
set_option maxHeartbeats 4000000 in
set_option maxRecDepth 100000 in
theorem k_X5_lossOf (l : Launch) (D : va_G) (cA : ClassId) (q : Nat → Nat) (xm : Nat) (bn : Nat) (bl : Nat) (tr : Int64) (size : Nat) (ch : Nat) (sets : Nat → Nat) (amts : Nat → Nat) (gq : Nat) (gm : Nat) (mc : Nat) (n : Nat) (mem : Nat → Nat) (kd : Nat) (hP : size ≤ 8) (hch : ch < 256) (hs : ∀ j, sets j < 2 ^ mc) (hkd : kd < 3) (hm0 : mOk mc n mem) (hM : mc ≤ 7) : Cti l yX5_lossOf cX5_lossOf 4 (some .int) rm_k_X5_lossOf D cA [.ref (q 0), .ref gq, .int (nI kd)] ([oX q xm bn bl tr, oP (q 1) (q 2) (q 3) size ch, aN cA (q 2) 16 sets, aN cA (q 3) 8 amts, oG gq gm mc n, aN cA gm 4 mem]) (fun (r : Int32) (_ : Unit) => r = nI (lossV mc n size sets amts ch kd)) (fun _ => [oX q xm bn bl tr, oP (q 1) (q 2) (q 3) size ch, aN cA (q 2) 16 sets, aN cA (q 3) 8 amts, oG gq gm mc n, aN cA gm 4 mem]) := by
  refine st_i (by decide) (Nat.le_of_ble_eq_true rfl) ?_
  intro p e s m args below meth c A Q E ret Z ls hl
  have hx := E.1.1
  have hb := E.1.2.1
  have hl : lv_has ls 4 [(0, .ref (q 0)), (1, .ref gq), (2, .int (nI kd))] := hl
  refine lv_aload_n hx hb dX5_lossOf_0 rfl (lv_at hl 0 rfl) ?_
  refine gF_X5_10 E Z dX5_lossOf_1 0 rfl rfl ?_
  refine lv_aload_n hx hb dX5_lossOf_4 rfl (lv_at hl 0 rfl) ?_
  refine gF_X5_10 E Z dX5_lossOf_5 0 rfl rfl ?_
  refine c_Vi (As := []) (rest := [.ref (q 1)]) (w2 := fun _ => [oX q xm bn bl tr, oP (q 1) (q 2) (q 3) size ch, aN cA (q 2) 16 sets, aN cA (q 3) 8 amts, oG gq gm mc n, aN cA gm 4 mem]) E Z (k_X1_chosen l D cA (q 1) (q 2) (q 3) size ch ) wv_X5_174 ⟨rfl, rfl, Nat.le_of_ble_eq_true rfl, Nat.le_of_ble_eq_true rfl⟩ [1] rfl rfl rfl rfl (q0 := 0) rfl (fun _ => rfl) (fun _ => rfl) rfl hl.1 rfl (Nat.le_of_ble_eq_true rfl) dX5_lossOf_8 ⟨Nat.zero_le _, Nat.zero_le _⟩ (fun r8 _ H locs hp8 Z => ?_)
  subst hp8
  refine lv_aload_n hx hb dX5_lossOf_11 rfl (lv_at hl 1 rfl) ?_
  refine c_Vi (As := [.int (nI ch), .ref gq]) (rest := []) (w2 := fun _ => [oX q xm bn bl tr, oP (q 1) (q 2) (q 3) size ch, aN cA (q 2) 16 sets, aN cA (q 3) 8 amts, oG gq gm mc n, aN cA gm 4 mem]) E Z (k_X1_wanderBy l D cA (q 1) (q 2) (q 3) size ch sets amts gq gm mc n mem ch (by first | assumption | omega) (by first | assumption | omega) (by first | assumption | omega) (by first | assumption | omega) (by first | assumption | omega)) wv_X5_183 ⟨rfl, rfl, Nat.le_of_ble_eq_true rfl, Nat.le_of_ble_eq_true rfl⟩ [1, 2, 3, 4, 5] rfl rfl rfl rfl (q0 := 0) rfl (fun _ => rfl) (fun _ => rfl) rfl hl.1 rfl (Nat.le_of_ble_eq_true rfl) dX5_lossOf_12 ⟨Nat.zero_le _, Nat.zero_le _⟩ (fun r12 _ H locs hp12 Z => ?_)
  subst hp12
  refine lv_istore_n (lv' := [(3, .int (nI (sm (wdp mc n sets amts ch) size))), (0, .ref (q 0)), (1, .ref gq), (2, .int (nI kd))]) hx hb dX5_lossOf_15 rfl hl (by decide) rfl (fun ls hl => ?_)
  refine lv_iload_n hx hb dX5_lossOf_16 rfl (lv_at hl 3 rfl) ?_
  refine lv_iconst (v := nI 1) hx hb dX5_lossOf_17 (by decide) ?_
  refine n_icmp_lt (tgt := 32) hx hb dX5_lossOf_18 (by decide) (by omega) (by omega) (fun c18 => ?_) (fun c18 => ?_)
  · refine lv_iload_n hx hb dX5_lossOf_32 rfl (lv_at hl 3 rfl) ?_
    refine lv_iconst (v := nI 2) hx hb dX5_lossOf_33 (by decide) ?_
    refine n_icmp_lt (tgt := 44) hx hb dX5_lossOf_34 (by decide) (by omega) (by omega) (fun c34 => ?_) (fun c34 => ?_)
    · refine lv_iload_n hx hb dX5_lossOf_44 rfl (lv_at hl 0 rfl) ?_
      exact ret () Z dX5_lossOf_45 rfl (congrArg nI (lossV_0 c18).symm)
    · exact absurd c18 (by omega)
  · refine lv_iload_n hx hb dX5_lossOf_21 rfl (lv_at hl 0 rfl) ?_
    refine lv_aload_n hx hb dX5_lossOf_22 rfl (lv_at hl 1 rfl) ?_
    refine gF_X5_10 E Z dX5_lossOf_23 0 rfl rfl ?_
    refine lv_aload_n hx hb dX5_lossOf_26 rfl (lv_at hl 2 rfl) ?_
    refine c_Vi (As := [.ref gq]) (rest := [.int (nI (sm (wdp mc n sets amts ch) size))]) (w2 := fun _ => [oX q xm bn bl tr, oP (q 1) (q 2) (q 3) size ch, aN cA (q 2) 16 sets, aN cA (q 3) 8 amts, oG gq gm mc n, aN cA gm 4 mem]) E Z (k_X1_idleOf l D cA (q 1) (q 2) (q 3) size ch sets gq gm mc n mem (by first | assumption | omega) (by first | assumption | omega) (by first | assumption | omega) (by first | assumption | omega) (by first | assumption | omega)) wv_X5_240 ⟨rfl, rfl, Nat.le_of_ble_eq_true rfl, Nat.le_of_ble_eq_true rfl⟩ [1, 2, 4, 5] rfl rfl rfl rfl (q0 := 0) rfl (fun _ => rfl) (fun _ => rfl) rfl hl.1 rfl (Nat.le_of_ble_eq_true rfl) dX5_lossOf_27 ⟨Nat.zero_le _, Nat.zero_le _⟩ (fun r27 _ H locs hp27 Z => ?_)
    subst hp27
    refine n_iadd hx hb dX5_lossOf_30 ?_
    refine lv_istore_n (lv' := [(3, .int (nI (sm (wdp mc n sets amts ch) size + (sm (idp mc n sets ch) size)))), (0, .ref (q 0)), (1, .ref gq), (2, .int (nI kd))]) hx hb dX5_lossOf_31 rfl hl (by decide) rfl (fun ls hl => ?_)
    refine lv_iload_n hx hb dX5_lossOf_32 rfl (lv_at hl 3 rfl) ?_
    refine lv_iconst (v := nI 2) hx hb dX5_lossOf_33 (by decide) ?_
    refine n_icmp_lt (tgt := 44) hx hb dX5_lossOf_34 (by decide) (by omega) (by omega) (fun c34 => ?_) (fun c34 => ?_)
    · refine lv_iload_n hx hb dX5_lossOf_44 rfl (lv_at hl 0 rfl) ?_
      exact ret () Z dX5_lossOf_45 rfl (congrArg nI (lossV_1 c18 c34).symm)
    · refine lv_iload_n hx hb dX5_lossOf_37 rfl (lv_at hl 0 rfl) ?_
      refine lv_aload_n hx hb dX5_lossOf_38 rfl (lv_at hl 2 rfl) ?_
      refine c_Vi (As := []) (rest := [.int (nI (sm (wdp mc n sets amts ch) size + (sm (idp mc n sets ch) size)))]) (w2 := fun _ => [oX q xm bn bl tr, oP (q 1) (q 2) (q 3) size ch, aN cA (q 2) 16 sets, aN cA (q 3) 8 amts, oG gq gm mc n, aN cA gm 4 mem]) E Z (k_X0_squares l D cA gq gm mc n mem (by first | assumption | omega) (by first | assumption | omega)) wv_X5_243 ⟨rfl, rfl, Nat.le_of_ble_eq_true rfl, Nat.le_of_ble_eq_true rfl⟩ [4, 5] rfl rfl rfl rfl (q0 := 0) rfl (fun _ => rfl) (fun _ => rfl) rfl hl.1 rfl (Nat.le_of_ble_eq_true rfl) dX5_lossOf_39 ⟨Nat.zero_le _, Nat.zero_le _⟩ (fun r39 _ H locs hp39 Z => ?_)
      subst hp39
      refine n_iadd hx hb dX5_lossOf_42 ?_
      refine lv_istore_n (lv' := [(3, .int (nI (sm (wdp mc n sets amts ch) size + (sm (idp mc n sets ch) size) + (sm (sq mc n) 4)))), (0, .ref (q 0)), (1, .ref gq), (2, .int (nI kd))]) hx hb dX5_lossOf_43 rfl hl (by decide) rfl (fun ls hl => ?_)
      refine lv_iload_n hx hb dX5_lossOf_44 rfl (lv_at hl 0 rfl) ?_
      exact ret () Z dX5_lossOf_45 rfl (congrArg nI (lossV_2 c18 c34).symm)
abbrev rm_k_X5_seekGrouping : Room := { frames := 5, cells := 0, slots := 0, locals := 113 }
set_option maxHeartbeats 4000000 in
set_option maxRecDepth 100000 in
theorem k_X5_seekGrouping (l : Launch) (D : va_G) (cA : ClassId) (q : Nat → Nat) (mc : Nat) (bn : Nat) (bl : Nat) (tr : Int64) (size : Nat) (ch : Nat) (sets : Nat → Nat) (amts : Nat → Nat) (tmc : Nat) (tn : Nat) (tmem : Nat → Nat) (kd : Nat) (L : Nat) (hP : size ≤ 8) (hch : ch < 256) (hs : ∀ j, sets j < 2 ^ mc) (hkd : kd < 3) (hL : L ≤ 7) (hm1 : 1 ≤ mc) (hM : mc ≤ 7) (ha10 : ∀ j, amts j < 10) : Ctv l yX5_seekGrouping cX5_seekGrouping 6 none rm_k_X5_seekGrouping D cA [.ref (q 0), .int (nI kd), .int (nI L)] ([oX q mc bn bl tr, oP (q 1) (q 2) (q 3) size ch, aN cA (q 2) 16 sets, aN cA (q 3) 8 amts, oG (q 6) (q 7) tmc tn, aN cA (q 7) 4 tmem]) (fun (_ : Nat × Nat × (Nat → Nat)) => True) (fun u => [oX q mc ((sgb mc size sets amts ch kd L (2 ^ (2 * mc - 2))).1) ((sgb mc size sets amts ch kd L (2 ^ (2 * mc - 2))).2) tr, oP (q 1) (q 2) (q 3) size ch, aN cA (q 2) 16 sets, aN cA (q 3) 8 amts, oG (q 6) (q 7) u.1 u.2.1, aN cA (q 7) 4 u.2.2]) := by
  refine st_v (by decide) (Nat.le_of_ble_eq_true rfl) ?_
  intro p e s m args below meth c A Q E ret Z ls hl
  have hx := E.1.1
  have hb := E.1.2.1
  have hl : lv_has ls 6 [(0, .ref (q 0)), (1, .int (nI kd)), (2, .int (nI L))] := hl
  have e4 : 2 ^ (2 * mc) = 4 * 2 ^ (2 * mc - 2) := by rw [show 2 * mc = 2 + (2 * mc - 2) by omega, Nat.pow_add]; simp
  have h14 : 2 ^ (2 * mc) ≤ 2 ^ 14 := Nat.pow_le_pow_right (by decide) (by omega)
  obtain ⟨E4, hE⟩ : ∃ x, x = 2 ^ (2 * mc - 2) := ⟨_, rfl⟩
  rw [← hE] at e4
  refine lv_aload_n hx hb dX5_seekGrouping_0 rfl (lv_at hl 0 rfl) ?_
  refine lv_iconst (v := nI 0) hx hb dX5_seekGrouping_1 (by decide) ?_
  refine pF_X5_151 (w1 := [oX q mc 0 bl tr, oP (q 1) (q 2) (q 3) size ch, aN cA (q 2) 16 sets, aN cA (q 3) 8 amts, oG (q 6) (q 7) tmc tn, aN cA (q 7) 4 tmem]) E Z dX5_seekGrouping_2 0 rfl (Nat.le_of_ble_eq_true rfl) rfl (fun H locs Z => ?_)
  refine lv_aload_n hx hb dX5_seekGrouping_5 rfl (lv_at hl 0 rfl) ?_
  refine lv_ldc (v := 1073741824) hx hb E.1.2.2.2.1 (E.1.2.2.2.2 _ mK_X5_246) dX5_seekGrouping_6 ?_
  refine r_top (y := nI 1073741824) (by decide) ?_
  refine pF_X5_154 (w1 := [oX q mc 0 1073741824 tr, oP (q 1) (q 2) (q 3) size ch, aN cA (q 2) 16 sets, aN cA (q 3) 8 amts, oG (q 6) (q 7) tmc tn, aN cA (q 7) 4 tmem]) E Z dX5_seekGrouping_8 0 rfl (Nat.le_of_ble_eq_true rfl) rfl (fun H locs Z => ?_)
  refine lv_aload_n hx hb dX5_seekGrouping_11 rfl (lv_at hl 0 rfl) ?_
  refine c_Vi (As := []) (rest := []) (w2 := fun _ => [oX q mc 0 1073741824 tr, oP (q 1) (q 2) (q 3) size ch, aN cA (q 2) 16 sets, aN cA (q 3) 8 amts, oG (q 6) (q 7) tmc tn, aN cA (q 7) 4 tmem]) E Z (k_X5_groupings l D cA q mc 0 1073741824 tr (by first | assumption | omega)) wv_X5_112 ⟨rfl, rfl, Nat.le_of_ble_eq_true rfl, Nat.le_of_ble_eq_true rfl⟩ [0] rfl rfl rfl rfl (q0 := 0) rfl (fun _ => rfl) (fun _ => rfl) rfl hl.1 rfl (Nat.le_of_ble_eq_true rfl) dX5_seekGrouping_12 ⟨Nat.zero_le _, Nat.zero_le _⟩ (fun r12 _ H locs hp12 Z => ?_)
  subst hp12
  refine r_top (y := nI (4 * E4)) (congrArg nI e4) ?_
  refine lv_istore_n (lv' := [(3, .int (nI (4 * E4))), (0, .ref (q 0)), (1, .int (nI kd)), (2, .int (nI L))]) hx hb dX5_seekGrouping_15 rfl hl (by decide) rfl (fun ls hl => ?_)
  refine lv_iconst (v := nI 0) hx hb dX5_seekGrouping_16 (by decide) ?_
  refine lv_istore (lv' := [(4, .int (nI 0)), (3, .int (nI (4 * E4))), (0, .ref (q 0)), (1, .int (nI kd)), (2, .int (nI L))]) hx hb dX5_seekGrouping_17 hl (by decide) rfl (fun ls hl => ?_)
  have L19 : ∀ (n19 i : Nat), E4 + 1 ≤ i + n19 → i ≤ E4 → ∀ (tmc : Nat) (tn : Nat) (tmem : Nat → Nat), ∀ (H : Heap) (locs : List Loc), Wd D A s ([oX q mc ((sgb mc size sets amts ch kd L i).1) ((sgb mc size sets amts ch kd L i).2) tr, oP (q 1) (q 2) (q 3) size ch, aN cA (q 2) 16 sets, aN cA (q 3) 8 amts, oG (q 6) (q 7) tmc tn, aN cA (q 7) 4 tmem]) H locs → ∀ (ls : Array Slot), lv_has ls 6 [(0, .ref (q 0)), (1, .int (nI kd)), (2, .int (nI L)), (3, .int (nI (4 * E4))), (4, .int (nI (4 * i)))] → W p l e rm_k_X5_seekGrouping s m args below meth c H locs 0 0 Q (F0 m 19 ls []) := by
    intro n19
    induction n19 with
    | zero => exact fun i h1 h2 => absurd h1 (by omega)
    | succ n19 ih19 =>
      intro i hn19 hi19 tmc tn tmem  H locs Z ls hl
      refine lv_iload hx hb dX5_seekGrouping_19 (lv_at hl 4 rfl) ?_
      refine lv_iload_n hx hb dX5_seekGrouping_21 rfl (lv_at hl 3 rfl) ?_
      refine n_icmp_ge (tgt := 105) hx hb dX5_seekGrouping_22 (by decide) (by omega) (by omega) (fun c22 => ?_) (fun c22 => ?_)
      · obtain rfl : E4 = i := by omega
        exact ret (_, _, _) Z dX5_seekGrouping_105 (by rw [hE]) trivial
      · refine lv_iload hx hb dX5_seekGrouping_25 (lv_at hl 4 rfl) ?_
        refine lv_aload_n hx hb dX5_seekGrouping_27 rfl (lv_at hl 0 rfl) ?_
        refine gF_X5_71 E Z dX5_seekGrouping_28 0 rfl rfl ?_
        refine c_Si (As := [.int (nI (4 * i)), .int (nI mc)]) (rest := []) (w2 := fun _ => [oX q mc ((sgb mc size sets amts ch kd L i).1) ((sgb mc size sets amts ch kd L i).2) tr, oP (q 1) (q 2) (q 3) size ch, aN cA (q 2) 16 sets, aN cA (q 3) 8 amts, oG (q 6) (q 7) tmc tn, aN cA (q 7) 4 tmem]) E Z (k_X0_isPlain l D cA (4 * i) mc (by omega) (by first | assumption | omega)) ws_X5_157 ⟨rfl, rfl, Nat.le_of_ble_eq_true rfl, Nat.le_of_ble_eq_true rfl⟩ [] rfl rfl (fun _ => rfl) (fun _ => rfl) rfl hl.1 rfl (Nat.le_of_ble_eq_true rfl) dX5_seekGrouping_31 ⟨Nat.zero_le _, Nat.zero_le _⟩ (fun r31 _ H locs hp31 Z => ?_)
        subst hp31
        refine b_if_ne (tgt := 40) hx hb dX5_seekGrouping_34 (by decide) (fun c34 => ?_) (fun c34 => ?_)
        · refine lv_aload_n hx hb dX5_seekGrouping_40 rfl (lv_at hl 0 rfl) ?_
          refine gF_X5_23 E Z dX5_seekGrouping_41 0 rfl rfl ?_
          refine lv_iload hx hb dX5_seekGrouping_44 (lv_at hl 4 rfl) ?_
          refine lv_aload_n hx hb dX5_seekGrouping_46 rfl (lv_at hl 0 rfl) ?_
          refine gF_X5_71 E Z dX5_seekGrouping_47 0 rfl rfl ?_
          refine c_Vv (As := [.int (nI (4 * i)), .int (nI mc)]) (rest := []) (w2 := fun _ => [oX q mc ((sgb mc size sets amts ch kd L i).1) ((sgb mc size sets amts ch kd L i).2) tr, oP (q 1) (q 2) (q 3) size ch, aN cA (q 2) 16 sets, aN cA (q 3) 8 amts, oG (q 6) (q 7) mc (4 * i), aN cA (q 7) 4 (mF (4 * i) mc)]) E Z (k_X0_become l D cA (q 6) (q 7) tmc tn tmem (4 * i) mc (by omega) (by first | assumption | omega)) wv_X5_119 ⟨rfl, rfl, Nat.le_of_ble_eq_true rfl, Nat.le_of_ble_eq_true rfl⟩ [4, 5] rfl rfl rfl rfl (q0 := 0) rfl (fun _ => rfl) (fun _ => rfl) rfl hl.1 rfl (Nat.le_of_ble_eq_true rfl) dX5_seekGrouping_50 ⟨Nat.zero_le _, Nat.zero_le _⟩ (fun _ H locs hp50 Z => ?_)
          refine lv_aload_n hx hb dX5_seekGrouping_53 rfl (lv_at hl 0 rfl) ?_
          refine gF_X5_23 E Z dX5_seekGrouping_54 0 rfl rfl ?_
          refine c_Vi (As := []) (rest := []) (w2 := fun _ => [oX q mc ((sgb mc size sets amts ch kd L i).1) ((sgb mc size sets amts ch kd L i).2) tr, oP (q 1) (q 2) (q 3) size ch, aN cA (q 2) 16 sets, aN cA (q 3) 8 amts, oG (q 6) (q 7) mc (4 * i), aN cA (q 7) 4 (mF (4 * i) mc)]) E Z (k_X0_largest l D cA (q 6) (q 7) mc (4 * i) (mF (4 * i) mc) (mF_ok _ mc hM) (by first | assumption | omega)) wv_X5_247 ⟨rfl, rfl, Nat.le_of_ble_eq_true rfl, Nat.le_of_ble_eq_true rfl⟩ [4, 5] rfl rfl rfl rfl (q0 := 0) rfl (fun _ => rfl) (fun _ => rfl) rfl hl.1 rfl (Nat.le_of_ble_eq_true rfl) dX5_seekGrouping_57 ⟨Nat.zero_le _, Nat.zero_le _⟩ (fun r57 _ H locs hp57 Z => ?_)
          subst hp57
          refine lv_iload_n hx hb dX5_seekGrouping_60 rfl (lv_at hl 2 rfl) ?_
          have hl4 := lrg_le mc (4 * i) 4
          refine n_icmp_le (tgt := 67) hx hb dX5_seekGrouping_61 (by decide) (by omega) (by omega) (fun c61 => ?_) (fun c61 => ?_)
          · refine lv_aload_n hx hb dX5_seekGrouping_67 rfl (lv_at hl 0 rfl) ?_
            refine lv_aload_n hx hb dX5_seekGrouping_68 rfl (lv_at hl 0 rfl) ?_
            refine gF_X5_23 E Z dX5_seekGrouping_69 0 rfl rfl ?_
            refine lv_iload_n hx hb dX5_seekGrouping_72 rfl (lv_at hl 1 rfl) ?_
            refine c_Vi (As := [.ref (q 6), .int (nI kd)]) (rest := []) (w2 := fun _ => [oX q mc ((sgb mc size sets amts ch kd L i).1) ((sgb mc size sets amts ch kd L i).2) tr, oP (q 1) (q 2) (q 3) size ch, aN cA (q 2) 16 sets, aN cA (q 3) 8 amts, oG (q 6) (q 7) mc (4 * i), aN cA (q 7) 4 (mF (4 * i) mc)]) E Z (k_X5_lossOf l D cA q mc ((sgb mc size sets amts ch kd L i).1) ((sgb mc size sets amts ch kd L i).2) tr size ch sets amts (q 6) (q 7) mc (4 * i) (mF (4 * i) mc) kd (by first | assumption | omega) (by first | assumption | omega) (by first | assumption | omega) (by first | assumption | omega) (mF_ok _ mc hM) (by first | assumption | omega)) wv_X5_144 ⟨rfl, rfl, Nat.le_of_ble_eq_true rfl, Nat.le_of_ble_eq_true rfl⟩ [0, 1, 2, 3, 4, 5] rfl rfl rfl rfl (q0 := 0) rfl (fun _ => rfl) (fun _ => rfl) rfl hl.1 rfl (Nat.le_of_ble_eq_true rfl) dX5_seekGrouping_73 ⟨Nat.zero_le _, Nat.zero_le _⟩ (fun r73 _ H locs hp73 Z => ?_)
            subst hp73
            refine lv_istore (lv' := [(5, .int (nI (lossV mc (4 * i) size sets amts ch kd))), (0, .ref (q 0)), (1, .int (nI kd)), (2, .int (nI L)), (3, .int (nI (4 * E4))), (4, .int (nI (4 * i)))]) hx hb dX5_seekGrouping_76 hl (by decide) rfl (fun ls hl => ?_)
            refine lv_iload hx hb dX5_seekGrouping_78 (lv_at hl 0 rfl) ?_
            refine lv_aload_n hx hb dX5_seekGrouping_80 rfl (lv_at hl 1 rfl) ?_
            refine gF_X5_154 E Z dX5_seekGrouping_81 0 rfl rfl ?_
            have hv := lossV_le (g := 4 * i) (sets := sets) (ch := ch) (kd := kd) hM hP ha10
            have hg := sgb_le mc size sets amts ch kd L i
            refine n_icmp_ge (tgt := 99) hx hb dX5_seekGrouping_84 (by decide) (by omega) (by omega) (fun c84 => ?_) (fun c84 => ?_)
            · replace Z : Wd D A s ([oX q mc ((sgb mc size sets amts ch kd L (i + 1)).1) ((sgb mc size sets amts ch kd L (i + 1)).2) tr, oP (q 1) (q 2) (q 3) size ch, aN cA (q 2) 16 sets, aN cA (q 3) 8 amts, oG (q 6) (q 7) mc (4 * i), aN cA (q 7) 4 (mF (4 * i) mc)]) _ _ := Z.to (by rw [show sgb mc size sets amts ch kd L (i + 1) = sgb mc size sets amts ch kd L i from cnd_f (fun h => Nat.not_lt.mpr c84 h.2.2)])
              refine lv_iinc (v := nI (4 * i + 4)) (lv' := [(4, .int (nI (4 * i + 4))), (5, .int (nI (lossV mc (4 * i) size sets amts ch kd))), (0, .ref (q 0)), (1, .int (nI kd)), (2, .int (nI L)), (3, .int (nI (4 * E4)))]) hx hb dX5_seekGrouping_99 hl (k := 5) rfl (n_inc _ _ (by decide)) (by decide) rfl (fun ls hl => ?_)
              refine lv_goto (tgt := 19) hx hb dX5_seekGrouping_102 (by decide) ?_
              exact ih19 (i + 1) (by omega) (by omega) _ _ _  _ _ Z ls (lv_sub hl [2, 3, 4, 5, 0] rfl)
            · refine lv_aload_n hx hb dX5_seekGrouping_87 rfl (lv_at hl 1 rfl) ?_
              refine lv_iload hx hb dX5_seekGrouping_88 (lv_at hl 0 rfl) ?_
              refine pF_X5_154 (w1 := [oX q mc ((sgb mc size sets amts ch kd L i).1) (lossV mc (4 * i) size sets amts ch kd) tr, oP (q 1) (q 2) (q 3) size ch, aN cA (q 2) 16 sets, aN cA (q 3) 8 amts, oG (q 6) (q 7) mc (4 * i), aN cA (q 7) 4 (mF (4 * i) mc)]) E Z dX5_seekGrouping_90 0 rfl (Nat.le_of_ble_eq_true rfl) rfl (fun H locs Z => ?_)
              refine lv_aload_n hx hb dX5_seekGrouping_93 rfl (lv_at hl 1 rfl) ?_
              refine lv_iload hx hb dX5_seekGrouping_94 (lv_at hl 5 rfl) ?_
              refine pF_X5_151 (w1 := [oX q mc (4 * i) (lossV mc (4 * i) size sets amts ch kd) tr, oP (q 1) (q 2) (q 3) size ch, aN cA (q 2) 16 sets, aN cA (q 3) 8 amts, oG (q 6) (q 7) mc (4 * i), aN cA (q 7) 4 (mF (4 * i) mc)]) E Z dX5_seekGrouping_96 0 rfl (Nat.le_of_ble_eq_true rfl) rfl (fun H locs Z => ?_)
              replace Z : Wd D A s ([oX q mc ((sgb mc size sets amts ch kd L (i + 1)).1) ((sgb mc size sets amts ch kd L (i + 1)).2) tr, oP (q 1) (q 2) (q 3) size ch, aN cA (q 2) 16 sets, aN cA (q 3) 8 amts, oG (q 6) (q 7) mc (4 * i), aN cA (q 7) 4 (mF (4 * i) mc)]) _ _ := Z.to (by rw [show sgb mc size sets amts ch kd L (i + 1) = (4 * i, lossV mc (4 * i) size sets amts ch kd) from cnd_t ⟨c34, c61, c84⟩])
              refine lv_iinc (v := nI (4 * i + 4)) (lv' := [(4, .int (nI (4 * i + 4))), (5, .int (nI (lossV mc (4 * i) size sets amts ch kd))), (0, .ref (q 0)), (1, .int (nI kd)), (2, .int (nI L)), (3, .int (nI (4 * E4)))]) hx hb dX5_seekGrouping_99 hl (k := 5) rfl (n_inc _ _ (by decide)) (by decide) rfl (fun ls hl => ?_)
              refine lv_goto (tgt := 19) hx hb dX5_seekGrouping_102 (by decide) ?_
              exact ih19 (i + 1) (by omega) (by omega) _ _ _  _ _ Z ls (lv_sub hl [2, 3, 4, 5, 0] rfl)
          · refine lv_goto (tgt := 99) hx hb dX5_seekGrouping_64 (by decide) ?_
            replace Z : Wd D A s ([oX q mc ((sgb mc size sets amts ch kd L (i + 1)).1) ((sgb mc size sets amts ch kd L (i + 1)).2) tr, oP (q 1) (q 2) (q 3) size ch, aN cA (q 2) 16 sets, aN cA (q 3) 8 amts, oG (q 6) (q 7) mc (4 * i), aN cA (q 7) 4 (mF (4 * i) mc)]) _ _ := Z.to (by rw [show sgb mc size sets amts ch kd L (i + 1) = sgb mc size sets amts ch kd L i from cnd_f (fun h => Nat.not_lt.mpr h.2.1 c61)])
            refine lv_iinc (v := nI (4 * i + 4)) (lv' := [(4, .int (nI (4 * i + 4))), (0, .ref (q 0)), (1, .int (nI kd)), (2, .int (nI L)), (3, .int (nI (4 * E4)))]) hx hb dX5_seekGrouping_99 hl (k := 4) rfl (n_inc _ _ (by decide)) (by decide) rfl (fun ls hl => ?_)
            refine lv_goto (tgt := 19) hx hb dX5_seekGrouping_102 (by decide) ?_
            exact ih19 (i + 1) (by omega) (by omega) _ _ _  _ _ Z ls (lv_sub hl [1, 2, 3, 4, 0] rfl)
        · refine lv_goto (tgt := 99) hx hb dX5_seekGrouping_37 (by decide) ?_
          replace Z : Wd D A s ([oX q mc ((sgb mc size sets amts ch kd L (i + 1)).1) ((sgb mc size sets amts ch kd L (i + 1)).2) tr, oP (q 1) (q 2) (q 3) size ch, aN cA (q 2) 16 sets, aN cA (q 3) 8 amts, oG (q 6) (q 7) tmc tn, aN cA (q 7) 4 tmem]) _ _ := Z.to (by rw [show sgb mc size sets amts ch kd L (i + 1) = sgb mc size sets amts ch kd L i from cnd_f (fun h => c34 h.1)])
          refine lv_iinc (v := nI (4 * i + 4)) (lv' := [(4, .int (nI (4 * i + 4))), (0, .ref (q 0)), (1, .int (nI kd)), (2, .int (nI L)), (3, .int (nI (4 * E4)))]) hx hb dX5_seekGrouping_99 hl (k := 4) rfl (n_inc _ _ (by decide)) (by decide) rfl (fun ls hl => ?_)
          refine lv_goto (tgt := 19) hx hb dX5_seekGrouping_102 (by decide) ?_
          exact ih19 (i + 1) (by omega) (by omega) _ _ _  _ _ Z ls (lv_sub hl [1, 2, 3, 4, 0] rfl)
  exact L19 (E4 + 1) 0 (by omega) (by omega) _ _ _  _ _ Z ls (lv_sub hl [2, 3, 4, 1, 0] rfl)
abbrev rm_k_X5_isRight : Room := { frames := 2, cells := 0, slots := 0, locals := 46 }
set_option maxHeartbeats 4000000 in
set_option maxRecDepth 100000 in
theorem k_X5_isRight (l : Launch) (D : va_G) (cA : ClassId) (q : Nat → Nat) (mc : Nat) (bn : Nat) (bl : Nat) (tr : Int64) (size : Nat) (ch : Nat) (sets : Nat → Nat) (amts : Nat → Nat) (bo : Nat → Nat) (sc : Nat) (hP : size ≤ 8) (hsc : sc < 256) (hs : ∀ j, sets j < 128) (hM : mc ≤ 7) (ha10 : ∀ j, amts j < 10) (hb100 : ∀ j, bo j < 100) : Cti l yX5_isRight cX5_isRight 3 (some .boolean) rm_k_X5_isRight D cA [.ref (q 0), .int (nI sc)] ([oX q mc bn bl tr, oP (q 1) (q 2) (q 3) size ch, aN cA (q 2) 16 sets, aN cA (q 3) 8 amts, aN cA (q 17) 7 bo]) (fun (r : Int32) (_ : Unit) => r = bI (right mc size sets amts bo sc)) (fun _ => [oX q mc bn bl tr, oP (q 1) (q 2) (q 3) size ch, aN cA (q 2) 16 sets, aN cA (q 3) 8 amts, aN cA (q 17) 7 bo]) := by
  refine st_z (by decide) (Nat.le_of_ble_eq_true rfl) ?_
  intro p e s m args below meth c A Q E ret Z ls hl
  have hx := E.1.1
  have hb := E.1.2.1
  have hl : lv_has ls 3 [(0, .ref (q 0)), (1, .int (nI sc))] := hl
  refine lv_iconst (v := nI 0) hx hb dX5_isRight_0 (by decide) ?_
  refine lv_istore_n (lv' := [(2, .int (nI 0)), (0, .ref (q 0)), (1, .int (nI sc))]) hx hb dX5_isRight_1 rfl hl (by decide) rfl (fun ls hl => ?_)
  have L2 : ∀ (n2 i : Nat), mc + 1 ≤ i + n2 → i ≤ mc → (∀ j, j < i → sm (ldp sets amts sc j) size ≤ bo j) → ∀ (H : Heap) (locs : List Loc), Wd D A s ([oX q mc bn bl tr, oP (q 1) (q 2) (q 3) size ch, aN cA (q 2) 16 sets, aN cA (q 3) 8 amts, aN cA (q 17) 7 bo]) H locs → ∀ (ls : Array Slot), lv_has ls 3 [(0, .ref (q 0)), (1, .int (nI sc)), (2, .int (nI i))] → W p l e rm_k_X5_isRight s m args below meth c H locs 0 0 Q (F0 m 2 ls []) := by
    intro n2
    induction n2 with
    | zero => exact fun i h1 h2 => absurd h1 (by omega)
    | succ n2 ih2 =>
      intro i hn2 hi2 hv H locs Z ls hl
      refine lv_iload_n hx hb dX5_isRight_2 rfl (lv_at hl 2 rfl) ?_
      refine lv_aload_n hx hb dX5_isRight_3 rfl (lv_at hl 0 rfl) ?_
      refine gF_X5_71 E Z dX5_isRight_4 0 rfl rfl ?_
      refine n_icmp_ge (tgt := 36) hx hb dX5_isRight_7 (by decide) (by omega) (by omega) (fun c7 => ?_) (fun c7 => ?_)
      · obtain rfl : mc = i := by omega
        refine lv_iconst (v := nI 1) hx hb dX5_isRight_36 (by decide) ?_
        exact ret () Z dX5_isRight_37 (Or.inr nI_one) rfl (nI_one.trans (bI_t hv).symm)
      · refine lv_aload_n hx hb dX5_isRight_10 rfl (lv_at hl 0 rfl) ?_
        refine gF_X5_10 E Z dX5_isRight_11 0 rfl rfl ?_
        refine lv_iload_n hx hb dX5_isRight_14 rfl (lv_at hl 1 rfl) ?_
        refine lv_iload_n hx hb dX5_isRight_15 rfl (lv_at hl 2 rfl) ?_
        refine c_Vi (As := [.int (nI sc), .int (nI i)]) (rest := []) (w2 := fun _ => [oX q mc bn bl tr, oP (q 1) (q 2) (q 3) size ch, aN cA (q 2) 16 sets, aN cA (q 3) 8 amts, aN cA (q 17) 7 bo]) E Z (k_X1_loadBy l D cA (q 1) (q 2) (q 3) size ch sets amts sc i (by first | assumption | omega) (by first | assumption | omega) (by first | assumption | omega) (by first | assumption | omega)) wv_X5_177 ⟨rfl, rfl, Nat.le_of_ble_eq_true rfl, Nat.le_of_ble_eq_true rfl⟩ [1, 2, 3] rfl rfl rfl rfl (q0 := 0) rfl (fun _ => rfl) (fun _ => rfl) rfl hl.1 rfl (Nat.le_of_ble_eq_true rfl) dX5_isRight_16 ⟨Nat.zero_le _, Nat.zero_le _⟩ (fun r16 _ H locs hp16 Z => ?_)
        subst hp16
        refine lv_aload_n hx hb dX5_isRight_19 rfl (lv_at hl 0 rfl) ?_
        refine gF_X5_47 E Z dX5_isRight_20 0 rfl rfl ?_
        refine lv_iload_n hx hb dX5_isRight_23 rfl (lv_at hl 2 rfl) ?_
        refine r_ald E Z dX5_isRight_24 4 rfl (by omega) (by decide) ?_
        have h1 := lds_le (sets := sets) (sc := sc) (m := i) hP ha10
        have h2 := hb100 i
        refine n_icmp_le (tgt := 30) hx hb dX5_isRight_25 (by decide) (by omega) (by omega) (fun c25 => ?_) (fun c25 => ?_)
        · refine lv_iinc (v := nI (i + 1)) (lv' := [(2, .int (nI (i + 1))), (0, .ref (q 0)), (1, .int (nI sc))]) hx hb dX5_isRight_30 hl (k := 2) rfl (n_inc _ _ (by decide)) (by decide) rfl (fun ls hl => ?_)
          refine lv_goto (tgt := 2) hx hb dX5_isRight_33 (by decide) ?_
          exact ih2 (i + 1) (by omega) (by omega)  (fun j h => (Nat.lt_succ_iff_lt_or_eq.mp h).elim (hv j) (fun z => z ▸ c25)) _ _ Z ls (lv_sub hl [1, 2, 0] rfl)
        · refine lv_iconst (v := nI 0) hx hb dX5_isRight_28 (by decide) ?_
          exact ret () Z dX5_isRight_29 (Or.inl nI_0) rfl (nI_0.trans (bI_f (fun h => absurd (h i (by omega)) (by omega))).symm)
  exact L2 (mc + 1) 0 (by omega) (by omega)  (fun j h => absurd h (Nat.not_lt_zero j)) _ _ Z ls (lv_sub hl [1, 2, 0] rfl)
abbrev rm_k_X5_bestChoice : Room := { frames := 4, cells := 0, slots := 0, locals := 90 }
set_option maxHeartbeats 4000000 in
set_option maxRecDepth 100000 in
theorem k_X5_bestChoice (l : Launch) (D : va_G) (cA : ClassId) (q : Nat → Nat) (mc : Nat) (bn : Nat) (bl : Nat) (tr : Int64) (size : Nat) (ch : Nat) (sets : Nat → Nat) (amts : Nat → Nat) (num : Nat) (bo : Nat → Nat) (hP : size ≤ 8) (hs : ∀ j, sets j < 2 ^ mc) (hM : mc ≤ 7) (ha10 : ∀ j, amts j < 10) (hb100 : ∀ j, bo j < 100) : Cti l yX5_bestChoice cX5_bestChoice 6 (some .int) rm_k_X5_bestChoice D cA [.ref (q 0)] ([oX q mc bn bl tr, oP (q 1) (q 2) (q 3) size ch, aN cA (q 2) 16 sets, aN cA (q 3) 8 amts, oG (q 4) (q 5) mc num, aN cA (q 5) 4 (mF num mc), aN cA (q 17) 7 bo]) (fun (r : Int32) (_ : Unit) => r = ((bch mc num size sets amts bo (2 ^ size)).1)) (fun _ => [oX q mc bn bl tr, oP (q 1) (q 2) (q 3) size ch, aN cA (q 2) 16 sets, aN cA (q 3) 8 amts, oG (q 4) (q 5) mc num, aN cA (q 5) 4 (mF num mc), aN cA (q 17) 7 bo]) := by
  refine st_i (by decide) (Nat.le_of_ble_eq_true rfl) ?_
  intro p e s m args below meth c A Q E ret Z ls hl
  have hx := E.1.1
  have hb := E.1.2.1
  have hl : lv_has ls 6 [(0, .ref (q 0))] := hl
  have h8 : 2 ^ size ≤ 2 ^ 8 := Nat.pow_le_pow_right (by decide) hP
  have hs7 : ∀ j, sets j < 128 := fun j => Nat.lt_of_lt_of_le (hs j) (show 2 ^ mc ≤ 2 ^ 7 from Nat.pow_le_pow_right (by decide) hM)
  obtain ⟨E2, hE⟩ : ∃ x, x = 2 ^ size := ⟨_, rfl⟩
  rw [← hE] at h8
  refine lv_bipush (v := (-9)) hx hb dX5_bestChoice_0 (by decide) ?_
  refine lv_istore_n (lv' := [(1, .int (-9)), (0, .ref (q 0))]) hx hb dX5_bestChoice_2 rfl hl (by decide) rfl (fun ls hl => ?_)
  refine lv_ldc (v := 1073741824) hx hb E.1.2.2.2.1 (E.1.2.2.2.2 _ mK_X5_246) dX5_bestChoice_3 ?_
  refine r_top (y := nI 1073741824) (by decide) ?_
  refine lv_istore_n (lv' := [(2, .int (nI 1073741824)), (1, .int (-9)), (0, .ref (q 0))]) hx hb dX5_bestChoice_5 rfl hl (by decide) rfl (fun ls hl => ?_)
  refine lv_iconst (v := nI 1) hx hb dX5_bestChoice_6 (by decide) ?_
  refine lv_aload_n hx hb dX5_bestChoice_7 rfl (lv_at hl 2 rfl) ?_
  refine gF_X5_10 E Z dX5_bestChoice_8 0 rfl rfl ?_
  refine c_Vi (As := []) (rest := [.int (nI 1)]) (w2 := fun _ => [oX q mc bn bl tr, oP (q 1) (q 2) (q 3) size ch, aN cA (q 2) 16 sets, aN cA (q 3) 8 amts, oG (q 4) (q 5) mc num, aN cA (q 5) 4 (mF num mc), aN cA (q 17) 7 bo]) E Z (k_X1_howMany l D cA (q 1) (q 2) (q 3) size ch ) wv_X5_237 ⟨rfl, rfl, Nat.le_of_ble_eq_true rfl, Nat.le_of_ble_eq_true rfl⟩ [1] rfl rfl rfl rfl (q0 := 0) rfl (fun _ => rfl) (fun _ => rfl) rfl hl.1 rfl (Nat.le_of_ble_eq_true rfl) dX5_bestChoice_11 ⟨Nat.zero_le _, Nat.zero_le _⟩ (fun r11 _ H locs hp11 Z => ?_)
  subst hp11
  refine n_ishl1 hx hb dX5_bestChoice_14 (by omega) ?_
  refine r_top (y := nI E2) (congrArg nI hE.symm) ?_
  refine lv_istore_n (lv' := [(3, .int (nI E2)), (2, .int (nI 1073741824)), (1, .int (-9)), (0, .ref (q 0))]) hx hb dX5_bestChoice_15 rfl hl (by decide) rfl (fun ls hl => ?_)
  refine lv_iconst (v := nI 0) hx hb dX5_bestChoice_16 (by decide) ?_
  refine lv_istore (lv' := [(4, .int (nI 0)), (3, .int (nI E2)), (2, .int (nI 1073741824)), (1, .int (-9)), (0, .ref (q 0))]) hx hb dX5_bestChoice_17 hl (by decide) rfl (fun ls hl => ?_)
  have L19 : ∀ (n19 i : Nat), E2 + 1 ≤ i + n19 → i ≤ E2 → ∀ (H : Heap) (locs : List Loc), Wd D A s ([oX q mc bn bl tr, oP (q 1) (q 2) (q 3) size ch, aN cA (q 2) 16 sets, aN cA (q 3) 8 amts, oG (q 4) (q 5) mc num, aN cA (q 5) 4 (mF num mc), aN cA (q 17) 7 bo]) H locs → ∀ (ls : Array Slot), lv_has ls 6 [(0, .ref (q 0)), (1, .int ((bch mc num size sets amts bo i).1)), (2, .int (nI ((bch mc num size sets amts bo i).2))), (3, .int (nI E2)), (4, .int (nI i))] → W p l e rm_k_X5_bestChoice s m args below meth c H locs 0 0 Q (F0 m 19 ls []) := by
    intro n19
    induction n19 with
    | zero => exact fun i h1 h2 => absurd h1 (by omega)
    | succ n19 ih19 =>
      intro i hn19 hi19  H locs Z ls hl
      refine lv_iload hx hb dX5_bestChoice_19 (lv_at hl 4 rfl) ?_
      refine lv_iload_n hx hb dX5_bestChoice_21 rfl (lv_at hl 3 rfl) ?_
      refine n_icmp_ge (tgt := 67) hx hb dX5_bestChoice_22 (by decide) (by omega) (by omega) (fun c22 => ?_) (fun c22 => ?_)
      · obtain rfl : E2 = i := by omega
        refine lv_iload_n hx hb dX5_bestChoice_67 rfl (lv_at hl 1 rfl) ?_
        exact ret () Z dX5_bestChoice_68 rfl (by rw [hE])
      · refine lv_aload_n hx hb dX5_bestChoice_25 rfl (lv_at hl 0 rfl) ?_
        refine gF_X5_10 E Z dX5_bestChoice_26 0 rfl rfl ?_
        refine lv_iload hx hb dX5_bestChoice_29 (lv_at hl 4 rfl) ?_
        refine lv_aload_n hx hb dX5_bestChoice_31 rfl (lv_at hl 0 rfl) ?_
        refine gF_X5_19 E Z dX5_bestChoice_32 0 rfl rfl ?_
        refine c_Vi (As := [.int (nI i), .ref (q 4)]) (rest := []) (w2 := fun _ => [oX q mc bn bl tr, oP (q 1) (q 2) (q 3) size ch, aN cA (q 2) 16 sets, aN cA (q 3) 8 amts, oG (q 4) (q 5) mc num, aN cA (q 5) 4 (mF num mc), aN cA (q 17) 7 bo]) E Z (k_X1_wanderBy l D cA (q 1) (q 2) (q 3) size ch sets amts (q 4) (q 5) mc num (mF num mc) i (by first | assumption | omega) (by first | assumption | omega) (by first | assumption | omega) (mF_ok _ mc hM) (by first | assumption | omega)) wv_X5_183 ⟨rfl, rfl, Nat.le_of_ble_eq_true rfl, Nat.le_of_ble_eq_true rfl⟩ [1, 2, 3, 4, 5] rfl rfl rfl rfl (q0 := 0) rfl (fun _ => rfl) (fun _ => rfl) rfl hl.1 rfl (Nat.le_of_ble_eq_true rfl) dX5_bestChoice_35 ⟨Nat.zero_le _, Nat.zero_le _⟩ (fun r35 _ H locs hp35 Z => ?_)
        subst hp35
        refine lv_istore (lv' := [(5, .int (nI (sm (wdp mc num sets amts i) size))), (0, .ref (q 0)), (1, .int ((bch mc num size sets amts bo i).1)), (2, .int (nI ((bch mc num size sets amts bo i).2))), (3, .int (nI E2)), (4, .int (nI i))]) hx hb dX5_bestChoice_38 hl (by decide) rfl (fun ls hl => ?_)
        refine lv_iload hx hb dX5_bestChoice_40 (lv_at hl 0 rfl) ?_
        refine lv_iload_n hx hb dX5_bestChoice_42 rfl (lv_at hl 3 rfl) ?_
        have hv := wds_le (g := num) (sets := sets) (ch := i) hM hP ha10
        have hg := bch_le mc num size sets amts bo i
        refine n_icmp_ge (tgt := 61) hx hb dX5_bestChoice_43 (by decide) (by omega) (by omega) (fun c43 => ?_) (fun c43 => ?_)
        · replace hl : lv_has ls 6 [(5, .int (nI (sm (wdp mc num sets amts i) size))), (0, .ref (q 0)), (1, .int ((bch mc num size sets amts bo (i + 1)).1)), (2, .int (nI ((bch mc num size sets amts bo i).2))), (3, .int (nI E2)), (4, .int (nI i))] := by have e9 : bch mc num size sets amts bo (i + 1) = bch mc num size sets amts bo i := cnd_f (fun h => Nat.not_lt.mpr c43 h.1); rw [e9]; exact hl
          replace hl : lv_has ls 6 [(5, .int (nI (sm (wdp mc num sets amts i) size))), (0, .ref (q 0)), (1, .int ((bch mc num size sets amts bo (i + 1)).1)), (2, .int (nI ((bch mc num size sets amts bo (i + 1)).2))), (3, .int (nI E2)), (4, .int (nI i))] := by have e9 : bch mc num size sets amts bo (i + 1) = bch mc num size sets amts bo i := cnd_f (fun h => Nat.not_lt.mpr c43 h.1); rw [e9]; rw [e9] at hl; exact hl
          refine lv_iinc (v := nI (i + 1)) (lv' := [(4, .int (nI (i + 1))), (5, .int (nI (sm (wdp mc num sets amts i) size))), (0, .ref (q 0)), (1, .int ((bch mc num size sets amts bo (i + 1)).1)), (2, .int (nI ((bch mc num size sets amts bo (i + 1)).2))), (3, .int (nI E2))]) hx hb dX5_bestChoice_61 hl (k := 5) rfl (n_inc _ _ (by decide)) (by decide) rfl (fun ls hl => ?_)
          refine lv_goto (tgt := 19) hx hb dX5_bestChoice_64 (by decide) ?_
          exact ih19 (i + 1) (by omega) (by omega)   _ _ Z ls (lv_sub hl [2, 3, 4, 5, 0] rfl)
        · refine lv_aload_n hx hb dX5_bestChoice_46 rfl (lv_at hl 1 rfl) ?_
          refine lv_iload hx hb dX5_bestChoice_47 (lv_at hl 5 rfl) ?_
          refine c_Vi (As := [.int (nI i)]) (rest := []) (w2 := fun _ => [oX q mc bn bl tr, oP (q 1) (q 2) (q 3) size ch, aN cA (q 2) 16 sets, aN cA (q 3) 8 amts, oG (q 4) (q 5) mc num, aN cA (q 5) 4 (mF num mc), aN cA (q 17) 7 bo]) E Z (k_X5_isRight l D cA q mc bn bl tr size ch sets amts bo i (by first | assumption | omega) (by first | assumption | omega) hs7 (by first | assumption | omega) (by first | assumption | omega) (by first | assumption | omega)) wv_X5_250 ⟨rfl, rfl, Nat.le_of_ble_eq_true rfl, Nat.le_of_ble_eq_true rfl⟩ [0, 1, 2, 3, 6] rfl rfl rfl rfl (q0 := 0) rfl (fun _ => rfl) (fun _ => rfl) rfl hl.1 rfl (Nat.le_of_ble_eq_true rfl) dX5_bestChoice_49 ⟨Nat.zero_le _, Nat.zero_le _⟩ (fun r49 _ H locs hp49 Z => ?_)
          subst hp49
          refine b_if_eq (tgt := 61) hx hb dX5_bestChoice_52 (by decide) (fun c52 => ?_) (fun c52 => ?_)
          · replace hl : lv_has ls 6 [(5, .int (nI (sm (wdp mc num sets amts i) size))), (0, .ref (q 0)), (1, .int ((bch mc num size sets amts bo (i + 1)).1)), (2, .int (nI ((bch mc num size sets amts bo i).2))), (3, .int (nI E2)), (4, .int (nI i))] := by have e9 : bch mc num size sets amts bo (i + 1) = bch mc num size sets amts bo i := cnd_f (fun h => c52 h.2); rw [e9]; exact hl
            replace hl : lv_has ls 6 [(5, .int (nI (sm (wdp mc num sets amts i) size))), (0, .ref (q 0)), (1, .int ((bch mc num size sets amts bo (i + 1)).1)), (2, .int (nI ((bch mc num size sets amts bo (i + 1)).2))), (3, .int (nI E2)), (4, .int (nI i))] := by have e9 : bch mc num size sets amts bo (i + 1) = bch mc num size sets amts bo i := cnd_f (fun h => c52 h.2); rw [e9]; rw [e9] at hl; exact hl
            refine lv_iinc (v := nI (i + 1)) (lv' := [(4, .int (nI (i + 1))), (5, .int (nI (sm (wdp mc num sets amts i) size))), (0, .ref (q 0)), (1, .int ((bch mc num size sets amts bo (i + 1)).1)), (2, .int (nI ((bch mc num size sets amts bo (i + 1)).2))), (3, .int (nI E2))]) hx hb dX5_bestChoice_61 hl (k := 5) rfl (n_inc _ _ (by decide)) (by decide) rfl (fun ls hl => ?_)
            refine lv_goto (tgt := 19) hx hb dX5_bestChoice_64 (by decide) ?_
            exact ih19 (i + 1) (by omega) (by omega)   _ _ Z ls (lv_sub hl [2, 3, 4, 5, 0] rfl)
          · refine lv_iload hx hb dX5_bestChoice_55 (lv_at hl 0 rfl) ?_
            refine lv_istore_n (lv' := [(2, .int (nI (sm (wdp mc num sets amts i) size))), (5, .int (nI (sm (wdp mc num sets amts i) size))), (0, .ref (q 0)), (1, .int ((bch mc num size sets amts bo i).1)), (3, .int (nI E2)), (4, .int (nI i))]) hx hb dX5_bestChoice_57 rfl hl (by decide) rfl (fun ls hl => ?_)
            refine lv_iload hx hb dX5_bestChoice_58 (lv_at hl 5 rfl) ?_
            refine lv_istore_n (lv' := [(1, .int (nI i)), (2, .int (nI (sm (wdp mc num sets amts i) size))), (5, .int (nI (sm (wdp mc num sets amts i) size))), (0, .ref (q 0)), (3, .int (nI E2)), (4, .int (nI i))]) hx hb dX5_bestChoice_60 rfl hl (by decide) rfl (fun ls hl => ?_)
            replace hl : lv_has ls 6 [(1, .int ((bch mc num size sets amts bo (i + 1)).1)), (2, .int (nI (sm (wdp mc num sets amts i) size))), (5, .int (nI (sm (wdp mc num sets amts i) size))), (0, .ref (q 0)), (3, .int (nI E2)), (4, .int (nI i))] := by have e9 : bch mc num size sets amts bo (i + 1) = (nI i, sm (wdp mc num sets amts i) size) := cnd_t ⟨c43, c52⟩; rw [e9]; exact hl
            replace hl : lv_has ls 6 [(1, .int ((bch mc num size sets amts bo (i + 1)).1)), (2, .int (nI ((bch mc num size sets amts bo (i + 1)).2))), (5, .int (nI (sm (wdp mc num sets amts i) size))), (0, .ref (q 0)), (3, .int (nI E2)), (4, .int (nI i))] := by have e9 : bch mc num size sets amts bo (i + 1) = (nI i, sm (wdp mc num sets amts i) size) := cnd_t ⟨c43, c52⟩; rw [e9]; rw [e9] at hl; exact hl
            refine lv_iinc (v := nI (i + 1)) (lv' := [(4, .int (nI (i + 1))), (1, .int ((bch mc num size sets amts bo (i + 1)).1)), (2, .int (nI ((bch mc num size sets amts bo (i + 1)).2))), (5, .int (nI (sm (wdp mc num sets amts i) size))), (0, .ref (q 0)), (3, .int (nI E2))]) hx hb dX5_bestChoice_61 hl (k := 5) rfl (n_inc _ _ (by decide)) (by decide) rfl (fun ls hl => ?_)
            refine lv_goto (tgt := 19) hx hb dX5_bestChoice_64 (by decide) ?_
            exact ih19 (i + 1) (by omega) (by omega)   _ _ Z ls (lv_sub hl [4, 1, 2, 5, 0] rfl)
  exact L19 (E2 + 1) 0 (by omega) (by omega)   _ _ Z ls (lv_sub hl [4, 3, 2, 1, 0] rfl)
abbrev rm_k_X5_offerCopy : Room := { frames := 1, cells := 0, slots := 0, locals := 21 }
set_option maxHeartbeats 4000000 in
set_option maxRecDepth 100000 in
theorem k_X5_offerCopy (l : Launch) (D : va_G) (cA : ClassId) (q : Nat → Nat) (mc : Nat) (bn : Nat) (bl : Nat) (tr : Int64) (sv : Nat → Nat) (cost : Nat) (gain : Nat) (pu : Nat) (B0 : Nat) (hc1 : 1 ≤ cost ∧ cost ≤ 50) (hpu : pu ≤ 200) (hsv : ∀ j, sv j ≤ B0) (hB0 : B0 ≤ 1000000) (hgn : gain ≤ 72) : Ctv l yX5_offerCopy cX5_offerCopy 5 none rm_k_X5_offerCopy D cA [.ref (q 0), .int (nI cost), .int (nI gain), .int (nI pu)] ([oX q mc bn bl tr, aN cA (q 21) 201 sv]) (fun (_ : Unit) => True) (fun _ => [oX q mc bn bl tr, aN cA (q 21) 201 (ofs cost gain pu sv (pu + 1 - cost))]) := by
  refine st_v (by decide) (Nat.le_of_ble_eq_true rfl) ?_
  intro p e s m args below meth c A Q E ret Z ls hl
  have hx := E.1.1
  have hb := E.1.2.1
  have hl : lv_has ls 5 [(0, .ref (q 0)), (1, .int (nI cost)), (2, .int (nI gain)), (3, .int (nI pu))] := hl
  refine lv_iload_n hx hb dX5_offerCopy_0 rfl (lv_at hl 3 rfl) ?_
  refine lv_istore (lv' := [(4, .int (nI pu)), (0, .ref (q 0)), (1, .int (nI cost)), (2, .int (nI gain)), (3, .int (nI pu))]) hx hb dX5_offerCopy_1 hl (by decide) rfl (fun ls hl => ?_)
  have L3 : ∀ (n3 i : Nat), pu + 1 - cost + 1 ≤ i + n3 → i ≤ pu + 1 - cost → ∀ (H : Heap) (locs : List Loc), Wd D A s ([oX q mc bn bl tr, aN cA (q 21) 201 (ofs cost gain pu sv i)]) H locs → ∀ (ls : Array Slot), lv_has ls 5 [(0, .ref (q 0)), (1, .int (nI cost)), (2, .int (nI gain)), (3, .int (nI pu)), (4, .int (nI (pu - i)))] → W p l e rm_k_X5_offerCopy s m args below meth c H locs 0 0 Q (F0 m 3 ls []) := by
    intro n3
    induction n3 with
    | zero => exact fun i h1 h2 => absurd h1 (by omega)
    | succ n3 ih3 =>
      intro i hn3 hi3  H locs Z ls hl
      have hol := ofs_le (cost := cost) (gain := gain) (pu := pu) hsv i
      have hig : i * gain ≤ 201 * 72 := Nat.mul_le_mul (by omega) hgn
      refine lv_iload hx hb dX5_offerCopy_3 (lv_at hl 4 rfl) ?_
      refine lv_iload_n hx hb dX5_offerCopy_5 rfl (lv_at hl 1 rfl) ?_
      refine n_icmp_lt (tgt := 43) hx hb dX5_offerCopy_6 (by decide) (by omega) (by omega) (fun c6 => ?_) (fun c6 => ?_)
      · obtain rfl : pu + 1 - cost = i := by omega
        exact ret () Z dX5_offerCopy_43 rfl trivial
      · refine lv_aload_n hx hb dX5_offerCopy_9 rfl (lv_at hl 0 rfl) ?_
        refine gF_X5_60 E Z dX5_offerCopy_10 0 rfl rfl ?_
        refine lv_iload hx hb dX5_offerCopy_13 (lv_at hl 4 rfl) ?_
        refine lv_aload_n hx hb dX5_offerCopy_15 rfl (lv_at hl 0 rfl) ?_
        refine gF_X5_60 E Z dX5_offerCopy_16 0 rfl rfl ?_
        refine lv_iload hx hb dX5_offerCopy_19 (lv_at hl 4 rfl) ?_
        refine r_ald E Z dX5_offerCopy_21 1 rfl (by omega) (by decide) ?_
        refine lv_aload_n hx hb dX5_offerCopy_22 rfl (lv_at hl 0 rfl) ?_
        refine gF_X5_60 E Z dX5_offerCopy_23 0 rfl rfl ?_
        refine lv_iload hx hb dX5_offerCopy_26 (lv_at hl 4 rfl) ?_
        refine lv_iload_n hx hb dX5_offerCopy_28 rfl (lv_at hl 1 rfl) ?_
        refine n_isub hx hb dX5_offerCopy_29 (by omega) ?_
        refine r_ald E Z dX5_offerCopy_30 1 rfl (by omega) (by decide) ?_
        refine lv_iload_n hx hb dX5_offerCopy_31 rfl (lv_at hl 2 rfl) ?_
        refine n_iadd hx hb dX5_offerCopy_32 ?_
        have ho1 := hol (pu - i)
        have ho2 := hol (pu - i - cost)
        refine n_max E hl.1 mML_X5_256 dX5_offerCopy_33 (Nat.le_of_ble_eq_true rfl) (Nat.le_of_ble_eq_true rfl) ⟨Nat.zero_le _, Nat.zero_le _⟩ (by omega) (by omega) ?_
        refine r_ast (w1 := [oX q mc bn bl tr, aN cA (q 21) 201 (up (ofs cost gain pu sv i) (pu - i) (max ((ofs cost gain pu sv i) (pu - i)) ((ofs cost gain pu sv i) ((pu - i) - cost) + gain)))]) E Z dX5_offerCopy_36 1 rfl (by omega) (by decide) rfl (fun H locs Z => ?_)
        refine lv_iinc (v := nI (pu - i - 1)) (lv' := [(4, .int (nI (pu - i - 1))), (0, .ref (q 0)), (1, .int (nI cost)), (2, .int (nI gain)), (3, .int (nI pu))]) hx hb dX5_offerCopy_37 hl (k := 4) rfl (n_dec (by omega) (by decide)) (by decide) rfl (fun ls hl => ?_)
        refine lv_goto (tgt := 3) hx hb dX5_offerCopy_40 (by decide) ?_
        exact ih3 (i + 1) (by omega) (by omega)   _ _ Z ls (lv_sub hl [1, 2, 3, 4, 0] rfl)
  exact L3 ((pu + 1 - cost) + 1) 0 (by omega) (by omega)   _ _ Z ls (lv_sub hl [1, 2, 3, 4, 0] rfl)
abbrev rm_k_X5_offerCopies : Room := { frames := 3, cells := 0, slots := 0, locals := 71 }
set_option maxHeartbeats 4000000 in
set_option maxRecDepth 100000 in
theorem k_X5_offerCopies (l : Launch) (D : va_G) (cA : ClassId) (q : Nat → Nat) (mc : Nat) (bn : Nat) (bl : Nat) (tr : Int64) (size : Nat) (ch : Nat) (sets : Nat → Nat) (amts : Nat → Nat) (num : Nat) (pr : Nat → Nat) (sv : Nat → Nat) (k : Nat) (pu : Nat) (B0 : Nat) (hP : size ≤ 8) (hch : ch < 256) (hs : ∀ j, sets j < 128) (hM : mc ≤ 7) (ha10 : ∀ j, amts j < 10) (hk : k < mc) (hpu : pu ≤ 200) (hpr : ∀ j, 1 ≤ pr j ∧ pr j ≤ 50) (hsv : ∀ j, sv j ≤ B0) (hB0 : B0 ≤ 900000) (hn14 : num < 2 ^ 31) : Ctv l yX5_offerCopies cX5_offerCopies 4 none rm_k_X5_offerCopies D cA [.ref (q 0), .int (nI k), .int (nI pu)] ([oX q mc bn bl tr, oP (q 1) (q 2) (q 3) size ch, aN cA (q 2) 16 sets, aN cA (q 3) 8 amts, oG (q 4) (q 5) mc num, aN cA (q 5) 4 (mF num mc), aN cA (q 18) 7 pr, aN cA (q 21) 201 sv]) (fun (_ : Unit) => True) (fun _ => [oX q mc bn bl tr, oP (q 1) (q 2) (q 3) size ch, aN cA (q 2) 16 sets, aN cA (q 3) 8 amts, oG (q 4) (q 5) mc num, aN cA (q 5) 4 (mF num mc), aN cA (q 18) 7 pr, aN cA (q 21) 201 (oc mc num size sets amts ch (pr k) pu k sv 4)]) := by
  refine st_v (by decide) (Nat.le_of_ble_eq_true rfl) ?_
  intro p e s m args below meth c A Q E ret Z ls hl
  have hx := E.1.1
  have hb := E.1.2.1
  have hl : lv_has ls 4 [(0, .ref (q 0)), (1, .int (nI k)), (2, .int (nI pu))] := hl
  refine lv_iconst (v := nI 0) hx hb dX5_offerCopies_0 (by decide) ?_
  refine lv_istore_n (lv' := [(3, .int (nI 0)), (0, .ref (q 0)), (1, .int (nI k)), (2, .int (nI pu))]) hx hb dX5_offerCopies_1 rfl hl (by decide) rfl (fun ls hl => ?_)
  have L2 : ∀ (n2 d : Nat), 4 + 1 ≤ d + n2 → d ≤ 4 → ∀ (H : Heap) (locs : List Loc), Wd D A s ([oX q mc bn bl tr, oP (q 1) (q 2) (q 3) size ch, aN cA (q 2) 16 sets, aN cA (q 3) 8 amts, oG (q 4) (q 5) mc num, aN cA (q 5) 4 (mF num mc), aN cA (q 18) 7 pr, aN cA (q 21) 201 (oc mc num size sets amts ch (pr k) pu k sv d)]) H locs → ∀ (ls : Array Slot), lv_has ls 4 [(0, .ref (q 0)), (1, .int (nI k)), (2, .int (nI pu)), (3, .int (nI d))] → W p l e rm_k_X5_offerCopies s m args below meth c H locs 0 0 Q (F0 m 2 ls []) := by
    intro n2
    induction n2 with
    | zero => exact fun d h1 h2 => absurd h1 (by omega)
    | succ n2 ih2 =>
      intro d hn2 hi2  H locs Z ls hl
      refine lv_iload_n hx hb dX5_offerCopies_2 rfl (lv_at hl 3 rfl) ?_
      refine lv_iconst (v := nI 4) hx hb dX5_offerCopies_3 (by decide) ?_
      refine n_icmp_ge (tgt := 49) hx hb dX5_offerCopies_4 (by decide) (by omega) (by omega) (fun c4 => ?_) (fun c4 => ?_)
      · obtain rfl : 4 = d := by omega
        exact ret () Z dX5_offerCopies_49 rfl trivial
      · refine lv_iload_n hx hb dX5_offerCopies_7 rfl (lv_at hl 3 rfl) ?_
        refine lv_aload_n hx hb dX5_offerCopies_8 rfl (lv_at hl 0 rfl) ?_
        refine gF_X5_19 E Z dX5_offerCopies_9 0 rfl rfl ?_
        refine lv_iload_n hx hb dX5_offerCopies_12 rfl (lv_at hl 1 rfl) ?_
        refine c_Vi (As := [.int (nI k)]) (rest := [.int (nI d)]) (w2 := fun _ => [oX q mc bn bl tr, oP (q 1) (q 2) (q 3) size ch, aN cA (q 2) 16 sets, aN cA (q 3) 8 amts, oG (q 4) (q 5) mc num, aN cA (q 5) 4 (mF num mc), aN cA (q 18) 7 pr, aN cA (q 21) 201 (oc mc num size sets amts ch (pr k) pu k sv d)]) E Z (k_X0_cellOf l D cA (q 4) (q 5) mc num k (by first | assumption | omega) (by first | assumption | omega)) wv_X5_106 ⟨rfl, rfl, Nat.le_of_ble_eq_true rfl, Nat.le_of_ble_eq_true rfl⟩ [4] rfl rfl rfl rfl (q0 := 0) rfl (fun _ => rfl) (fun _ => rfl) rfl hl.1 rfl (Nat.le_of_ble_eq_true rfl) dX5_offerCopies_13 ⟨Nat.zero_le _, Nat.zero_le _⟩ (fun r13 _ H locs hp13 Z => ?_)
        subst hp13
        have hcl := cl_lt num k
        refine n_icmp_eq (tgt := 43) hx hb dX5_offerCopies_16 (by decide) (by omega) (by omega) (fun c16 => ?_) (fun c16 => ?_)
        · replace Z : Wd D A s ([oX q mc bn bl tr, oP (q 1) (q 2) (q 3) size ch, aN cA (q 2) 16 sets, aN cA (q 3) 8 amts, oG (q 4) (q 5) mc num, aN cA (q 5) 4 (mF num mc), aN cA (q 18) 7 pr, aN cA (q 21) 201 (oc mc num size sets amts ch (pr k) pu k sv (d + 1))]) _ _ := Z.to (by rw [show oc mc num size sets amts ch (pr k) pu k sv (d + 1) = oc mc num size sets amts ch (pr k) pu k sv d from if_pos c16])
          refine lv_iinc (v := nI (d + 1)) (lv' := [(3, .int (nI (d + 1))), (0, .ref (q 0)), (1, .int (nI k)), (2, .int (nI pu))]) hx hb dX5_offerCopies_43 hl (k := 3) rfl (n_inc _ _ (by decide)) (by decide) rfl (fun ls hl => ?_)
          refine lv_goto (tgt := 2) hx hb dX5_offerCopies_46 (by decide) ?_
          exact ih2 (d + 1) (by omega) (by omega)   _ _ Z ls (lv_sub hl [1, 2, 3, 0] rfl)
        · refine lv_aload_n hx hb dX5_offerCopies_19 rfl (lv_at hl 0 rfl) ?_
          refine lv_aload_n hx hb dX5_offerCopies_20 rfl (lv_at hl 0 rfl) ?_
          refine gF_X5_51 E Z dX5_offerCopies_21 0 rfl rfl ?_
          refine lv_iload_n hx hb dX5_offerCopies_24 rfl (lv_at hl 1 rfl) ?_
          refine r_ald E Z dX5_offerCopies_25 6 rfl (by omega) (by decide) ?_
          refine lv_aload_n hx hb dX5_offerCopies_26 rfl (lv_at hl 0 rfl) ?_
          refine gF_X5_10 E Z dX5_offerCopies_27 0 rfl rfl ?_
          refine lv_iload_n hx hb dX5_offerCopies_30 rfl (lv_at hl 1 rfl) ?_
          refine lv_iload_n hx hb dX5_offerCopies_31 rfl (lv_at hl 3 rfl) ?_
          refine lv_aload_n hx hb dX5_offerCopies_32 rfl (lv_at hl 0 rfl) ?_
          refine gF_X5_19 E Z dX5_offerCopies_33 0 rfl rfl ?_
          refine c_Vi (As := [.int (nI k), .int (nI d), .ref (q 4)]) (rest := [.int (nI (pr k)), .ref (q 0)]) (w2 := fun _ => [oX q mc bn bl tr, oP (q 1) (q 2) (q 3) size ch, aN cA (q 2) 16 sets, aN cA (q 3) 8 amts, oG (q 4) (q 5) mc num, aN cA (q 5) 4 (mF num mc), aN cA (q 18) 7 pr, aN cA (q 21) 201 (oc mc num size sets amts ch (pr k) pu k sv d)]) E Z (k_X1_keptHome l D cA (q 1) (q 2) (q 3) size ch sets amts (q 4) (q 5) mc num (mF num mc) k d (by first | assumption | omega) (by first | assumption | omega) (by first | assumption | omega) (by first | assumption | omega) (by first | assumption | omega) (mF_ok _ mc hM) (by first | assumption | omega)) wv_X5_187 ⟨rfl, rfl, Nat.le_of_ble_eq_true rfl, Nat.le_of_ble_eq_true rfl⟩ [1, 2, 3, 4, 5] rfl rfl rfl rfl (q0 := 0) rfl (fun _ => rfl) (fun _ => rfl) rfl hl.1 rfl (Nat.le_of_ble_eq_true rfl) dX5_offerCopies_36 ⟨Nat.zero_le _, Nat.zero_le _⟩ (fun r36 _ H locs hp36 Z => ?_)
          subst hp36
          refine lv_iload_n hx hb dX5_offerCopies_39 rfl (lv_at hl 2 rfl) ?_
          refine c_Vv (As := [.int (nI (pr k)), .int (nI (sm (kpp mc num sets amts ch k d) size)), .int (nI pu)]) (rest := []) (w2 := fun _ => [oX q mc bn bl tr, oP (q 1) (q 2) (q 3) size ch, aN cA (q 2) 16 sets, aN cA (q 3) 8 amts, oG (q 4) (q 5) mc num, aN cA (q 5) 4 (mF num mc), aN cA (q 18) 7 pr, aN cA (q 21) 201 (ofs (pr k) (sm (kpp mc num sets amts ch k d) size) pu (oc mc num size sets amts ch (pr k) pu k sv d) (pu + 1 - (pr k)))]) E Z (k_X5_offerCopy l D cA q mc bn bl tr (oc mc num size sets amts ch (pr k) pu k sv d) (pr k) (sm (kpp mc num sets amts ch k d) size) pu (B0 + d * 15000) (hpr _) (by first | assumption | omega) (oc_le hP ha10 hpu hsv d) (by omega) (kps_le hP ha10)) wv_X5_253 ⟨rfl, rfl, Nat.le_of_ble_eq_true rfl, Nat.le_of_ble_eq_true rfl⟩ [0, 7] rfl rfl rfl rfl (q0 := 0) rfl (fun _ => rfl) (fun _ => rfl) rfl hl.1 rfl (Nat.le_of_ble_eq_true rfl) dX5_offerCopies_40 ⟨Nat.zero_le _, Nat.zero_le _⟩ (fun _ H locs hp40 Z => ?_)
          replace Z : Wd D A s ([oX q mc bn bl tr, oP (q 1) (q 2) (q 3) size ch, aN cA (q 2) 16 sets, aN cA (q 3) 8 amts, oG (q 4) (q 5) mc num, aN cA (q 5) 4 (mF num mc), aN cA (q 18) 7 pr, aN cA (q 21) 201 (oc mc num size sets amts ch (pr k) pu k sv (d + 1))]) _ _ := Z.to (by rw [show oc mc num size sets amts ch (pr k) pu k sv (d + 1) = ofs (pr k) (sm (kpp mc num sets amts ch k d) size) pu (oc mc num size sets amts ch (pr k) pu k sv d) (pu + 1 - (pr k)) from if_neg c16])
          refine lv_iinc (v := nI (d + 1)) (lv' := [(3, .int (nI (d + 1))), (0, .ref (q 0)), (1, .int (nI k)), (2, .int (nI pu))]) hx hb dX5_offerCopies_43 hl (k := 3) rfl (n_inc _ _ (by decide)) (by decide) rfl (fun ls hl => ?_)
          refine lv_goto (tgt := 2) hx hb dX5_offerCopies_46 (by decide) ?_
          exact ih2 (d + 1) (by omega) (by omega)   _ _ Z ls (lv_sub hl [1, 2, 3, 0] rfl)
  exact L2 (4 + 1) 0 (by omega) (by omega)   _ _ Z ls (lv_sub hl [1, 2, 3, 0] rfl)

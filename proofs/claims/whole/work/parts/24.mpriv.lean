abbrev rm_k_X6_in : Room := { frames := 0, cells := 0, slots := 0, locals := 0 }
set_option maxHeartbeats 4000000 in
set_option maxRecDepth 100000 in
theorem k_X6_in (l : Launch) (D : va_G) (cA : ClassId) (x : Int32) (a : Int32) (b : Int32)  : Cti l yX6_in cX6_in 3 (some .boolean) rm_k_X6_in D cA [.int x, .int a, .int b] ([]) (fun (r : Int32) (_ : Unit) => r = bI (a ≤ x ∧ x ≤ b)) (fun _ => []) := by
  refine st_z (by decide) (Nat.le_of_ble_eq_true rfl) ?_
  intro p e s m args below meth c A Q E ret Z ls hl
  have hx := E.1.1
  have hb := E.1.2.1
  have hl : lv_has ls 3 [(0, .int x), (1, .int a), (2, .int b)] := hl
  refine lv_iload_n hx hb dX6_in_0 rfl (lv_at hl 0 rfl) ?_
  refine lv_iload_n hx hb dX6_in_1 rfl (lv_at hl 1 rfl) ?_
  refine lv_icmp_lt (tgt := 14) hx hb dX6_in_2 (by decide) (fun c2 => ?_) (fun c2 => ?_)
  · refine lv_iconst (v := nI 0) hx hb dX6_in_14 (by decide) ?_
    exact ret () Z dX6_in_15 (Or.inl nI_0) rfl (nI_0.trans (bI_f (fun h => Int32.not_lt.mpr h.1 c2)).symm)
  · refine lv_iload_n hx hb dX6_in_5 rfl (lv_at hl 0 rfl) ?_
    refine lv_iload_n hx hb dX6_in_6 rfl (lv_at hl 2 rfl) ?_
    refine lv_icmp_gt (tgt := 14) hx hb dX6_in_7 (by decide) (fun c7 => ?_) (fun c7 => ?_)
    · refine lv_iconst (v := nI 0) hx hb dX6_in_14 (by decide) ?_
      exact ret () Z dX6_in_15 (Or.inl nI_0) rfl (nI_0.trans (bI_f (fun h => Int32.not_lt.mpr h.2 c7)).symm)
    · refine lv_iconst (v := nI 1) hx hb dX6_in_10 (by decide) ?_
      refine lv_goto (tgt := 15) hx hb dX6_in_11 (by decide) ?_
      exact ret () Z dX6_in_15 (Or.inr nI_one) rfl (nI_one.trans (bI_t ⟨Int32.not_lt.mp c2, Int32.not_lt.mp c7⟩).symm)
abbrev rm_k_X6_isPart : Room := { frames := 1, cells := 0, slots := 0, locals := 22 }
set_option maxHeartbeats 4000000 in
set_option maxRecDepth 100000 in
theorem k_X6_isPart (l : Launch) (D : va_G) (cA : ClassId) (q : Nat → Nat) (tr : Int64) (mc : Nat) (pp : Nat) (num : Nat) (yn : Nat) (cg : Nat) (x : Int32) (hp1 : 1 ≤ pp) : Cti l yX6_isPart cX6_isPart 2 (some .boolean) rm_k_X6_isPart D cA [.ref (q 0), .int x] ([oM q 0 tr mc pp num yn cg]) (fun (r : Int32) (_ : Unit) => r = bI (nI 0 ≤ x ∧ x ≤ nI (pp - 1))) (fun _ => [oM q 0 tr mc pp num yn cg]) := by
  refine st_z (by decide) (Nat.le_of_ble_eq_true rfl) ?_
  intro p e s m args below meth c A Q E ret Z ls hl
  have hx := E.1.1
  have hb := E.1.2.1
  have hl : lv_has ls 2 [(0, .ref (q 0)), (1, .int x)] := hl
  refine lv_iload_n hx hb dX6_isPart_0 rfl (lv_at hl 1 rfl) ?_
  refine lv_iconst (v := nI 0) hx hb dX6_isPart_1 (by decide) ?_
  refine lv_aload_n hx hb dX6_isPart_2 rfl (lv_at hl 0 rfl) ?_
  refine gF_X6_13 E Z dX6_isPart_3 0 rfl rfl ?_
  refine lv_iconst (v := nI 1) hx hb dX6_isPart_6 (by decide) ?_
  refine n_isub hx hb dX6_isPart_7 (by omega) ?_
  refine c_Si (As := [.int x, .int (nI 0), .int (nI (pp - 1))]) (rest := []) (w2 := fun _ => [oM q 0 tr mc pp num yn cg]) E Z (k_X6_in l D cA x (nI 0) (nI (pp - 1)) ) ws_X6_72 ⟨rfl, rfl, Nat.le_of_ble_eq_true rfl, Nat.le_of_ble_eq_true rfl⟩ [] rfl rfl (fun _ => rfl) (fun _ => rfl) rfl hl.1 rfl (Nat.le_of_ble_eq_true rfl) dX6_isPart_8 ⟨Nat.zero_le _, Nat.zero_le _⟩ (fun r8 _ H locs hp8 Z => ?_)
  subst hp8
  exact ret () Z dX6_isPart_11 (bI_01 _) rfl rfl
abbrev rm_k_X6_isMachine : Room := { frames := 1, cells := 0, slots := 0, locals := 22 }
set_option maxHeartbeats 4000000 in
set_option maxRecDepth 100000 in
theorem k_X6_isMachine (l : Launch) (D : va_G) (cA : ClassId) (q : Nat → Nat) (tr : Int64) (mc : Nat) (pp : Nat) (num : Nat) (yn : Nat) (cg : Nat) (x : Int32) (hm1 : 1 ≤ mc) : Cti l yX6_isMachine cX6_isMachine 2 (some .boolean) rm_k_X6_isMachine D cA [.ref (q 0), .int x] ([oM q 0 tr mc pp num yn cg]) (fun (r : Int32) (_ : Unit) => r = bI (nI 0 ≤ x ∧ x ≤ nI (mc - 1))) (fun _ => [oM q 0 tr mc pp num yn cg]) := by
  refine st_z (by decide) (Nat.le_of_ble_eq_true rfl) ?_
  intro p e s m args below meth c A Q E ret Z ls hl
  have hx := E.1.1
  have hb := E.1.2.1
  have hl : lv_has ls 2 [(0, .ref (q 0)), (1, .int x)] := hl
  refine lv_iload_n hx hb dX6_isMachine_0 rfl (lv_at hl 1 rfl) ?_
  refine lv_iconst (v := nI 0) hx hb dX6_isMachine_1 (by decide) ?_
  refine lv_aload_n hx hb dX6_isMachine_2 rfl (lv_at hl 0 rfl) ?_
  refine gF_X6_7 E Z dX6_isMachine_3 0 rfl rfl ?_
  refine lv_iconst (v := nI 1) hx hb dX6_isMachine_6 (by decide) ?_
  refine n_isub hx hb dX6_isMachine_7 (by omega) ?_
  refine c_Si (As := [.int x, .int (nI 0), .int (nI (mc - 1))]) (rest := []) (w2 := fun _ => [oM q 0 tr mc pp num yn cg]) E Z (k_X6_in l D cA x (nI 0) (nI (mc - 1)) ) ws_X6_72 ⟨rfl, rfl, Nat.le_of_ble_eq_true rfl, Nat.le_of_ble_eq_true rfl⟩ [] rfl rfl (fun _ => rfl) (fun _ => rfl) rfl hl.1 rfl (Nat.le_of_ble_eq_true rfl) dX6_isMachine_8 ⟨Nat.zero_le _, Nat.zero_le _⟩ (fun r8 _ H locs hp8 Z => ?_)
  subst hp8
  exact ret () Z dX6_isMachine_11 (bI_01 _) rfl rfl
abbrev rm_k_X6_power : Room := { frames := 0, cells := 0, slots := 0, locals := 0 }
set_option maxHeartbeats 4000000 in
set_option maxRecDepth 100000 in
theorem k_X6_power (l : Launch) (D : va_G) (cA : ClassId) (k : Nat) (hk : k < 16) : Cti l yX6_power cX6_power 1 (some .int) rm_k_X6_power D cA [.int (nI k)] ([]) (fun (r : Int32) (_ : Unit) => r = nI (2 ^ (2 * k))) (fun _ => []) := by
  refine st_i (by decide) (Nat.le_of_ble_eq_true rfl) ?_
  intro p e s m args below meth c A Q E ret Z ls hl
  have hx := E.1.1
  have hb := E.1.2.1
  have hl : lv_has ls 1 [(0, .int (nI k))] := hl
  refine lv_iconst (v := nI 1) hx hb dX6_power_0 (by decide) ?_
  refine lv_iconst (v := nI 2) hx hb dX6_power_1 (by decide) ?_
  refine lv_iload_n hx hb dX6_power_2 rfl (lv_at hl 0 rfl) ?_
  refine n_imul hx hb dX6_power_3 ?_
  refine n_ishl1 hx hb dX6_power_4 (by omega) ?_
  exact ret () Z dX6_power_5 rfl rfl
abbrev rm_k_X6_cellOf : Room := { frames := 0, cells := 0, slots := 0, locals := 0 }
set_option maxHeartbeats 4000000 in
set_option maxRecDepth 100000 in
theorem k_X6_cellOf (l : Launch) (D : va_G) (cA : ClassId) (g : Nat) (k : Nat) (hg : g < 2 ^ 31) (hk : k < 16) : Cti l yX6_cellOf cX6_cellOf 2 (some .int) rm_k_X6_cellOf D cA [.int (nI g), .int (nI k)] ([]) (fun (r : Int32) (_ : Unit) => r = nI (cl g k)) (fun _ => []) := by
  refine st_i (by decide) (Nat.le_of_ble_eq_true rfl) ?_
  intro p e s m args below meth c A Q E ret Z ls hl
  have hx := E.1.1
  have hb := E.1.2.1
  have hl : lv_has ls 2 [(0, .int (nI g)), (1, .int (nI k))] := hl
  refine lv_iload_n hx hb dX6_cellOf_0 rfl (lv_at hl 0 rfl) ?_
  refine lv_iconst (v := nI 2) hx hb dX6_cellOf_1 (by decide) ?_
  refine lv_iload_n hx hb dX6_cellOf_2 rfl (lv_at hl 1 rfl) ?_
  refine n_imul hx hb dX6_cellOf_3 ?_
  refine n_ishr hx hb dX6_cellOf_4 (by omega) (by omega) ?_
  refine lv_iconst (v := nI 3) hx hb dX6_cellOf_5 (by decide) ?_
  refine n_iand3 hx hb dX6_cellOf_6 ?_
  refine r_top (y := nI (cl g k)) rfl ?_
  exact ret () Z dX6_cellOf_7 rfl rfl
abbrev rm_k_X6_setOf : Room := { frames := 0, cells := 0, slots := 0, locals := 0 }
set_option maxHeartbeats 4000000 in
set_option maxRecDepth 100000 in
theorem k_X6_setOf (l : Launch) (D : va_G) (cA : ClassId) (q : Nat → Nat) (tr : Int64) (mc : Nat) (pp : Nat) (num : Nat) (yn : Nat) (cg : Nat) (sets : Nat → Nat) (ch : Nat) (k : Nat) (hk : k < 8) : Cti l yX6_setOf cX6_setOf 2 (some .int) rm_k_X6_setOf D cA [.ref (q 0), .int (nI k)] ([oM q 0 tr mc pp num yn cg, aN cA (q 1) 16 sets, aN cA (q 2) 8 (bt ch)]) (fun (r : Int32) (_ : Unit) => r = nI (setB sets ch k)) (fun _ => [oM q 0 tr mc pp num yn cg, aN cA (q 1) 16 sets, aN cA (q 2) 8 (bt ch)]) := by
  refine st_i (by decide) (Nat.le_of_ble_eq_true rfl) ?_
  intro p e s m args below meth c A Q E ret Z ls hl
  have hx := E.1.1
  have hb := E.1.2.1
  have hl : lv_has ls 2 [(0, .ref (q 0)), (1, .int (nI k))] := hl
  refine lv_aload_n hx hb dX6_setOf_0 rfl (lv_at hl 0 rfl) ?_
  refine gF_X6_16 E Z dX6_setOf_1 0 rfl rfl ?_
  refine lv_iconst (v := nI 2) hx hb dX6_setOf_4 (by decide) ?_
  refine lv_iload_n hx hb dX6_setOf_5 rfl (lv_at hl 1 rfl) ?_
  refine n_imul hx hb dX6_setOf_6 ?_
  refine lv_aload_n hx hb dX6_setOf_7 rfl (lv_at hl 0 rfl) ?_
  refine gF_X6_20 E Z dX6_setOf_8 0 rfl rfl ?_
  refine lv_iload_n hx hb dX6_setOf_11 rfl (lv_at hl 1 rfl) ?_
  refine r_ald E Z dX6_setOf_12 2 rfl (by omega) (by decide) ?_
  have hbt := bt_lt ch k
  refine n_iadd hx hb dX6_setOf_13 ?_
  refine r_ald E Z dX6_setOf_14 1 rfl (by omega) (by decide) ?_
  exact ret () Z dX6_setOf_15 rfl rfl
abbrev rm_k_X6_inCell : Room := { frames := 1, cells := 0, slots := 0, locals := 21 }
set_option maxHeartbeats 4000000 in
set_option maxRecDepth 100000 in
theorem k_X6_inCell (l : Launch) (D : va_G) (cA : ClassId) (q : Nat → Nat) (tr : Int64) (mc : Nat) (pp : Nat) (num : Nat) (yn : Nat) (cg : Nat) (g : Nat) (st : Nat) (d : Nat) (hM : mc ≤ 7) (hg : g < 2 ^ 31) (hst : st < 2 ^ 31) (hd : d < 4) : Cti l yX6_inCell cX6_inCell 6 (some .int) rm_k_X6_inCell D cA [.ref (q 0), .int (nI g), .int (nI st), .int (nI d)] ([oM q 0 tr mc pp num yn cg]) (fun (r : Int32) (_ : Unit) => r = nI (ic mc g st d)) (fun _ => [oM q 0 tr mc pp num yn cg]) := by
  refine st_i (by decide) (Nat.le_of_ble_eq_true rfl) ?_
  intro p e s m args below meth c A Q E ret Z ls hl
  have hx := E.1.1
  have hb := E.1.2.1
  have hl : lv_has ls 6 [(0, .ref (q 0)), (1, .int (nI g)), (2, .int (nI st)), (3, .int (nI d))] := hl
  refine lv_iconst (v := nI 0) hx hb dX6_inCell_0 (by decide) ?_
  refine lv_istore (lv' := [(4, .int (nI 0)), (0, .ref (q 0)), (1, .int (nI g)), (2, .int (nI st)), (3, .int (nI d))]) hx hb dX6_inCell_1 hl (by decide) rfl (fun ls hl => ?_)
  refine lv_iconst (v := nI 0) hx hb dX6_inCell_3 (by decide) ?_
  refine lv_istore (lv' := [(5, .int (nI 0)), (4, .int (nI 0)), (0, .ref (q 0)), (1, .int (nI g)), (2, .int (nI st)), (3, .int (nI d))]) hx hb dX6_inCell_4 hl (by decide) rfl (fun ls hl => ?_)
  have L6 : ∀ (n6 i : Nat), mc + 1 ≤ i + n6 → i ≤ mc → ∀ (H : Heap) (locs : List Loc), Wd D A s ([oM q 0 tr mc pp num yn cg]) H locs → ∀ (ls : Array Slot), lv_has ls 6 [(0, .ref (q 0)), (1, .int (nI g)), (2, .int (nI st)), (3, .int (nI d)), (4, .int (nI (sm (icp g st d) i))), (5, .int (nI i))] → W p l e rm_k_X6_inCell s m args below meth c H locs 0 0 Q (F0 m 6 ls []) := by
    intro n6
    induction n6 with
    | zero => exact fun i h1 h2 => absurd h1 (by omega)
    | succ n6 ih6 =>
      intro i hn6 hi6  H locs Z ls hl
      refine lv_iload hx hb dX6_inCell_6 (lv_at hl 5 rfl) ?_
      refine lv_aload_n hx hb dX6_inCell_8 rfl (lv_at hl 0 rfl) ?_
      refine gF_X6_7 E Z dX6_inCell_9 0 rfl rfl ?_
      refine n_icmp_ge (tgt := 51) hx hb dX6_inCell_12 (by decide) (by omega) (by omega) (fun c12 => ?_) (fun c12 => ?_)
      · obtain rfl : mc = i := by omega
        refine lv_iload hx hb dX6_inCell_51 (lv_at hl 4 rfl) ?_
        exact ret () Z dX6_inCell_53 rfl rfl
      · refine lv_iload hx hb dX6_inCell_15 (lv_at hl 4 rfl) ?_
        refine lv_iload_n hx hb dX6_inCell_17 rfl (lv_at hl 2 rfl) ?_
        refine lv_iload hx hb dX6_inCell_18 (lv_at hl 5 rfl) ?_
        refine n_ishr hx hb dX6_inCell_20 (by omega) (by omega) ?_
        refine lv_iconst (v := nI 1) hx hb dX6_inCell_21 (by decide) ?_
        refine n_iand1 hx hb dX6_inCell_22 ?_
        refine r_top (y := nI (bt st i)) rfl ?_
        have hbt := bt_lt st i
        refine lv_iconst (v := nI 1) hx hb dX6_inCell_23 (by decide) ?_
        refine n_icmp_ne (tgt := 41) hx hb dX6_inCell_24 (by decide) (by omega) (by omega) (fun c24 => ?_) (fun c24 => ?_)
        · refine lv_iconst (v := nI 0) hx hb dX6_inCell_41 (by decide) ?_
          refine n_iadd hx hb dX6_inCell_42 ?_
          refine r_top (y := nI (sm (icp g st d) (i + 1))) (congrArg (fun z => nI (sm (icp g st d) i + z)) (if_neg (fun h => c24 h.1)).symm) ?_
          refine lv_istore (lv' := [(4, .int (nI (sm (icp g st d) (i + 1)))), (0, .ref (q 0)), (1, .int (nI g)), (2, .int (nI st)), (3, .int (nI d)), (5, .int (nI i))]) hx hb dX6_inCell_43 hl (by decide) rfl (fun ls hl => ?_)
          refine lv_iinc (v := nI (i + 1)) (lv' := [(5, .int (nI (i + 1))), (4, .int (nI (sm (icp g st d) (i + 1)))), (0, .ref (q 0)), (1, .int (nI g)), (2, .int (nI st)), (3, .int (nI d))]) hx hb dX6_inCell_45 hl (k := 5) rfl (n_inc _ _ (by decide)) (by decide) rfl (fun ls hl => ?_)
          refine lv_goto (tgt := 6) hx hb dX6_inCell_48 (by decide) ?_
          exact ih6 (i + 1) (by omega) (by omega)   _ _ Z ls (lv_sub hl [2, 3, 4, 5, 1, 0] rfl)
        · refine lv_iload_n hx hb dX6_inCell_27 rfl (lv_at hl 1 rfl) ?_
          refine lv_iload hx hb dX6_inCell_28 (lv_at hl 5 rfl) ?_
          refine c_Si (As := [.int (nI g), .int (nI i)]) (rest := [.int (nI (sm (icp g st d) i))]) (w2 := fun _ => [oM q 0 tr mc pp num yn cg]) E Z (k_X6_cellOf l D cA g i (by first | assumption | omega) (by first | assumption | omega)) ws_X6_83 ⟨rfl, rfl, Nat.le_of_ble_eq_true rfl, Nat.le_of_ble_eq_true rfl⟩ [] rfl rfl (fun _ => rfl) (fun _ => rfl) rfl hl.1 rfl (Nat.le_of_ble_eq_true rfl) dX6_inCell_30 ⟨Nat.zero_le _, Nat.zero_le _⟩ (fun r30 _ H locs hp30 Z => ?_)
          subst hp30
          refine lv_iload_n hx hb dX6_inCell_33 rfl (lv_at hl 3 rfl) ?_
          have hcl := cl_lt g i
          refine n_icmp_ne (tgt := 41) hx hb dX6_inCell_34 (by decide) (by omega) (by omega) (fun c34 => ?_) (fun c34 => ?_)
          · refine lv_iconst (v := nI 0) hx hb dX6_inCell_41 (by decide) ?_
            refine n_iadd hx hb dX6_inCell_42 ?_
            refine r_top (y := nI (sm (icp g st d) (i + 1))) (congrArg (fun z => nI (sm (icp g st d) i + z)) (if_neg (fun h => c34 h.2)).symm) ?_
            refine lv_istore (lv' := [(4, .int (nI (sm (icp g st d) (i + 1)))), (0, .ref (q 0)), (1, .int (nI g)), (2, .int (nI st)), (3, .int (nI d)), (5, .int (nI i))]) hx hb dX6_inCell_43 hl (by decide) rfl (fun ls hl => ?_)
            refine lv_iinc (v := nI (i + 1)) (lv' := [(5, .int (nI (i + 1))), (4, .int (nI (sm (icp g st d) (i + 1)))), (0, .ref (q 0)), (1, .int (nI g)), (2, .int (nI st)), (3, .int (nI d))]) hx hb dX6_inCell_45 hl (k := 5) rfl (n_inc _ _ (by decide)) (by decide) rfl (fun ls hl => ?_)
            refine lv_goto (tgt := 6) hx hb dX6_inCell_48 (by decide) ?_
            exact ih6 (i + 1) (by omega) (by omega)   _ _ Z ls (lv_sub hl [2, 3, 4, 5, 1, 0] rfl)
          · refine lv_iconst (v := nI 1) hx hb dX6_inCell_37 (by decide) ?_
            refine lv_goto (tgt := 42) hx hb dX6_inCell_38 (by decide) ?_
            refine n_iadd hx hb dX6_inCell_42 ?_
            refine r_top (y := nI (sm (icp g st d) (i + 1))) (congrArg (fun z => nI (sm (icp g st d) i + z)) (if_pos ⟨c24, c34⟩).symm) ?_
            refine lv_istore (lv' := [(4, .int (nI (sm (icp g st d) (i + 1)))), (0, .ref (q 0)), (1, .int (nI g)), (2, .int (nI st)), (3, .int (nI d)), (5, .int (nI i))]) hx hb dX6_inCell_43 hl (by decide) rfl (fun ls hl => ?_)
            refine lv_iinc (v := nI (i + 1)) (lv' := [(5, .int (nI (i + 1))), (4, .int (nI (sm (icp g st d) (i + 1)))), (0, .ref (q 0)), (1, .int (nI g)), (2, .int (nI st)), (3, .int (nI d))]) hx hb dX6_inCell_45 hl (k := 5) rfl (n_inc _ _ (by decide)) (by decide) rfl (fun ls hl => ?_)
            refine lv_goto (tgt := 6) hx hb dX6_inCell_48 (by decide) ?_
            exact ih6 (i + 1) (by omega) (by omega)   _ _ Z ls (lv_sub hl [2, 3, 4, 5, 1, 0] rfl)
  exact L6 (mc + 1) 0 (by omega) (by omega)   _ _ Z ls (lv_sub hl [2, 3, 4, 5, 1, 0] rfl)
abbrev rm_k_X6_homeOf : Room := { frames := 2, cells := 0, slots := 0, locals := 46 }
set_option maxHeartbeats 4000000 in
set_option maxRecDepth 100000 in
theorem k_X6_homeOf (l : Launch) (D : va_G) (cA : ClassId) (q : Nat → Nat) (tr : Int64) (mc : Nat) (pp : Nat) (num : Nat) (yn : Nat) (cg : Nat) (g : Nat) (st : Nat) (hM : mc ≤ 7) (hg : g < 2 ^ 31) (hst : st < 2 ^ 31) : Cti l yX6_homeOf cX6_homeOf 5 (some .int) rm_k_X6_homeOf D cA [.ref (q 0), .int (nI g), .int (nI st)] ([oM q 0 tr mc pp num yn cg]) (fun (r : Int32) (_ : Unit) => r = nI (hm mc g st)) (fun _ => [oM q 0 tr mc pp num yn cg]) := by
  refine st_i (by decide) (Nat.le_of_ble_eq_true rfl) ?_
  intro p e s m args below meth c A Q E ret Z ls hl
  have hx := E.1.1
  have hb := E.1.2.1
  have hl : lv_has ls 5 [(0, .ref (q 0)), (1, .int (nI g)), (2, .int (nI st))] := hl
  refine lv_iconst (v := nI 0) hx hb dX6_homeOf_0 (by decide) ?_
  refine lv_istore_n (lv' := [(3, .int (nI 0)), (0, .ref (q 0)), (1, .int (nI g)), (2, .int (nI st))]) hx hb dX6_homeOf_1 rfl hl (by decide) rfl (fun ls hl => ?_)
  refine lv_iconst (v := nI 1) hx hb dX6_homeOf_2 (by decide) ?_
  refine lv_istore (lv' := [(4, .int (nI 1)), (3, .int (nI 0)), (0, .ref (q 0)), (1, .int (nI g)), (2, .int (nI st))]) hx hb dX6_homeOf_3 hl (by decide) rfl (fun ls hl => ?_)
  have L5 : ∀ (n5 i : Nat), 3 + 1 ≤ i + n5 → i ≤ 3 → ∀ (H : Heap) (locs : List Loc), Wd D A s ([oM q 0 tr mc pp num yn cg]) H locs → ∀ (ls : Array Slot), lv_has ls 5 [(0, .ref (q 0)), (1, .int (nI g)), (2, .int (nI st)), (3, .int (nI (hmi mc g st (i + 1)))), (4, .int (nI (i + 1)))] → W p l e rm_k_X6_homeOf s m args below meth c H locs 0 0 Q (F0 m 5 ls []) := by
    intro n5
    induction n5 with
    | zero => exact fun i h1 h2 => absurd h1 (by omega)
    | succ n5 ih5 =>
      intro i hn5 hi5  H locs Z ls hl
      have hh4 := hmi_lt4 (M := mc) (g := g) (st := st) (i := i + 1) (by omega)
      refine lv_iload hx hb dX6_homeOf_5 (lv_at hl 4 rfl) ?_
      refine lv_iconst (v := nI 4) hx hb dX6_homeOf_7 (by decide) ?_
      refine n_icmp_ge (tgt := 42) hx hb dX6_homeOf_8 (by decide) (by omega) (by omega) (fun c8 => ?_) (fun c8 => ?_)
      · obtain rfl : 3 = i := by omega
        refine lv_iload_n hx hb dX6_homeOf_42 rfl (lv_at hl 3 rfl) ?_
        exact ret () Z dX6_homeOf_43 rfl rfl
      · refine lv_aload_n hx hb dX6_homeOf_11 rfl (lv_at hl 0 rfl) ?_
        refine lv_iload_n hx hb dX6_homeOf_12 rfl (lv_at hl 1 rfl) ?_
        refine lv_iload_n hx hb dX6_homeOf_13 rfl (lv_at hl 2 rfl) ?_
        refine lv_iload hx hb dX6_homeOf_14 (lv_at hl 4 rfl) ?_
        refine c_Vi (As := [.int (nI g), .int (nI st), .int (nI (i + 1))]) (rest := []) (w2 := fun _ => [oM q 0 tr mc pp num yn cg]) E Z (k_X6_inCell l D cA q tr mc pp num yn cg g st (i + 1) (by first | assumption | omega) (by first | assumption | omega) (by first | assumption | omega) (by first | assumption | omega)) wv_X6_91 ⟨rfl, rfl, Nat.le_of_ble_eq_true rfl, Nat.le_of_ble_eq_true rfl⟩ [0] rfl rfl rfl rfl (q0 := 0) rfl (fun _ => rfl) (fun _ => rfl) rfl hl.1 rfl (Nat.le_of_ble_eq_true rfl) dX6_homeOf_16 ⟨Nat.zero_le _, Nat.zero_le _⟩ (fun r16 _ H locs hp16 Z => ?_)
        subst hp16
        refine lv_aload_n hx hb dX6_homeOf_19 rfl (lv_at hl 0 rfl) ?_
        refine lv_iload_n hx hb dX6_homeOf_20 rfl (lv_at hl 1 rfl) ?_
        refine lv_iload_n hx hb dX6_homeOf_21 rfl (lv_at hl 2 rfl) ?_
        refine lv_iload_n hx hb dX6_homeOf_22 rfl (lv_at hl 3 rfl) ?_
        refine c_Vi (As := [.int (nI g), .int (nI st), .int (nI (hmi mc g st (i + 1)))]) (rest := [.int (nI (ic mc g st (i + 1)))]) (w2 := fun _ => [oM q 0 tr mc pp num yn cg]) E Z (k_X6_inCell l D cA q tr mc pp num yn cg g st (hmi mc g st (i + 1)) (by first | assumption | omega) (by first | assumption | omega) (by first | assumption | omega) (by first | assumption | omega)) wv_X6_91 ⟨rfl, rfl, Nat.le_of_ble_eq_true rfl, Nat.le_of_ble_eq_true rfl⟩ [0] rfl rfl rfl rfl (q0 := 0) rfl (fun _ => rfl) (fun _ => rfl) rfl hl.1 rfl (Nat.le_of_ble_eq_true rfl) dX6_homeOf_23 ⟨Nat.zero_le _, Nat.zero_le _⟩ (fun r23 _ H locs hp23 Z => ?_)
        subst hp23
        have hi1 := ic_le mc g st (i + 1)
        have hi2 := ic_le mc g st (hmi mc g st (i + 1))
        refine n_icmp_le (tgt := 34) hx hb dX6_homeOf_26 (by decide) (by omega) (by omega) (fun c26 => ?_) (fun c26 => ?_)
        · refine lv_iload_n hx hb dX6_homeOf_34 rfl (lv_at hl 3 rfl) ?_
          refine r_top (y := nI (hmi mc g st (i + 1 + 1))) (congrArg nI (if_neg (Nat.not_lt.mpr c26)).symm) ?_
          refine lv_istore_n (lv' := [(3, .int (nI (hmi mc g st (i + 1 + 1)))), (0, .ref (q 0)), (1, .int (nI g)), (2, .int (nI st)), (4, .int (nI (i + 1)))]) hx hb dX6_homeOf_35 rfl hl (by decide) rfl (fun ls hl => ?_)
          refine lv_iinc (v := nI (i + 1 + 1)) (lv' := [(4, .int (nI (i + 1 + 1))), (3, .int (nI (hmi mc g st (i + 1 + 1)))), (0, .ref (q 0)), (1, .int (nI g)), (2, .int (nI st))]) hx hb dX6_homeOf_36 hl (k := 4) rfl (n_inc _ _ (by decide)) (by decide) rfl (fun ls hl => ?_)
          refine lv_goto (tgt := 5) hx hb dX6_homeOf_39 (by decide) ?_
          exact ih5 (i + 1) (by omega) (by omega)   _ _ Z ls (lv_sub hl [2, 3, 4, 1, 0] rfl)
        · refine lv_iload hx hb dX6_homeOf_29 (lv_at hl 4 rfl) ?_
          refine lv_goto (tgt := 35) hx hb dX6_homeOf_31 (by decide) ?_
          refine r_top (y := nI (hmi mc g st (i + 1 + 1))) (congrArg nI (if_pos c26).symm) ?_
          refine lv_istore_n (lv' := [(3, .int (nI (hmi mc g st (i + 1 + 1)))), (0, .ref (q 0)), (1, .int (nI g)), (2, .int (nI st)), (4, .int (nI (i + 1)))]) hx hb dX6_homeOf_35 rfl hl (by decide) rfl (fun ls hl => ?_)
          refine lv_iinc (v := nI (i + 1 + 1)) (lv' := [(4, .int (nI (i + 1 + 1))), (3, .int (nI (hmi mc g st (i + 1 + 1)))), (0, .ref (q 0)), (1, .int (nI g)), (2, .int (nI st))]) hx hb dX6_homeOf_36 hl (k := 4) rfl (n_inc _ _ (by decide)) (by decide) rfl (fun ls hl => ?_)
          refine lv_goto (tgt := 5) hx hb dX6_homeOf_39 (by decide) ?_
          exact ih5 (i + 1) (by omega) (by omega)   _ _ Z ls (lv_sub hl [2, 3, 4, 1, 0] rfl)
  exact L5 (3 + 1) 0 (by omega) (by omega)   _ _ Z ls (by rw [hmi_1]; exact lv_sub hl [2, 3, 4, 1, 0] rfl)
abbrev rm_k_X6_wandersOf : Room := { frames := 3, cells := 0, slots := 0, locals := 70 }
set_option maxHeartbeats 4000000 in
set_option maxRecDepth 100000 in
theorem k_X6_wandersOf (l : Launch) (D : va_G) (cA : ClassId) (q : Nat → Nat) (tr : Int64) (mc : Nat) (pp : Nat) (num : Nat) (yn : Nat) (cg : Nat) (g : Nat) (st : Nat) (hM : mc ≤ 7) (hg : g < 2 ^ 31) (hst : st < 2 ^ 31) : Cti l yX6_wandersOf cX6_wandersOf 6 (some .int) rm_k_X6_wandersOf D cA [.ref (q 0), .int (nI g), .int (nI st)] ([oM q 0 tr mc pp num yn cg]) (fun (r : Int32) (_ : Unit) => r = nI (wn mc g st)) (fun _ => [oM q 0 tr mc pp num yn cg]) := by
  refine st_i (by decide) (Nat.le_of_ble_eq_true rfl) ?_
  intro p e s m args below meth c A Q E ret Z ls hl
  have hx := E.1.1
  have hb := E.1.2.1
  have hl : lv_has ls 6 [(0, .ref (q 0)), (1, .int (nI g)), (2, .int (nI st))] := hl
  refine lv_aload_n hx hb dX6_wandersOf_0 rfl (lv_at hl 0 rfl) ?_
  refine lv_iload_n hx hb dX6_wandersOf_1 rfl (lv_at hl 1 rfl) ?_
  refine lv_iload_n hx hb dX6_wandersOf_2 rfl (lv_at hl 2 rfl) ?_
  refine c_Vi (As := [.int (nI g), .int (nI st)]) (rest := []) (w2 := fun _ => [oM q 0 tr mc pp num yn cg]) E Z (k_X6_homeOf l D cA q tr mc pp num yn cg g st (by first | assumption | omega) (by first | assumption | omega) (by first | assumption | omega)) wv_X6_95 ⟨rfl, rfl, Nat.le_of_ble_eq_true rfl, Nat.le_of_ble_eq_true rfl⟩ [0] rfl rfl rfl rfl (q0 := 0) rfl (fun _ => rfl) (fun _ => rfl) rfl hl.1 rfl (Nat.le_of_ble_eq_true rfl) dX6_wandersOf_3 ⟨Nat.zero_le _, Nat.zero_le _⟩ (fun r3 _ H locs hp3 Z => ?_)
  subst hp3
  refine lv_istore_n (lv' := [(3, .int (nI (hm mc g st))), (0, .ref (q 0)), (1, .int (nI g)), (2, .int (nI st))]) hx hb dX6_wandersOf_6 rfl hl (by decide) rfl (fun ls hl => ?_)
  refine lv_iconst (v := nI 0) hx hb dX6_wandersOf_7 (by decide) ?_
  refine lv_istore (lv' := [(4, .int (nI 0)), (3, .int (nI (hm mc g st))), (0, .ref (q 0)), (1, .int (nI g)), (2, .int (nI st))]) hx hb dX6_wandersOf_8 hl (by decide) rfl (fun ls hl => ?_)
  refine lv_iconst (v := nI 0) hx hb dX6_wandersOf_10 (by decide) ?_
  refine lv_istore (lv' := [(5, .int (nI 0)), (4, .int (nI 0)), (3, .int (nI (hm mc g st))), (0, .ref (q 0)), (1, .int (nI g)), (2, .int (nI st))]) hx hb dX6_wandersOf_11 hl (by decide) rfl (fun ls hl => ?_)
  have L13 : ∀ (n13 k : Nat), 4 + 1 ≤ k + n13 → k ≤ 4 → ∀ (H : Heap) (locs : List Loc), Wd D A s ([oM q 0 tr mc pp num yn cg]) H locs → ∀ (ls : Array Slot), lv_has ls 6 [(0, .ref (q 0)), (1, .int (nI g)), (2, .int (nI st)), (3, .int (nI (hm mc g st))), (4, .int (nI (sm (wnp mc g st) k))), (5, .int (nI k))] → W p l e rm_k_X6_wandersOf s m args below meth c H locs 0 0 Q (F0 m 13 ls []) := by
    intro n13
    induction n13 with
    | zero => exact fun k h1 h2 => absurd h1 (by omega)
    | succ n13 ih13 =>
      intro k hn13 hi13  H locs Z ls hl
      refine lv_iload hx hb dX6_wandersOf_13 (lv_at hl 5 rfl) ?_
      refine lv_iconst (v := nI 4) hx hb dX6_wandersOf_15 (by decide) ?_
      refine n_icmp_ge (tgt := 48) hx hb dX6_wandersOf_16 (by decide) (by omega) (by omega) (fun c16 => ?_) (fun c16 => ?_)
      · obtain rfl : 4 = k := by omega
        refine lv_iload hx hb dX6_wandersOf_48 (lv_at hl 4 rfl) ?_
        exact ret () Z dX6_wandersOf_50 rfl rfl
      · refine lv_iload hx hb dX6_wandersOf_19 (lv_at hl 4 rfl) ?_
        refine lv_iload hx hb dX6_wandersOf_21 (lv_at hl 5 rfl) ?_
        refine lv_iload_n hx hb dX6_wandersOf_23 rfl (lv_at hl 3 rfl) ?_
        have hh := hm_lt mc g st
        refine n_icmp_ne (tgt := 31) hx hb dX6_wandersOf_24 (by decide) (by omega) (by omega) (fun c24 => ?_) (fun c24 => ?_)
        · refine lv_aload_n hx hb dX6_wandersOf_31 rfl (lv_at hl 0 rfl) ?_
          refine lv_iload_n hx hb dX6_wandersOf_32 rfl (lv_at hl 1 rfl) ?_
          refine lv_iload_n hx hb dX6_wandersOf_33 rfl (lv_at hl 2 rfl) ?_
          refine lv_iload hx hb dX6_wandersOf_34 (lv_at hl 5 rfl) ?_
          refine c_Vi (As := [.int (nI g), .int (nI st), .int (nI k)]) (rest := [.int (nI (sm (wnp mc g st) k))]) (w2 := fun _ => [oM q 0 tr mc pp num yn cg]) E Z (k_X6_inCell l D cA q tr mc pp num yn cg g st k (by first | assumption | omega) (by first | assumption | omega) (by first | assumption | omega) (by first | assumption | omega)) wv_X6_91 ⟨rfl, rfl, Nat.le_of_ble_eq_true rfl, Nat.le_of_ble_eq_true rfl⟩ [0] rfl rfl rfl rfl (q0 := 0) rfl (fun _ => rfl) (fun _ => rfl) rfl hl.1 rfl (Nat.le_of_ble_eq_true rfl) dX6_wandersOf_36 ⟨Nat.zero_le _, Nat.zero_le _⟩ (fun r36 _ H locs hp36 Z => ?_)
          subst hp36
          refine n_iadd hx hb dX6_wandersOf_39 ?_
          refine r_top (y := nI (sm (wnp mc g st) (k + 1))) (congrArg (fun z => nI (sm (wnp mc g st) k + z)) (if_neg c24).symm) ?_
          refine lv_istore (lv' := [(4, .int (nI (sm (wnp mc g st) (k + 1)))), (0, .ref (q 0)), (1, .int (nI g)), (2, .int (nI st)), (3, .int (nI (hm mc g st))), (5, .int (nI k))]) hx hb dX6_wandersOf_40 hl (by decide) rfl (fun ls hl => ?_)
          refine lv_iinc (v := nI (k + 1)) (lv' := [(5, .int (nI (k + 1))), (4, .int (nI (sm (wnp mc g st) (k + 1)))), (0, .ref (q 0)), (1, .int (nI g)), (2, .int (nI st)), (3, .int (nI (hm mc g st)))]) hx hb dX6_wandersOf_42 hl (k := 5) rfl (n_inc _ _ (by decide)) (by decide) rfl (fun ls hl => ?_)
          refine lv_goto (tgt := 13) hx hb dX6_wandersOf_45 (by decide) ?_
          exact ih13 (k + 1) (by omega) (by omega)   _ _ Z ls (lv_sub hl [2, 3, 4, 5, 1, 0] rfl)
        · refine lv_iconst (v := nI 0) hx hb dX6_wandersOf_27 (by decide) ?_
          refine lv_goto (tgt := 39) hx hb dX6_wandersOf_28 (by decide) ?_
          refine n_iadd hx hb dX6_wandersOf_39 ?_
          refine r_top (y := nI (sm (wnp mc g st) (k + 1))) (congrArg (fun z => nI (sm (wnp mc g st) k + z)) (if_pos c24).symm) ?_
          refine lv_istore (lv' := [(4, .int (nI (sm (wnp mc g st) (k + 1)))), (0, .ref (q 0)), (1, .int (nI g)), (2, .int (nI st)), (3, .int (nI (hm mc g st))), (5, .int (nI k))]) hx hb dX6_wandersOf_40 hl (by decide) rfl (fun ls hl => ?_)
          refine lv_iinc (v := nI (k + 1)) (lv' := [(5, .int (nI (k + 1))), (4, .int (nI (sm (wnp mc g st) (k + 1)))), (0, .ref (q 0)), (1, .int (nI g)), (2, .int (nI st)), (3, .int (nI (hm mc g st)))]) hx hb dX6_wandersOf_42 hl (k := 5) rfl (n_inc _ _ (by decide)) (by decide) rfl (fun ls hl => ?_)
          refine lv_goto (tgt := 13) hx hb dX6_wandersOf_45 (by decide) ?_
          exact ih13 (k + 1) (by omega) (by omega)   _ _ Z ls (lv_sub hl [2, 3, 4, 5, 1, 0] rfl)
  exact L13 (4 + 1) 0 (by omega) (by omega)   _ _ Z ls (lv_sub hl [3, 4, 5, 2, 1, 0] rfl)
abbrev rm_k_X6_idleOf : Room := { frames := 3, cells := 0, slots := 0, locals := 70 }
set_option maxHeartbeats 4000000 in
set_option maxRecDepth 100000 in
theorem k_X6_idleOf (l : Launch) (D : va_G) (cA : ClassId) (q : Nat → Nat) (tr : Int64) (mc : Nat) (pp : Nat) (num : Nat) (yn : Nat) (cg : Nat) (g : Nat) (st : Nat) (hM : mc ≤ 7) (hg : g < 2 ^ 31) (hst : st < 2 ^ mc) : Cti l yX6_idleOf cX6_idleOf 3 (some .int) rm_k_X6_idleOf D cA [.ref (q 0), .int (nI g), .int (nI st)] ([oM q 0 tr mc pp num yn cg]) (fun (r : Int32) (_ : Unit) => r = nI (il mc g st)) (fun _ => [oM q 0 tr mc pp num yn cg]) := by
  refine st_i (by decide) (Nat.le_of_ble_eq_true rfl) ?_
  intro p e s m args below meth c A Q E ret Z ls hl
  have hx := E.1.1
  have hb := E.1.2.1
  have hl : lv_has ls 3 [(0, .ref (q 0)), (1, .int (nI g)), (2, .int (nI st))] := hl
  have h27 : 2 ^ mc ≤ 2 ^ 7 := Nat.pow_le_pow_right (by decide) hM
  have h20 := Nat.two_pow_pos mc
  refine lv_aload_n hx hb dX6_idleOf_0 rfl (lv_at hl 0 rfl) ?_
  refine lv_iload_n hx hb dX6_idleOf_1 rfl (lv_at hl 1 rfl) ?_
  refine lv_iconst (v := nI 1) hx hb dX6_idleOf_2 (by decide) ?_
  refine lv_aload_n hx hb dX6_idleOf_3 rfl (lv_at hl 0 rfl) ?_
  refine gF_X6_7 E Z dX6_idleOf_4 0 rfl rfl ?_
  refine n_ishl1 hx hb dX6_idleOf_7 (by omega) ?_
  refine lv_iconst (v := nI 1) hx hb dX6_idleOf_8 (by decide) ?_
  refine n_isub hx hb dX6_idleOf_9 (by omega) ?_
  refine lv_iload_n hx hb dX6_idleOf_10 rfl (lv_at hl 2 rfl) ?_
  refine n_isub hx hb dX6_idleOf_11 (by omega) ?_
  refine lv_aload_n hx hb dX6_idleOf_12 rfl (lv_at hl 0 rfl) ?_
  refine lv_iload_n hx hb dX6_idleOf_13 rfl (lv_at hl 1 rfl) ?_
  refine lv_iload_n hx hb dX6_idleOf_14 rfl (lv_at hl 2 rfl) ?_
  refine c_Vi (As := [.int (nI g), .int (nI st)]) (rest := [.int (nI ((2 ^ mc - 1) - st)), .int (nI g), .ref (q 0)]) (w2 := fun _ => [oM q 0 tr mc pp num yn cg]) E Z (k_X6_homeOf l D cA q tr mc pp num yn cg g st (by first | assumption | omega) (by first | assumption | omega) (by first | assumption | omega)) wv_X6_95 ⟨rfl, rfl, Nat.le_of_ble_eq_true rfl, Nat.le_of_ble_eq_true rfl⟩ [0] rfl rfl rfl rfl (q0 := 0) rfl (fun _ => rfl) (fun _ => rfl) rfl hl.1 rfl (Nat.le_of_ble_eq_true rfl) dX6_idleOf_15 ⟨Nat.zero_le _, Nat.zero_le _⟩ (fun r15 _ H locs hp15 Z => ?_)
  subst hp15
  refine c_Vi (As := [.int (nI g), .int (nI ((2 ^ mc - 1) - st)), .int (nI (hm mc g st))]) (rest := []) (w2 := fun _ => [oM q 0 tr mc pp num yn cg]) E Z (k_X6_inCell l D cA q tr mc pp num yn cg g ((2 ^ mc - 1) - st) (hm mc g st) (by first | assumption | omega) (by first | assumption | omega) (by first | assumption | omega) (hm_lt _ _ _)) wv_X6_91 ⟨rfl, rfl, Nat.le_of_ble_eq_true rfl, Nat.le_of_ble_eq_true rfl⟩ [0] rfl rfl rfl rfl (q0 := 0) rfl (fun _ => rfl) (fun _ => rfl) rfl hl.1 rfl (Nat.le_of_ble_eq_true rfl) dX6_idleOf_18 ⟨Nat.zero_le _, Nat.zero_le _⟩ (fun r18 _ H locs hp18 Z => ?_)
  subst hp18
  exact ret () Z dX6_idleOf_21 rfl rfl
abbrev rm_k_X6_lossOf : Room := { frames := 4, cells := 0, slots := 0, locals := 95 }
set_option maxHeartbeats 4000000 in
set_option maxRecDepth 100000 in
theorem k_X6_lossOf (l : Launch) (D : va_G) (cA : ClassId) (q : Nat → Nat) (tr : Int64) (mc : Nat) (pp : Nat) (num : Nat) (yn : Nat) (cg : Nat) (sets : Nat → Nat) (ch : Nat) (amts : Nat → Nat) (g : Nat) (kd : Nat) (hP : pp ≤ 8) (hM : mc ≤ 7) (hs : ∀ j, sets j < 2 ^ mc) (hg : g < 2 ^ 31) (hkd : kd < 3) : Cti l yX6_lossOf cX6_lossOf 6 (some .int) rm_k_X6_lossOf D cA [.ref (q 0), .int (nI g), .int (nI kd)] ([oM q 0 tr mc pp num yn cg, aN cA (q 1) 16 sets, aN cA (q 2) 8 (bt ch), aN cA (q 3) 8 amts]) (fun (r : Int32) (_ : Unit) => r = nI (lossM mc g pp sets amts ch kd)) (fun _ => [oM q 0 tr mc pp num yn cg, aN cA (q 1) 16 sets, aN cA (q 2) 8 (bt ch), aN cA (q 3) 8 amts]) := by
  refine st_i (by decide) (Nat.le_of_ble_eq_true rfl) ?_
  intro p e s m args below meth c A Q E ret Z ls hl
  have hx := E.1.1
  have hb := E.1.2.1
  have hl : lv_has ls 6 [(0, .ref (q 0)), (1, .int (nI g)), (2, .int (nI kd))] := hl
  have h27 : 2 ^ mc ≤ 2 ^ 7 := Nat.pow_le_pow_right (by decide) hM
  have h20 := Nat.two_pow_pos mc
  have hs7 := hs7_of hs hM
  refine lv_iconst (v := nI 0) hx hb dX6_lossOf_0 (by decide) ?_
  refine lv_istore_n (lv' := [(3, .int (nI 0)), (0, .ref (q 0)), (1, .int (nI g)), (2, .int (nI kd))]) hx hb dX6_lossOf_1 rfl hl (by decide) rfl (fun ls hl => ?_)
  refine lv_iconst (v := nI 0) hx hb dX6_lossOf_2 (by decide) ?_
  refine lv_istore (lv' := [(4, .int (nI 0)), (3, .int (nI 0)), (0, .ref (q 0)), (1, .int (nI g)), (2, .int (nI kd))]) hx hb dX6_lossOf_3 hl (by decide) rfl (fun ls hl => ?_)
  have L5 : ∀ (n5 k : Nat), pp + 1 ≤ k + n5 → k ≤ pp → ∀ (H : Heap) (locs : List Loc), Wd D A s ([oM q 0 tr mc pp num yn cg, aN cA (q 1) 16 sets, aN cA (q 2) 8 (bt ch), aN cA (q 3) 8 amts]) H locs → ∀ (ls : Array Slot), lv_has ls 6 [(0, .ref (q 0)), (1, .int (nI g)), (2, .int (nI kd)), (3, .int (nI (sm (lmp mc g sets amts ch kd) k))), (4, .int (nI k))] → W p l e rm_k_X6_lossOf s m args below meth c H locs 0 0 Q (F0 m 5 ls []) := by
    intro n5
    induction n5 with
    | zero => exact fun k h1 h2 => absurd h1 (by omega)
    | succ n5 ih5 =>
      intro k hn5 hi5  H locs Z ls hl
      refine lv_iload hx hb dX6_lossOf_5 (lv_at hl 4 rfl) ?_
      refine lv_aload_n hx hb dX6_lossOf_7 rfl (lv_at hl 0 rfl) ?_
      refine gF_X6_13 E Z dX6_lossOf_8 0 rfl rfl ?_
      refine n_icmp_ge (tgt := 64) hx hb dX6_lossOf_11 (by decide) (by omega) (by omega) (fun c11 => ?_) (fun c11 => ?_)
      · obtain rfl : pp = k := by omega
        refine lv_iconst (v := nI 0) hx hb dX6_lossOf_64 (by decide) ?_
        refine lv_istore (lv' := [(4, .int (nI 0)), (0, .ref (q 0)), (1, .int (nI g)), (2, .int (nI kd)), (3, .int (nI (sm (lmp mc g sets amts ch kd) pp)))]) hx hb dX6_lossOf_65 hl (by decide) rfl (fun ls hl => ?_)
        have L67 : ∀ (n67 k : Nat), 4 + 1 ≤ k + n67 → k ≤ 4 → ∀ (H : Heap) (locs : List Loc), Wd D A s ([oM q 0 tr mc pp num yn cg, aN cA (q 1) 16 sets, aN cA (q 2) 8 (bt ch), aN cA (q 3) 8 amts]) H locs → ∀ (ls : Array Slot), lv_has ls 6 [(0, .ref (q 0)), (1, .int (nI g)), (2, .int (nI kd)), (3, .int (nI (sm (lmp mc g sets amts ch kd) pp + (if kd = 2 then sm (sq mc g) k else 0)))), (4, .int (nI k))] → W p l e rm_k_X6_lossOf s m args below meth c H locs 0 0 Q (F0 m 67 ls []) := by
          intro n67
          induction n67 with
          | zero => exact fun k h1 h2 => absurd h1 (by omega)
          | succ n67 ih67 =>
            intro k hn67 hi67  H locs Z ls hl
            refine lv_iload hx hb dX6_lossOf_67 (lv_at hl 4 rfl) ?_
            refine lv_iconst (v := nI 4) hx hb dX6_lossOf_69 (by decide) ?_
            refine n_icmp_ge (tgt := 109) hx hb dX6_lossOf_70 (by decide) (by omega) (by omega) (fun c70 => ?_) (fun c70 => ?_)
            · obtain rfl : 4 = k := by omega
              refine lv_iload_n hx hb dX6_lossOf_109 rfl (lv_at hl 3 rfl) ?_
              exact ret () Z dX6_lossOf_110 rfl rfl
            · refine lv_iload_n hx hb dX6_lossOf_73 rfl (lv_at hl 2 rfl) ?_
              refine lv_iconst (v := nI 2) hx hb dX6_lossOf_74 (by decide) ?_
              refine n_icmp_ne (tgt := 109) hx hb dX6_lossOf_75 (by decide) (by omega) (by omega) (fun c75 => ?_) (fun c75 => ?_)
              · refine lv_iload_n hx hb dX6_lossOf_109 rfl (lv_at hl 3 rfl) ?_
                exact ret () Z dX6_lossOf_110 rfl (congrArg (fun z => nI (sm (lmp mc g sets amts ch kd) pp + z)) ((if_neg c75).trans (if_neg c75).symm))
              · refine lv_aload_n hx hb dX6_lossOf_78 rfl (lv_at hl 0 rfl) ?_
                refine lv_iload_n hx hb dX6_lossOf_79 rfl (lv_at hl 1 rfl) ?_
                refine lv_iconst (v := nI 1) hx hb dX6_lossOf_80 (by decide) ?_
                refine lv_aload_n hx hb dX6_lossOf_81 rfl (lv_at hl 0 rfl) ?_
                refine gF_X6_7 E Z dX6_lossOf_82 0 rfl rfl ?_
                refine n_ishl1 hx hb dX6_lossOf_85 (by omega) ?_
                refine lv_iconst (v := nI 1) hx hb dX6_lossOf_86 (by decide) ?_
                refine n_isub hx hb dX6_lossOf_87 (by omega) ?_
                refine lv_iload hx hb dX6_lossOf_88 (lv_at hl 4 rfl) ?_
                refine c_Vi (As := [.int (nI g), .int (nI (2 ^ mc - 1)), .int (nI k)]) (rest := []) (w2 := fun _ => [oM q 0 tr mc pp num yn cg, aN cA (q 1) 16 sets, aN cA (q 2) 8 (bt ch), aN cA (q 3) 8 amts]) E Z (k_X6_inCell l D cA q tr mc pp num yn cg g (2 ^ mc - 1) k (by first | assumption | omega) (by first | assumption | omega) (by first | assumption | omega) (by first | assumption | omega)) wv_X6_91 ⟨rfl, rfl, Nat.le_of_ble_eq_true rfl, Nat.le_of_ble_eq_true rfl⟩ [0] rfl rfl rfl rfl (q0 := 0) rfl (fun _ => rfl) (fun _ => rfl) rfl hl.1 rfl (Nat.le_of_ble_eq_true rfl) dX6_lossOf_90 ⟨Nat.zero_le _, Nat.zero_le _⟩ (fun r90 _ H locs hp90 Z => ?_)
                subst hp90
                refine lv_istore (lv' := [(5, .int (nI (ic mc g (2 ^ mc - 1) k))), (0, .ref (q 0)), (1, .int (nI g)), (2, .int (nI kd)), (3, .int (nI (sm (lmp mc g sets amts ch kd) pp + (if kd = 2 then sm (sq mc g) k else 0)))), (4, .int (nI k))]) hx hb dX6_lossOf_93 hl (by decide) rfl (fun ls hl => ?_)
                refine lv_iload_n hx hb dX6_lossOf_95 rfl (lv_at hl 4 rfl) ?_
                refine lv_iload hx hb dX6_lossOf_96 (lv_at hl 0 rfl) ?_
                refine lv_iload hx hb dX6_lossOf_98 (lv_at hl 0 rfl) ?_
                refine n_imul hx hb dX6_lossOf_100 ?_
                refine n_iadd hx hb dX6_lossOf_101 ?_
                refine r_top (y := nI (sm (lmp mc g sets amts ch kd) pp + (if kd = 2 then sm (sq mc g) (k + 1) else 0))) (by rw [if_pos c75, if_pos c75]; exact congrArg nI (Nat.add_assoc _ _ _)) ?_
                refine lv_istore_n (lv' := [(3, .int (nI (sm (lmp mc g sets amts ch kd) pp + (if kd = 2 then sm (sq mc g) (k + 1) else 0)))), (5, .int (nI (ic mc g (2 ^ mc - 1) k))), (0, .ref (q 0)), (1, .int (nI g)), (2, .int (nI kd)), (4, .int (nI k))]) hx hb dX6_lossOf_102 rfl hl (by decide) rfl (fun ls hl => ?_)
                refine lv_iinc (v := nI (k + 1)) (lv' := [(4, .int (nI (k + 1))), (3, .int (nI (sm (lmp mc g sets amts ch kd) pp + (if kd = 2 then sm (sq mc g) (k + 1) else 0)))), (5, .int (nI (ic mc g (2 ^ mc - 1) k))), (0, .ref (q 0)), (1, .int (nI g)), (2, .int (nI kd))]) hx hb dX6_lossOf_103 hl (k := 5) rfl (n_inc _ _ (by decide)) (by decide) rfl (fun ls hl => ?_)
                refine lv_goto (tgt := 67) hx hb dX6_lossOf_106 (by decide) ?_
                exact ih67 (k + 1) (by omega) (by omega)   _ _ Z ls (lv_sub hl [3, 4, 5, 1, 0] rfl)
        exact L67 (4 + 1) 0 (by omega) (by omega)   _ _ Z ls (by have h := lv_sub hl [1, 2, 3, 4, 0] rfl; rw [show (if kd = 2 then sm (sq mc g) 0 else 0) = 0 from ite_self 0]; exact h)
      · refine lv_iload_n hx hb dX6_lossOf_14 rfl (lv_at hl 3 rfl) ?_
        refine lv_aload_n hx hb dX6_lossOf_15 rfl (lv_at hl 0 rfl) ?_
        refine lv_iload_n hx hb dX6_lossOf_16 rfl (lv_at hl 1 rfl) ?_
        refine lv_aload_n hx hb dX6_lossOf_17 rfl (lv_at hl 0 rfl) ?_
        refine lv_iload hx hb dX6_lossOf_18 (lv_at hl 4 rfl) ?_
        refine c_Vi (As := [.int (nI k)]) (rest := [.int (nI g), .ref (q 0), .int (nI (sm (lmp mc g sets amts ch kd) k))]) (w2 := fun _ => [oM q 0 tr mc pp num yn cg, aN cA (q 1) 16 sets, aN cA (q 2) 8 (bt ch), aN cA (q 3) 8 amts]) E Z (k_X6_setOf l D cA q tr mc pp num yn cg sets ch k (by first | assumption | omega)) wv_X6_98 ⟨rfl, rfl, Nat.le_of_ble_eq_true rfl, Nat.le_of_ble_eq_true rfl⟩ [0, 1, 2] rfl rfl rfl rfl (q0 := 0) rfl (fun _ => rfl) (fun _ => rfl) rfl hl.1 rfl (Nat.le_of_ble_eq_true rfl) dX6_lossOf_20 ⟨Nat.zero_le _, Nat.zero_le _⟩ (fun r20 _ H locs hp20 Z => ?_)
        subst hp20
        refine c_Vi (As := [.int (nI g), .int (nI (setB sets ch k))]) (rest := [.int (nI (sm (lmp mc g sets amts ch kd) k))]) (w2 := fun _ => [oM q 0 tr mc pp num yn cg, aN cA (q 1) 16 sets, aN cA (q 2) 8 (bt ch), aN cA (q 3) 8 amts]) E Z (k_X6_wandersOf l D cA q tr mc pp num yn cg g (setB sets ch k) (by first | assumption | omega) (by first | assumption | omega) (Nat.lt_trans (hs7 _) (by decide))) wv_X6_101 ⟨rfl, rfl, Nat.le_of_ble_eq_true rfl, Nat.le_of_ble_eq_true rfl⟩ [0] rfl rfl rfl rfl (q0 := 0) rfl (fun _ => rfl) (fun _ => rfl) rfl hl.1 rfl (Nat.le_of_ble_eq_true rfl) dX6_lossOf_23 ⟨Nat.zero_le _, Nat.zero_le _⟩ (fun r23 _ H locs hp23 Z => ?_)
        subst hp23
        refine lv_aload_n hx hb dX6_lossOf_26 rfl (lv_at hl 0 rfl) ?_
        refine gF_X6_23 E Z dX6_lossOf_27 0 rfl rfl ?_
        refine lv_iload hx hb dX6_lossOf_30 (lv_at hl 4 rfl) ?_
        refine r_ald E Z dX6_lossOf_32 3 rfl (by omega) (by decide) ?_
        refine n_imul hx hb dX6_lossOf_33 ?_
        refine n_iadd hx hb dX6_lossOf_34 ?_
        refine lv_istore_n (lv' := [(3, .int (nI (sm (lmp mc g sets amts ch kd) k + ((wn mc g (setB sets ch k)) * (amts k))))), (0, .ref (q 0)), (1, .int (nI g)), (2, .int (nI kd)), (4, .int (nI k))]) hx hb dX6_lossOf_35 rfl hl (by decide) rfl (fun ls hl => ?_)
        refine lv_iload_n hx hb dX6_lossOf_36 rfl (lv_at hl 0 rfl) ?_
        refine lv_iload_n hx hb dX6_lossOf_37 rfl (lv_at hl 3 rfl) ?_
        refine n_if_le (tgt := 55) hx hb dX6_lossOf_38 (by decide) (by omega) (fun c38 => ?_) (fun c38 => ?_)
        · refine lv_iconst (v := nI 0) hx hb dX6_lossOf_55 (by decide) ?_
          refine n_iadd hx hb dX6_lossOf_56 ?_
          refine r_top (y := nI (sm (lmp mc g sets amts ch kd) (k + 1))) (congrArg nI ((Nat.add_assoc _ _ _).trans (congrArg (fun z => sm (lmp mc g sets amts ch kd) k + (wn mc g (setB sets ch k) * amts k + z)) (if_neg (by omega)).symm))) ?_
          refine lv_istore_n (lv' := [(3, .int (nI (sm (lmp mc g sets amts ch kd) (k + 1)))), (0, .ref (q 0)), (1, .int (nI g)), (2, .int (nI kd)), (4, .int (nI k))]) hx hb dX6_lossOf_57 rfl hl (by decide) rfl (fun ls hl => ?_)
          refine lv_iinc (v := nI (k + 1)) (lv' := [(4, .int (nI (k + 1))), (3, .int (nI (sm (lmp mc g sets amts ch kd) (k + 1)))), (0, .ref (q 0)), (1, .int (nI g)), (2, .int (nI kd))]) hx hb dX6_lossOf_58 hl (k := 4) rfl (n_inc _ _ (by decide)) (by decide) rfl (fun ls hl => ?_)
          refine lv_goto (tgt := 5) hx hb dX6_lossOf_61 (by decide) ?_
          exact ih5 (k + 1) (by omega) (by omega)   _ _ Z ls (lv_sub hl [2, 3, 4, 1, 0] rfl)
        · refine lv_aload_n hx hb dX6_lossOf_41 rfl (lv_at hl 1 rfl) ?_
          refine lv_iload_n hx hb dX6_lossOf_42 rfl (lv_at hl 2 rfl) ?_
          refine lv_aload_n hx hb dX6_lossOf_43 rfl (lv_at hl 1 rfl) ?_
          refine lv_iload hx hb dX6_lossOf_44 (lv_at hl 4 rfl) ?_
          refine c_Vi (As := [.int (nI k)]) (rest := [.int (nI g), .ref (q 0), .int (nI (sm (lmp mc g sets amts ch kd) k + ((wn mc g (setB sets ch k)) * (amts k))))]) (w2 := fun _ => [oM q 0 tr mc pp num yn cg, aN cA (q 1) 16 sets, aN cA (q 2) 8 (bt ch), aN cA (q 3) 8 amts]) E Z (k_X6_setOf l D cA q tr mc pp num yn cg sets ch k (by first | assumption | omega)) wv_X6_98 ⟨rfl, rfl, Nat.le_of_ble_eq_true rfl, Nat.le_of_ble_eq_true rfl⟩ [0, 1, 2] rfl rfl rfl rfl (q0 := 0) rfl (fun _ => rfl) (fun _ => rfl) rfl hl.1 rfl (Nat.le_of_ble_eq_true rfl) dX6_lossOf_46 ⟨Nat.zero_le _, Nat.zero_le _⟩ (fun r46 _ H locs hp46 Z => ?_)
          subst hp46
          refine c_Vi (As := [.int (nI g), .int (nI (setB sets ch k))]) (rest := [.int (nI (sm (lmp mc g sets amts ch kd) k + ((wn mc g (setB sets ch k)) * (amts k))))]) (w2 := fun _ => [oM q 0 tr mc pp num yn cg, aN cA (q 1) 16 sets, aN cA (q 2) 8 (bt ch), aN cA (q 3) 8 amts]) E Z (k_X6_idleOf l D cA q tr mc pp num yn cg g (setB sets ch k) (by first | assumption | omega) (by first | assumption | omega) (hs _)) wv_X6_104 ⟨rfl, rfl, Nat.le_of_ble_eq_true rfl, Nat.le_of_ble_eq_true rfl⟩ [0] rfl rfl rfl rfl (q0 := 0) rfl (fun _ => rfl) (fun _ => rfl) rfl hl.1 rfl (Nat.le_of_ble_eq_true rfl) dX6_lossOf_49 ⟨Nat.zero_le _, Nat.zero_le _⟩ (fun r49 _ H locs hp49 Z => ?_)
          subst hp49
          refine lv_goto (tgt := 56) hx hb dX6_lossOf_52 (by decide) ?_
          refine n_iadd hx hb dX6_lossOf_56 ?_
          refine r_top (y := nI (sm (lmp mc g sets amts ch kd) (k + 1))) (congrArg nI ((Nat.add_assoc _ _ _).trans (congrArg (fun z => sm (lmp mc g sets amts ch kd) k + (wn mc g (setB sets ch k) * amts k + z)) (if_pos c38).symm))) ?_
          refine lv_istore_n (lv' := [(3, .int (nI (sm (lmp mc g sets amts ch kd) (k + 1)))), (0, .ref (q 0)), (1, .int (nI g)), (2, .int (nI kd)), (4, .int (nI k))]) hx hb dX6_lossOf_57 rfl hl (by decide) rfl (fun ls hl => ?_)
          refine lv_iinc (v := nI (k + 1)) (lv' := [(4, .int (nI (k + 1))), (3, .int (nI (sm (lmp mc g sets amts ch kd) (k + 1)))), (0, .ref (q 0)), (1, .int (nI g)), (2, .int (nI kd))]) hx hb dX6_lossOf_58 hl (k := 4) rfl (n_inc _ _ (by decide)) (by decide) rfl (fun ls hl => ?_)
          refine lv_goto (tgt := 5) hx hb dX6_lossOf_61 (by decide) ?_
          exact ih5 (k + 1) (by omega) (by omega)   _ _ Z ls (lv_sub hl [2, 3, 4, 1, 0] rfl)
  exact L5 (pp + 1) 0 (by omega) (by omega)   _ _ Z ls (lv_sub hl [2, 3, 4, 1, 0] rfl)
abbrev rm_k_X6_isPlain : Room := { frames := 1, cells := 0, slots := 0, locals := 21 }
set_option maxHeartbeats 4000000 in
set_option maxRecDepth 100000 in
theorem k_X6_isPlain (l : Launch) (D : va_G) (cA : ClassId) (q : Nat → Nat) (tr : Int64) (mc : Nat) (pp : Nat) (num : Nat) (yn : Nat) (cg : Nat) (g : Nat) (hM : mc ≤ 7) (hg : g < 2 ^ 31) : Cti l yX6_isPlain cX6_isPlain 6 (some .boolean) rm_k_X6_isPlain D cA [.ref (q 0), .int (nI g)] ([oM q 0 tr mc pp num yn cg]) (fun (r : Int32) (_ : Unit) => r = bI (plain mc g)) (fun _ => [oM q 0 tr mc pp num yn cg]) := by
  refine st_z (by decide) (Nat.le_of_ble_eq_true rfl) ?_
  intro p e s m args below meth c A Q E ret Z ls hl
  have hx := E.1.1
  have hb := E.1.2.1
  have hl : lv_has ls 6 [(0, .ref (q 0)), (1, .int (nI g))] := hl
  refine lv_iconst (v := nI 0) hx hb dX6_isPlain_0 (by decide) ?_
  refine lv_istore_n (lv' := [(2, .int (nI 0)), (0, .ref (q 0)), (1, .int (nI g))]) hx hb dX6_isPlain_1 rfl hl (by decide) rfl (fun ls hl => ?_)
  refine lv_iconst (v := nI 1) hx hb dX6_isPlain_2 (by decide) ?_
  refine r_top (y := bI (∀ j, j < 0 → cl g j ≤ opn g j)) (nI_one.trans (bI_t all_0).symm) ?_
  refine lv_istore_n (lv' := [(3, .int (bI (∀ j, j < 0 → cl g j ≤ opn g j))), (2, .int (nI 0)), (0, .ref (q 0)), (1, .int (nI g))]) hx hb dX6_isPlain_3 rfl hl (by decide) rfl (fun ls hl => ?_)
  refine lv_iconst (v := nI 0) hx hb dX6_isPlain_4 (by decide) ?_
  refine lv_istore (lv' := [(4, .int (nI 0)), (3, .int (bI (∀ j, j < 0 → cl g j ≤ opn g j))), (2, .int (nI 0)), (0, .ref (q 0)), (1, .int (nI g))]) hx hb dX6_isPlain_5 hl (by decide) rfl (fun ls hl => ?_)
  have L7 : ∀ (n7 i : Nat), mc + 1 ≤ i + n7 → i ≤ mc → ∀ (H : Heap) (locs : List Loc), Wd D A s ([oM q 0 tr mc pp num yn cg]) H locs → ∀ (ls : Array Slot), lv_has ls 6 [(0, .ref (q 0)), (1, .int (nI g)), (2, .int (nI (opn g i))), (3, .int (bI (∀ j, j < i → cl g j ≤ opn g j))), (4, .int (nI i))] → W p l e rm_k_X6_isPlain s m args below meth c H locs 0 0 Q (F0 m 7 ls []) := by
    intro n7
    induction n7 with
    | zero => exact fun i h1 h2 => absurd h1 (by omega)
    | succ n7 ih7 =>
      intro i hn7 hi7  H locs Z ls hl
      refine lv_iload hx hb dX6_isPlain_7 (lv_at hl 4 rfl) ?_
      refine lv_aload_n hx hb dX6_isPlain_9 rfl (lv_at hl 0 rfl) ?_
      refine gF_X6_7 E Z dX6_isPlain_10 0 rfl rfl ?_
      refine n_icmp_ge (tgt := 58) hx hb dX6_isPlain_13 (by decide) (by omega) (by omega) (fun c13 => ?_) (fun c13 => ?_)
      · obtain rfl : mc = i := by omega
        refine lv_iload_n hx hb dX6_isPlain_58 rfl (lv_at hl 3 rfl) ?_
        exact ret () Z dX6_isPlain_59 (bI_01 _) rfl rfl
      · refine lv_iload_n hx hb dX6_isPlain_16 rfl (lv_at hl 1 rfl) ?_
        refine lv_iload hx hb dX6_isPlain_17 (lv_at hl 4 rfl) ?_
        refine c_Si (As := [.int (nI g), .int (nI i)]) (rest := []) (w2 := fun _ => [oM q 0 tr mc pp num yn cg]) E Z (k_X6_cellOf l D cA g i (by first | assumption | omega) (by first | assumption | omega)) ws_X6_83 ⟨rfl, rfl, Nat.le_of_ble_eq_true rfl, Nat.le_of_ble_eq_true rfl⟩ [] rfl rfl (fun _ => rfl) (fun _ => rfl) rfl hl.1 rfl (Nat.le_of_ble_eq_true rfl) dX6_isPlain_19 ⟨Nat.zero_le _, Nat.zero_le _⟩ (fun r19 _ H locs hp19 Z => ?_)
        subst hp19
        refine lv_istore (lv' := [(5, .int (nI (cl g i))), (0, .ref (q 0)), (1, .int (nI g)), (2, .int (nI (opn g i))), (3, .int (bI (∀ j, j < i → cl g j ≤ opn g j))), (4, .int (nI i))]) hx hb dX6_isPlain_22 hl (by decide) rfl (fun ls hl => ?_)
        refine lv_iload_n hx hb dX6_isPlain_24 rfl (lv_at hl 4 rfl) ?_
        refine lv_iload hx hb dX6_isPlain_25 (lv_at hl 0 rfl) ?_
        have h4 := cl_lt g i
        have ho := opn_le g i
        refine lv_iload_n hx hb dX6_isPlain_27 rfl (lv_at hl 3 rfl) ?_
        refine n_icmp_gt (tgt := 35) hx hb dX6_isPlain_28 (by decide) (by omega) (by omega) (fun c28 => ?_) (fun c28 => ?_)
        · refine lv_iconst (v := nI 0) hx hb dX6_isPlain_35 (by decide) ?_
          refine r_top (y := bI (cl g i ≤ opn g i)) (nI_0.trans (bI_f (Nat.not_le.mpr c28)).symm) ?_
          refine n_band hx hb dX6_isPlain_36 ?_
          refine r_top (y := bI (∀ j, j < (i + 1) → cl g j ≤ opn g j)) (bI_c all_succ) ?_
          refine lv_istore_n (lv' := [(3, .int (bI (∀ j, j < (i + 1) → cl g j ≤ opn g j))), (5, .int (nI (cl g i))), (0, .ref (q 0)), (1, .int (nI g)), (2, .int (nI (opn g i))), (4, .int (nI i))]) hx hb dX6_isPlain_37 rfl hl (by decide) rfl (fun ls hl => ?_)
          refine lv_iload_n hx hb dX6_isPlain_38 rfl (lv_at hl 4 rfl) ?_
          refine lv_iload hx hb dX6_isPlain_39 (lv_at hl 1 rfl) ?_
          refine lv_iload_n hx hb dX6_isPlain_41 rfl (lv_at hl 4 rfl) ?_
          refine n_icmp_ne (tgt := 49) hx hb dX6_isPlain_42 (by decide) (by omega) (by omega) (fun c42 => ?_) (fun c42 => ?_)
          · refine lv_iconst (v := nI 0) hx hb dX6_isPlain_49 (by decide) ?_
            refine n_iadd hx hb dX6_isPlain_50 ?_
            refine r_top (y := nI (opn g (i + 1))) (congrArg nI (if_neg c42).symm) ?_
            refine lv_istore_n (lv' := [(2, .int (nI (opn g (i + 1)))), (3, .int (bI (∀ j, j < (i + 1) → cl g j ≤ opn g j))), (5, .int (nI (cl g i))), (0, .ref (q 0)), (1, .int (nI g)), (4, .int (nI i))]) hx hb dX6_isPlain_51 rfl hl (by decide) rfl (fun ls hl => ?_)
            refine lv_iinc (v := nI (i + 1)) (lv' := [(4, .int (nI (i + 1))), (2, .int (nI (opn g (i + 1)))), (3, .int (bI (∀ j, j < (i + 1) → cl g j ≤ opn g j))), (5, .int (nI (cl g i))), (0, .ref (q 0)), (1, .int (nI g))]) hx hb dX6_isPlain_52 hl (k := 5) rfl (n_inc _ _ (by decide)) (by decide) rfl (fun ls hl => ?_)
            refine lv_goto (tgt := 7) hx hb dX6_isPlain_55 (by decide) ?_
            exact ih7 (i + 1) (by omega) (by omega)   _ _ Z ls (lv_sub hl [4, 5, 1, 2, 0] rfl)
          · refine lv_iconst (v := nI 1) hx hb dX6_isPlain_45 (by decide) ?_
            refine lv_goto (tgt := 50) hx hb dX6_isPlain_46 (by decide) ?_
            refine n_iadd hx hb dX6_isPlain_50 ?_
            refine r_top (y := nI (opn g (i + 1))) (congrArg nI (if_pos c42).symm) ?_
            refine lv_istore_n (lv' := [(2, .int (nI (opn g (i + 1)))), (3, .int (bI (∀ j, j < (i + 1) → cl g j ≤ opn g j))), (5, .int (nI (cl g i))), (0, .ref (q 0)), (1, .int (nI g)), (4, .int (nI i))]) hx hb dX6_isPlain_51 rfl hl (by decide) rfl (fun ls hl => ?_)
            refine lv_iinc (v := nI (i + 1)) (lv' := [(4, .int (nI (i + 1))), (2, .int (nI (opn g (i + 1)))), (3, .int (bI (∀ j, j < (i + 1) → cl g j ≤ opn g j))), (5, .int (nI (cl g i))), (0, .ref (q 0)), (1, .int (nI g))]) hx hb dX6_isPlain_52 hl (k := 5) rfl (n_inc _ _ (by decide)) (by decide) rfl (fun ls hl => ?_)
            refine lv_goto (tgt := 7) hx hb dX6_isPlain_55 (by decide) ?_
            exact ih7 (i + 1) (by omega) (by omega)   _ _ Z ls (lv_sub hl [4, 5, 1, 2, 0] rfl)
        · refine lv_iconst (v := nI 1) hx hb dX6_isPlain_31 (by decide) ?_
          refine lv_goto (tgt := 36) hx hb dX6_isPlain_32 (by decide) ?_
          refine r_top (y := bI (cl g i ≤ opn g i)) (nI_one.trans (bI_t c28).symm) ?_
          refine n_band hx hb dX6_isPlain_36 ?_
          refine r_top (y := bI (∀ j, j < (i + 1) → cl g j ≤ opn g j)) (bI_c all_succ) ?_
          refine lv_istore_n (lv' := [(3, .int (bI (∀ j, j < (i + 1) → cl g j ≤ opn g j))), (5, .int (nI (cl g i))), (0, .ref (q 0)), (1, .int (nI g)), (2, .int (nI (opn g i))), (4, .int (nI i))]) hx hb dX6_isPlain_37 rfl hl (by decide) rfl (fun ls hl => ?_)
          refine lv_iload_n hx hb dX6_isPlain_38 rfl (lv_at hl 4 rfl) ?_
          refine lv_iload hx hb dX6_isPlain_39 (lv_at hl 1 rfl) ?_
          refine lv_iload_n hx hb dX6_isPlain_41 rfl (lv_at hl 4 rfl) ?_
          refine n_icmp_ne (tgt := 49) hx hb dX6_isPlain_42 (by decide) (by omega) (by omega) (fun c42 => ?_) (fun c42 => ?_)
          · refine lv_iconst (v := nI 0) hx hb dX6_isPlain_49 (by decide) ?_
            refine n_iadd hx hb dX6_isPlain_50 ?_
            refine r_top (y := nI (opn g (i + 1))) (congrArg nI (if_neg c42).symm) ?_
            refine lv_istore_n (lv' := [(2, .int (nI (opn g (i + 1)))), (3, .int (bI (∀ j, j < (i + 1) → cl g j ≤ opn g j))), (5, .int (nI (cl g i))), (0, .ref (q 0)), (1, .int (nI g)), (4, .int (nI i))]) hx hb dX6_isPlain_51 rfl hl (by decide) rfl (fun ls hl => ?_)
            refine lv_iinc (v := nI (i + 1)) (lv' := [(4, .int (nI (i + 1))), (2, .int (nI (opn g (i + 1)))), (3, .int (bI (∀ j, j < (i + 1) → cl g j ≤ opn g j))), (5, .int (nI (cl g i))), (0, .ref (q 0)), (1, .int (nI g))]) hx hb dX6_isPlain_52 hl (k := 5) rfl (n_inc _ _ (by decide)) (by decide) rfl (fun ls hl => ?_)
            refine lv_goto (tgt := 7) hx hb dX6_isPlain_55 (by decide) ?_
            exact ih7 (i + 1) (by omega) (by omega)   _ _ Z ls (lv_sub hl [4, 5, 1, 2, 0] rfl)
          · refine lv_iconst (v := nI 1) hx hb dX6_isPlain_45 (by decide) ?_
            refine lv_goto (tgt := 50) hx hb dX6_isPlain_46 (by decide) ?_
            refine n_iadd hx hb dX6_isPlain_50 ?_
            refine r_top (y := nI (opn g (i + 1))) (congrArg nI (if_pos c42).symm) ?_
            refine lv_istore_n (lv' := [(2, .int (nI (opn g (i + 1)))), (3, .int (bI (∀ j, j < (i + 1) → cl g j ≤ opn g j))), (5, .int (nI (cl g i))), (0, .ref (q 0)), (1, .int (nI g)), (4, .int (nI i))]) hx hb dX6_isPlain_51 rfl hl (by decide) rfl (fun ls hl => ?_)
            refine lv_iinc (v := nI (i + 1)) (lv' := [(4, .int (nI (i + 1))), (2, .int (nI (opn g (i + 1)))), (3, .int (bI (∀ j, j < (i + 1) → cl g j ≤ opn g j))), (5, .int (nI (cl g i))), (0, .ref (q 0)), (1, .int (nI g))]) hx hb dX6_isPlain_52 hl (k := 5) rfl (n_inc _ _ (by decide)) (by decide) rfl (fun ls hl => ?_)
            refine lv_goto (tgt := 7) hx hb dX6_isPlain_55 (by decide) ?_
            exact ih7 (i + 1) (by omega) (by omega)   _ _ Z ls (lv_sub hl [4, 5, 1, 2, 0] rfl)
  exact L7 (mc + 1) 0 (by omega) (by omega)   _ _ Z ls (lv_sub hl [3, 4, 2, 1, 0] rfl)
abbrev rm_k_X6_isWithin : Room := { frames := 2, cells := 0, slots := 0, locals := 46 }
set_option maxHeartbeats 4000000 in
set_option maxRecDepth 100000 in
theorem k_X6_isWithin (l : Launch) (D : va_G) (cA : ClassId) (q : Nat → Nat) (tr : Int64) (mc : Nat) (pp : Nat) (num : Nat) (yn : Nat) (cg : Nat) (g : Nat) (L : Nat) (hM : mc ≤ 7) (hg : g < 2 ^ 31) (hL : L ≤ 7) : Cti l yX6_isWithin cX6_isWithin 5 (some .boolean) rm_k_X6_isWithin D cA [.ref (q 0), .int (nI g), .int (nI L)] ([oM q 0 tr mc pp num yn cg]) (fun (r : Int32) (_ : Unit) => r = bI (wth mc g L)) (fun _ => [oM q 0 tr mc pp num yn cg]) := by
  refine st_z (by decide) (Nat.le_of_ble_eq_true rfl) ?_
  intro p e s m args below meth c A Q E ret Z ls hl
  have hx := E.1.1
  have hb := E.1.2.1
  have hl : lv_has ls 5 [(0, .ref (q 0)), (1, .int (nI g)), (2, .int (nI L))] := hl
  have h27 : 2 ^ mc ≤ 2 ^ 7 := Nat.pow_le_pow_right (by decide) hM
  have h20 := Nat.two_pow_pos mc
  refine lv_iconst (v := nI 1) hx hb dX6_isWithin_0 (by decide) ?_
  refine r_top (y := bI (∀ j, j < 0 → ic mc g (2 ^ mc - 1) j ≤ L)) (nI_one.trans (bI_t all_0).symm) ?_
  refine lv_istore_n (lv' := [(3, .int (bI (∀ j, j < 0 → ic mc g (2 ^ mc - 1) j ≤ L))), (0, .ref (q 0)), (1, .int (nI g)), (2, .int (nI L))]) hx hb dX6_isWithin_1 rfl hl (by decide) rfl (fun ls hl => ?_)
  refine lv_iconst (v := nI 0) hx hb dX6_isWithin_2 (by decide) ?_
  refine lv_istore (lv' := [(4, .int (nI 0)), (3, .int (bI (∀ j, j < 0 → ic mc g (2 ^ mc - 1) j ≤ L))), (0, .ref (q 0)), (1, .int (nI g)), (2, .int (nI L))]) hx hb dX6_isWithin_3 hl (by decide) rfl (fun ls hl => ?_)
  have L5 : ∀ (n5 k : Nat), 4 + 1 ≤ k + n5 → k ≤ 4 → ∀ (H : Heap) (locs : List Loc), Wd D A s ([oM q 0 tr mc pp num yn cg]) H locs → ∀ (ls : Array Slot), lv_has ls 5 [(0, .ref (q 0)), (1, .int (nI g)), (2, .int (nI L)), (3, .int (bI (∀ j, j < k → ic mc g (2 ^ mc - 1) j ≤ L))), (4, .int (nI k))] → W p l e rm_k_X6_isWithin s m args below meth c H locs 0 0 Q (F0 m 5 ls []) := by
    intro n5
    induction n5 with
    | zero => exact fun k h1 h2 => absurd h1 (by omega)
    | succ n5 ih5 =>
      intro k hn5 hi5  H locs Z ls hl
      refine lv_iload hx hb dX6_isWithin_5 (lv_at hl 4 rfl) ?_
      refine lv_iconst (v := nI 4) hx hb dX6_isWithin_7 (by decide) ?_
      refine n_icmp_ge (tgt := 44) hx hb dX6_isWithin_8 (by decide) (by omega) (by omega) (fun c8 => ?_) (fun c8 => ?_)
      · obtain rfl : 4 = k := by omega
        refine lv_iload_n hx hb dX6_isWithin_44 rfl (lv_at hl 3 rfl) ?_
        exact ret () Z dX6_isWithin_45 (bI_01 _) rfl rfl
      · refine lv_iload_n hx hb dX6_isWithin_11 rfl (lv_at hl 3 rfl) ?_
        refine lv_aload_n hx hb dX6_isWithin_12 rfl (lv_at hl 0 rfl) ?_
        refine lv_iload_n hx hb dX6_isWithin_13 rfl (lv_at hl 1 rfl) ?_
        refine lv_iconst (v := nI 1) hx hb dX6_isWithin_14 (by decide) ?_
        refine lv_aload_n hx hb dX6_isWithin_15 rfl (lv_at hl 0 rfl) ?_
        refine gF_X6_7 E Z dX6_isWithin_16 0 rfl rfl ?_
        refine n_ishl1 hx hb dX6_isWithin_19 (by omega) ?_
        refine lv_iconst (v := nI 1) hx hb dX6_isWithin_20 (by decide) ?_
        refine n_isub hx hb dX6_isWithin_21 (by omega) ?_
        refine lv_iload hx hb dX6_isWithin_22 (lv_at hl 4 rfl) ?_
        refine c_Vi (As := [.int (nI g), .int (nI (2 ^ mc - 1)), .int (nI k)]) (rest := [.int (bI (∀ j, j < k → ic mc g (2 ^ mc - 1) j ≤ L))]) (w2 := fun _ => [oM q 0 tr mc pp num yn cg]) E Z (k_X6_inCell l D cA q tr mc pp num yn cg g (2 ^ mc - 1) k (by first | assumption | omega) (by first | assumption | omega) (by first | assumption | omega) (by first | assumption | omega)) wv_X6_91 ⟨rfl, rfl, Nat.le_of_ble_eq_true rfl, Nat.le_of_ble_eq_true rfl⟩ [0] rfl rfl rfl rfl (q0 := 0) rfl (fun _ => rfl) (fun _ => rfl) rfl hl.1 rfl (Nat.le_of_ble_eq_true rfl) dX6_isWithin_24 ⟨Nat.zero_le _, Nat.zero_le _⟩ (fun r24 _ H locs hp24 Z => ?_)
        subst hp24
        refine lv_iload_n hx hb dX6_isWithin_27 rfl (lv_at hl 2 rfl) ?_
        have h4 := ic_le mc g (2 ^ mc - 1) k
        refine n_icmp_gt (tgt := 35) hx hb dX6_isWithin_28 (by decide) (by omega) (by omega) (fun c28 => ?_) (fun c28 => ?_)
        · refine lv_iconst (v := nI 0) hx hb dX6_isWithin_35 (by decide) ?_
          refine r_top (y := bI (ic mc g (2 ^ mc - 1) k ≤ L)) (nI_0.trans (bI_f (Nat.not_le.mpr c28)).symm) ?_
          refine n_band hx hb dX6_isWithin_36 ?_
          refine r_top (y := bI (∀ j, j < (k + 1) → ic mc g (2 ^ mc - 1) j ≤ L)) (bI_c all_succ) ?_
          refine lv_istore_n (lv' := [(3, .int (bI (∀ j, j < (k + 1) → ic mc g (2 ^ mc - 1) j ≤ L))), (0, .ref (q 0)), (1, .int (nI g)), (2, .int (nI L)), (4, .int (nI k))]) hx hb dX6_isWithin_37 rfl hl (by decide) rfl (fun ls hl => ?_)
          refine lv_iinc (v := nI (k + 1)) (lv' := [(4, .int (nI (k + 1))), (3, .int (bI (∀ j, j < (k + 1) → ic mc g (2 ^ mc - 1) j ≤ L))), (0, .ref (q 0)), (1, .int (nI g)), (2, .int (nI L))]) hx hb dX6_isWithin_38 hl (k := 4) rfl (n_inc _ _ (by decide)) (by decide) rfl (fun ls hl => ?_)
          refine lv_goto (tgt := 5) hx hb dX6_isWithin_41 (by decide) ?_
          exact ih5 (k + 1) (by omega) (by omega)   _ _ Z ls (lv_sub hl [2, 3, 4, 1, 0] rfl)
        · refine lv_iconst (v := nI 1) hx hb dX6_isWithin_31 (by decide) ?_
          refine lv_goto (tgt := 36) hx hb dX6_isWithin_32 (by decide) ?_
          refine r_top (y := bI (ic mc g (2 ^ mc - 1) k ≤ L)) (nI_one.trans (bI_t c28).symm) ?_
          refine n_band hx hb dX6_isWithin_36 ?_
          refine r_top (y := bI (∀ j, j < (k + 1) → ic mc g (2 ^ mc - 1) j ≤ L)) (bI_c all_succ) ?_
          refine lv_istore_n (lv' := [(3, .int (bI (∀ j, j < (k + 1) → ic mc g (2 ^ mc - 1) j ≤ L))), (0, .ref (q 0)), (1, .int (nI g)), (2, .int (nI L)), (4, .int (nI k))]) hx hb dX6_isWithin_37 rfl hl (by decide) rfl (fun ls hl => ?_)
          refine lv_iinc (v := nI (k + 1)) (lv' := [(4, .int (nI (k + 1))), (3, .int (bI (∀ j, j < (k + 1) → ic mc g (2 ^ mc - 1) j ≤ L))), (0, .ref (q 0)), (1, .int (nI g)), (2, .int (nI L))]) hx hb dX6_isWithin_38 hl (k := 4) rfl (n_inc _ _ (by decide)) (by decide) rfl (fun ls hl => ?_)
          refine lv_goto (tgt := 5) hx hb dX6_isWithin_41 (by decide) ?_
          exact ih5 (k + 1) (by omega) (by omega)   _ _ Z ls (lv_sub hl [2, 3, 4, 1, 0] rfl)
  exact L5 (4 + 1) 0 (by omega) (by omega)   _ _ Z ls (lv_sub hl [2, 3, 4, 1, 0] rfl)
abbrev rm_k_X6_bothOf : Room := { frames := 1, cells := 0, slots := 0, locals := 21 }
set_option maxHeartbeats 4000000 in
set_option maxRecDepth 100000 in
theorem k_X6_bothOf (l : Launch) (D : va_G) (cA : ClassId) (q : Nat → Nat) (tr : Int64) (mc : Nat) (pp : Nat) (num : Nat) (yn : Nat) (cg : Nat) (sets : Nat → Nat) (ch : Nat) (a : Nat) (b : Nat) (hP : pp ≤ 8) (hs : ∀ j, sets j < 128) (ha : a < 32) (hb0 : b < 32) : Cti l yX6_bothOf cX6_bothOf 5 (some .int) rm_k_X6_bothOf D cA [.ref (q 0), .int (nI a), .int (nI b)] ([oM q 0 tr mc pp num yn cg, aN cA (q 1) 16 sets, aN cA (q 2) 8 (bt ch)]) (fun (r : Int32) (_ : Unit) => r = nI (sm (bop sets ch a b) pp)) (fun _ => [oM q 0 tr mc pp num yn cg, aN cA (q 1) 16 sets, aN cA (q 2) 8 (bt ch)]) := by
  refine st_i (by decide) (Nat.le_of_ble_eq_true rfl) ?_
  intro p e s m args below meth c A Q E ret Z ls hl
  have hx := E.1.1
  have hb := E.1.2.1
  have hl : lv_has ls 5 [(0, .ref (q 0)), (1, .int (nI a)), (2, .int (nI b))] := hl
  refine lv_iconst (v := nI 0) hx hb dX6_bothOf_0 (by decide) ?_
  refine lv_istore_n (lv' := [(3, .int (nI 0)), (0, .ref (q 0)), (1, .int (nI a)), (2, .int (nI b))]) hx hb dX6_bothOf_1 rfl hl (by decide) rfl (fun ls hl => ?_)
  refine lv_iconst (v := nI 0) hx hb dX6_bothOf_2 (by decide) ?_
  refine lv_istore (lv' := [(4, .int (nI 0)), (3, .int (nI 0)), (0, .ref (q 0)), (1, .int (nI a)), (2, .int (nI b))]) hx hb dX6_bothOf_3 hl (by decide) rfl (fun ls hl => ?_)
  have L5 : ∀ (n5 k : Nat), pp + 1 ≤ k + n5 → k ≤ pp → ∀ (H : Heap) (locs : List Loc), Wd D A s ([oM q 0 tr mc pp num yn cg, aN cA (q 1) 16 sets, aN cA (q 2) 8 (bt ch)]) H locs → ∀ (ls : Array Slot), lv_has ls 5 [(0, .ref (q 0)), (1, .int (nI a)), (2, .int (nI b)), (3, .int (nI (sm (bop sets ch a b) k))), (4, .int (nI k))] → W p l e rm_k_X6_bothOf s m args below meth c H locs 0 0 Q (F0 m 5 ls []) := by
    intro n5
    induction n5 with
    | zero => exact fun k h1 h2 => absurd h1 (by omega)
    | succ n5 ih5 =>
      intro k hn5 hi5  H locs Z ls hl
      have hsk := hs (2 * k + bt ch k)
      have hsk2 : setB sets ch k < 128 := hsk
      refine lv_iload hx hb dX6_bothOf_5 (lv_at hl 4 rfl) ?_
      refine lv_aload_n hx hb dX6_bothOf_7 rfl (lv_at hl 0 rfl) ?_
      refine gF_X6_13 E Z dX6_bothOf_8 0 rfl rfl ?_
      refine n_icmp_ge (tgt := 42) hx hb dX6_bothOf_11 (by decide) (by omega) (by omega) (fun c11 => ?_) (fun c11 => ?_)
      · obtain rfl : pp = k := by omega
        refine lv_iload_n hx hb dX6_bothOf_42 rfl (lv_at hl 3 rfl) ?_
        exact ret () Z dX6_bothOf_43 rfl rfl
      · refine lv_iload_n hx hb dX6_bothOf_14 rfl (lv_at hl 3 rfl) ?_
        refine lv_aload_n hx hb dX6_bothOf_15 rfl (lv_at hl 0 rfl) ?_
        refine lv_iload hx hb dX6_bothOf_16 (lv_at hl 4 rfl) ?_
        refine c_Vi (As := [.int (nI k)]) (rest := [.int (nI (sm (bop sets ch a b) k))]) (w2 := fun _ => [oM q 0 tr mc pp num yn cg, aN cA (q 1) 16 sets, aN cA (q 2) 8 (bt ch)]) E Z (k_X6_setOf l D cA q tr mc pp num yn cg sets ch k (by first | assumption | omega)) wv_X6_98 ⟨rfl, rfl, Nat.le_of_ble_eq_true rfl, Nat.le_of_ble_eq_true rfl⟩ [0, 1, 2] rfl rfl rfl rfl (q0 := 0) rfl (fun _ => rfl) (fun _ => rfl) rfl hl.1 rfl (Nat.le_of_ble_eq_true rfl) dX6_bothOf_18 ⟨Nat.zero_le _, Nat.zero_le _⟩ (fun r18 _ H locs hp18 Z => ?_)
        subst hp18
        refine lv_iload_n hx hb dX6_bothOf_21 rfl (lv_at hl 1 rfl) ?_
        refine n_ishr hx hb dX6_bothOf_22 (by omega) (by omega) ?_
        refine lv_aload_n hx hb dX6_bothOf_23 rfl (lv_at hl 0 rfl) ?_
        refine lv_iload hx hb dX6_bothOf_24 (lv_at hl 4 rfl) ?_
        refine c_Vi (As := [.int (nI k)]) (rest := [.int (nI ((setB sets ch k) / 2 ^ a)), .int (nI (sm (bop sets ch a b) k))]) (w2 := fun _ => [oM q 0 tr mc pp num yn cg, aN cA (q 1) 16 sets, aN cA (q 2) 8 (bt ch)]) E Z (k_X6_setOf l D cA q tr mc pp num yn cg sets ch k (by first | assumption | omega)) wv_X6_98 ⟨rfl, rfl, Nat.le_of_ble_eq_true rfl, Nat.le_of_ble_eq_true rfl⟩ [0, 1, 2] rfl rfl rfl rfl (q0 := 0) rfl (fun _ => rfl) (fun _ => rfl) rfl hl.1 rfl (Nat.le_of_ble_eq_true rfl) dX6_bothOf_26 ⟨Nat.zero_le _, Nat.zero_le _⟩ (fun r26 _ H locs hp26 Z => ?_)
        subst hp26
        refine lv_iload_n hx hb dX6_bothOf_29 rfl (lv_at hl 2 rfl) ?_
        refine n_ishr hx hb dX6_bothOf_30 (by omega) (by omega) ?_
        refine n_iand hx hb dX6_bothOf_31 ?_
        refine lv_iconst (v := nI 1) hx hb dX6_bothOf_32 (by decide) ?_
        refine n_iand1 hx hb dX6_bothOf_33 ?_
        refine r_top (y := nI (bop sets ch a b k)) (congrArg nI (and2 sets ch a b k)) ?_
        refine n_iadd hx hb dX6_bothOf_34 ?_
        refine lv_istore_n (lv' := [(3, .int (nI (sm (bop sets ch a b) k + (bop sets ch a b k)))), (0, .ref (q 0)), (1, .int (nI a)), (2, .int (nI b)), (4, .int (nI k))]) hx hb dX6_bothOf_35 rfl hl (by decide) rfl (fun ls hl => ?_)
        refine lv_iinc (v := nI (k + 1)) (lv' := [(4, .int (nI (k + 1))), (3, .int (nI (sm (bop sets ch a b) k + (bop sets ch a b k)))), (0, .ref (q 0)), (1, .int (nI a)), (2, .int (nI b))]) hx hb dX6_bothOf_36 hl (k := 4) rfl (n_inc _ _ (by decide)) (by decide) rfl (fun ls hl => ?_)
        refine lv_goto (tgt := 5) hx hb dX6_bothOf_39 (by decide) ?_
        exact ih5 (k + 1) (by omega) (by omega)   _ _ Z ls (lv_sub hl [2, 3, 4, 1, 0] rfl)
  exact L5 (pp + 1) 0 (by omega) (by omega)   _ _ Z ls (lv_sub hl [2, 3, 4, 1, 0] rfl)
abbrev rm_k_X6_eitherOf : Room := { frames := 1, cells := 0, slots := 0, locals := 21 }
set_option maxHeartbeats 4000000 in
set_option maxRecDepth 100000 in
theorem k_X6_eitherOf (l : Launch) (D : va_G) (cA : ClassId) (q : Nat → Nat) (tr : Int64) (mc : Nat) (pp : Nat) (num : Nat) (yn : Nat) (cg : Nat) (sets : Nat → Nat) (ch : Nat) (a : Nat) (b : Nat) (hP : pp ≤ 8) (hs : ∀ j, sets j < 128) (ha : a < 32) (hb0 : b < 32) : Cti l yX6_eitherOf cX6_eitherOf 5 (some .int) rm_k_X6_eitherOf D cA [.ref (q 0), .int (nI a), .int (nI b)] ([oM q 0 tr mc pp num yn cg, aN cA (q 1) 16 sets, aN cA (q 2) 8 (bt ch)]) (fun (r : Int32) (_ : Unit) => r = nI (eith pp sets ch a b)) (fun _ => [oM q 0 tr mc pp num yn cg, aN cA (q 1) 16 sets, aN cA (q 2) 8 (bt ch)]) := by
  refine st_i (by decide) (Nat.le_of_ble_eq_true rfl) ?_
  intro p e s m args below meth c A Q E ret Z ls hl
  have hx := E.1.1
  have hb := E.1.2.1
  have hl : lv_has ls 5 [(0, .ref (q 0)), (1, .int (nI a)), (2, .int (nI b))] := hl
  refine lv_iconst (v := nI 0) hx hb dX6_eitherOf_0 (by decide) ?_
  refine lv_istore_n (lv' := [(3, .int (nI 0)), (0, .ref (q 0)), (1, .int (nI a)), (2, .int (nI b))]) hx hb dX6_eitherOf_1 rfl hl (by decide) rfl (fun ls hl => ?_)
  refine lv_iconst (v := nI 0) hx hb dX6_eitherOf_2 (by decide) ?_
  refine lv_istore (lv' := [(4, .int (nI 0)), (3, .int (nI 0)), (0, .ref (q 0)), (1, .int (nI a)), (2, .int (nI b))]) hx hb dX6_eitherOf_3 hl (by decide) rfl (fun ls hl => ?_)
  have L5 : ∀ (n5 k : Nat), pp + 1 ≤ k + n5 → k ≤ pp → ∀ (H : Heap) (locs : List Loc), Wd D A s ([oM q 0 tr mc pp num yn cg, aN cA (q 1) 16 sets, aN cA (q 2) 8 (bt ch)]) H locs → ∀ (ls : Array Slot), lv_has ls 5 [(0, .ref (q 0)), (1, .int (nI a)), (2, .int (nI b)), (3, .int (nI (sm (eip sets ch a b) k))), (4, .int (nI k))] → W p l e rm_k_X6_eitherOf s m args below meth c H locs 0 0 Q (F0 m 5 ls []) := by
    intro n5
    induction n5 with
    | zero => exact fun k h1 h2 => absurd h1 (by omega)
    | succ n5 ih5 =>
      intro k hn5 hi5  H locs Z ls hl
      have hsk2 : setB sets ch k < 128 := hs (2 * k + bt ch k)
      refine lv_iload hx hb dX6_eitherOf_5 (lv_at hl 4 rfl) ?_
      refine lv_aload_n hx hb dX6_eitherOf_7 rfl (lv_at hl 0 rfl) ?_
      refine gF_X6_13 E Z dX6_eitherOf_8 0 rfl rfl ?_
      refine n_icmp_ge (tgt := 42) hx hb dX6_eitherOf_11 (by decide) (by omega) (by omega) (fun c11 => ?_) (fun c11 => ?_)
      · obtain rfl : pp = k := by omega
        refine lv_iload_n hx hb dX6_eitherOf_42 rfl (lv_at hl 3 rfl) ?_
        have hbd : sm (eip sets ch a b) pp ≤ pp * 1 := sm_bd (fun m _ => by unfold eip; split <;> omega)
        refine n_if_ne (tgt := 50) hx hb dX6_eitherOf_43 (by decide) (by omega) (fun c43 => ?_) (fun c43 => ?_)
        · refine lv_iload_n hx hb dX6_eitherOf_50 rfl (lv_at hl 3 rfl) ?_
          exact ret () Z dX6_eitherOf_51 rfl (congrArg nI (Nat.max_eq_left (by omega)).symm)
        · refine lv_iconst (v := nI 1) hx hb dX6_eitherOf_46 (by decide) ?_
          refine lv_goto (tgt := 51) hx hb dX6_eitherOf_47 (by decide) ?_
          exact ret () Z dX6_eitherOf_51 rfl (congrArg nI (by unfold eith; rw [c43]; rfl))
      · refine lv_iload_n hx hb dX6_eitherOf_14 rfl (lv_at hl 3 rfl) ?_
        refine lv_aload_n hx hb dX6_eitherOf_15 rfl (lv_at hl 0 rfl) ?_
        refine lv_iload hx hb dX6_eitherOf_16 (lv_at hl 4 rfl) ?_
        refine c_Vi (As := [.int (nI k)]) (rest := [.int (nI (sm (eip sets ch a b) k))]) (w2 := fun _ => [oM q 0 tr mc pp num yn cg, aN cA (q 1) 16 sets, aN cA (q 2) 8 (bt ch)]) E Z (k_X6_setOf l D cA q tr mc pp num yn cg sets ch k (by first | assumption | omega)) wv_X6_98 ⟨rfl, rfl, Nat.le_of_ble_eq_true rfl, Nat.le_of_ble_eq_true rfl⟩ [0, 1, 2] rfl rfl rfl rfl (q0 := 0) rfl (fun _ => rfl) (fun _ => rfl) rfl hl.1 rfl (Nat.le_of_ble_eq_true rfl) dX6_eitherOf_18 ⟨Nat.zero_le _, Nat.zero_le _⟩ (fun r18 _ H locs hp18 Z => ?_)
        subst hp18
        refine lv_iload_n hx hb dX6_eitherOf_21 rfl (lv_at hl 1 rfl) ?_
        refine n_ishr hx hb dX6_eitherOf_22 (by omega) (by omega) ?_
        refine lv_aload_n hx hb dX6_eitherOf_23 rfl (lv_at hl 0 rfl) ?_
        refine lv_iload hx hb dX6_eitherOf_24 (lv_at hl 4 rfl) ?_
        refine c_Vi (As := [.int (nI k)]) (rest := [.int (nI ((setB sets ch k) / 2 ^ a)), .int (nI (sm (eip sets ch a b) k))]) (w2 := fun _ => [oM q 0 tr mc pp num yn cg, aN cA (q 1) 16 sets, aN cA (q 2) 8 (bt ch)]) E Z (k_X6_setOf l D cA q tr mc pp num yn cg sets ch k (by first | assumption | omega)) wv_X6_98 ⟨rfl, rfl, Nat.le_of_ble_eq_true rfl, Nat.le_of_ble_eq_true rfl⟩ [0, 1, 2] rfl rfl rfl rfl (q0 := 0) rfl (fun _ => rfl) (fun _ => rfl) rfl hl.1 rfl (Nat.le_of_ble_eq_true rfl) dX6_eitherOf_26 ⟨Nat.zero_le _, Nat.zero_le _⟩ (fun r26 _ H locs hp26 Z => ?_)
        subst hp26
        refine lv_iload_n hx hb dX6_eitherOf_29 rfl (lv_at hl 2 rfl) ?_
        refine n_ishr hx hb dX6_eitherOf_30 (by omega) (by omega) ?_
        refine n_ior hx hb dX6_eitherOf_31 ?_
        refine lv_iconst (v := nI 1) hx hb dX6_eitherOf_32 (by decide) ?_
        refine n_iand1 hx hb dX6_eitherOf_33 ?_
        refine r_top (y := nI (eip sets ch a b k)) (congrArg nI (or2 sets ch a b k)) ?_
        refine n_iadd hx hb dX6_eitherOf_34 ?_
        refine lv_istore_n (lv' := [(3, .int (nI (sm (eip sets ch a b) k + (eip sets ch a b k)))), (0, .ref (q 0)), (1, .int (nI a)), (2, .int (nI b)), (4, .int (nI k))]) hx hb dX6_eitherOf_35 rfl hl (by decide) rfl (fun ls hl => ?_)
        refine lv_iinc (v := nI (k + 1)) (lv' := [(4, .int (nI (k + 1))), (3, .int (nI (sm (eip sets ch a b) k + (eip sets ch a b k)))), (0, .ref (q 0)), (1, .int (nI a)), (2, .int (nI b))]) hx hb dX6_eitherOf_36 hl (k := 4) rfl (n_inc _ _ (by decide)) (by decide) rfl (fun ls hl => ?_)
        refine lv_goto (tgt := 5) hx hb dX6_eitherOf_39 (by decide) ?_
        exact ih5 (k + 1) (by omega) (by omega)   _ _ Z ls (lv_sub hl [2, 3, 4, 1, 0] rfl)
  exact L5 (pp + 1) 0 (by omega) (by omega)   _ _ Z ls (lv_sub hl [2, 3, 4, 1, 0] rfl)
abbrev rm_k_X6_loadOf : Room := { frames := 0, cells := 0, slots := 0, locals := 0 }
set_option maxHeartbeats 4000000 in
set_option maxRecDepth 100000 in
theorem k_X6_loadOf (l : Launch) (D : va_G) (cA : ClassId) (q : Nat → Nat) (tr : Int64) (mc : Nat) (pp : Nat) (num : Nat) (yn : Nat) (cg : Nat) (sets : Nat → Nat) (amts : Nat → Nat) (mm : Nat) (sc : Nat) (hP : pp ≤ 8) (hs : ∀ j, sets j < 128) (hmm : mm < 32) (hsc : sc < 256) : Cti l yX6_loadOf cX6_loadOf 5 (some .int) rm_k_X6_loadOf D cA [.ref (q 0), .int (nI mm), .int (nI sc)] ([oM q 0 tr mc pp num yn cg, aN cA (q 1) 16 sets, aN cA (q 3) 8 amts]) (fun (r : Int32) (_ : Unit) => r = nI (sm (ldp sets amts sc mm) pp)) (fun _ => [oM q 0 tr mc pp num yn cg, aN cA (q 1) 16 sets, aN cA (q 3) 8 amts]) := by
  refine st_i (by decide) (Nat.le_of_ble_eq_true rfl) ?_
  intro p e s m args below meth c A Q E ret Z ls hl
  have hx := E.1.1
  have hb := E.1.2.1
  have hl : lv_has ls 5 [(0, .ref (q 0)), (1, .int (nI mm)), (2, .int (nI sc))] := hl
  refine lv_iconst (v := nI 0) hx hb dX6_loadOf_0 (by decide) ?_
  refine lv_istore_n (lv' := [(3, .int (nI 0)), (0, .ref (q 0)), (1, .int (nI mm)), (2, .int (nI sc))]) hx hb dX6_loadOf_1 rfl hl (by decide) rfl (fun ls hl => ?_)
  refine lv_iconst (v := nI 0) hx hb dX6_loadOf_2 (by decide) ?_
  refine lv_istore (lv' := [(4, .int (nI 0)), (3, .int (nI 0)), (0, .ref (q 0)), (1, .int (nI mm)), (2, .int (nI sc))]) hx hb dX6_loadOf_3 hl (by decide) rfl (fun ls hl => ?_)
  have L5 : ∀ (n5 k : Nat), pp + 1 ≤ k + n5 → k ≤ pp → ∀ (H : Heap) (locs : List Loc), Wd D A s ([oM q 0 tr mc pp num yn cg, aN cA (q 1) 16 sets, aN cA (q 3) 8 amts]) H locs → ∀ (ls : Array Slot), lv_has ls 5 [(0, .ref (q 0)), (1, .int (nI mm)), (2, .int (nI sc)), (3, .int (nI (sm (ldp sets amts sc mm) k))), (4, .int (nI k))] → W p l e rm_k_X6_loadOf s m args below meth c H locs 0 0 Q (F0 m 5 ls []) := by
    intro n5
    induction n5 with
    | zero => exact fun k h1 h2 => absurd h1 (by omega)
    | succ n5 ih5 =>
      intro k hn5 hi5  H locs Z ls hl
      have hsk2 : setB sets sc k < 128 := hs _
      have hbt := bt_lt sc k
      refine lv_iload hx hb dX6_loadOf_5 (lv_at hl 4 rfl) ?_
      refine lv_aload_n hx hb dX6_loadOf_7 rfl (lv_at hl 0 rfl) ?_
      refine gF_X6_13 E Z dX6_loadOf_8 0 rfl rfl ?_
      refine n_icmp_ge (tgt := 51) hx hb dX6_loadOf_11 (by decide) (by omega) (by omega) (fun c11 => ?_) (fun c11 => ?_)
      · obtain rfl : pp = k := by omega
        refine lv_iload_n hx hb dX6_loadOf_51 rfl (lv_at hl 3 rfl) ?_
        exact ret () Z dX6_loadOf_52 rfl rfl
      · refine lv_iload_n hx hb dX6_loadOf_14 rfl (lv_at hl 3 rfl) ?_
        refine lv_aload_n hx hb dX6_loadOf_15 rfl (lv_at hl 0 rfl) ?_
        refine gF_X6_16 E Z dX6_loadOf_16 0 rfl rfl ?_
        refine lv_iconst (v := nI 2) hx hb dX6_loadOf_19 (by decide) ?_
        refine lv_iload hx hb dX6_loadOf_20 (lv_at hl 4 rfl) ?_
        refine n_imul hx hb dX6_loadOf_22 ?_
        refine lv_iload_n hx hb dX6_loadOf_23 rfl (lv_at hl 2 rfl) ?_
        refine lv_iload hx hb dX6_loadOf_24 (lv_at hl 4 rfl) ?_
        refine n_ishr hx hb dX6_loadOf_26 (by omega) (by omega) ?_
        refine lv_iconst (v := nI 1) hx hb dX6_loadOf_27 (by decide) ?_
        refine n_iand1 hx hb dX6_loadOf_28 ?_
        refine r_top (y := nI (bt sc k)) rfl ?_
        refine n_iadd hx hb dX6_loadOf_29 ?_
        refine r_ald E Z dX6_loadOf_30 1 rfl (by omega) (by decide) ?_
        refine r_top (y := nI (setB sets sc k)) rfl ?_
        refine lv_iload_n hx hb dX6_loadOf_31 rfl (lv_at hl 1 rfl) ?_
        refine n_ishr hx hb dX6_loadOf_32 (by omega) (by omega) ?_
        refine lv_iconst (v := nI 1) hx hb dX6_loadOf_33 (by decide) ?_
        refine n_iand1 hx hb dX6_loadOf_34 ?_
        refine r_top (y := nI (bt (setB sets sc k) mm)) rfl ?_
        refine lv_aload_n hx hb dX6_loadOf_35 rfl (lv_at hl 0 rfl) ?_
        refine gF_X6_23 E Z dX6_loadOf_36 0 rfl rfl ?_
        refine lv_iload hx hb dX6_loadOf_39 (lv_at hl 4 rfl) ?_
        refine r_ald E Z dX6_loadOf_41 2 rfl (by omega) (by decide) ?_
        refine n_imul hx hb dX6_loadOf_42 ?_
        refine r_top (y := nI (ldp sets amts sc mm k)) (congrArg nI (ldp_mul sets amts sc mm k)) ?_
        refine n_iadd hx hb dX6_loadOf_43 ?_
        refine lv_istore_n (lv' := [(3, .int (nI (sm (ldp sets amts sc mm) k + (ldp sets amts sc mm k)))), (0, .ref (q 0)), (1, .int (nI mm)), (2, .int (nI sc)), (4, .int (nI k))]) hx hb dX6_loadOf_44 rfl hl (by decide) rfl (fun ls hl => ?_)
        refine lv_iinc (v := nI (k + 1)) (lv' := [(4, .int (nI (k + 1))), (3, .int (nI (sm (ldp sets amts sc mm) k + (ldp sets amts sc mm k)))), (0, .ref (q 0)), (1, .int (nI mm)), (2, .int (nI sc))]) hx hb dX6_loadOf_45 hl (k := 4) rfl (n_inc _ _ (by decide)) (by decide) rfl (fun ls hl => ?_)
        refine lv_goto (tgt := 5) hx hb dX6_loadOf_48 (by decide) ?_
        exact ih5 (k + 1) (by omega) (by omega)   _ _ Z ls (lv_sub hl [2, 3, 4, 1, 0] rfl)
  exact L5 (pp + 1) 0 (by omega) (by omega)   _ _ Z ls (lv_sub hl [2, 3, 4, 1, 0] rfl)
abbrev rm_k_X6_bits : Room := { frames := 0, cells := 0, slots := 0, locals := 0 }
set_option maxHeartbeats 4000000 in
set_option maxRecDepth 100000 in
theorem k_X6_bits (l : Launch) (D : va_G) (cA : ClassId) (q : Nat → Nat) (tr : Int64) (mc : Nat) (pp : Nat) (num : Nat) (yn : Nat) (cg : Nat) (ch : Nat) (hP : pp ≤ 8) (hc2 : ch < 2 ^ pp) : Cti l yX6_bits cX6_bits 3 (some .int) rm_k_X6_bits D cA [.ref (q 0)] ([oM q 0 tr mc pp num yn cg, aN cA (q 2) 8 (bt ch)]) (fun (r : Int32) (_ : Unit) => r = nI ch) (fun _ => [oM q 0 tr mc pp num yn cg, aN cA (q 2) 8 (bt ch)]) := by
  refine st_i (by decide) (Nat.le_of_ble_eq_true rfl) ?_
  intro p e s m args below meth c A Q E ret Z ls hl
  have hx := E.1.1
  have hb := E.1.2.1
  have hl : lv_has ls 3 [(0, .ref (q 0))] := hl
  refine lv_iconst (v := nI 0) hx hb dX6_bits_0 (by decide) ?_
  refine lv_istore_n (lv' := [(1, .int (nI 0)), (0, .ref (q 0))]) hx hb dX6_bits_1 rfl hl (by decide) rfl (fun ls hl => ?_)
  refine lv_iconst (v := nI 0) hx hb dX6_bits_2 (by decide) ?_
  refine lv_istore_n (lv' := [(2, .int (nI 0)), (1, .int (nI 0)), (0, .ref (q 0))]) hx hb dX6_bits_3 rfl hl (by decide) rfl (fun ls hl => ?_)
  have L4 : ∀ (n4 k : Nat), pp + 1 ≤ k + n4 → k ≤ pp → ∀ (H : Heap) (locs : List Loc), Wd D A s ([oM q 0 tr mc pp num yn cg, aN cA (q 2) 8 (bt ch)]) H locs → ∀ (ls : Array Slot), lv_has ls 3 [(0, .ref (q 0)), (1, .int (nI (bsv ch k))), (2, .int (nI k))] → W p l e rm_k_X6_bits s m args below meth c H locs 0 0 Q (F0 m 4 ls []) := by
    intro n4
    induction n4 with
    | zero => exact fun k h1 h2 => absurd h1 (by omega)
    | succ n4 ih4 =>
      intro k hn4 hi4  H locs Z ls hl
      refine lv_iload_n hx hb dX6_bits_4 rfl (lv_at hl 2 rfl) ?_
      refine lv_aload_n hx hb dX6_bits_5 rfl (lv_at hl 0 rfl) ?_
      refine gF_X6_13 E Z dX6_bits_6 0 rfl rfl ?_
      refine n_icmp_ge (tgt := 29) hx hb dX6_bits_9 (by decide) (by omega) (by omega) (fun c9 => ?_) (fun c9 => ?_)
      · obtain rfl : pp = k := by omega
        refine lv_iload_n hx hb dX6_bits_29 rfl (lv_at hl 1 rfl) ?_
        exact ret () Z dX6_bits_30 rfl (congrArg nI (bsv_eq hc2))
      · refine lv_iload_n hx hb dX6_bits_12 rfl (lv_at hl 1 rfl) ?_
        refine lv_aload_n hx hb dX6_bits_13 rfl (lv_at hl 0 rfl) ?_
        refine gF_X6_20 E Z dX6_bits_14 0 rfl rfl ?_
        refine lv_iload_n hx hb dX6_bits_17 rfl (lv_at hl 2 rfl) ?_
        refine r_ald E Z dX6_bits_18 1 rfl (by omega) (by decide) ?_
        refine lv_iload_n hx hb dX6_bits_19 rfl (lv_at hl 2 rfl) ?_
        refine n_ishl hx hb dX6_bits_20 (by omega) ?_
        refine n_ior hx hb dX6_bits_21 ?_
        refine lv_istore_n (lv' := [(1, .int (nI ((bsv ch k) ||| (((bt ch) k) * 2 ^ k)))), (0, .ref (q 0)), (2, .int (nI k))]) hx hb dX6_bits_22 rfl hl (by decide) rfl (fun ls hl => ?_)
        refine lv_iinc (v := nI (k + 1)) (lv' := [(2, .int (nI (k + 1))), (1, .int (nI ((bsv ch k) ||| (((bt ch) k) * 2 ^ k)))), (0, .ref (q 0))]) hx hb dX6_bits_23 hl (k := 2) rfl (n_inc _ _ (by decide)) (by decide) rfl (fun ls hl => ?_)
        refine lv_goto (tgt := 4) hx hb dX6_bits_26 (by decide) ?_
        exact ih4 (k + 1) (by omega) (by omega)   _ _ Z ls (lv_sub hl [2, 1, 0] rfl)
  exact L4 (pp + 1) 0 (by omega) (by omega)   _ _ Z ls (lv_sub hl [2, 1, 0] rfl)
abbrev rm_k_X6_copyOf : Room := { frames := 3, cells := 0, slots := 0, locals := 70 }
set_option maxHeartbeats 4000000 in
set_option maxRecDepth 100000 in
theorem k_X6_copyOf (l : Launch) (D : va_G) (cA : ClassId) (q : Nat → Nat) (tr : Int64) (mc : Nat) (pp : Nat) (num : Nat) (yn : Nat) (cg : Nat) (sets : Nat → Nat) (ch : Nat) (amts : Nat → Nat) (mm : Nat) (d : Nat) (hP : pp ≤ 8) (hM : mc ≤ 7) (hs : ∀ j, sets j < 128) (hmm : mm < 32) (hd : d < 4) (hn31 : num < 2 ^ 31) : Cti l yX6_copyOf cX6_copyOf 5 (some .int) rm_k_X6_copyOf D cA [.ref (q 0), .int (nI mm), .int (nI d)] ([oM q 0 tr mc pp num yn cg, aN cA (q 1) 16 sets, aN cA (q 2) 8 (bt ch), aN cA (q 3) 8 amts]) (fun (r : Int32) (_ : Unit) => r = nI (sm (kpp mc num sets amts ch mm d) pp)) (fun _ => [oM q 0 tr mc pp num yn cg, aN cA (q 1) 16 sets, aN cA (q 2) 8 (bt ch), aN cA (q 3) 8 amts]) := by
  refine st_i (by decide) (Nat.le_of_ble_eq_true rfl) ?_
  intro p e s m args below meth c A Q E ret Z ls hl
  have hx := E.1.1
  have hb := E.1.2.1
  have hl : lv_has ls 5 [(0, .ref (q 0)), (1, .int (nI mm)), (2, .int (nI d))] := hl
  refine lv_iconst (v := nI 0) hx hb dX6_copyOf_0 (by decide) ?_
  refine lv_istore_n (lv' := [(3, .int (nI 0)), (0, .ref (q 0)), (1, .int (nI mm)), (2, .int (nI d))]) hx hb dX6_copyOf_1 rfl hl (by decide) rfl (fun ls hl => ?_)
  refine lv_iconst (v := nI 0) hx hb dX6_copyOf_2 (by decide) ?_
  refine lv_istore (lv' := [(4, .int (nI 0)), (3, .int (nI 0)), (0, .ref (q 0)), (1, .int (nI mm)), (2, .int (nI d))]) hx hb dX6_copyOf_3 hl (by decide) rfl (fun ls hl => ?_)
  have L5 : ∀ (n5 k : Nat), pp + 1 ≤ k + n5 → k ≤ pp → ∀ (H : Heap) (locs : List Loc), Wd D A s ([oM q 0 tr mc pp num yn cg, aN cA (q 1) 16 sets, aN cA (q 2) 8 (bt ch), aN cA (q 3) 8 amts]) H locs → ∀ (ls : Array Slot), lv_has ls 5 [(0, .ref (q 0)), (1, .int (nI mm)), (2, .int (nI d)), (3, .int (nI (sm (kpp mc num sets amts ch mm d) k))), (4, .int (nI k))] → W p l e rm_k_X6_copyOf s m args below meth c H locs 0 0 Q (F0 m 5 ls []) := by
    intro n5
    induction n5 with
    | zero => exact fun k h1 h2 => absurd h1 (by omega)
    | succ n5 ih5 =>
      intro k hn5 hi5  H locs Z ls hl
      have hsk2 : setB sets ch k < 128 := hs _
      have hbt := bt_lt (setB sets ch k) mm
      refine lv_iload hx hb dX6_copyOf_5 (lv_at hl 4 rfl) ?_
      refine lv_aload_n hx hb dX6_copyOf_7 rfl (lv_at hl 0 rfl) ?_
      refine gF_X6_13 E Z dX6_copyOf_8 0 rfl rfl ?_
      refine n_icmp_ge (tgt := 66) hx hb dX6_copyOf_11 (by decide) (by omega) (by omega) (fun c11 => ?_) (fun c11 => ?_)
      · obtain rfl : pp = k := by omega
        refine lv_iload_n hx hb dX6_copyOf_66 rfl (lv_at hl 3 rfl) ?_
        exact ret () Z dX6_copyOf_67 rfl rfl
      · refine lv_iload_n hx hb dX6_copyOf_14 rfl (lv_at hl 3 rfl) ?_
        refine lv_aload_n hx hb dX6_copyOf_15 rfl (lv_at hl 0 rfl) ?_
        refine lv_iload hx hb dX6_copyOf_16 (lv_at hl 4 rfl) ?_
        refine c_Vi (As := [.int (nI k)]) (rest := [.int (nI (sm (kpp mc num sets amts ch mm d) k))]) (w2 := fun _ => [oM q 0 tr mc pp num yn cg, aN cA (q 1) 16 sets, aN cA (q 2) 8 (bt ch), aN cA (q 3) 8 amts]) E Z (k_X6_setOf l D cA q tr mc pp num yn cg sets ch k (by first | assumption | omega)) wv_X6_98 ⟨rfl, rfl, Nat.le_of_ble_eq_true rfl, Nat.le_of_ble_eq_true rfl⟩ [0, 1, 2] rfl rfl rfl rfl (q0 := 0) rfl (fun _ => rfl) (fun _ => rfl) rfl hl.1 rfl (Nat.le_of_ble_eq_true rfl) dX6_copyOf_18 ⟨Nat.zero_le _, Nat.zero_le _⟩ (fun r18 _ H locs hp18 Z => ?_)
        subst hp18
        refine lv_iload_n hx hb dX6_copyOf_21 rfl (lv_at hl 1 rfl) ?_
        refine n_ishr hx hb dX6_copyOf_22 (by omega) (by omega) ?_
        refine lv_iconst (v := nI 1) hx hb dX6_copyOf_23 (by decide) ?_
        refine n_iand1 hx hb dX6_copyOf_24 ?_
        refine r_top (y := nI (bt (setB sets ch k) mm)) rfl ?_
        refine lv_iconst (v := nI 1) hx hb dX6_copyOf_25 (by decide) ?_
        refine n_icmp_ne (tgt := 57) hx hb dX6_copyOf_26 (by decide) (by omega) (by omega) (fun c26 => ?_) (fun c26 => ?_)
        · refine lv_iconst (v := nI 0) hx hb dX6_copyOf_57 (by decide) ?_
          refine n_iadd hx hb dX6_copyOf_58 ?_
          refine r_top (y := nI (sm (kpp mc num sets amts ch mm d) (k + 1))) (congrArg (fun z => nI (sm (kpp mc num sets amts ch mm d) k + z)) (if_neg (fun h => c26 h.1)).symm) ?_
          refine lv_istore_n (lv' := [(3, .int (nI (sm (kpp mc num sets amts ch mm d) (k + 1)))), (0, .ref (q 0)), (1, .int (nI mm)), (2, .int (nI d)), (4, .int (nI k))]) hx hb dX6_copyOf_59 rfl hl (by decide) rfl (fun ls hl => ?_)
          refine lv_iinc (v := nI (k + 1)) (lv' := [(4, .int (nI (k + 1))), (3, .int (nI (sm (kpp mc num sets amts ch mm d) (k + 1)))), (0, .ref (q 0)), (1, .int (nI mm)), (2, .int (nI d))]) hx hb dX6_copyOf_60 hl (k := 4) rfl (n_inc _ _ (by decide)) (by decide) rfl (fun ls hl => ?_)
          refine lv_goto (tgt := 5) hx hb dX6_copyOf_63 (by decide) ?_
          exact ih5 (k + 1) (by omega) (by omega)   _ _ Z ls (lv_sub hl [2, 3, 4, 1, 0] rfl)
        · refine lv_aload_n hx hb dX6_copyOf_29 rfl (lv_at hl 0 rfl) ?_
          refine lv_aload_n hx hb dX6_copyOf_30 rfl (lv_at hl 0 rfl) ?_
          refine gF_X6_69 E Z dX6_copyOf_31 0 rfl rfl ?_
          refine lv_aload_n hx hb dX6_copyOf_34 rfl (lv_at hl 0 rfl) ?_
          refine lv_iload hx hb dX6_copyOf_35 (lv_at hl 4 rfl) ?_
          refine c_Vi (As := [.int (nI k)]) (rest := [.int (nI num), .ref (q 0), .int (nI (sm (kpp mc num sets amts ch mm d) k))]) (w2 := fun _ => [oM q 0 tr mc pp num yn cg, aN cA (q 1) 16 sets, aN cA (q 2) 8 (bt ch), aN cA (q 3) 8 amts]) E Z (k_X6_setOf l D cA q tr mc pp num yn cg sets ch k (by first | assumption | omega)) wv_X6_98 ⟨rfl, rfl, Nat.le_of_ble_eq_true rfl, Nat.le_of_ble_eq_true rfl⟩ [0, 1, 2] rfl rfl rfl rfl (q0 := 0) rfl (fun _ => rfl) (fun _ => rfl) rfl hl.1 rfl (Nat.le_of_ble_eq_true rfl) dX6_copyOf_37 ⟨Nat.zero_le _, Nat.zero_le _⟩ (fun r37 _ H locs hp37 Z => ?_)
          subst hp37
          refine c_Vi (As := [.int (nI num), .int (nI (setB sets ch k))]) (rest := [.int (nI (sm (kpp mc num sets amts ch mm d) k))]) (w2 := fun _ => [oM q 0 tr mc pp num yn cg, aN cA (q 1) 16 sets, aN cA (q 2) 8 (bt ch), aN cA (q 3) 8 amts]) E Z (k_X6_homeOf l D cA q tr mc pp num yn cg num (setB sets ch k) (by first | assumption | omega) (by first | assumption | omega) (by first | assumption | omega)) wv_X6_95 ⟨rfl, rfl, Nat.le_of_ble_eq_true rfl, Nat.le_of_ble_eq_true rfl⟩ [0] rfl rfl rfl rfl (q0 := 0) rfl (fun _ => rfl) (fun _ => rfl) rfl hl.1 rfl (Nat.le_of_ble_eq_true rfl) dX6_copyOf_40 ⟨Nat.zero_le _, Nat.zero_le _⟩ (fun r40 _ H locs hp40 Z => ?_)
          subst hp40
          refine lv_iload_n hx hb dX6_copyOf_43 rfl (lv_at hl 2 rfl) ?_
          have hh := hm_lt mc num (setB sets ch k)
          refine n_icmp_ne (tgt := 57) hx hb dX6_copyOf_44 (by decide) (by omega) (by omega) (fun c44 => ?_) (fun c44 => ?_)
          · refine lv_iconst (v := nI 0) hx hb dX6_copyOf_57 (by decide) ?_
            refine n_iadd hx hb dX6_copyOf_58 ?_
            refine r_top (y := nI (sm (kpp mc num sets amts ch mm d) (k + 1))) (congrArg (fun z => nI (sm (kpp mc num sets amts ch mm d) k + z)) (if_neg (fun h => c44 h.2)).symm) ?_
            refine lv_istore_n (lv' := [(3, .int (nI (sm (kpp mc num sets amts ch mm d) (k + 1)))), (0, .ref (q 0)), (1, .int (nI mm)), (2, .int (nI d)), (4, .int (nI k))]) hx hb dX6_copyOf_59 rfl hl (by decide) rfl (fun ls hl => ?_)
            refine lv_iinc (v := nI (k + 1)) (lv' := [(4, .int (nI (k + 1))), (3, .int (nI (sm (kpp mc num sets amts ch mm d) (k + 1)))), (0, .ref (q 0)), (1, .int (nI mm)), (2, .int (nI d))]) hx hb dX6_copyOf_60 hl (k := 4) rfl (n_inc _ _ (by decide)) (by decide) rfl (fun ls hl => ?_)
            refine lv_goto (tgt := 5) hx hb dX6_copyOf_63 (by decide) ?_
            exact ih5 (k + 1) (by omega) (by omega)   _ _ Z ls (lv_sub hl [2, 3, 4, 1, 0] rfl)
          · refine lv_aload_n hx hb dX6_copyOf_47 rfl (lv_at hl 0 rfl) ?_
            refine gF_X6_23 E Z dX6_copyOf_48 0 rfl rfl ?_
            refine lv_iload hx hb dX6_copyOf_51 (lv_at hl 4 rfl) ?_
            refine r_ald E Z dX6_copyOf_53 3 rfl (by omega) (by decide) ?_
            refine lv_goto (tgt := 58) hx hb dX6_copyOf_54 (by decide) ?_
            refine n_iadd hx hb dX6_copyOf_58 ?_
            refine r_top (y := nI (sm (kpp mc num sets amts ch mm d) (k + 1))) (congrArg (fun z => nI (sm (kpp mc num sets amts ch mm d) k + z)) (if_pos ⟨c26, c44⟩).symm) ?_
            refine lv_istore_n (lv' := [(3, .int (nI (sm (kpp mc num sets amts ch mm d) (k + 1)))), (0, .ref (q 0)), (1, .int (nI mm)), (2, .int (nI d)), (4, .int (nI k))]) hx hb dX6_copyOf_59 rfl hl (by decide) rfl (fun ls hl => ?_)
            refine lv_iinc (v := nI (k + 1)) (lv' := [(4, .int (nI (k + 1))), (3, .int (nI (sm (kpp mc num sets amts ch mm d) (k + 1)))), (0, .ref (q 0)), (1, .int (nI mm)), (2, .int (nI d))]) hx hb dX6_copyOf_60 hl (k := 4) rfl (n_inc _ _ (by decide)) (by decide) rfl (fun ls hl => ?_)
            refine lv_goto (tgt := 5) hx hb dX6_copyOf_63 (by decide) ?_
            exact ih5 (k + 1) (by omega) (by omega)   _ _ Z ls (lv_sub hl [2, 3, 4, 1, 0] rfl)
  exact L5 (pp + 1) 0 (by omega) (by omega)   _ _ Z ls (lv_sub hl [2, 3, 4, 1, 0] rfl)
abbrev rm_k_X6_movedOf : Room := { frames := 1, cells := 0, slots := 0, locals := 21 }
set_option maxHeartbeats 4000000 in
set_option maxRecDepth 100000 in
theorem k_X6_movedOf (l : Launch) (D : va_G) (cA : ClassId) (q : Nat → Nat) (tr : Int64) (mc : Nat) (pp : Nat) (num : Nat) (yn : Nat) (cg : Nat) (a : Nat) (b : Nat) (hM : mc ≤ 7) (ha : a < 2 ^ 31) (hb0 : b < 2 ^ 31) : Cti l yX6_movedOf cX6_movedOf 5 (some .int) rm_k_X6_movedOf D cA [.ref (q 0), .int (nI a), .int (nI b)] ([oM q 0 tr mc pp num yn cg]) (fun (r : Int32) (_ : Unit) => r = nI (sm (mvm a b) mc)) (fun _ => [oM q 0 tr mc pp num yn cg]) := by
  refine st_i (by decide) (Nat.le_of_ble_eq_true rfl) ?_
  intro p e s m args below meth c A Q E ret Z ls hl
  have hx := E.1.1
  have hb := E.1.2.1
  have hl : lv_has ls 5 [(0, .ref (q 0)), (1, .int (nI a)), (2, .int (nI b))] := hl
  refine lv_iconst (v := nI 0) hx hb dX6_movedOf_0 (by decide) ?_
  refine lv_istore_n (lv' := [(3, .int (nI 0)), (0, .ref (q 0)), (1, .int (nI a)), (2, .int (nI b))]) hx hb dX6_movedOf_1 rfl hl (by decide) rfl (fun ls hl => ?_)
  refine lv_iconst (v := nI 0) hx hb dX6_movedOf_2 (by decide) ?_
  refine lv_istore (lv' := [(4, .int (nI 0)), (3, .int (nI 0)), (0, .ref (q 0)), (1, .int (nI a)), (2, .int (nI b))]) hx hb dX6_movedOf_3 hl (by decide) rfl (fun ls hl => ?_)
  have L5 : ∀ (n5 k : Nat), mc + 1 ≤ k + n5 → k ≤ mc → ∀ (H : Heap) (locs : List Loc), Wd D A s ([oM q 0 tr mc pp num yn cg]) H locs → ∀ (ls : Array Slot), lv_has ls 5 [(0, .ref (q 0)), (1, .int (nI a)), (2, .int (nI b)), (3, .int (nI (sm (mvm a b) k))), (4, .int (nI k))] → W p l e rm_k_X6_movedOf s m args below meth c H locs 0 0 Q (F0 m 5 ls []) := by
    intro n5
    induction n5 with
    | zero => exact fun k h1 h2 => absurd h1 (by omega)
    | succ n5 ih5 =>
      intro k hn5 hi5  H locs Z ls hl
      refine lv_iload hx hb dX6_movedOf_5 (lv_at hl 4 rfl) ?_
      refine lv_aload_n hx hb dX6_movedOf_7 rfl (lv_at hl 0 rfl) ?_
      refine gF_X6_7 E Z dX6_movedOf_8 0 rfl rfl ?_
      refine n_icmp_ge (tgt := 43) hx hb dX6_movedOf_11 (by decide) (by omega) (by omega) (fun c11 => ?_) (fun c11 => ?_)
      · obtain rfl : mc = k := by omega
        refine lv_iload_n hx hb dX6_movedOf_43 rfl (lv_at hl 3 rfl) ?_
        exact ret () Z dX6_movedOf_44 rfl rfl
      · refine lv_iload_n hx hb dX6_movedOf_14 rfl (lv_at hl 3 rfl) ?_
        refine lv_iload_n hx hb dX6_movedOf_15 rfl (lv_at hl 1 rfl) ?_
        refine lv_iload hx hb dX6_movedOf_16 (lv_at hl 4 rfl) ?_
        refine c_Si (As := [.int (nI a), .int (nI k)]) (rest := [.int (nI (sm (mvm a b) k))]) (w2 := fun _ => [oM q 0 tr mc pp num yn cg]) E Z (k_X6_cellOf l D cA a k (by first | assumption | omega) (by first | assumption | omega)) ws_X6_83 ⟨rfl, rfl, Nat.le_of_ble_eq_true rfl, Nat.le_of_ble_eq_true rfl⟩ [] rfl rfl (fun _ => rfl) (fun _ => rfl) rfl hl.1 rfl (Nat.le_of_ble_eq_true rfl) dX6_movedOf_18 ⟨Nat.zero_le _, Nat.zero_le _⟩ (fun r18 _ H locs hp18 Z => ?_)
        subst hp18
        refine lv_iload_n hx hb dX6_movedOf_21 rfl (lv_at hl 2 rfl) ?_
        refine lv_iload hx hb dX6_movedOf_22 (lv_at hl 4 rfl) ?_
        refine c_Si (As := [.int (nI b), .int (nI k)]) (rest := [.int (nI (cl a k)), .int (nI (sm (mvm a b) k))]) (w2 := fun _ => [oM q 0 tr mc pp num yn cg]) E Z (k_X6_cellOf l D cA b k (by first | assumption | omega) (by first | assumption | omega)) ws_X6_83 ⟨rfl, rfl, Nat.le_of_ble_eq_true rfl, Nat.le_of_ble_eq_true rfl⟩ [] rfl rfl (fun _ => rfl) (fun _ => rfl) rfl hl.1 rfl (Nat.le_of_ble_eq_true rfl) dX6_movedOf_24 ⟨Nat.zero_le _, Nat.zero_le _⟩ (fun r24 _ H locs hp24 Z => ?_)
        subst hp24
        have h4 := cl_lt a k
        have h5 := cl_lt b k
        refine n_icmp_eq (tgt := 34) hx hb dX6_movedOf_27 (by decide) (by omega) (by omega) (fun c27 => ?_) (fun c27 => ?_)
        · refine lv_iconst (v := nI 0) hx hb dX6_movedOf_34 (by decide) ?_
          refine n_iadd hx hb dX6_movedOf_35 ?_
          refine r_top (y := nI (sm (mvm a b) (k + 1))) (congrArg (fun z => nI (sm (mvm a b) k + z)) (if_pos c27).symm) ?_
          refine lv_istore_n (lv' := [(3, .int (nI (sm (mvm a b) (k + 1)))), (0, .ref (q 0)), (1, .int (nI a)), (2, .int (nI b)), (4, .int (nI k))]) hx hb dX6_movedOf_36 rfl hl (by decide) rfl (fun ls hl => ?_)
          refine lv_iinc (v := nI (k + 1)) (lv' := [(4, .int (nI (k + 1))), (3, .int (nI (sm (mvm a b) (k + 1)))), (0, .ref (q 0)), (1, .int (nI a)), (2, .int (nI b))]) hx hb dX6_movedOf_37 hl (k := 4) rfl (n_inc _ _ (by decide)) (by decide) rfl (fun ls hl => ?_)
          refine lv_goto (tgt := 5) hx hb dX6_movedOf_40 (by decide) ?_
          exact ih5 (k + 1) (by omega) (by omega)   _ _ Z ls (lv_sub hl [2, 3, 4, 1, 0] rfl)
        · refine lv_iconst (v := nI 1) hx hb dX6_movedOf_30 (by decide) ?_
          refine lv_goto (tgt := 35) hx hb dX6_movedOf_31 (by decide) ?_
          refine n_iadd hx hb dX6_movedOf_35 ?_
          refine r_top (y := nI (sm (mvm a b) (k + 1))) (congrArg (fun z => nI (sm (mvm a b) k + z)) (if_neg c27).symm) ?_
          refine lv_istore_n (lv' := [(3, .int (nI (sm (mvm a b) (k + 1)))), (0, .ref (q 0)), (1, .int (nI a)), (2, .int (nI b)), (4, .int (nI k))]) hx hb dX6_movedOf_36 rfl hl (by decide) rfl (fun ls hl => ?_)
          refine lv_iinc (v := nI (k + 1)) (lv' := [(4, .int (nI (k + 1))), (3, .int (nI (sm (mvm a b) (k + 1)))), (0, .ref (q 0)), (1, .int (nI a)), (2, .int (nI b))]) hx hb dX6_movedOf_37 hl (k := 4) rfl (n_inc _ _ (by decide)) (by decide) rfl (fun ls hl => ?_)
          refine lv_goto (tgt := 5) hx hb dX6_movedOf_40 (by decide) ?_
          exact ih5 (k + 1) (by omega) (by omega)   _ _ Z ls (lv_sub hl [2, 3, 4, 1, 0] rfl)
  exact L5 (mc + 1) 0 (by omega) (by omega)   _ _ Z ls (lv_sub hl [2, 3, 4, 1, 0] rfl)
abbrev rm_k_X6_wayOf : Room := { frames := 3, cells := 0, slots := 0, locals := 70 }
set_option maxHeartbeats 4000000 in
set_option maxRecDepth 100000 in
theorem k_X6_wayOf (l : Launch) (D : va_G) (cA : ClassId) (q : Nat → Nat) (tr : Int64) (mc : Nat) (pp : Nat) (num : Nat) (yn : Nat) (cg : Nat) (sets : Nat → Nat) (ch : Nat) (amts : Nat → Nat) (pl : Nat → Nat) (hP : pp ≤ 8) (hM : mc ≤ 7) (hs : ∀ j, sets j < 128) (hn31 : num < 2 ^ 31) (hpl : ∀ j, pl j < 4) : Cti l yX6_wayOf cX6_wayOf 6 (some .int) rm_k_X6_wayOf D cA [.ref (q 0)] ([oM q 0 tr mc pp num yn cg, aN cA (q 1) 16 sets, aN cA (q 2) 8 (bt ch), aN cA (q 3) 8 amts, aN cA (q 11) 4 pl]) (fun (r : Int32) (_ : Unit) => r = nI (sm (wym mc num sets amts ch pl) pp)) (fun _ => [oM q 0 tr mc pp num yn cg, aN cA (q 1) 16 sets, aN cA (q 2) 8 (bt ch), aN cA (q 3) 8 amts, aN cA (q 11) 4 pl]) := by
  refine st_i (by decide) (Nat.le_of_ble_eq_true rfl) ?_
  intro p e s m args below meth c A Q E ret Z ls hl
  have hx := E.1.1
  have hb := E.1.2.1
  have hl : lv_has ls 6 [(0, .ref (q 0))] := hl
  refine lv_iconst (v := nI 0) hx hb dX6_wayOf_0 (by decide) ?_
  refine lv_istore_n (lv' := [(1, .int (nI 0)), (0, .ref (q 0))]) hx hb dX6_wayOf_1 rfl hl (by decide) rfl (fun ls hl => ?_)
  refine lv_iconst (v := nI 0) hx hb dX6_wayOf_2 (by decide) ?_
  refine lv_istore_n (lv' := [(2, .int (nI 0)), (1, .int (nI 0)), (0, .ref (q 0))]) hx hb dX6_wayOf_3 rfl hl (by decide) rfl (fun ls hl => ?_)
  have L4 : ∀ (n4 k : Nat), pp + 1 ≤ k + n4 → k ≤ pp → ∀ (H : Heap) (locs : List Loc), Wd D A s ([oM q 0 tr mc pp num yn cg, aN cA (q 1) 16 sets, aN cA (q 2) 8 (bt ch), aN cA (q 3) 8 amts, aN cA (q 11) 4 pl]) H locs → ∀ (ls : Array Slot), lv_has ls 6 [(0, .ref (q 0)), (1, .int (nI (sm (wym mc num sets amts ch pl) k))), (2, .int (nI k))] → W p l e rm_k_X6_wayOf s m args below meth c H locs 0 0 Q (F0 m 4 ls []) := by
    intro n4
    induction n4 with
    | zero => exact fun k h1 h2 => absurd h1 (by omega)
    | succ n4 ih4 =>
      intro k hn4 hi4  H locs Z ls hl
      have hsk2 : setB sets ch k < 128 := hs _
      refine lv_iload_n hx hb dX6_wayOf_4 rfl (lv_at hl 2 rfl) ?_
      refine lv_aload_n hx hb dX6_wayOf_5 rfl (lv_at hl 0 rfl) ?_
      refine gF_X6_13 E Z dX6_wayOf_6 0 rfl rfl ?_
      refine n_icmp_ge (tgt := 107) hx hb dX6_wayOf_9 (by decide) (by omega) (by omega) (fun c9 => ?_) (fun c9 => ?_)
      · obtain rfl : pp = k := by omega
        refine lv_iload_n hx hb dX6_wayOf_107 rfl (lv_at hl 1 rfl) ?_
        exact ret () Z dX6_wayOf_108 rfl rfl
      · refine lv_aload_n hx hb dX6_wayOf_12 rfl (lv_at hl 0 rfl) ?_
        refine lv_aload_n hx hb dX6_wayOf_13 rfl (lv_at hl 0 rfl) ?_
        refine gF_X6_69 E Z dX6_wayOf_14 0 rfl rfl ?_
        refine lv_aload_n hx hb dX6_wayOf_17 rfl (lv_at hl 0 rfl) ?_
        refine lv_iload_n hx hb dX6_wayOf_18 rfl (lv_at hl 2 rfl) ?_
        refine c_Vi (As := [.int (nI k)]) (rest := [.int (nI num), .ref (q 0)]) (w2 := fun _ => [oM q 0 tr mc pp num yn cg, aN cA (q 1) 16 sets, aN cA (q 2) 8 (bt ch), aN cA (q 3) 8 amts, aN cA (q 11) 4 pl]) E Z (k_X6_setOf l D cA q tr mc pp num yn cg sets ch k (by first | assumption | omega)) wv_X6_98 ⟨rfl, rfl, Nat.le_of_ble_eq_true rfl, Nat.le_of_ble_eq_true rfl⟩ [0, 1, 2] rfl rfl rfl rfl (q0 := 0) rfl (fun _ => rfl) (fun _ => rfl) rfl hl.1 rfl (Nat.le_of_ble_eq_true rfl) dX6_wayOf_19 ⟨Nat.zero_le _, Nat.zero_le _⟩ (fun r19 _ H locs hp19 Z => ?_)
        subst hp19
        refine c_Vi (As := [.int (nI num), .int (nI (setB sets ch k))]) (rest := []) (w2 := fun _ => [oM q 0 tr mc pp num yn cg, aN cA (q 1) 16 sets, aN cA (q 2) 8 (bt ch), aN cA (q 3) 8 amts, aN cA (q 11) 4 pl]) E Z (k_X6_homeOf l D cA q tr mc pp num yn cg num (setB sets ch k) (by first | assumption | omega) (by first | assumption | omega) (by first | assumption | omega)) wv_X6_95 ⟨rfl, rfl, Nat.le_of_ble_eq_true rfl, Nat.le_of_ble_eq_true rfl⟩ [0] rfl rfl rfl rfl (q0 := 0) rfl (fun _ => rfl) (fun _ => rfl) rfl hl.1 rfl (Nat.le_of_ble_eq_true rfl) dX6_wayOf_22 ⟨Nat.zero_le _, Nat.zero_le _⟩ (fun r22 _ H locs hp22 Z => ?_)
        subst hp22
        refine lv_istore_n (lv' := [(3, .int (nI (hm mc num (setB sets ch k)))), (0, .ref (q 0)), (1, .int (nI (sm (wym mc num sets amts ch pl) k))), (2, .int (nI k))]) hx hb dX6_wayOf_25 rfl hl (by decide) rfl (fun ls hl => ?_)
        refine lv_iconst (v := nI 0) hx hb dX6_wayOf_26 (by decide) ?_
        refine lv_istore (lv' := [(4, .int (nI 0)), (3, .int (nI (hm mc num (setB sets ch k)))), (0, .ref (q 0)), (1, .int (nI (sm (wym mc num sets amts ch pl) k))), (2, .int (nI k))]) hx hb dX6_wayOf_27 hl (by decide) rfl (fun ls hl => ?_)
        have L29 : ∀ (n29 i : Nat), mc + 1 ≤ i + n29 → i ≤ mc → ∀ (H : Heap) (locs : List Loc), Wd D A s ([oM q 0 tr mc pp num yn cg, aN cA (q 1) 16 sets, aN cA (q 2) 8 (bt ch), aN cA (q 3) 8 amts, aN cA (q 11) 4 pl]) H locs → ∀ (ls : Array Slot), lv_has ls 6 [(0, .ref (q 0)), (1, .int (nI (sm (wym mc num sets amts ch pl) k + sm (wyi mc num sets amts ch pl k) i))), (2, .int (nI k)), (3, .int (nI (hm mc num (setB sets ch k)))), (4, .int (nI i))] → W p l e rm_k_X6_wayOf s m args below meth c H locs 0 0 Q (F0 m 29 ls []) := by
          intro n29
          induction n29 with
          | zero => exact fun i h1 h2 => absurd h1 (by omega)
          | succ n29 ih29 =>
            intro i hn29 hi29  H locs Z ls hl
            refine lv_iload hx hb dX6_wayOf_29 (lv_at hl 4 rfl) ?_
            refine lv_aload_n hx hb dX6_wayOf_31 rfl (lv_at hl 0 rfl) ?_
            refine gF_X6_7 E Z dX6_wayOf_32 0 rfl rfl ?_
            refine n_icmp_ge (tgt := 101) hx hb dX6_wayOf_35 (by decide) (by omega) (by omega) (fun c35 => ?_) (fun c35 => ?_)
            · obtain rfl : mc = i := by omega
              refine lv_iinc (v := nI (k + 1)) (lv' := [(2, .int (nI (k + 1))), (0, .ref (q 0)), (1, .int (nI (sm (wym mc num sets amts ch pl) k + sm (wyi mc num sets amts ch pl k) mc))), (3, .int (nI (hm mc num (setB sets ch k)))), (4, .int (nI mc))]) hx hb dX6_wayOf_101 hl (k := 2) rfl (n_inc _ _ (by decide)) (by decide) rfl (fun ls hl => ?_)
              refine lv_goto (tgt := 4) hx hb dX6_wayOf_104 (by decide) ?_
              exact ih4 (k + 1) (by omega) (by omega)   _ _ Z ls (lv_sub hl [1, 2, 0] rfl)
            · refine lv_aload_n hx hb dX6_wayOf_38 rfl (lv_at hl 0 rfl) ?_
              refine gF_X6_50 E Z dX6_wayOf_39 0 rfl rfl ?_
              refine lv_iload_n hx hb dX6_wayOf_42 rfl (lv_at hl 3 rfl) ?_
              refine r_ald E Z dX6_wayOf_43 4 rfl (hm_lt _ _ _) (by decide) ?_
              refine lv_aload_n hx hb dX6_wayOf_44 rfl (lv_at hl 0 rfl) ?_
              refine gF_X6_50 E Z dX6_wayOf_45 0 rfl rfl ?_
              refine lv_aload_n hx hb dX6_wayOf_48 rfl (lv_at hl 0 rfl) ?_
              refine gF_X6_69 E Z dX6_wayOf_49 0 rfl rfl ?_
              refine lv_iload hx hb dX6_wayOf_52 (lv_at hl 4 rfl) ?_
              refine c_Si (As := [.int (nI num), .int (nI i)]) (rest := [.ref (q 11), .int (nI (pl (hm mc num (setB sets ch k))))]) (w2 := fun _ => [oM q 0 tr mc pp num yn cg, aN cA (q 1) 16 sets, aN cA (q 2) 8 (bt ch), aN cA (q 3) 8 amts, aN cA (q 11) 4 pl]) E Z (k_X6_cellOf l D cA num i (by first | assumption | omega) (by first | assumption | omega)) ws_X6_83 ⟨rfl, rfl, Nat.le_of_ble_eq_true rfl, Nat.le_of_ble_eq_true rfl⟩ [] rfl rfl (fun _ => rfl) (fun _ => rfl) rfl hl.1 rfl (Nat.le_of_ble_eq_true rfl) dX6_wayOf_54 ⟨Nat.zero_le _, Nat.zero_le _⟩ (fun r54 _ H locs hp54 Z => ?_)
              subst hp54
              refine r_ald E Z dX6_wayOf_57 4 rfl (cl_lt _ _) (by decide) ?_
              refine lv_isub hx hb dX6_wayOf_58 ?_
              refine lv_istore (lv' := [(5, .int ((nI (pl (hm mc num (setB sets ch k)))) - (nI (pl (cl num i))))), (0, .ref (q 0)), (1, .int (nI (sm (wym mc num sets amts ch pl) k + sm (wyi mc num sets amts ch pl k) i))), (2, .int (nI k)), (3, .int (nI (hm mc num (setB sets ch k)))), (4, .int (nI i))]) hx hb dX6_wayOf_59 hl (by decide) rfl (fun ls hl => ?_)
              refine lv_iload_n hx hb dX6_wayOf_61 rfl (lv_at hl 2 rfl) ?_
              refine lv_aload_n hx hb dX6_wayOf_62 rfl (lv_at hl 1 rfl) ?_
              refine lv_iload_n hx hb dX6_wayOf_63 rfl (lv_at hl 3 rfl) ?_
              refine c_Vi (As := [.int (nI k)]) (rest := [.int (nI (sm (wym mc num sets amts ch pl) k + sm (wyi mc num sets amts ch pl k) i))]) (w2 := fun _ => [oM q 0 tr mc pp num yn cg, aN cA (q 1) 16 sets, aN cA (q 2) 8 (bt ch), aN cA (q 3) 8 amts, aN cA (q 11) 4 pl]) E Z (k_X6_setOf l D cA q tr mc pp num yn cg sets ch k (by first | assumption | omega)) wv_X6_98 ⟨rfl, rfl, Nat.le_of_ble_eq_true rfl, Nat.le_of_ble_eq_true rfl⟩ [0, 1, 2] rfl rfl rfl rfl (q0 := 0) rfl (fun _ => rfl) (fun _ => rfl) rfl hl.1 rfl (Nat.le_of_ble_eq_true rfl) dX6_wayOf_64 ⟨Nat.zero_le _, Nat.zero_le _⟩ (fun r64 _ H locs hp64 Z => ?_)
              subst hp64
              refine lv_iload hx hb dX6_wayOf_67 (lv_at hl 5 rfl) ?_
              refine n_ishr hx hb dX6_wayOf_69 (by omega) (by omega) ?_
              refine lv_iconst (v := nI 1) hx hb dX6_wayOf_70 (by decide) ?_
              refine n_iand1 hx hb dX6_wayOf_71 ?_
              refine r_top (y := nI (bt (setB sets ch k) i)) rfl ?_
              refine lv_aload_n hx hb dX6_wayOf_72 rfl (lv_at hl 1 rfl) ?_
              refine gF_X6_23 E Z dX6_wayOf_73 0 rfl rfl ?_
              refine lv_iload_n hx hb dX6_wayOf_76 rfl (lv_at hl 3 rfl) ?_
              refine r_ald E Z dX6_wayOf_77 3 rfl (by omega) (by decide) ?_
              refine n_imul hx hb dX6_wayOf_78 ?_
              refine lv_iload hx hb dX6_wayOf_79 (lv_at hl 0 rfl) ?_
              refine lv_if_ge (tgt := 90) hx hb dX6_wayOf_81 (by decide) (fun c81 => ?_) (fun c81 => ?_)
              · refine lv_iload hx hb dX6_wayOf_90 (lv_at hl 0 rfl) ?_
                have hp1 := hpl (hm mc num (setB sets ch k))
                have hp2 := hpl (cl num i)
                refine r_top (y := nI (dist (pl (hm mc num (setB sets ch k))) (pl (cl num i)))) (nI_absp (by omega) (by omega) c81) ?_
                refine n_imul hx hb dX6_wayOf_92 ?_
                refine n_iadd hx hb dX6_wayOf_93 ?_
                refine r_top (y := nI (sm (wym mc num sets amts ch pl) k + sm (wyi mc num sets amts ch pl k) (i + 1))) (congrArg nI (Nat.add_assoc _ _ _)) ?_
                refine lv_istore_n (lv' := [(1, .int (nI (sm (wym mc num sets amts ch pl) k + sm (wyi mc num sets amts ch pl k) (i + 1)))), (5, .int ((nI (pl (hm mc num (setB sets ch k)))) - (nI (pl (cl num i))))), (0, .ref (q 0)), (2, .int (nI k)), (3, .int (nI (hm mc num (setB sets ch k)))), (4, .int (nI i))]) hx hb dX6_wayOf_94 rfl hl (by decide) rfl (fun ls hl => ?_)
                refine lv_iinc (v := nI (i + 1)) (lv' := [(4, .int (nI (i + 1))), (1, .int (nI (sm (wym mc num sets amts ch pl) k + sm (wyi mc num sets amts ch pl k) (i + 1)))), (5, .int ((nI (pl (hm mc num (setB sets ch k)))) - (nI (pl (cl num i))))), (0, .ref (q 0)), (2, .int (nI k)), (3, .int (nI (hm mc num (setB sets ch k))))]) hx hb dX6_wayOf_95 hl (k := 5) rfl (n_inc _ _ (by decide)) (by decide) rfl (fun ls hl => ?_)
                refine lv_goto (tgt := 29) hx hb dX6_wayOf_98 (by decide) ?_
                exact ih29 (i + 1) (by omega) (by omega)   _ _ Z ls (lv_sub hl [3, 1, 4, 5, 0] rfl)
              · refine lv_iload hx hb dX6_wayOf_84 (lv_at hl 0 rfl) ?_
                refine lv_ineg hx hb dX6_wayOf_86 ?_
                refine lv_goto (tgt := 92) hx hb dX6_wayOf_87 (by decide) ?_
                have hp1 := hpl (hm mc num (setB sets ch k))
                have hp2 := hpl (cl num i)
                refine r_top (y := nI (dist (pl (hm mc num (setB sets ch k))) (pl (cl num i)))) (nI_absn (by omega) (by omega) c81) ?_
                refine n_imul hx hb dX6_wayOf_92 ?_
                refine n_iadd hx hb dX6_wayOf_93 ?_
                refine r_top (y := nI (sm (wym mc num sets amts ch pl) k + sm (wyi mc num sets amts ch pl k) (i + 1))) (congrArg nI (Nat.add_assoc _ _ _)) ?_
                refine lv_istore_n (lv' := [(1, .int (nI (sm (wym mc num sets amts ch pl) k + sm (wyi mc num sets amts ch pl k) (i + 1)))), (5, .int ((nI (pl (hm mc num (setB sets ch k)))) - (nI (pl (cl num i))))), (0, .ref (q 0)), (2, .int (nI k)), (3, .int (nI (hm mc num (setB sets ch k)))), (4, .int (nI i))]) hx hb dX6_wayOf_94 rfl hl (by decide) rfl (fun ls hl => ?_)
                refine lv_iinc (v := nI (i + 1)) (lv' := [(4, .int (nI (i + 1))), (1, .int (nI (sm (wym mc num sets amts ch pl) k + sm (wyi mc num sets amts ch pl k) (i + 1)))), (5, .int ((nI (pl (hm mc num (setB sets ch k)))) - (nI (pl (cl num i))))), (0, .ref (q 0)), (2, .int (nI k)), (3, .int (nI (hm mc num (setB sets ch k))))]) hx hb dX6_wayOf_95 hl (k := 5) rfl (n_inc _ _ (by decide)) (by decide) rfl (fun ls hl => ?_)
                refine lv_goto (tgt := 29) hx hb dX6_wayOf_98 (by decide) ?_
                exact ih29 (i + 1) (by omega) (by omega)   _ _ Z ls (lv_sub hl [3, 1, 4, 5, 0] rfl)
        exact L29 (mc + 1) 0 (by omega) (by omega)   _ _ Z ls (lv_sub hl [2, 3, 4, 1, 0] rfl)
  exact L4 (pp + 1) 0 (by omega) (by omega)   _ _ Z ls (lv_sub hl [2, 1, 0] rfl)
abbrev rm_k_X6_lays : Room := { frames := 1, cells := 0, slots := 0, locals := 22 }
set_option maxHeartbeats 4000000 in
set_option maxRecDepth 100000 in
theorem k_X6_lays (l : Launch) (D : va_G) (cA : ClassId) (q : Nat → Nat) (tr : Int64) (mc : Nat) (pp : Nat) (num : Nat) (yn : Nat) (cg : Nat) (pl : Nat → Nat) (a : Nat) (b : Nat) (d : Nat) (f : Nat) (ha : a < 4) (hb0 : b < 4) (hd : d < 4) (hf : f < 4) : Cti l yX6_lays cX6_lays 5 (some .boolean) rm_k_X6_lays D cA [.ref (q 0), .int (nI a), .int (nI b), .int (nI d), .int (nI f)] ([oM q 0 tr mc pp num yn cg, aN cA (q 11) 4 pl]) (fun (r : Int32) (u : Nat → Nat) => r = bI (eo (ord a b d f)) ∧ (eo (ord a b d f) → u = plc (ord a b d f))) (fun u => [oM q 0 tr mc pp num yn cg, aN cA (q 11) 4 u]) := by
  refine st_z (by decide) (Nat.le_of_ble_eq_true rfl) ?_
  intro p e s m args below meth c A Q E ret Z ls hl
  have hx := E.1.1
  have hb := E.1.2.1
  have hl : lv_has ls 5 [(0, .ref (q 0)), (1, .int (nI a)), (2, .int (nI b)), (3, .int (nI d)), (4, .int (nI f))] := hl
  have h15 := or15 ha hb0 hd hf
  have hle := lay_eo a ha b hb0 d hd f hf
  refine lv_iload_n hx hb dX6_lays_0 rfl (lv_at hl 1 rfl) ?_
  refine lv_iconst (v := nI 0) hx hb dX6_lays_1 (by decide) ?_
  refine lv_iconst (v := nI 3) hx hb dX6_lays_2 (by decide) ?_
  refine c_Si (As := [.int (nI a), .int (nI 0), .int (nI 3)]) (rest := []) (w2 := fun _ => [oM q 0 tr mc pp num yn cg, aN cA (q 11) 4 pl]) E Z (k_X6_in l D cA (nI a) (nI 0) (nI 3) ) ws_X6_72 ⟨rfl, rfl, Nat.le_of_ble_eq_true rfl, Nat.le_of_ble_eq_true rfl⟩ [] rfl rfl (fun _ => rfl) (fun _ => rfl) rfl hl.1 rfl (Nat.le_of_ble_eq_true rfl) dX6_lays_3 ⟨Nat.zero_le _, Nat.zero_le _⟩ (fun r3 _ H locs hp3 Z => ?_)
  subst hp3
  refine b_if_eq (tgt := 58) hx hb dX6_lays_6 (by decide) (fun c6 => ?_) (fun c6 => ?_)
  · exact absurd (inr_ok (by omega) (by omega) (by omega)) c6
  · refine lv_iload_n hx hb dX6_lays_9 rfl (lv_at hl 2 rfl) ?_
    refine lv_iconst (v := nI 0) hx hb dX6_lays_10 (by decide) ?_
    refine lv_iconst (v := nI 3) hx hb dX6_lays_11 (by decide) ?_
    refine c_Si (As := [.int (nI b), .int (nI 0), .int (nI 3)]) (rest := []) (w2 := fun _ => [oM q 0 tr mc pp num yn cg, aN cA (q 11) 4 pl]) E Z (k_X6_in l D cA (nI b) (nI 0) (nI 3) ) ws_X6_72 ⟨rfl, rfl, Nat.le_of_ble_eq_true rfl, Nat.le_of_ble_eq_true rfl⟩ [] rfl rfl (fun _ => rfl) (fun _ => rfl) rfl hl.1 rfl (Nat.le_of_ble_eq_true rfl) dX6_lays_12 ⟨Nat.zero_le _, Nat.zero_le _⟩ (fun r12 _ H locs hp12 Z => ?_)
    subst hp12
    refine b_if_eq (tgt := 58) hx hb dX6_lays_15 (by decide) (fun c15 => ?_) (fun c15 => ?_)
    · exact absurd (inr_ok (by omega) (by omega) (by omega)) c15
    · refine lv_iload_n hx hb dX6_lays_18 rfl (lv_at hl 3 rfl) ?_
      refine lv_iconst (v := nI 0) hx hb dX6_lays_19 (by decide) ?_
      refine lv_iconst (v := nI 3) hx hb dX6_lays_20 (by decide) ?_
      refine c_Si (As := [.int (nI d), .int (nI 0), .int (nI 3)]) (rest := []) (w2 := fun _ => [oM q 0 tr mc pp num yn cg, aN cA (q 11) 4 pl]) E Z (k_X6_in l D cA (nI d) (nI 0) (nI 3) ) ws_X6_72 ⟨rfl, rfl, Nat.le_of_ble_eq_true rfl, Nat.le_of_ble_eq_true rfl⟩ [] rfl rfl (fun _ => rfl) (fun _ => rfl) rfl hl.1 rfl (Nat.le_of_ble_eq_true rfl) dX6_lays_21 ⟨Nat.zero_le _, Nat.zero_le _⟩ (fun r21 _ H locs hp21 Z => ?_)
      subst hp21
      refine b_if_eq (tgt := 58) hx hb dX6_lays_24 (by decide) (fun c24 => ?_) (fun c24 => ?_)
      · exact absurd (inr_ok (by omega) (by omega) (by omega)) c24
      · refine lv_iload hx hb dX6_lays_27 (lv_at hl 4 rfl) ?_
        refine lv_iconst (v := nI 0) hx hb dX6_lays_29 (by decide) ?_
        refine lv_iconst (v := nI 3) hx hb dX6_lays_30 (by decide) ?_
        refine c_Si (As := [.int (nI f), .int (nI 0), .int (nI 3)]) (rest := []) (w2 := fun _ => [oM q 0 tr mc pp num yn cg, aN cA (q 11) 4 pl]) E Z (k_X6_in l D cA (nI f) (nI 0) (nI 3) ) ws_X6_72 ⟨rfl, rfl, Nat.le_of_ble_eq_true rfl, Nat.le_of_ble_eq_true rfl⟩ [] rfl rfl (fun _ => rfl) (fun _ => rfl) rfl hl.1 rfl (Nat.le_of_ble_eq_true rfl) dX6_lays_31 ⟨Nat.zero_le _, Nat.zero_le _⟩ (fun r31 _ H locs hp31 Z => ?_)
        subst hp31
        refine b_if_eq (tgt := 58) hx hb dX6_lays_34 (by decide) (fun c34 => ?_) (fun c34 => ?_)
        · exact absurd (inr_ok (by omega) (by omega) (by omega)) c34
        · refine lv_iconst (v := nI 1) hx hb dX6_lays_37 (by decide) ?_
          refine lv_iload_n hx hb dX6_lays_38 rfl (lv_at hl 1 rfl) ?_
          refine n_ishl1 hx hb dX6_lays_39 (by omega) ?_
          refine lv_iconst (v := nI 1) hx hb dX6_lays_40 (by decide) ?_
          refine lv_iload_n hx hb dX6_lays_41 rfl (lv_at hl 2 rfl) ?_
          refine n_ishl1 hx hb dX6_lays_42 (by omega) ?_
          refine n_ior hx hb dX6_lays_43 ?_
          refine lv_iconst (v := nI 1) hx hb dX6_lays_44 (by decide) ?_
          refine lv_iload_n hx hb dX6_lays_45 rfl (lv_at hl 3 rfl) ?_
          refine n_ishl1 hx hb dX6_lays_46 (by omega) ?_
          refine n_ior hx hb dX6_lays_47 ?_
          refine lv_iconst (v := nI 1) hx hb dX6_lays_48 (by decide) ?_
          refine lv_iload hx hb dX6_lays_49 (lv_at hl 4 rfl) ?_
          refine n_ishl1 hx hb dX6_lays_51 (by omega) ?_
          refine n_ior hx hb dX6_lays_52 ?_
          refine lv_bipush (v := nI 15) hx hb dX6_lays_53 (by decide) ?_
          refine n_icmp_eq (tgt := 60) hx hb dX6_lays_55 (by decide) (by omega) (by omega) (fun c55 => ?_) (fun c55 => ?_)
          · have heo : eo (ord a b d f) := hle.symm.trans c55
            have hol := ord_lt a ha b hb0 d hd f hf
            refine lv_aload_n hx hb dX6_lays_60 rfl (lv_at hl 0 rfl) ?_
            refine gF_X6_50 E Z dX6_lays_61 0 rfl rfl ?_
            refine lv_iload_n hx hb dX6_lays_64 rfl (lv_at hl 1 rfl) ?_
            refine lv_iconst (v := nI 0) hx hb dX6_lays_65 (by decide) ?_
            refine r_ast (w1 := [oM q 0 tr mc pp num yn cg, aN cA (q 11) 4 (up pl a 0)]) E Z dX6_lays_66 1 rfl (by omega) (by decide) rfl (fun H locs Z => ?_)
            refine lv_aload_n hx hb dX6_lays_67 rfl (lv_at hl 0 rfl) ?_
            refine gF_X6_50 E Z dX6_lays_68 0 rfl rfl ?_
            refine lv_iload_n hx hb dX6_lays_71 rfl (lv_at hl 2 rfl) ?_
            refine lv_iconst (v := nI 1) hx hb dX6_lays_72 (by decide) ?_
            refine r_ast (w1 := [oM q 0 tr mc pp num yn cg, aN cA (q 11) 4 (up (up pl a 0) b 1)]) E Z dX6_lays_73 1 rfl (by omega) (by decide) rfl (fun H locs Z => ?_)
            refine lv_aload_n hx hb dX6_lays_74 rfl (lv_at hl 0 rfl) ?_
            refine gF_X6_50 E Z dX6_lays_75 0 rfl rfl ?_
            refine lv_iload_n hx hb dX6_lays_78 rfl (lv_at hl 3 rfl) ?_
            refine lv_iconst (v := nI 2) hx hb dX6_lays_79 (by decide) ?_
            refine r_ast (w1 := [oM q 0 tr mc pp num yn cg, aN cA (q 11) 4 (up (up (up pl a 0) b 1) d 2)]) E Z dX6_lays_80 1 rfl (by omega) (by decide) rfl (fun H locs Z => ?_)
            refine lv_aload_n hx hb dX6_lays_81 rfl (lv_at hl 0 rfl) ?_
            refine gF_X6_50 E Z dX6_lays_82 0 rfl rfl ?_
            refine lv_iload hx hb dX6_lays_85 (lv_at hl 4 rfl) ?_
            refine lv_iconst (v := nI 3) hx hb dX6_lays_87 (by decide) ?_
            refine r_ast (w1 := [oM q 0 tr mc pp num yn cg, aN cA (q 11) 4 (up (up (up (up pl a 0) b 1) d 2) f 3)]) E Z dX6_lays_88 1 rfl (by omega) (by decide) rfl (fun H locs Z => ?_)
            replace Z : Wd D A s ([oM q 0 tr mc pp num yn cg, aN cA (q 11) 4 (plc (ord a b d f))]) _ _ := Z.norm 1 rfl (fun j hj => congrArg nI (by rw [← plo_plc hol heo pl hj]; show _ = up (up (up (up pl (cat (ord a b d f) 0) 0) (cat (ord a b d f) 1) 1) (cat (ord a b d f) 2) 2) (cat (ord a b d f) 3) 3 j; rw [ord_0 a ha b hb0 d hd f hf, ord_1 a ha b hb0 d hd f hf, ord_2 a ha b hb0 d hd f hf, ord_3 a ha b hb0 d hd f hf])) rfl
            refine lv_iconst (v := nI 1) hx hb dX6_lays_89 (by decide) ?_
            exact ret _ Z dX6_lays_90 (Or.inr nI_one) rfl ⟨nI_one.trans (bI_t heo).symm, fun _ => rfl⟩
          · refine lv_iconst (v := nI 0) hx hb dX6_lays_58 (by decide) ?_
            exact ret pl Z dX6_lays_59 (Or.inl nI_0) rfl ⟨nI_0.trans (bI_f (fun h => c55 (hle.trans h))).symm, fun h => absurd (hle.trans h) c55⟩
abbrev rm_k_X6_lays_bad : Room := { frames := 1, cells := 0, slots := 0, locals := 22 }
set_option maxHeartbeats 4000000 in
set_option maxRecDepth 100000 in
theorem k_X6_lays_bad (l : Launch) (D : va_G) (cA : ClassId) (q : Nat → Nat) (tr : Int64) (mc : Nat) (pp : Nat) (num : Nat) (yn : Nat) (cg : Nat) (pl : Nat → Nat) (x1 : Int32) (x2 : Int32) (x3 : Int32) (x4 : Int32) (hbad : ∀ a b d f, a < 4 → b < 4 → d < 4 → f < 4 → x1 = nI a → x2 = nI b → x3 = nI d → x4 = nI f → ¬ eo (ord a b d f)) : Cti l yX6_lays cX6_lays 5 (some .boolean) rm_k_X6_lays_bad D cA [.ref (q 0), .int x1, .int x2, .int x3, .int x4] ([oM q 0 tr mc pp num yn cg, aN cA (q 11) 4 pl]) (fun (r : Int32) (_ : Unit) => r = bI False) (fun _ => [oM q 0 tr mc pp num yn cg, aN cA (q 11) 4 pl]) := by
  refine st_z (by decide) (Nat.le_of_ble_eq_true rfl) ?_
  intro p e s m args below meth c A Q E ret Z ls hl
  have hx := E.1.1
  have hb := E.1.2.1
  have hl : lv_has ls 5 [(0, .ref (q 0)), (1, .int x1), (2, .int x2), (3, .int x3), (4, .int x4)] := hl
  refine lv_iload_n hx hb dX6_lays_0 rfl (lv_at hl 1 rfl) ?_
  refine lv_iconst (v := nI 0) hx hb dX6_lays_1 (by decide) ?_
  refine lv_iconst (v := nI 3) hx hb dX6_lays_2 (by decide) ?_
  refine c_Si (As := [.int x1, .int (nI 0), .int (nI 3)]) (rest := []) (w2 := fun _ => [oM q 0 tr mc pp num yn cg, aN cA (q 11) 4 pl]) E Z (k_X6_in l D cA x1 (nI 0) (nI 3) ) ws_X6_72 ⟨rfl, rfl, Nat.le_of_ble_eq_true rfl, Nat.le_of_ble_eq_true rfl⟩ [] rfl rfl (fun _ => rfl) (fun _ => rfl) rfl hl.1 rfl (Nat.le_of_ble_eq_true rfl) dX6_lays_3 ⟨Nat.zero_le _, Nat.zero_le _⟩ (fun r3 _ H locs hp3 Z => ?_)
  subst hp3
  refine b_if_eq (tgt := 58) hx hb dX6_lays_6 (by decide) (fun c6 => ?_) (fun c6 => ?_)
  · refine lv_iconst (v := nI 0) hx hb dX6_lays_58 (by decide) ?_
    exact ret () Z dX6_lays_59 (Or.inl nI_0) rfl (nI_0.trans (bI_f id).symm)
  · refine lv_iload_n hx hb dX6_lays_9 rfl (lv_at hl 2 rfl) ?_
    refine lv_iconst (v := nI 0) hx hb dX6_lays_10 (by decide) ?_
    refine lv_iconst (v := nI 3) hx hb dX6_lays_11 (by decide) ?_
    refine c_Si (As := [.int x2, .int (nI 0), .int (nI 3)]) (rest := []) (w2 := fun _ => [oM q 0 tr mc pp num yn cg, aN cA (q 11) 4 pl]) E Z (k_X6_in l D cA x2 (nI 0) (nI 3) ) ws_X6_72 ⟨rfl, rfl, Nat.le_of_ble_eq_true rfl, Nat.le_of_ble_eq_true rfl⟩ [] rfl rfl (fun _ => rfl) (fun _ => rfl) rfl hl.1 rfl (Nat.le_of_ble_eq_true rfl) dX6_lays_12 ⟨Nat.zero_le _, Nat.zero_le _⟩ (fun r12 _ H locs hp12 Z => ?_)
    subst hp12
    refine b_if_eq (tgt := 58) hx hb dX6_lays_15 (by decide) (fun c15 => ?_) (fun c15 => ?_)
    · refine lv_iconst (v := nI 0) hx hb dX6_lays_58 (by decide) ?_
      exact ret () Z dX6_lays_59 (Or.inl nI_0) rfl (nI_0.trans (bI_f id).symm)
    · refine lv_iload_n hx hb dX6_lays_18 rfl (lv_at hl 3 rfl) ?_
      refine lv_iconst (v := nI 0) hx hb dX6_lays_19 (by decide) ?_
      refine lv_iconst (v := nI 3) hx hb dX6_lays_20 (by decide) ?_
      refine c_Si (As := [.int x3, .int (nI 0), .int (nI 3)]) (rest := []) (w2 := fun _ => [oM q 0 tr mc pp num yn cg, aN cA (q 11) 4 pl]) E Z (k_X6_in l D cA x3 (nI 0) (nI 3) ) ws_X6_72 ⟨rfl, rfl, Nat.le_of_ble_eq_true rfl, Nat.le_of_ble_eq_true rfl⟩ [] rfl rfl (fun _ => rfl) (fun _ => rfl) rfl hl.1 rfl (Nat.le_of_ble_eq_true rfl) dX6_lays_21 ⟨Nat.zero_le _, Nat.zero_le _⟩ (fun r21 _ H locs hp21 Z => ?_)
      subst hp21
      refine b_if_eq (tgt := 58) hx hb dX6_lays_24 (by decide) (fun c24 => ?_) (fun c24 => ?_)
      · refine lv_iconst (v := nI 0) hx hb dX6_lays_58 (by decide) ?_
        exact ret () Z dX6_lays_59 (Or.inl nI_0) rfl (nI_0.trans (bI_f id).symm)
      · refine lv_iload hx hb dX6_lays_27 (lv_at hl 4 rfl) ?_
        refine lv_iconst (v := nI 0) hx hb dX6_lays_29 (by decide) ?_
        refine lv_iconst (v := nI 3) hx hb dX6_lays_30 (by decide) ?_
        refine c_Si (As := [.int x4, .int (nI 0), .int (nI 3)]) (rest := []) (w2 := fun _ => [oM q 0 tr mc pp num yn cg, aN cA (q 11) 4 pl]) E Z (k_X6_in l D cA x4 (nI 0) (nI 3) ) ws_X6_72 ⟨rfl, rfl, Nat.le_of_ble_eq_true rfl, Nat.le_of_ble_eq_true rfl⟩ [] rfl rfl (fun _ => rfl) (fun _ => rfl) rfl hl.1 rfl (Nat.le_of_ble_eq_true rfl) dX6_lays_31 ⟨Nat.zero_le _, Nat.zero_le _⟩ (fun r31 _ H locs hp31 Z => ?_)
        subst hp31
        refine b_if_eq (tgt := 58) hx hb dX6_lays_34 (by decide) (fun c34 => ?_) (fun c34 => ?_)
        · refine lv_iconst (v := nI 0) hx hb dX6_lays_58 (by decide) ?_
          exact ret () Z dX6_lays_59 (Or.inl nI_0) rfl (nI_0.trans (bI_f id).symm)
        · obtain ⟨a, hza0, hza, rfl⟩ := in_nat (by decide) c6 (by decide)
          obtain ⟨b, hzb0, hzb, rfl⟩ := in_nat (by decide) c15 (by decide)
          obtain ⟨d, hzd0, hzd, rfl⟩ := in_nat (by decide) c24 (by decide)
          obtain ⟨f, hzf0, hzf, rfl⟩ := in_nat (by decide) c34 (by decide)
          have h15 := or15 (show a < 4 by omega) (show b < 4 by omega) (show d < 4 by omega) (show f < 4 by omega)
          refine lv_iconst (v := nI 1) hx hb dX6_lays_37 (by decide) ?_
          refine lv_iload_n hx hb dX6_lays_38 rfl (lv_at hl 1 rfl) ?_
          refine n_ishl1 hx hb dX6_lays_39 (by omega) ?_
          refine lv_iconst (v := nI 1) hx hb dX6_lays_40 (by decide) ?_
          refine lv_iload_n hx hb dX6_lays_41 rfl (lv_at hl 2 rfl) ?_
          refine n_ishl1 hx hb dX6_lays_42 (by omega) ?_
          refine n_ior hx hb dX6_lays_43 ?_
          refine lv_iconst (v := nI 1) hx hb dX6_lays_44 (by decide) ?_
          refine lv_iload_n hx hb dX6_lays_45 rfl (lv_at hl 3 rfl) ?_
          refine n_ishl1 hx hb dX6_lays_46 (by omega) ?_
          refine n_ior hx hb dX6_lays_47 ?_
          refine lv_iconst (v := nI 1) hx hb dX6_lays_48 (by decide) ?_
          refine lv_iload hx hb dX6_lays_49 (lv_at hl 4 rfl) ?_
          refine n_ishl1 hx hb dX6_lays_51 (by omega) ?_
          refine n_ior hx hb dX6_lays_52 ?_
          refine lv_bipush (v := nI 15) hx hb dX6_lays_53 (by decide) ?_
          refine n_icmp_eq (tgt := 60) hx hb dX6_lays_55 (by decide) (by omega) (by omega) (fun c55 => ?_) (fun c55 => ?_)
          · exact absurd ((lay_eo a (by omega) b (by omega) d (by omega) f (by omega)).symm.trans c55) (hbad a b d f (by omega) (by omega) (by omega) (by omega) rfl rfl rfl rfl)
          · refine lv_iconst (v := nI 0) hx hb dX6_lays_58 (by decide) ?_
            exact ret () Z dX6_lays_59 (Or.inl nI_0) rfl (nI_0.trans (bI_f id).symm)

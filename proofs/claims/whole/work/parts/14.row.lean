abbrev rm_k_X2_orderOf : Room := { frames := 0, cells := 0, slots := 0, locals := 0 }
set_option maxHeartbeats 4000000 in
set_option maxRecDepth 100000 in
theorem k_X2_orderOf (l : Launch) (D : va_G) (cA : ClassId) (a : Nat) (b : Nat) (d : Nat) (f : Nat)  : Cti l yX2_orderOf cX2_orderOf 4 (some .int) rm_k_X2_orderOf D cA [.int (nI a), .int (nI b), .int (nI d), .int (nI f)] ([]) (fun (r : Int32) (_ : Unit) => r = nI (ord a b d f)) (fun _ => []) := by
  refine st_i (by decide) (Nat.le_of_ble_eq_true rfl) ?_
  intro p e s m args below meth c A Q E ret Z ls hl
  have hx := E.1.1
  have hb := E.1.2.1
  have hl : lv_has ls 4 [(0, .int (nI a)), (1, .int (nI b)), (2, .int (nI d)), (3, .int (nI f))] := hl
  refine lv_iload_n hx hb dX2_orderOf_0 rfl (lv_at hl 0 rfl) ?_
  refine lv_bipush (v := nI 6) hx hb dX2_orderOf_1 (by decide) ?_
  refine n_ishl hx hb dX2_orderOf_3 (by omega) ?_
  refine lv_iload_n hx hb dX2_orderOf_4 rfl (lv_at hl 1 rfl) ?_
  refine lv_iconst (v := nI 4) hx hb dX2_orderOf_5 (by decide) ?_
  refine n_ishl hx hb dX2_orderOf_6 (by omega) ?_
  refine n_ior hx hb dX2_orderOf_7 ?_
  refine lv_iload_n hx hb dX2_orderOf_8 rfl (lv_at hl 2 rfl) ?_
  refine lv_iconst (v := nI 2) hx hb dX2_orderOf_9 (by decide) ?_
  refine n_ishl hx hb dX2_orderOf_10 (by omega) ?_
  refine n_ior hx hb dX2_orderOf_11 ?_
  refine lv_iload_n hx hb dX2_orderOf_12 rfl (lv_at hl 3 rfl) ?_
  refine n_ior hx hb dX2_orderOf_13 ?_
  exact ret () Z dX2_orderOf_14 rfl rfl
abbrev rm_k_X2_cellAt : Room := { frames := 0, cells := 0, slots := 0, locals := 0 }
set_option maxHeartbeats 4000000 in
set_option maxRecDepth 100000 in
theorem k_X2_cellAt (l : Launch) (D : va_G) (cA : ClassId) (o : Nat) (i : Nat) (ho : o < 2 ^ 31) (hi : i < 4) : Cti l yX2_cellAt cX2_cellAt 2 (some .int) rm_k_X2_cellAt D cA [.int (nI o), .int (nI i)] ([]) (fun (r : Int32) (_ : Unit) => r = nI (cat o i)) (fun _ => []) := by
  refine st_i (by decide) (Nat.le_of_ble_eq_true rfl) ?_
  intro p e s m args below meth c A Q E ret Z ls hl
  have hx := E.1.1
  have hb := E.1.2.1
  have hl : lv_has ls 2 [(0, .int (nI o)), (1, .int (nI i))] := hl
  refine lv_iload_n hx hb dX2_cellAt_0 rfl (lv_at hl 0 rfl) ?_
  refine lv_iconst (v := nI 2) hx hb dX2_cellAt_1 (by decide) ?_
  refine lv_iconst (v := nI 3) hx hb dX2_cellAt_2 (by decide) ?_
  refine lv_iload_n hx hb dX2_cellAt_3 rfl (lv_at hl 1 rfl) ?_
  refine n_isub hx hb dX2_cellAt_4 (by omega) ?_
  refine n_imul hx hb dX2_cellAt_5 ?_
  refine n_ishr hx hb dX2_cellAt_6 (by omega) (by omega) ?_
  refine lv_iconst (v := nI 3) hx hb dX2_cellAt_7 (by decide) ?_
  refine n_iand3 hx hb dX2_cellAt_8 ?_
  refine r_top (y := nI (cat o i)) rfl ?_
  exact ret () Z dX2_cellAt_9 rfl rfl
abbrev rm_k_X2_hasEachOnce : Room := { frames := 1, cells := 0, slots := 0, locals := 21 }
set_option maxHeartbeats 4000000 in
set_option maxRecDepth 100000 in
theorem k_X2_hasEachOnce (l : Launch) (D : va_G) (cA : ClassId) (o : Nat) (ho : o < 2 ^ 31) : Cti l yX2_hasEachOnce cX2_hasEachOnce 3 (some .boolean) rm_k_X2_hasEachOnce D cA [.int (nI o)] ([]) (fun (r : Int32) (_ : Unit) => r = bI (eo o)) (fun _ => []) := by
  refine st_z (by decide) (Nat.le_of_ble_eq_true rfl) ?_
  intro p e s m args below meth c A Q E ret Z ls hl
  have hx := E.1.1
  have hb := E.1.2.1
  have hl : lv_has ls 3 [(0, .int (nI o))] := hl
  refine lv_iconst (v := nI 0) hx hb dX2_hasEachOnce_0 (by decide) ?_
  refine lv_istore_n (lv' := [(1, .int (nI 0)), (0, .int (nI o))]) hx hb dX2_hasEachOnce_1 rfl hl (by decide) rfl (fun ls hl => ?_)
  refine lv_iconst (v := nI 0) hx hb dX2_hasEachOnce_2 (by decide) ?_
  refine lv_istore_n (lv' := [(2, .int (nI 0)), (1, .int (nI 0)), (0, .int (nI o))]) hx hb dX2_hasEachOnce_3 rfl hl (by decide) rfl (fun ls hl => ?_)
  have L4 : ∀ (n4 i : Nat), 4 + 1 ≤ i + n4 → i ≤ 4 → ∀ (H : Heap) (locs : List Loc), Wd D A s ([]) H locs → ∀ (ls : Array Slot), lv_has ls 3 [(0, .int (nI o)), (1, .int (nI (sn o i))), (2, .int (nI i))] → W p l e rm_k_X2_hasEachOnce s m args below meth c H locs 0 0 Q (F0 m 4 ls []) := by
    intro n4
    induction n4 with
    | zero => exact fun i h1 h2 => absurd h1 (by omega)
    | succ n4 ih4 =>
      intro i hn4 hi4  H locs Z ls hl
      refine lv_iload_n hx hb dX2_hasEachOnce_4 rfl (lv_at hl 2 rfl) ?_
      refine lv_iconst (v := nI 4) hx hb dX2_hasEachOnce_5 (by decide) ?_
      refine n_icmp_ge (tgt := 25) hx hb dX2_hasEachOnce_6 (by decide) (by omega) (by omega) (fun c6 => ?_) (fun c6 => ?_)
      · obtain rfl : 4 = i := by omega
        refine lv_iload_n hx hb dX2_hasEachOnce_25 rfl (lv_at hl 1 rfl) ?_
        refine lv_bipush (v := nI 15) hx hb dX2_hasEachOnce_26 (by decide) ?_
        have hsn := sn_lt o 4
        refine n_icmp_ne (tgt := 35) hx hb dX2_hasEachOnce_28 (by decide) (by omega) (by omega) (fun c28 => ?_) (fun c28 => ?_)
        · refine lv_iconst (v := nI 0) hx hb dX2_hasEachOnce_35 (by decide) ?_
          exact ret () Z dX2_hasEachOnce_36 (Or.inl nI_0) rfl (nI_0.trans (bI_f c28).symm)
        · refine lv_iconst (v := nI 1) hx hb dX2_hasEachOnce_31 (by decide) ?_
          refine lv_goto (tgt := 36) hx hb dX2_hasEachOnce_32 (by decide) ?_
          exact ret () Z dX2_hasEachOnce_36 (Or.inr nI_one) rfl (nI_one.trans (bI_t c28).symm)
      · refine lv_iload_n hx hb dX2_hasEachOnce_9 rfl (lv_at hl 1 rfl) ?_
        refine lv_iconst (v := nI 1) hx hb dX2_hasEachOnce_10 (by decide) ?_
        refine lv_iload_n hx hb dX2_hasEachOnce_11 rfl (lv_at hl 0 rfl) ?_
        refine lv_iload_n hx hb dX2_hasEachOnce_12 rfl (lv_at hl 2 rfl) ?_
        refine c_Si (As := [.int (nI o), .int (nI i)]) (rest := [.int (nI 1), .int (nI (sn o i))]) (w2 := fun _ => []) E Z (k_X2_cellAt l D cA o i (by first | assumption | omega) (by first | assumption | omega)) ws_X2_18 ⟨rfl, rfl, Nat.le_of_ble_eq_true rfl, Nat.le_of_ble_eq_true rfl⟩ [] rfl rfl (fun _ => rfl) (fun _ => rfl) rfl hl.1 rfl (Nat.le_of_ble_eq_true rfl) dX2_hasEachOnce_13 ⟨Nat.zero_le _, Nat.zero_le _⟩ (fun r13 _ H locs hp13 Z => ?_)
        subst hp13
        have hc := cat_lt o i
        refine n_ishl1 hx hb dX2_hasEachOnce_16 (by omega) ?_
        refine n_ior hx hb dX2_hasEachOnce_17 ?_
        refine lv_istore_n (lv' := [(1, .int (nI ((sn o i) ||| (2 ^ (cat o i))))), (0, .int (nI o)), (2, .int (nI i))]) hx hb dX2_hasEachOnce_18 rfl hl (by decide) rfl (fun ls hl => ?_)
        refine lv_iinc (v := nI (i + 1)) (lv' := [(2, .int (nI (i + 1))), (1, .int (nI ((sn o i) ||| (2 ^ (cat o i))))), (0, .int (nI o))]) hx hb dX2_hasEachOnce_19 hl (k := 2) rfl (n_inc _ _ (by decide)) (by decide) rfl (fun ls hl => ?_)
        refine lv_goto (tgt := 4) hx hb dX2_hasEachOnce_22 (by decide) ?_
        exact ih4 (i + 1) (by omega) (by omega)   _ _ Z ls (lv_sub hl [2, 1, 0] rfl)
  exact L4 (4 + 1) 0 (by omega) (by omega)   _ _ Z ls (lv_sub hl [2, 1, 0] rfl)
abbrev rm_k_X2_observe : Room := { frames := 2, cells := 0, slots := 0, locals := 45 }
set_option maxHeartbeats 4000000 in
set_option maxRecDepth 100000 in
theorem k_X2_observe (l : Launch) (D : va_G) (cA : ClassId) (q : Nat) (qt : Nat) (qp : Nat) (tp : Nat → Nat) (pq : Nat) (ps : Nat) (pa : Nat) (size : Nat) (ch : Nat) (sets : Nat → Nat) (amts : Nat → Nat) (gq : Nat) (gm : Nat) (mc : Nat) (n : Nat) (mem : Nat → Nat) (hP : size ≤ 8) (hch : ch < 256) (hs : ∀ j, sets j < 128) (hn31 : n < 2 ^ 31) (hm0 : mOk mc n mem) (hM : mc ≤ 7) : Ctv l yX2_observe cX2_observe 8 none rm_k_X2_observe D cA [.ref q, .ref pq, .ref gq, .int (nI mc)] ([oR q qt qp, aN cA qt 16 tp, oP pq ps pa size ch, aN cA ps 16 sets, aN cA pa 8 amts, oG gq gm mc n, aN cA gm 4 mem]) (fun (_ : Unit) => True) (fun _ => [oR q qt qp, aN cA qt 16 (ob mc n sets amts ch size), oP pq ps pa size ch, aN cA ps 16 sets, aN cA pa 8 amts, oG gq gm mc n, aN cA gm 4 mem]) := by
  refine st_v (by decide) (Nat.le_of_ble_eq_true rfl) ?_
  intro p e s m args below meth c A Q E ret Z ls hl
  have hx := E.1.1
  have hb := E.1.2.1
  have hl : lv_has ls 8 [(0, .ref q), (1, .ref pq), (2, .ref gq), (3, .int (nI mc))] := hl
  refine lv_aload_n hx hb dX2_observe_0 rfl (lv_at hl 0 rfl) ?_
  refine gF_X2_9 E Z dX2_observe_1 0 rfl rfl ?_
  refine lv_iconst (v := nI 0) hx hb dX2_observe_4 (by decide) ?_
  refine c_Sv (As := [.ref qt, .int (nI 0)]) (rest := []) (w2 := fun _ => [oR q qt qp, aN cA qt 16 (fun _ => 0), oP pq ps pa size ch, aN cA ps 16 sets, aN cA pa 8 amts, oG gq gm mc n, aN cA gm 4 mem]) E Z (k_J7_fill_53178 l D cA qt 16 tp 0 (by decide)) ws_X2_22 ⟨rfl, rfl, Nat.le_of_ble_eq_true rfl, Nat.le_of_ble_eq_true rfl⟩ [1] rfl rfl (fun _ => rfl) (fun _ => rfl) rfl hl.1 rfl (Nat.le_of_ble_eq_true rfl) dX2_observe_5 ⟨Nat.zero_le _, Nat.zero_le _⟩ (fun _ H locs hp5 Z => ?_)
  refine lv_iconst (v := nI 0) hx hb dX2_observe_8 (by decide) ?_
  refine lv_istore (lv' := [(4, .int (nI 0)), (0, .ref q), (1, .ref pq), (2, .ref gq), (3, .int (nI mc))]) hx hb dX2_observe_9 hl (by decide) rfl (fun ls hl => ?_)
  have L11 : ∀ (n11 k : Nat), size + 1 ≤ k + n11 → k ≤ size → ∀ (H : Heap) (locs : List Loc), Wd D A s ([oR q qt qp, aN cA qt 16 (ob mc n sets amts ch k), oP pq ps pa size ch, aN cA ps 16 sets, aN cA pa 8 amts, oG gq gm mc n, aN cA gm 4 mem]) H locs → ∀ (ls : Array Slot), lv_has ls 8 [(0, .ref q), (1, .ref pq), (2, .ref gq), (3, .int (nI mc)), (4, .int (nI k))] → W p l e rm_k_X2_observe s m args below meth c H locs 0 0 Q (F0 m 11 ls []) := by
    intro n11
    induction n11 with
    | zero => exact fun k h1 h2 => absurd h1 (by omega)
    | succ n11 ih11 =>
      intro k hn11 hi11  H locs Z ls hl
      refine lv_iload hx hb dX2_observe_11 (lv_at hl 4 rfl) ?_
      refine lv_aload_n hx hb dX2_observe_13 rfl (lv_at hl 1 rfl) ?_
      refine c_Vi (As := []) (rest := [.int (nI k)]) (w2 := fun _ => [oR q qt qp, aN cA qt 16 (ob mc n sets amts ch k), oP pq ps pa size ch, aN cA ps 16 sets, aN cA pa 8 amts, oG gq gm mc n, aN cA gm 4 mem]) E Z (k_X1_howMany l D cA pq ps pa size ch ) wv_X2_28 ⟨rfl, rfl, Nat.le_of_ble_eq_true rfl, Nat.le_of_ble_eq_true rfl⟩ [2] rfl rfl rfl rfl (q0 := 0) rfl (fun _ => rfl) (fun _ => rfl) rfl hl.1 rfl (Nat.le_of_ble_eq_true rfl) dX2_observe_14 ⟨Nat.zero_le _, Nat.zero_le _⟩ (fun r14 _ H locs hp14 Z => ?_)
      subst hp14
      refine n_icmp_ge (tgt := 92) hx hb dX2_observe_17 (by decide) (by omega) (by omega) (fun c17 => ?_) (fun c17 => ?_)
      · obtain rfl : size = k := by omega
        exact ret () Z dX2_observe_92 rfl trivial
      · refine lv_aload_n hx hb dX2_observe_20 rfl (lv_at hl 1 rfl) ?_
        refine lv_iload hx hb dX2_observe_21 (lv_at hl 4 rfl) ?_
        refine c_Vi (As := [.int (nI k)]) (rest := []) (w2 := fun _ => [oR q qt qp, aN cA qt 16 (ob mc n sets amts ch k), oP pq ps pa size ch, aN cA ps 16 sets, aN cA pa 8 amts, oG gq gm mc n, aN cA gm 4 mem]) E Z (k_X1_setOf l D cA pq ps pa size ch sets k (by first | assumption | omega) (by first | assumption | omega)) wv_X2_34 ⟨rfl, rfl, Nat.le_of_ble_eq_true rfl, Nat.le_of_ble_eq_true rfl⟩ [2, 3] rfl rfl rfl rfl (q0 := 0) rfl (fun _ => rfl) (fun _ => rfl) rfl hl.1 rfl (Nat.le_of_ble_eq_true rfl) dX2_observe_23 ⟨Nat.zero_le _, Nat.zero_le _⟩ (fun r23 _ H locs hp23 Z => ?_)
        subst hp23
        refine lv_istore (lv' := [(5, .int (nI (setB sets ch k))), (0, .ref q), (1, .ref pq), (2, .ref gq), (3, .int (nI mc)), (4, .int (nI k))]) hx hb dX2_observe_26 hl (by decide) rfl (fun ls hl => ?_)
        refine lv_aload_n hx hb dX2_observe_28 rfl (lv_at hl 3 rfl) ?_
        refine lv_iload hx hb dX2_observe_29 (lv_at hl 0 rfl) ?_
        refine c_Vi (As := [.int (nI (setB sets ch k))]) (rest := []) (w2 := fun _ => [oR q qt qp, aN cA qt 16 (ob mc n sets amts ch k), oP pq ps pa size ch, aN cA ps 16 sets, aN cA pa 8 amts, oG gq gm mc n, aN cA gm 4 mem]) E Z (k_X0_homeOf l D cA gq gm mc n mem (setB sets ch k) (by first | assumption | omega) (by first | assumption | omega)) wv_X2_38 ⟨rfl, rfl, Nat.le_of_ble_eq_true rfl, Nat.le_of_ble_eq_true rfl⟩ [5, 6] rfl rfl rfl rfl (q0 := 0) rfl (fun _ => rfl) (fun _ => rfl) rfl hl.1 rfl (Nat.le_of_ble_eq_true rfl) dX2_observe_31 ⟨Nat.zero_le _, Nat.zero_le _⟩ (fun r31 _ H locs hp31 Z => ?_)
        subst hp31
        refine lv_istore (lv' := [(6, .int (nI (hm mc n (setB sets ch k)))), (5, .int (nI (setB sets ch k))), (0, .ref q), (1, .ref pq), (2, .ref gq), (3, .int (nI mc)), (4, .int (nI k))]) hx hb dX2_observe_34 hl (by decide) rfl (fun ls hl => ?_)
        refine lv_iconst (v := nI 0) hx hb dX2_observe_36 (by decide) ?_
        refine lv_istore (lv' := [(7, .int (nI 0)), (6, .int (nI (hm mc n (setB sets ch k)))), (5, .int (nI (setB sets ch k))), (0, .ref q), (1, .ref pq), (2, .ref gq), (3, .int (nI mc)), (4, .int (nI k))]) hx hb dX2_observe_37 hl (by decide) rfl (fun ls hl => ?_)
        have L39 : ∀ (n39 i : Nat), mc + 1 ≤ i + n39 → i ≤ mc → ∀ (H : Heap) (locs : List Loc), Wd D A s ([oR q qt qp, aN cA qt 16 (oi mc n sets amts ch k (ob mc n sets amts ch k) i), oP pq ps pa size ch, aN cA ps 16 sets, aN cA pa 8 amts, oG gq gm mc n, aN cA gm 4 mem]) H locs → ∀ (ls : Array Slot), lv_has ls 8 [(0, .ref q), (1, .ref pq), (2, .ref gq), (3, .int (nI mc)), (4, .int (nI k)), (5, .int (nI (setB sets ch k))), (6, .int (nI (hm mc n (setB sets ch k)))), (7, .int (nI i))] → W p l e rm_k_X2_observe s m args below meth c H locs 0 0 Q (F0 m 39 ls []) := by
          intro n39
          induction n39 with
          | zero => exact fun i h1 h2 => absurd h1 (by omega)
          | succ n39 ih39 =>
            intro i hn39 hi39  H locs Z ls hl
            refine lv_iload hx hb dX2_observe_39 (lv_at hl 7 rfl) ?_
            refine lv_iload_n hx hb dX2_observe_41 rfl (lv_at hl 3 rfl) ?_
            refine n_icmp_ge (tgt := 86) hx hb dX2_observe_42 (by decide) (by omega) (by omega) (fun c42 => ?_) (fun c42 => ?_)
            · obtain rfl : mc = i := by omega
              refine lv_iinc (v := nI (k + 1)) (lv' := [(4, .int (nI (k + 1))), (0, .ref q), (1, .ref pq), (2, .ref gq), (3, .int (nI mc)), (5, .int (nI (setB sets ch k))), (6, .int (nI (hm mc n (setB sets ch k)))), (7, .int (nI mc))]) hx hb dX2_observe_86 hl (k := 4) rfl (n_inc _ _ (by decide)) (by decide) rfl (fun ls hl => ?_)
              refine lv_goto (tgt := 11) hx hb dX2_observe_89 (by decide) ?_
              exact ih11 (k + 1) (by omega) (by omega)   _ _ Z ls (lv_sub hl [1, 2, 3, 4, 0] rfl)
            · refine lv_iload hx hb dX2_observe_45 (lv_at hl 5 rfl) ?_
              refine lv_iload hx hb dX2_observe_47 (lv_at hl 7 rfl) ?_
              refine c_Si (As := [.int (nI (setB sets ch k)), .int (nI i)]) (rest := []) (w2 := fun _ => [oR q qt qp, aN cA qt 16 (oi mc n sets amts ch k (ob mc n sets amts ch k) i), oP pq ps pa size ch, aN cA ps 16 sets, aN cA pa 8 amts, oG gq gm mc n, aN cA gm 4 mem]) E Z (k_X1_hasMachine l D cA (setB sets ch k) i (Nat.lt_trans (hs _) (by decide)) (by first | assumption | omega)) ws_X2_43 ⟨rfl, rfl, Nat.le_of_ble_eq_true rfl, Nat.le_of_ble_eq_true rfl⟩ [] rfl rfl (fun _ => rfl) (fun _ => rfl) rfl hl.1 rfl (Nat.le_of_ble_eq_true rfl) dX2_observe_49 ⟨Nat.zero_le _, Nat.zero_le _⟩ (fun r49 _ H locs hp49 Z => ?_)
              subst hp49
              refine b_if_eq (tgt := 80) hx hb dX2_observe_52 (by decide) (fun c52 => ?_) (fun c52 => ?_)
              · replace Z : Wd D A s ([oR q qt qp, aN cA qt 16 (oi mc n sets amts ch k (ob mc n sets amts ch k) (i + 1)), oP pq ps pa size ch, aN cA ps 16 sets, aN cA pa 8 amts, oG gq gm mc n, aN cA gm 4 mem]) _ _ := Z.to (by rw [show oi mc n sets amts ch k (ob mc n sets amts ch k) (i + 1) = oi mc n sets amts ch k (ob mc n sets amts ch k) i from if_neg c52])
                refine lv_iinc (v := nI (i + 1)) (lv' := [(7, .int (nI (i + 1))), (0, .ref q), (1, .ref pq), (2, .ref gq), (3, .int (nI mc)), (4, .int (nI k)), (5, .int (nI (setB sets ch k))), (6, .int (nI (hm mc n (setB sets ch k))))]) hx hb dX2_observe_80 hl (k := 7) rfl (n_inc _ _ (by decide)) (by decide) rfl (fun ls hl => ?_)
                refine lv_goto (tgt := 39) hx hb dX2_observe_83 (by decide) ?_
                exact ih39 (i + 1) (by omega) (by omega)   _ _ Z ls (lv_sub hl [1, 2, 3, 4, 5, 6, 7, 0] rfl)
              · refine lv_aload_n hx hb dX2_observe_55 rfl (lv_at hl 0 rfl) ?_
                refine gF_X2_9 E Z dX2_observe_56 0 rfl rfl ?_
                refine lv_iconst (v := nI 4) hx hb dX2_observe_59 (by decide) ?_
                refine lv_iload hx hb dX2_observe_60 (lv_at hl 6 rfl) ?_
                refine n_imul hx hb dX2_observe_62 ?_
                refine lv_aload_n hx hb dX2_observe_63 rfl (lv_at hl 2 rfl) ?_
                refine lv_iload hx hb dX2_observe_64 (lv_at hl 7 rfl) ?_
                refine c_Vi (As := [.int (nI i)]) (rest := [.int (nI (4 * (hm mc n (setB sets ch k)))), .ref qt]) (w2 := fun _ => [oR q qt qp, aN cA qt 16 (oi mc n sets amts ch k (ob mc n sets amts ch k) i), oP pq ps pa size ch, aN cA ps 16 sets, aN cA pa 8 amts, oG gq gm mc n, aN cA gm 4 mem]) E Z (k_X0_cellOf l D cA gq gm mc n i (by first | assumption | omega) (by first | assumption | omega)) wv_X2_47 ⟨rfl, rfl, Nat.le_of_ble_eq_true rfl, Nat.le_of_ble_eq_true rfl⟩ [5] rfl rfl rfl rfl (q0 := 0) rfl (fun _ => rfl) (fun _ => rfl) rfl hl.1 rfl (Nat.le_of_ble_eq_true rfl) dX2_observe_66 ⟨Nat.zero_le _, Nat.zero_le _⟩ (fun r66 _ H locs hp66 Z => ?_)
                subst hp66
                have hh := hm_lt mc n (setB sets ch k)
                have hc := cl_lt n i
                refine n_iadd hx hb dX2_observe_69 ?_
                refine lv_dup2_11 hx hb dX2_observe_70 rfl rfl ?_
                refine r_ald E Z dX2_observe_71 1 rfl (by omega) (by decide) ?_
                refine lv_aload_n hx hb dX2_observe_72 rfl (lv_at hl 1 rfl) ?_
                refine lv_iload hx hb dX2_observe_73 (lv_at hl 4 rfl) ?_
                refine c_Vi (As := [.int (nI k)]) (rest := [.int (nI ((oi mc n sets amts ch k (ob mc n sets amts ch k) i) (4 * (hm mc n (setB sets ch k)) + (cl n i)))), .int (nI (4 * (hm mc n (setB sets ch k)) + (cl n i))), .ref qt]) (w2 := fun _ => [oR q qt qp, aN cA qt 16 (oi mc n sets amts ch k (ob mc n sets amts ch k) i), oP pq ps pa size ch, aN cA ps 16 sets, aN cA pa 8 amts, oG gq gm mc n, aN cA gm 4 mem]) E Z (k_X1_piecesOf l D cA pq ps pa size ch amts k (by first | assumption | omega)) wv_X2_50 ⟨rfl, rfl, Nat.le_of_ble_eq_true rfl, Nat.le_of_ble_eq_true rfl⟩ [2, 4] rfl rfl rfl rfl (q0 := 0) rfl (fun _ => rfl) (fun _ => rfl) rfl hl.1 rfl (Nat.le_of_ble_eq_true rfl) dX2_observe_75 ⟨Nat.zero_le _, Nat.zero_le _⟩ (fun r75 _ H locs hp75 Z => ?_)
                subst hp75
                refine n_iadd hx hb dX2_observe_78 ?_
                refine r_ast (w1 := [oR q qt qp, aN cA qt 16 (up (oi mc n sets amts ch k (ob mc n sets amts ch k) i) (4 * (hm mc n (setB sets ch k)) + (cl n i)) ((oi mc n sets amts ch k (ob mc n sets amts ch k) i) (4 * (hm mc n (setB sets ch k)) + (cl n i)) + (amts k))), oP pq ps pa size ch, aN cA ps 16 sets, aN cA pa 8 amts, oG gq gm mc n, aN cA gm 4 mem]) E Z dX2_observe_79 1 rfl (by omega) (by decide) rfl (fun H locs Z => ?_)
                replace Z : Wd D A s ([oR q qt qp, aN cA qt 16 (oi mc n sets amts ch k (ob mc n sets amts ch k) (i + 1)), oP pq ps pa size ch, aN cA ps 16 sets, aN cA pa 8 amts, oG gq gm mc n, aN cA gm 4 mem]) _ _ := Z.to (by rw [show oi mc n sets amts ch k (ob mc n sets amts ch k) (i + 1) = up (oi mc n sets amts ch k (ob mc n sets amts ch k) i) (4 * (hm mc n (setB sets ch k)) + (cl n i)) ((oi mc n sets amts ch k (ob mc n sets amts ch k) i) (4 * (hm mc n (setB sets ch k)) + (cl n i)) + (amts k)) from if_pos c52])
                refine lv_iinc (v := nI (i + 1)) (lv' := [(7, .int (nI (i + 1))), (0, .ref q), (1, .ref pq), (2, .ref gq), (3, .int (nI mc)), (4, .int (nI k)), (5, .int (nI (setB sets ch k))), (6, .int (nI (hm mc n (setB sets ch k))))]) hx hb dX2_observe_80 hl (k := 7) rfl (n_inc _ _ (by decide)) (by decide) rfl (fun ls hl => ?_)
                refine lv_goto (tgt := 39) hx hb dX2_observe_83 (by decide) ?_
                exact ih39 (i + 1) (by omega) (by omega)   _ _ Z ls (lv_sub hl [1, 2, 3, 4, 5, 6, 7, 0] rfl)
        exact L39 (mc + 1) 0 (by omega) (by omega)   _ _ Z ls (lv_sub hl [3, 4, 5, 6, 7, 2, 1, 0] rfl)
  exact L11 (size + 1) 0 (by omega) (by omega)   _ _ Z ls (lv_sub hl [1, 2, 3, 4, 0] rfl)
abbrev rm_k_X2_wayOf : Room := { frames := 1, cells := 0, slots := 0, locals := 21 }
set_option maxHeartbeats 4000000 in
set_option maxRecDepth 100000 in
theorem k_X2_wayOf (l : Launch) (D : va_G) (cA : ClassId) (q : Nat) (qt : Nat) (qp : Nat) (tp : Nat → Nat) (pl : Nat → Nat) (o : Nat) (ho : o < 256) (he : eo o) : Cti l yX2_wayOf cX2_wayOf 5 (some .int) rm_k_X2_wayOf D cA [.ref q, .int (nI o)] ([oR q qt qp, aN cA qt 16 tp, aN cA qp 4 pl]) (fun (r : Int32) (_ : Unit) => r = nI (sm (wfs tp (plc o)) 4)) (fun _ => [oR q qt qp, aN cA qt 16 tp, aN cA qp 4 (plc o)]) := by
  refine st_i (by decide) (Nat.le_of_ble_eq_true rfl) ?_
  intro p e s m args below meth c A Q E ret Z ls hl
  have hx := E.1.1
  have hb := E.1.2.1
  have hl : lv_has ls 5 [(0, .ref q), (1, .int (nI o))] := hl
  refine lv_iconst (v := nI 0) hx hb dX2_wayOf_0 (by decide) ?_
  refine lv_istore_n (lv' := [(2, .int (nI 0)), (0, .ref q), (1, .int (nI o))]) hx hb dX2_wayOf_1 rfl hl (by decide) rfl (fun ls hl => ?_)
  have L2 : ∀ (n2 i : Nat), 4 + 1 ≤ i + n2 → i ≤ 4 → ∀ (H : Heap) (locs : List Loc), Wd D A s ([oR q qt qp, aN cA qt 16 tp, aN cA qp 4 (plo o pl i)]) H locs → ∀ (ls : Array Slot), lv_has ls 5 [(0, .ref q), (1, .int (nI o)), (2, .int (nI i))] → W p l e rm_k_X2_wayOf s m args below meth c H locs 0 0 Q (F0 m 2 ls []) := by
    intro n2
    induction n2 with
    | zero => exact fun i h1 h2 => absurd h1 (by omega)
    | succ n2 ih2 =>
      intro i hn2 hi2  H locs Z ls hl
      refine lv_iload_n hx hb dX2_wayOf_2 rfl (lv_at hl 2 rfl) ?_
      refine lv_iconst (v := nI 4) hx hb dX2_wayOf_3 (by decide) ?_
      refine n_icmp_ge (tgt := 24) hx hb dX2_wayOf_4 (by decide) (by omega) (by omega) (fun c4 => ?_) (fun c4 => ?_)
      · obtain rfl : 4 = i := by omega
        replace Z : Wd D A s ([oR q qt qp, aN cA qt 16 tp, aN cA qp 4 (plc o)]) _ _ := Z.norm 2 rfl (fun j hj => congrArg nI (plo_plc ho he pl hj)) rfl
        refine lv_iconst (v := nI 0) hx hb dX2_wayOf_24 (by decide) ?_
        refine lv_istore_n (lv' := [(2, .int (nI 0)), (0, .ref q), (1, .int (nI o))]) hx hb dX2_wayOf_25 rfl hl (by decide) rfl (fun ls hl => ?_)
        refine lv_iconst (v := nI 0) hx hb dX2_wayOf_26 (by decide) ?_
        refine lv_istore_n (lv' := [(3, .int (nI 0)), (2, .int (nI 0)), (0, .ref q), (1, .int (nI o))]) hx hb dX2_wayOf_27 rfl hl (by decide) rfl (fun ls hl => ?_)
        have L28 : ∀ (n28 f : Nat), 4 + 1 ≤ f + n28 → f ≤ 4 → ∀ (H : Heap) (locs : List Loc), Wd D A s ([oR q qt qp, aN cA qt 16 tp, aN cA qp 4 (plc o)]) H locs → ∀ (ls : Array Slot), lv_has ls 5 [(0, .ref q), (1, .int (nI o)), (2, .int (nI (sm (wfs tp (plc o)) f))), (3, .int (nI f))] → W p l e rm_k_X2_wayOf s m args below meth c H locs 0 0 Q (F0 m 28 ls []) := by
          intro n28
          induction n28 with
          | zero => exact fun f h1 h2 => absurd h1 (by omega)
          | succ n28 ih28 =>
            intro f hn28 hi28  H locs Z ls hl
            refine lv_iload_n hx hb dX2_wayOf_28 rfl (lv_at hl 3 rfl) ?_
            refine lv_iconst (v := nI 4) hx hb dX2_wayOf_29 (by decide) ?_
            refine n_icmp_ge (tgt := 86) hx hb dX2_wayOf_30 (by decide) (by omega) (by omega) (fun c30 => ?_) (fun c30 => ?_)
            · obtain rfl : 4 = f := by omega
              refine lv_iload_n hx hb dX2_wayOf_86 rfl (lv_at hl 2 rfl) ?_
              exact ret () Z dX2_wayOf_87 rfl rfl
            · refine lv_iconst (v := nI 0) hx hb dX2_wayOf_33 (by decide) ?_
              refine lv_istore (lv' := [(4, .int (nI 0)), (0, .ref q), (1, .int (nI o)), (2, .int (nI (sm (wfs tp (plc o)) f))), (3, .int (nI f))]) hx hb dX2_wayOf_34 hl (by decide) rfl (fun ls hl => ?_)
              have L36 : ∀ (n36 t : Nat), 4 + 1 ≤ t + n36 → t ≤ 4 → ∀ (H : Heap) (locs : List Loc), Wd D A s ([oR q qt qp, aN cA qt 16 tp, aN cA qp 4 (plc o)]) H locs → ∀ (ls : Array Slot), lv_has ls 5 [(0, .ref q), (1, .int (nI o)), (2, .int (nI (sm (wfs tp (plc o)) f + sm (wft tp (plc o) f) t))), (3, .int (nI f)), (4, .int (nI t))] → W p l e rm_k_X2_wayOf s m args below meth c H locs 0 0 Q (F0 m 36 ls []) := by
                intro n36
                induction n36 with
                | zero => exact fun t h1 h2 => absurd h1 (by omega)
                | succ n36 ih36 =>
                  intro t hn36 hi36  H locs Z ls hl
                  refine lv_iload hx hb dX2_wayOf_36 (lv_at hl 4 rfl) ?_
                  refine lv_iconst (v := nI 4) hx hb dX2_wayOf_38 (by decide) ?_
                  refine n_icmp_ge (tgt := 80) hx hb dX2_wayOf_39 (by decide) (by omega) (by omega) (fun c39 => ?_) (fun c39 => ?_)
                  · obtain rfl : 4 = t := by omega
                    refine lv_iinc (v := nI (f + 1)) (lv' := [(3, .int (nI (f + 1))), (0, .ref q), (1, .int (nI o)), (2, .int (nI (sm (wfs tp (plc o)) f + sm (wft tp (plc o) f) 4))), (4, .int (nI 4))]) hx hb dX2_wayOf_80 hl (k := 3) rfl (n_inc _ _ (by decide)) (by decide) rfl (fun ls hl => ?_)
                    refine lv_goto (tgt := 28) hx hb dX2_wayOf_83 (by decide) ?_
                    exact ih28 (f + 1) (by omega) (by omega)   _ _ Z ls (lv_sub hl [1, 2, 3, 0] rfl)
                  · refine lv_iload_n hx hb dX2_wayOf_42 rfl (lv_at hl 2 rfl) ?_
                    refine lv_aload_n hx hb dX2_wayOf_43 rfl (lv_at hl 0 rfl) ?_
                    refine gF_X2_9 E Z dX2_wayOf_44 0 rfl rfl ?_
                    refine lv_iconst (v := nI 4) hx hb dX2_wayOf_47 (by decide) ?_
                    refine lv_iload_n hx hb dX2_wayOf_48 rfl (lv_at hl 3 rfl) ?_
                    refine n_imul hx hb dX2_wayOf_49 ?_
                    refine lv_iload hx hb dX2_wayOf_50 (lv_at hl 4 rfl) ?_
                    refine n_iadd hx hb dX2_wayOf_52 ?_
                    refine r_ald E Z dX2_wayOf_53 1 rfl (by omega) (by decide) ?_
                    refine lv_aload_n hx hb dX2_wayOf_54 rfl (lv_at hl 0 rfl) ?_
                    refine gF_X2_15 E Z dX2_wayOf_55 0 rfl rfl ?_
                    refine lv_iload_n hx hb dX2_wayOf_58 rfl (lv_at hl 3 rfl) ?_
                    refine r_ald E Z dX2_wayOf_59 2 rfl (by omega) (by decide) ?_
                    refine lv_aload_n hx hb dX2_wayOf_60 rfl (lv_at hl 0 rfl) ?_
                    refine gF_X2_15 E Z dX2_wayOf_61 0 rfl rfl ?_
                    refine lv_iload hx hb dX2_wayOf_64 (lv_at hl 4 rfl) ?_
                    refine r_ald E Z dX2_wayOf_66 2 rfl (by omega) (by decide) ?_
                    refine lv_isub hx hb dX2_wayOf_67 ?_
                    refine n_abs E hl.1 mML_X2_53 dX2_wayOf_68 (Nat.le_of_ble_eq_true rfl) (Nat.le_of_ble_eq_true rfl) ⟨Nat.zero_le _, Nat.zero_le _⟩ ?_
                    have hp1 := plc_lt o f
                    have hp2 := plc_lt o t
                    refine r_top (y := nI (dist (plc o f) (plc o t))) (nI_abs (by omega) (by omega)) ?_
                    refine n_imul hx hb dX2_wayOf_71 ?_
                    refine n_iadd hx hb dX2_wayOf_72 ?_
                    refine r_top (y := nI (sm (wfs tp (plc o)) f + sm (wft tp (plc o) f) (t + 1))) (congrArg nI (Nat.add_assoc _ _ _)) ?_
                    refine lv_istore_n (lv' := [(2, .int (nI (sm (wfs tp (plc o)) f + sm (wft tp (plc o) f) (t + 1)))), (0, .ref q), (1, .int (nI o)), (3, .int (nI f)), (4, .int (nI t))]) hx hb dX2_wayOf_73 rfl hl (by decide) rfl (fun ls hl => ?_)
                    refine lv_iinc (v := nI (t + 1)) (lv' := [(4, .int (nI (t + 1))), (2, .int (nI (sm (wfs tp (plc o)) f + sm (wft tp (plc o) f) (t + 1)))), (0, .ref q), (1, .int (nI o)), (3, .int (nI f))]) hx hb dX2_wayOf_74 hl (k := 4) rfl (n_inc _ _ (by decide)) (by decide) rfl (fun ls hl => ?_)
                    refine lv_goto (tgt := 36) hx hb dX2_wayOf_77 (by decide) ?_
                    exact ih36 (t + 1) (by omega) (by omega)   _ _ Z ls (lv_sub hl [2, 3, 1, 4, 0] rfl)
              exact L36 (4 + 1) 0 (by omega) (by omega)   _ _ Z ls (lv_sub hl [1, 2, 3, 4, 0] rfl)
        exact L28 (4 + 1) 0 (by omega) (by omega)   _ _ Z ls (lv_sub hl [2, 3, 1, 0] rfl)
      · refine lv_aload_n hx hb dX2_wayOf_7 rfl (lv_at hl 0 rfl) ?_
        refine gF_X2_15 E Z dX2_wayOf_8 0 rfl rfl ?_
        refine lv_iload_n hx hb dX2_wayOf_11 rfl (lv_at hl 1 rfl) ?_
        refine lv_iload_n hx hb dX2_wayOf_12 rfl (lv_at hl 2 rfl) ?_
        refine c_Si (As := [.int (nI o), .int (nI i)]) (rest := [.ref qp]) (w2 := fun _ => [oR q qt qp, aN cA qt 16 tp, aN cA qp 4 (plo o pl i)]) E Z (k_X2_cellAt l D cA o i (by first | assumption | omega) (by first | assumption | omega)) ws_X2_18 ⟨rfl, rfl, Nat.le_of_ble_eq_true rfl, Nat.le_of_ble_eq_true rfl⟩ [] rfl rfl (fun _ => rfl) (fun _ => rfl) rfl hl.1 rfl (Nat.le_of_ble_eq_true rfl) dX2_wayOf_13 ⟨Nat.zero_le _, Nat.zero_le _⟩ (fun r13 _ H locs hp13 Z => ?_)
        subst hp13
        refine lv_iload_n hx hb dX2_wayOf_16 rfl (lv_at hl 2 rfl) ?_
        refine r_ast (w1 := [oR q qt qp, aN cA qt 16 tp, aN cA qp 4 (up (plo o pl i) (cat o i) i)]) E Z dX2_wayOf_17 2 rfl (cat_lt _ _) (by decide) rfl (fun H locs Z => ?_)
        refine lv_iinc (v := nI (i + 1)) (lv' := [(2, .int (nI (i + 1))), (0, .ref q), (1, .int (nI o))]) hx hb dX2_wayOf_18 hl (k := 2) rfl (n_inc _ _ (by decide)) (by decide) rfl (fun ls hl => ?_)
        refine lv_goto (tgt := 2) hx hb dX2_wayOf_21 (by decide) ?_
        exact ih2 (i + 1) (by omega) (by omega)   _ _ Z ls (lv_sub hl [1, 2, 0] rfl)
  exact L2 (4 + 1) 0 (by omega) (by omega)   _ _ Z ls (lv_sub hl [1, 2, 0] rfl)
abbrev rm_k_X2_bestOrder : Room := { frames := 2, cells := 0, slots := 0, locals := 45 }
set_option maxHeartbeats 4000000 in
set_option maxRecDepth 100000 in
theorem k_X2_bestOrder (l : Launch) (D : va_G) (cA : ClassId) (q : Nat) (qt : Nat) (qp : Nat) (tp : Nat → Nat) (pl : Nat → Nat) (hB : ∀ o, sm (wfs tp (plc o)) 4 < 2 ^ 30) : Cti l yX2_bestOrder cX2_bestOrder 5 (some .int) rm_k_X2_bestOrder D cA [.ref q] ([oR q qt qp, aN cA qt 16 tp, aN cA qp 4 pl]) (fun (r : Int32) (_ : Nat → Nat) => r = nI (bo tp 256).1) (fun u => [oR q qt qp, aN cA qt 16 tp, aN cA qp 4 u]) := by
  refine st_i (by decide) (Nat.le_of_ble_eq_true rfl) ?_
  intro p e s m args below meth c A Q E ret Z ls hl
  have hx := E.1.1
  have hb := E.1.2.1
  have hl : lv_has ls 5 [(0, .ref q)] := hl
  refine lv_iconst (v := nI 0) hx hb dX2_bestOrder_0 (by decide) ?_
  refine lv_istore_n (lv' := [(1, .int (nI 0)), (0, .ref q)]) hx hb dX2_bestOrder_1 rfl hl (by decide) rfl (fun ls hl => ?_)
  refine lv_ldc (v := 1073741824) hx hb E.1.2.2.2.1 (E.1.2.2.2.2 _ mK_X2_58) dX2_bestOrder_2 ?_
  refine r_top (y := nI 1073741824) (by decide) ?_
  refine lv_istore_n (lv' := [(2, .int (nI 1073741824)), (1, .int (nI 0)), (0, .ref q)]) hx hb dX2_bestOrder_4 rfl hl (by decide) rfl (fun ls hl => ?_)
  refine lv_iconst (v := nI 0) hx hb dX2_bestOrder_5 (by decide) ?_
  refine lv_istore_n (lv' := [(3, .int (nI 0)), (2, .int (nI 1073741824)), (1, .int (nI 0)), (0, .ref q)]) hx hb dX2_bestOrder_6 rfl hl (by decide) rfl (fun ls hl => ?_)
  have L7 : ∀ (n7 o : Nat), 256 + 1 ≤ o + n7 → o ≤ 256 → ∀ (pl : Nat → Nat), ∀ (H : Heap) (locs : List Loc), Wd D A s ([oR q qt qp, aN cA qt 16 tp, aN cA qp 4 pl]) H locs → ∀ (ls : Array Slot), lv_has ls 5 [(0, .ref q), (1, .int (nI ((bo tp o).1))), (2, .int (nI ((bo tp o).2))), (3, .int (nI o))] → W p l e rm_k_X2_bestOrder s m args below meth c H locs 0 0 Q (F0 m 7 ls []) := by
    intro n7
    induction n7 with
    | zero => exact fun o h1 h2 => absurd h1 (by omega)
    | succ n7 ih7 =>
      intro o hn7 hi7 pl  H locs Z ls hl
      refine lv_iload_n hx hb dX2_bestOrder_7 rfl (lv_at hl 3 rfl) ?_
      refine lv_sipush (v := nI 256) hx hb dX2_bestOrder_8 (by decide) ?_
      refine n_icmp_ge (tgt := 45) hx hb dX2_bestOrder_11 (by decide) (by omega) (by omega) (fun c11 => ?_) (fun c11 => ?_)
      · obtain rfl : 256 = o := by omega
        refine lv_iload_n hx hb dX2_bestOrder_45 rfl (lv_at hl 1 rfl) ?_
        exact ret pl Z dX2_bestOrder_46 rfl rfl
      · refine lv_iload_n hx hb dX2_bestOrder_14 rfl (lv_at hl 3 rfl) ?_
        refine c_Si (As := [.int (nI o)]) (rest := []) (w2 := fun _ => [oR q qt qp, aN cA qt 16 tp, aN cA qp 4 pl]) E Z (k_X2_hasEachOnce l D cA o (by first | assumption | omega)) ws_X2_59 ⟨rfl, rfl, Nat.le_of_ble_eq_true rfl, Nat.le_of_ble_eq_true rfl⟩ [] rfl rfl (fun _ => rfl) (fun _ => rfl) rfl hl.1 rfl (Nat.le_of_ble_eq_true rfl) dX2_bestOrder_15 ⟨Nat.zero_le _, Nat.zero_le _⟩ (fun r15 _ H locs hp15 Z => ?_)
        subst hp15
        refine b_if_eq (tgt := 39) hx hb dX2_bestOrder_18 (by decide) (fun c18 => ?_) (fun c18 => ?_)
        · replace hl : lv_has ls 5 [(0, .ref q), (1, .int (nI ((bo tp (o + 1)).1))), (2, .int (nI ((bo tp o).2))), (3, .int (nI o))] := by rw [show bo tp (o + 1) = bo tp o from if_neg (fun h => c18 h.1)]; exact hl
          replace hl : lv_has ls 5 [(0, .ref q), (1, .int (nI ((bo tp (o + 1)).1))), (2, .int (nI ((bo tp (o + 1)).2))), (3, .int (nI o))] := by rw [show bo tp (o + 1) = bo tp o from if_neg (fun h => c18 h.1)] at hl ⊢; exact hl
          refine lv_iinc (v := nI (o + 1)) (lv' := [(3, .int (nI (o + 1))), (0, .ref q), (1, .int (nI ((bo tp (o + 1)).1))), (2, .int (nI ((bo tp (o + 1)).2)))]) hx hb dX2_bestOrder_39 hl (k := 3) rfl (n_inc _ _ (by decide)) (by decide) rfl (fun ls hl => ?_)
          refine lv_goto (tgt := 7) hx hb dX2_bestOrder_42 (by decide) ?_
          exact ih7 (o + 1) (by omega) (by omega) _  _ _ Z ls (lv_sub hl [1, 2, 3, 0] rfl)
        · refine lv_aload_n hx hb dX2_bestOrder_21 rfl (lv_at hl 0 rfl) ?_
          refine lv_iload_n hx hb dX2_bestOrder_22 rfl (lv_at hl 3 rfl) ?_
          refine c_Vi (As := [.int (nI o)]) (rest := []) (w2 := fun _ => [oR q qt qp, aN cA qt 16 tp, aN cA qp 4 (plc o)]) E Z (k_X2_wayOf l D cA q qt qp tp pl o (by first | assumption | omega) (by first | assumption | omega)) wv_X2_63 ⟨rfl, rfl, Nat.le_of_ble_eq_true rfl, Nat.le_of_ble_eq_true rfl⟩ [0, 1, 2] rfl rfl rfl rfl (q0 := 0) rfl (fun _ => rfl) (fun _ => rfl) rfl hl.1 rfl (Nat.le_of_ble_eq_true rfl) dX2_bestOrder_23 ⟨Nat.zero_le _, Nat.zero_le _⟩ (fun r23 _ H locs hp23 Z => ?_)
          subst hp23
          refine lv_istore (lv' := [(4, .int (nI (sm (wfs tp (plc o)) 4))), (0, .ref q), (1, .int (nI ((bo tp o).1))), (2, .int (nI ((bo tp o).2))), (3, .int (nI o))]) hx hb dX2_bestOrder_26 hl (by decide) rfl (fun ls hl => ?_)
          have h1 := hB o
          have h2 := bo_le tp o
          refine lv_iload hx hb dX2_bestOrder_28 (lv_at hl 0 rfl) ?_
          refine lv_iload_n hx hb dX2_bestOrder_30 rfl (lv_at hl 3 rfl) ?_
          refine n_icmp_ge (tgt := 39) hx hb dX2_bestOrder_31 (by decide) (by omega) (by omega) (fun c31 => ?_) (fun c31 => ?_)
          · replace hl : lv_has ls 5 [(4, .int (nI (sm (wfs tp (plc o)) 4))), (0, .ref q), (1, .int (nI ((bo tp (o + 1)).1))), (2, .int (nI ((bo tp o).2))), (3, .int (nI o))] := by rw [show bo tp (o + 1) = bo tp o from if_neg (fun h => Nat.not_lt.mpr c31 h.2)]; exact hl
            replace hl : lv_has ls 5 [(4, .int (nI (sm (wfs tp (plc o)) 4))), (0, .ref q), (1, .int (nI ((bo tp (o + 1)).1))), (2, .int (nI ((bo tp (o + 1)).2))), (3, .int (nI o))] := by rw [show bo tp (o + 1) = bo tp o from if_neg (fun h => Nat.not_lt.mpr c31 h.2)] at hl ⊢; exact hl
            refine lv_iinc (v := nI (o + 1)) (lv' := [(3, .int (nI (o + 1))), (4, .int (nI (sm (wfs tp (plc o)) 4))), (0, .ref q), (1, .int (nI ((bo tp (o + 1)).1))), (2, .int (nI ((bo tp (o + 1)).2)))]) hx hb dX2_bestOrder_39 hl (k := 4) rfl (n_inc _ _ (by decide)) (by decide) rfl (fun ls hl => ?_)
            refine lv_goto (tgt := 7) hx hb dX2_bestOrder_42 (by decide) ?_
            exact ih7 (o + 1) (by omega) (by omega) _  _ _ Z ls (lv_sub hl [2, 3, 4, 0] rfl)
          · refine lv_iload hx hb dX2_bestOrder_34 (lv_at hl 0 rfl) ?_
            refine lv_istore_n (lv' := [(2, .int (nI (sm (wfs tp (plc o)) 4))), (4, .int (nI (sm (wfs tp (plc o)) 4))), (0, .ref q), (1, .int (nI ((bo tp o).1))), (3, .int (nI o))]) hx hb dX2_bestOrder_36 rfl hl (by decide) rfl (fun ls hl => ?_)
            refine lv_iload_n hx hb dX2_bestOrder_37 rfl (lv_at hl 4 rfl) ?_
            refine lv_istore_n (lv' := [(1, .int (nI o)), (2, .int (nI (sm (wfs tp (plc o)) 4))), (4, .int (nI (sm (wfs tp (plc o)) 4))), (0, .ref q), (3, .int (nI o))]) hx hb dX2_bestOrder_38 rfl hl (by decide) rfl (fun ls hl => ?_)
            replace hl : lv_has ls 5 [(1, .int (nI ((bo tp (o + 1)).1))), (2, .int (nI (sm (wfs tp (plc o)) 4))), (4, .int (nI (sm (wfs tp (plc o)) 4))), (0, .ref q), (3, .int (nI o))] := by rw [show bo tp (o + 1) = (o, sm (wfs tp (plc o)) 4) from if_pos ⟨c18, c31⟩]; exact hl
            replace hl : lv_has ls 5 [(1, .int (nI ((bo tp (o + 1)).1))), (2, .int (nI ((bo tp (o + 1)).2))), (4, .int (nI (sm (wfs tp (plc o)) 4))), (0, .ref q), (3, .int (nI o))] := by rw [show bo tp (o + 1) = (o, sm (wfs tp (plc o)) 4) from if_pos ⟨c18, c31⟩] at hl ⊢; exact hl
            refine lv_iinc (v := nI (o + 1)) (lv' := [(3, .int (nI (o + 1))), (1, .int (nI ((bo tp (o + 1)).1))), (2, .int (nI ((bo tp (o + 1)).2))), (4, .int (nI (sm (wfs tp (plc o)) 4))), (0, .ref q)]) hx hb dX2_bestOrder_39 hl (k := 4) rfl (n_inc _ _ (by decide)) (by decide) rfl (fun ls hl => ?_)
            refine lv_goto (tgt := 7) hx hb dX2_bestOrder_42 (by decide) ?_
            exact ih7 (o + 1) (by omega) (by omega) _  _ _ Z ls (lv_sub hl [4, 1, 2, 0] rfl)
  exact L7 (256 + 1) 0 (by omega) (by omega) _  _ _ Z ls (lv_sub hl [3, 2, 1, 0] rfl)

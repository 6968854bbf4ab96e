abbrev rm_k_X4_howMany : Room := { frames := 0, cells := 0, slots := 0, locals := 0 }
set_option maxHeartbeats 4000000 in
set_option maxRecDepth 100000 in
theorem k_X4_howMany (l : Launch) (D : va_G) (cA : ClassId) (q : Nat) (qw : Nat) (qc : Nat) (qn : Nat) (size : Nat) (mv : Nat)  : Cti l yX4_howMany cX4_howMany 1 (some .int) rm_k_X4_howMany D cA [.ref q] ([oY q qw qc qn size mv]) (fun (r : Int32) (_ : Unit) => r = nI size) (fun _ => [oY q qw qc qn size mv]) := by
  refine st_i (by decide) (Nat.le_of_ble_eq_true rfl) ?_
  intro p e s m args below meth c A Q E ret Z ls hl
  have hx := E.1.1
  have hb := E.1.2.1
  have hl : lv_has ls 1 [(0, .ref q)] := hl
  refine lv_aload_n hx hb dX4_howMany_0 rfl (lv_at hl 0 rfl) ?_
  refine gF_X4_25 E Z dX4_howMany_1 0 rfl rfl ?_
  exact ret () Z dX4_howMany_4 rfl rfl
abbrev rm_k_X4_append : Room := { frames := 0, cells := 0, slots := 0, locals := 0 }
set_option maxHeartbeats 4000000 in
set_option maxRecDepth 100000 in
theorem k_X4_append (l : Launch) (D : va_G) (cA : ClassId) (q : Nat) (qw : Nat) (qc : Nat) (qn : Nat) (size : Nat) (mv : Nat) (wt : Nat → Nat) (w : Nat) (hz : size < 6) : Ctv l yX4_append cX4_append 2 none rm_k_X4_append D cA [.ref q, .int (nI w)] ([oY q qw qc qn size mv, aN cA qw 6 wt]) (fun (_ : Unit) => True) (fun _ => [oY q qw qc qn (size + 1) mv, aN cA qw 6 (up wt size w)]) := by
  refine st_v (by decide) (Nat.le_of_ble_eq_true rfl) ?_
  intro p e s m args below meth c A Q E ret Z ls hl
  have hx := E.1.1
  have hb := E.1.2.1
  have hl : lv_has ls 2 [(0, .ref q), (1, .int (nI w))] := hl
  refine lv_aload_n hx hb dX4_append_0 rfl (lv_at hl 0 rfl) ?_
  refine gF_X4_25 E Z dX4_append_1 0 rfl rfl ?_
  refine lv_bipush (v := nI 6) hx hb dX4_append_4 (by decide) ?_
  refine n_icmp_ge (tgt := 29) hx hb dX4_append_6 (by decide) (by omega) (by omega) (fun c6 => ?_) (fun c6 => ?_)
  · exact absurd c6 (by omega)
  · refine lv_aload_n hx hb dX4_append_9 rfl (lv_at hl 0 rfl) ?_
    refine gF_X4_9 E Z dX4_append_10 0 rfl rfl ?_
    refine lv_aload_n hx hb dX4_append_13 rfl (lv_at hl 0 rfl) ?_
    refine gF_X4_25 E Z dX4_append_14 0 rfl rfl ?_
    refine lv_iload_n hx hb dX4_append_17 rfl (lv_at hl 1 rfl) ?_
    refine r_ast (w1 := [oY q qw qc qn size mv, aN cA qw 6 (up wt size w)]) E Z dX4_append_18 1 rfl (by omega) (by decide) rfl (fun H locs Z => ?_)
    refine lv_aload_n hx hb dX4_append_19 rfl (lv_at hl 0 rfl) ?_
    refine lv_dup hx hb dX4_append_20 rfl ?_
    refine gF_X4_25 E Z dX4_append_21 0 rfl rfl ?_
    refine lv_iconst (v := nI 1) hx hb dX4_append_24 (by decide) ?_
    refine n_iadd hx hb dX4_append_25 ?_
    refine pF_X4_25 (w1 := [oY q qw qc qn (size + 1) mv, aN cA qw 6 (up wt size w)]) E Z dX4_append_26 0 rfl (Nat.le_of_ble_eq_true rfl) rfl (fun H locs Z => ?_)
    exact ret () Z dX4_append_29 rfl trivial
abbrev rm_k_X4_costOfMove : Room := { frames := 0, cells := 0, slots := 0, locals := 0 }
set_option maxHeartbeats 4000000 in
set_option maxRecDepth 100000 in
theorem k_X4_costOfMove (l : Launch) (D : va_G) (cA : ClassId) (q : Nat) (qw : Nat) (qc : Nat) (qn : Nat) (size : Nat) (mv : Nat)  : Cti l yX4_costOfMove cX4_costOfMove 1 (some .int) rm_k_X4_costOfMove D cA [.ref q] ([oY q qw qc qn size mv]) (fun (r : Int32) (_ : Unit) => r = nI mv) (fun _ => [oY q qw qc qn size mv]) := by
  refine st_i (by decide) (Nat.le_of_ble_eq_true rfl) ?_
  intro p e s m args below meth c A Q E ret Z ls hl
  have hx := E.1.1
  have hb := E.1.2.1
  have hl : lv_has ls 1 [(0, .ref q)] := hl
  refine lv_aload_n hx hb dX4_costOfMove_0 rfl (lv_at hl 0 rfl) ?_
  refine gF_X4_21 E Z dX4_costOfMove_1 0 rfl rfl ?_
  exact ret () Z dX4_costOfMove_4 rfl rfl
abbrev rm_k_X4_putCostOfMove : Room := { frames := 0, cells := 0, slots := 0, locals := 0 }
set_option maxHeartbeats 4000000 in
set_option maxRecDepth 100000 in
theorem k_X4_putCostOfMove (l : Launch) (D : va_G) (cA : ClassId) (q : Nat) (qw : Nat) (qc : Nat) (qn : Nat) (size : Nat) (mv : Nat) (v : Nat)  : Ctv l yX4_putCostOfMove cX4_putCostOfMove 2 none rm_k_X4_putCostOfMove D cA [.ref q, .int (nI v)] ([oY q qw qc qn size mv]) (fun (_ : Unit) => True) (fun _ => [oY q qw qc qn size v]) := by
  refine st_v (by decide) (Nat.le_of_ble_eq_true rfl) ?_
  intro p e s m args below meth c A Q E ret Z ls hl
  have hx := E.1.1
  have hb := E.1.2.1
  have hl : lv_has ls 2 [(0, .ref q), (1, .int (nI v))] := hl
  refine lv_aload_n hx hb dX4_putCostOfMove_0 rfl (lv_at hl 0 rfl) ?_
  refine lv_iload_n hx hb dX4_putCostOfMove_1 rfl (lv_at hl 1 rfl) ?_
  refine pF_X4_21 (w1 := [oY q qw qc qn size v]) E Z dX4_putCostOfMove_2 0 rfl (Nat.le_of_ble_eq_true rfl) rfl (fun H locs Z => ?_)
  exact ret () Z dX4_putCostOfMove_5 rfl trivial
abbrev rm_k_X4_leastTo : Room := { frames := 1, cells := 0, slots := 0, locals := 23 }
set_option maxHeartbeats 4000000 in
set_option maxRecDepth 100000 in
theorem k_X4_leastTo (l : Launch) (D : va_G) (cA : ClassId) (q : Nat) (qw : Nat) (qc : Nat) (qn : Nat) (size : Nat) (mv : Nat) (co : Nat → Nat) (qsh : Nat) (sh : Nat → Nat) (k : Nat) (hk : k < 4) (hco : ∀ j, co j ≤ 1000000) (hmv : mv ≤ 50) (hsh : ∀ j, sh j < 2 ^ 31) : Cti l yX4_leastTo cX4_leastTo 6 (some .int) rm_k_X4_leastTo D cA [.ref q, .int (nI k), .ref qsh] ([oY q qw qc qn size mv, aN cA qc 4 co, aN cA qsh 4 sh]) (fun (r : Int32) (_ : Unit) => r = nI (mn1 (cmv co sh mv k) 3)) (fun _ => [oY q qw qc qn size mv, aN cA qc 4 co, aN cA qsh 4 sh]) := by
  refine st_i (by decide) (Nat.le_of_ble_eq_true rfl) ?_
  intro p e s m args below meth c A Q E ret Z ls hl
  have hx := E.1.1
  have hb := E.1.2.1
  have hl : lv_has ls 6 [(0, .ref q), (1, .int (nI k)), (2, .ref qsh)] := hl
  refine lv_ldc (v := 1073741824) hx hb E.1.2.2.2.1 (E.1.2.2.2.2 _ mK_X4_44) dX4_leastTo_0 ?_
  refine r_top (y := nI 1073741824) (by decide) ?_
  refine lv_istore_n (lv' := [(3, .int (nI 1073741824)), (0, .ref q), (1, .int (nI k)), (2, .ref qsh)]) hx hb dX4_leastTo_2 rfl hl (by decide) rfl (fun ls hl => ?_)
  refine lv_iconst (v := nI 0) hx hb dX4_leastTo_3 (by decide) ?_
  refine lv_istore (lv' := [(4, .int (nI 0)), (3, .int (nI 1073741824)), (0, .ref q), (1, .int (nI k)), (2, .ref qsh)]) hx hb dX4_leastTo_4 hl (by decide) rfl (fun ls hl => ?_)
  have L6 : ∀ (n6 j : Nat), 4 + 1 ≤ j + n6 → j ≤ 4 → ∀ (H : Heap) (locs : List Loc), Wd D A s ([oY q qw qc qn size mv, aN cA qc 4 co, aN cA qsh 4 sh]) H locs → ∀ (ls : Array Slot), lv_has ls 6 [(0, .ref q), (1, .int (nI k)), (2, .ref qsh), (3, .int (nI (lts (cmv co sh mv k) j))), (4, .int (nI j))] → W p l e rm_k_X4_leastTo s m args below meth c H locs 0 0 Q (F0 m 6 ls []) := by
    intro n6
    induction n6 with
    | zero => exact fun j h1 h2 => absurd h1 (by omega)
    | succ n6 ih6 =>
      intro j hn6 hi6  H locs Z ls hl
      refine lv_iload hx hb dX4_leastTo_6 (lv_at hl 4 rfl) ?_
      refine lv_iconst (v := nI 4) hx hb dX4_leastTo_8 (by decide) ?_
      refine n_icmp_ge (tgt := 50) hx hb dX4_leastTo_9 (by decide) (by omega) (by omega) (fun c9 => ?_) (fun c9 => ?_)
      · obtain rfl : 4 = j := by omega
        refine lv_iload_n hx hb dX4_leastTo_50 rfl (lv_at hl 3 rfl) ?_
        exact ret () Z dX4_leastTo_51 rfl (congrArg nI (lts_mn (fun j => Nat.le_trans (cmv_le hco hmv k j) (by decide))))
      · refine lv_aload_n hx hb dX4_leastTo_12 rfl (lv_at hl 2 rfl) ?_
        refine lv_iload hx hb dX4_leastTo_13 (lv_at hl 4 rfl) ?_
        refine r_ald E Z dX4_leastTo_15 2 rfl (by omega) (by decide) ?_
        refine lv_aload_n hx hb dX4_leastTo_16 rfl (lv_at hl 2 rfl) ?_
        refine lv_iload_n hx hb dX4_leastTo_17 rfl (lv_at hl 1 rfl) ?_
        refine r_ald E Z dX4_leastTo_18 2 rfl (by omega) (by decide) ?_
        refine c_Si (As := [.int (nI (sh j)), .int (nI (sh k))]) (rest := []) (w2 := fun _ => [oY q qw qc qn size mv, aN cA qc 4 co, aN cA qsh 4 sh]) E Z (k_X0_moved l D cA (sh j) (sh k) (hsh _) (hsh _)) ws_X4_45 ⟨rfl, rfl, Nat.le_of_ble_eq_true rfl, Nat.le_of_ble_eq_true rfl⟩ [] rfl rfl (fun _ => rfl) (fun _ => rfl) rfl hl.1 rfl (Nat.le_of_ble_eq_true rfl) dX4_leastTo_19 ⟨Nat.zero_le _, Nat.zero_le _⟩ (fun r19 _ H locs hp19 Z => ?_)
        subst hp19
        refine lv_istore (lv' := [(5, .int (nI (sm (mv1 (sh j) (sh k)) 7))), (0, .ref q), (1, .int (nI k)), (2, .ref qsh), (3, .int (nI (lts (cmv co sh mv k) j))), (4, .int (nI j))]) hx hb dX4_leastTo_22 hl (by decide) rfl (fun ls hl => ?_)
        refine lv_iload_n hx hb dX4_leastTo_24 rfl (lv_at hl 4 rfl) ?_
        refine lv_aload_n hx hb dX4_leastTo_25 rfl (lv_at hl 1 rfl) ?_
        refine gF_X4_15 E Z dX4_leastTo_26 0 rfl rfl ?_
        refine lv_iload hx hb dX4_leastTo_29 (lv_at hl 5 rfl) ?_
        refine r_ald E Z dX4_leastTo_31 1 rfl (by omega) (by decide) ?_
        refine lv_aload_n hx hb dX4_leastTo_32 rfl (lv_at hl 1 rfl) ?_
        refine gF_X4_21 E Z dX4_leastTo_33 0 rfl rfl ?_
        refine lv_iload hx hb dX4_leastTo_36 (lv_at hl 0 rfl) ?_
        refine n_imul hx hb dX4_leastTo_38 ?_
        refine n_iadd hx hb dX4_leastTo_39 ?_
        have h1 := lts_le (cmv co sh mv k) j
        have h2 := cmv_le (sh := sh) (cg := mv) hco hmv k j
        refine r_top (y := nI (cmv co sh mv k j)) rfl ?_
        refine n_min E hl.1 mML_X4_38 dX4_leastTo_40 (Nat.le_of_ble_eq_true rfl) (Nat.le_of_ble_eq_true rfl) ⟨Nat.zero_le _, Nat.zero_le _⟩ (by omega) (by omega) ?_
        refine lv_istore_n (lv' := [(3, .int (nI (min (lts (cmv co sh mv k) j) (cmv co sh mv k j)))), (5, .int (nI (sm (mv1 (sh j) (sh k)) 7))), (0, .ref q), (1, .int (nI k)), (2, .ref qsh), (4, .int (nI j))]) hx hb dX4_leastTo_43 rfl hl (by decide) rfl (fun ls hl => ?_)
        refine lv_iinc (v := nI (j + 1)) (lv' := [(4, .int (nI (j + 1))), (3, .int (nI (min (lts (cmv co sh mv k) j) (cmv co sh mv k j)))), (5, .int (nI (sm (mv1 (sh j) (sh k)) 7))), (0, .ref q), (1, .int (nI k)), (2, .ref qsh)]) hx hb dX4_leastTo_44 hl (k := 5) rfl (n_inc _ _ (by decide)) (by decide) rfl (fun ls hl => ?_)
        refine lv_goto (tgt := 6) hx hb dX4_leastTo_47 (by decide) ?_
        exact ih6 (j + 1) (by omega) (by omega)   _ _ Z ls (lv_sub hl [3, 4, 5, 1, 0] rfl)
  exact L6 (4 + 1) 0 (by omega) (by omega)   _ _ Z ls (lv_sub hl [2, 3, 4, 1, 0] rfl)
abbrev rm_k_X4_cheapest : Room := { frames := 2, cells := 0, slots := 0, locals := 60 }
set_option maxHeartbeats 4000000 in
set_option maxRecDepth 100000 in
theorem k_X4_cheapest (l : Launch) (D : va_G) (cA : ClassId) (q : Nat) (qw : Nat) (qc : Nat) (qn : Nat) (size : Nat) (mv : Nat) (wt : Nat → Nat) (co : Nat → Nat) (nc : Nat → Nat) (qsh : Nat) (sh : Nat → Nat) (qsw : Nat) (sw : Nat → Nat) (hz : 1 ≤ size) (hz6 : size ≤ 6) (hwt : ∀ j, wt j < 10) (hsw : ∀ j, sw j < 5000) (hmv : mv ≤ 50) (hsh : ∀ j, sh j < 2 ^ 31) : Cti l yX4_cheapest cX4_cheapest 5 (some .int) rm_k_X4_cheapest D cA [.ref q, .ref qsh, .ref qsw] ([oY q qw qc qn size mv, aN cA qw 6 wt, aN cA qc 4 co, aN cA qn 4 nc, aN cA qsh 4 sh, aN cA qsw 4 sw]) (fun (r : Int32) (_ : (Nat → Nat) × (Nat → Nat)) => r = nI (mn1 (cyf wt sw sh mv (size - 1)) 3)) (fun u => [oY q qw qc qn size mv, aN cA qw 6 wt, aN cA qc 4 u.1, aN cA qn 4 u.2, aN cA qsh 4 sh, aN cA qsw 4 sw]) := by
  refine st_i (by decide) (Nat.le_of_ble_eq_true rfl) ?_
  intro p e s m args below meth c A Q E ret Z ls hl
  have hx := E.1.1
  have hb := E.1.2.1
  have hl : lv_has ls 5 [(0, .ref q), (1, .ref qsh), (2, .ref qsw)] := hl
  refine lv_iconst (v := nI 0) hx hb dX4_cheapest_0 (by decide) ?_
  refine lv_istore_n (lv' := [(3, .int (nI 0)), (0, .ref q), (1, .ref qsh), (2, .ref qsw)]) hx hb dX4_cheapest_1 rfl hl (by decide) rfl (fun ls hl => ?_)
  have L2 : ∀ (n2 i : Nat), 4 + 1 ≤ i + n2 → i ≤ 4 → ∀ (H : Heap) (locs : List Loc), Wd D A s ([oY q qw qc qn size mv, aN cA qw 6 wt, aN cA qc 4 (upTo (fun z => wt 0 * sw z) co i), aN cA qn 4 nc, aN cA qsh 4 sh, aN cA qsw 4 sw]) H locs → ∀ (ls : Array Slot), lv_has ls 5 [(0, .ref q), (1, .ref qsh), (2, .ref qsw), (3, .int (nI i))] → W p l e rm_k_X4_cheapest s m args below meth c H locs 0 0 Q (F0 m 2 ls []) := by
    intro n2
    induction n2 with
    | zero => exact fun i h1 h2 => absurd h1 (by omega)
    | succ n2 ih2 =>
      intro i hn2 hi2  H locs Z ls hl
      refine lv_iload_n hx hb dX4_cheapest_2 rfl (lv_at hl 3 rfl) ?_
      refine lv_iconst (v := nI 4) hx hb dX4_cheapest_3 (by decide) ?_
      refine n_icmp_ge (tgt := 29) hx hb dX4_cheapest_4 (by decide) (by omega) (by omega) (fun c4 => ?_) (fun c4 => ?_)
      · obtain rfl : 4 = i := by omega
        replace Z : Wd D A s ([oY q qw qc qn size mv, aN cA qw 6 wt, aN cA qc 4 (cyf wt sw sh mv 0), aN cA qn 4 nc, aN cA qsh 4 sh, aN cA qsw 4 sw]) _ _ := Z.norm 2 rfl (fun j hj => congrArg nI (upTo_at _ _ 4 j hj)) rfl
        refine lv_iconst (v := nI 1) hx hb dX4_cheapest_29 (by decide) ?_
        refine lv_istore_n (lv' := [(3, .int (nI 1)), (0, .ref q), (1, .ref qsh), (2, .ref qsw)]) hx hb dX4_cheapest_30 rfl hl (by decide) rfl (fun ls hl => ?_)
        have L31 : ∀ (n31 i : Nat), size - 1 + 1 ≤ i + n31 → i ≤ size - 1 → ∀ (nc : Nat → Nat), ∀ (H : Heap) (locs : List Loc), Wd D A s ([oY q qw qc qn size mv, aN cA qw 6 wt, aN cA qc 4 (cyf wt sw sh mv i), aN cA qn 4 nc, aN cA qsh 4 sh, aN cA qsw 4 sw]) H locs → ∀ (ls : Array Slot), lv_has ls 5 [(0, .ref q), (1, .ref qsh), (2, .ref qsw), (3, .int (nI (i + 1)))] → W p l e rm_k_X4_cheapest s m args below meth c H locs 0 0 Q (F0 m 31 ls []) := by
          intro n31
          induction n31 with
          | zero => exact fun i h1 h2 => absurd h1 (by omega)
          | succ n31 ih31 =>
            intro i hn31 hi31 nc  H locs Z ls hl
            have hcy : ∀ j, cyf wt sw sh mv i j ≤ 1000000 := fun j => Nat.le_trans (cyf_le hwt hsw hmv i j) (by omega)
            refine lv_iload_n hx hb dX4_cheapest_31 rfl (lv_at hl 3 rfl) ?_
            refine lv_aload_n hx hb dX4_cheapest_32 rfl (lv_at hl 0 rfl) ?_
            refine gF_X4_25 E Z dX4_cheapest_33 0 rfl rfl ?_
            refine n_icmp_ge (tgt := 100) hx hb dX4_cheapest_36 (by decide) (by omega) (by omega) (fun c36 => ?_) (fun c36 => ?_)
            · obtain rfl : size - 1 = i := by omega
              have hcl : ∀ j, cyf wt sw sh mv (size - 1) j ≤ 1000000 := fun j => Nat.le_trans (cyf_le hwt hsw hmv _ j) (by omega)
              refine lv_aload_n hx hb dX4_cheapest_100 rfl (lv_at hl 0 rfl) ?_
              refine gF_X4_15 E Z dX4_cheapest_101 0 rfl rfl ?_
              refine lv_iconst (v := nI 0) hx hb dX4_cheapest_104 (by decide) ?_
              refine r_ald E Z dX4_cheapest_105 2 rfl (by omega) (by decide) ?_
              refine lv_istore_n (lv' := [(3, .int (nI ((cyf wt sw sh mv (size - 1)) 0))), (0, .ref q), (1, .ref qsh), (2, .ref qsw)]) hx hb dX4_cheapest_106 rfl hl (by decide) rfl (fun ls hl => ?_)
              refine lv_iconst (v := nI 1) hx hb dX4_cheapest_107 (by decide) ?_
              refine lv_istore (lv' := [(4, .int (nI 1)), (3, .int (nI ((cyf wt sw sh mv (size - 1)) 0))), (0, .ref q), (1, .ref qsh), (2, .ref qsw)]) hx hb dX4_cheapest_108 hl (by decide) rfl (fun ls hl => ?_)
              have L110 : ∀ (n110 i : Nat), 3 + 1 ≤ i + n110 → i ≤ 3 → ∀ (H : Heap) (locs : List Loc), Wd D A s ([oY q qw qc qn size mv, aN cA qw 6 wt, aN cA qc 4 (cyf wt sw sh mv (size - 1)), aN cA qn 4 nc, aN cA qsh 4 sh, aN cA qsw 4 sw]) H locs → ∀ (ls : Array Slot), lv_has ls 5 [(0, .ref q), (1, .ref qsh), (2, .ref qsw), (3, .int (nI (mn1 (cyf wt sw sh mv (size - 1)) i))), (4, .int (nI (i + 1)))] → W p l e rm_k_X4_cheapest s m args below meth c H locs 0 0 Q (F0 m 110 ls []) := by
                intro n110
                induction n110 with
                | zero => exact fun i h1 h2 => absurd h1 (by omega)
                | succ n110 ih110 =>
                  intro i hn110 hi110  H locs Z ls hl
                  refine lv_iload hx hb dX4_cheapest_110 (lv_at hl 4 rfl) ?_
                  refine lv_iconst (v := nI 4) hx hb dX4_cheapest_112 (by decide) ?_
                  refine n_icmp_ge (tgt := 134) hx hb dX4_cheapest_113 (by decide) (by omega) (by omega) (fun c113 => ?_) (fun c113 => ?_)
                  · obtain rfl : 3 = i := by omega
                    refine lv_iload_n hx hb dX4_cheapest_134 rfl (lv_at hl 3 rfl) ?_
                    exact ret (_, _) Z dX4_cheapest_135 rfl rfl
                  · refine lv_iload_n hx hb dX4_cheapest_116 rfl (lv_at hl 3 rfl) ?_
                    refine lv_aload_n hx hb dX4_cheapest_117 rfl (lv_at hl 0 rfl) ?_
                    refine gF_X4_15 E Z dX4_cheapest_118 0 rfl rfl ?_
                    refine lv_iload hx hb dX4_cheapest_121 (lv_at hl 4 rfl) ?_
                    refine r_ald E Z dX4_cheapest_123 2 rfl (by omega) (by decide) ?_
                    have h1 := mn1_le (cyf wt sw sh mv (size - 1)) i
                    have h2 := hcl 0
                    have h3 := hcl (i + 1)
                    refine n_min E hl.1 mML_X4_38 dX4_cheapest_124 (Nat.le_of_ble_eq_true rfl) (Nat.le_of_ble_eq_true rfl) ⟨Nat.zero_le _, Nat.zero_le _⟩ (by omega) (by omega) ?_
                    refine lv_istore_n (lv' := [(3, .int (nI (min (mn1 (cyf wt sw sh mv (size - 1)) i) ((cyf wt sw sh mv (size - 1)) (i + 1))))), (0, .ref q), (1, .ref qsh), (2, .ref qsw), (4, .int (nI (i + 1)))]) hx hb dX4_cheapest_127 rfl hl (by decide) rfl (fun ls hl => ?_)
                    refine lv_iinc (v := nI (i + 1 + 1)) (lv' := [(4, .int (nI (i + 1 + 1))), (3, .int (nI (min (mn1 (cyf wt sw sh mv (size - 1)) i) ((cyf wt sw sh mv (size - 1)) (i + 1))))), (0, .ref q), (1, .ref qsh), (2, .ref qsw)]) hx hb dX4_cheapest_128 hl (k := 4) rfl (n_inc _ _ (by decide)) (by decide) rfl (fun ls hl => ?_)
                    refine lv_goto (tgt := 110) hx hb dX4_cheapest_131 (by decide) ?_
                    exact ih110 (i + 1) (by omega) (by omega)   _ _ Z ls (lv_sub hl [2, 3, 4, 1, 0] rfl)
              exact L110 (3 + 1) 0 (by omega) (by omega)   _ _ Z ls (lv_sub hl [2, 3, 4, 1, 0] rfl)
            · refine lv_iconst (v := nI 0) hx hb dX4_cheapest_39 (by decide) ?_
              refine lv_istore (lv' := [(4, .int (nI 0)), (0, .ref q), (1, .ref qsh), (2, .ref qsw), (3, .int (nI (i + 1)))]) hx hb dX4_cheapest_40 hl (by decide) rfl (fun ls hl => ?_)
              have L42 : ∀ (n42 k : Nat), 4 + 1 ≤ k + n42 → k ≤ 4 → ∀ (H : Heap) (locs : List Loc), Wd D A s ([oY q qw qc qn size mv, aN cA qw 6 wt, aN cA qc 4 (cyf wt sw sh mv i), aN cA qn 4 (upTo (fun z => mn1 (cmv (cyf wt sw sh mv i) sh mv z) 3 + wt (i + 1) * sw z) nc k), aN cA qsh 4 sh, aN cA qsw 4 sw]) H locs → ∀ (ls : Array Slot), lv_has ls 5 [(0, .ref q), (1, .ref qsh), (2, .ref qsw), (3, .int (nI (i + 1))), (4, .int (nI k))] → W p l e rm_k_X4_cheapest s m args below meth c H locs 0 0 Q (F0 m 42 ls []) := by
                intro n42
                induction n42 with
                | zero => exact fun k h1 h2 => absurd h1 (by omega)
                | succ n42 ih42 =>
                  intro k hn42 hi42  H locs Z ls hl
                  refine lv_iload hx hb dX4_cheapest_42 (lv_at hl 4 rfl) ?_
                  refine lv_iconst (v := nI 4) hx hb dX4_cheapest_44 (by decide) ?_
                  refine n_icmp_ge (tgt := 80) hx hb dX4_cheapest_45 (by decide) (by omega) (by omega) (fun c45 => ?_) (fun c45 => ?_)
                  · obtain rfl : 4 = k := by omega
                    refine lv_aload_n hx hb dX4_cheapest_80 rfl (lv_at hl 0 rfl) ?_
                    refine gF_X4_18 E Z dX4_cheapest_81 0 rfl rfl ?_
                    refine lv_iconst (v := nI 0) hx hb dX4_cheapest_84 (by decide) ?_
                    refine lv_aload_n hx hb dX4_cheapest_85 rfl (lv_at hl 0 rfl) ?_
                    refine gF_X4_15 E Z dX4_cheapest_86 0 rfl rfl ?_
                    refine lv_iconst (v := nI 0) hx hb dX4_cheapest_89 (by decide) ?_
                    refine lv_iconst (v := nI 4) hx hb dX4_cheapest_90 (by decide) ?_
                    refine c_copy4 (w1 := [oY q qw qc qn size mv, aN cA qw 6 wt, aN cA qc 4 (cyf wt sw sh mv (i + 1)), aN cA qn 4 (upTo (fun z => mn1 (cmv (cyf wt sw sh mv i) sh mv z) 3 + wt (i + 1) * sw z) nc 4), aN cA qsh 4 sh, aN cA qsw 4 sw]) E Z hl.1 mM_X4_32 dX4_cheapest_91 3 2 rfl rfl (fun j hj => congrArg nI (upTo_at _ _ 4 j hj)) rfl (Nat.le_of_ble_eq_true rfl) (Nat.le_of_ble_eq_true rfl) (fun H locs Z => ?_)
                    refine lv_iinc (v := nI (i + 1 + 1)) (lv' := [(3, .int (nI (i + 1 + 1))), (0, .ref q), (1, .ref qsh), (2, .ref qsw), (4, .int (nI 4))]) hx hb dX4_cheapest_94 hl (k := 3) rfl (n_inc _ _ (by decide)) (by decide) rfl (fun ls hl => ?_)
                    refine lv_goto (tgt := 31) hx hb dX4_cheapest_97 (by decide) ?_
                    exact ih31 (i + 1) (by omega) (by omega) _  _ _ Z ls (lv_sub hl [1, 2, 3, 0] rfl)
                  · refine lv_aload_n hx hb dX4_cheapest_48 rfl (lv_at hl 0 rfl) ?_
                    refine gF_X4_18 E Z dX4_cheapest_49 0 rfl rfl ?_
                    refine lv_iload hx hb dX4_cheapest_52 (lv_at hl 4 rfl) ?_
                    refine lv_aload_n hx hb dX4_cheapest_54 rfl (lv_at hl 0 rfl) ?_
                    refine lv_iload hx hb dX4_cheapest_55 (lv_at hl 4 rfl) ?_
                    refine lv_aload_n hx hb dX4_cheapest_57 rfl (lv_at hl 1 rfl) ?_
                    refine c_Vi (As := [.int (nI k), .ref qsh]) (rest := [.int (nI k), .ref qn]) (w2 := fun _ => [oY q qw qc qn size mv, aN cA qw 6 wt, aN cA qc 4 (cyf wt sw sh mv i), aN cA qn 4 (upTo (fun z => mn1 (cmv (cyf wt sw sh mv i) sh mv z) 3 + wt (i + 1) * sw z) nc k), aN cA qsh 4 sh, aN cA qsw 4 sw]) E Z (k_X4_leastTo l D cA q qw qc qn size mv (cyf wt sw sh mv i) qsh sh k (by first | assumption | omega) hcy (by first | assumption | omega) (by first | assumption | omega)) wv_X4_28 ⟨rfl, rfl, Nat.le_of_ble_eq_true rfl, Nat.le_of_ble_eq_true rfl⟩ [0, 2, 4] rfl rfl rfl rfl (q0 := 0) rfl (fun _ => rfl) (fun _ => rfl) rfl hl.1 rfl (Nat.le_of_ble_eq_true rfl) dX4_cheapest_58 ⟨Nat.zero_le _, Nat.zero_le _⟩ (fun r58 _ H locs hp58 Z => ?_)
                    subst hp58
                    refine lv_aload_n hx hb dX4_cheapest_61 rfl (lv_at hl 0 rfl) ?_
                    refine gF_X4_9 E Z dX4_cheapest_62 0 rfl rfl ?_
                    refine lv_iload_n hx hb dX4_cheapest_65 rfl (lv_at hl 3 rfl) ?_
                    refine r_ald E Z dX4_cheapest_66 1 rfl (by omega) (by decide) ?_
                    refine lv_aload_n hx hb dX4_cheapest_67 rfl (lv_at hl 2 rfl) ?_
                    refine lv_iload hx hb dX4_cheapest_68 (lv_at hl 4 rfl) ?_
                    refine r_ald E Z dX4_cheapest_70 5 rfl (by omega) (by decide) ?_
                    refine n_imul hx hb dX4_cheapest_71 ?_
                    refine n_iadd hx hb dX4_cheapest_72 ?_
                    refine r_ast (w1 := [oY q qw qc qn size mv, aN cA qw 6 wt, aN cA qc 4 (cyf wt sw sh mv i), aN cA qn 4 (up (upTo (fun z => mn1 (cmv (cyf wt sw sh mv i) sh mv z) 3 + wt (i + 1) * sw z) nc k) k (mn1 (cmv (cyf wt sw sh mv i) sh mv k) 3 + ((wt (i + 1)) * (sw k)))), aN cA qsh 4 sh, aN cA qsw 4 sw]) E Z dX4_cheapest_73 3 rfl (by omega) (by decide) rfl (fun H locs Z => ?_)
                    refine lv_iinc (v := nI (k + 1)) (lv' := [(4, .int (nI (k + 1))), (0, .ref q), (1, .ref qsh), (2, .ref qsw), (3, .int (nI (i + 1)))]) hx hb dX4_cheapest_74 hl (k := 4) rfl (n_inc _ _ (by decide)) (by decide) rfl (fun ls hl => ?_)
                    refine lv_goto (tgt := 42) hx hb dX4_cheapest_77 (by decide) ?_
                    exact ih42 (k + 1) (by omega) (by omega)   _ _ Z ls (lv_sub hl [1, 2, 3, 4, 0] rfl)
              exact L42 (4 + 1) 0 (by omega) (by omega)   _ _ Z ls (lv_sub hl [1, 2, 3, 4, 0] rfl)
        exact L31 ((size - 1) + 1) 0 (by omega) (by omega) _  _ _ Z ls (lv_sub hl [1, 2, 3, 0] rfl)
      · refine lv_aload_n hx hb dX4_cheapest_7 rfl (lv_at hl 0 rfl) ?_
        refine gF_X4_15 E Z dX4_cheapest_8 0 rfl rfl ?_
        refine lv_iload_n hx hb dX4_cheapest_11 rfl (lv_at hl 3 rfl) ?_
        refine lv_aload_n hx hb dX4_cheapest_12 rfl (lv_at hl 0 rfl) ?_
        refine gF_X4_9 E Z dX4_cheapest_13 0 rfl rfl ?_
        refine lv_iconst (v := nI 0) hx hb dX4_cheapest_16 (by decide) ?_
        refine r_ald E Z dX4_cheapest_17 1 rfl (by omega) (by decide) ?_
        refine lv_aload_n hx hb dX4_cheapest_18 rfl (lv_at hl 2 rfl) ?_
        refine lv_iload_n hx hb dX4_cheapest_19 rfl (lv_at hl 3 rfl) ?_
        refine r_ald E Z dX4_cheapest_20 5 rfl (by omega) (by decide) ?_
        refine n_imul hx hb dX4_cheapest_21 ?_
        refine r_ast (w1 := [oY q qw qc qn size mv, aN cA qw 6 wt, aN cA qc 4 (up (upTo (fun z => wt 0 * sw z) co i) i ((wt 0) * (sw i))), aN cA qn 4 nc, aN cA qsh 4 sh, aN cA qsw 4 sw]) E Z dX4_cheapest_22 2 rfl (by omega) (by decide) rfl (fun H locs Z => ?_)
        refine lv_iinc (v := nI (i + 1)) (lv' := [(3, .int (nI (i + 1))), (0, .ref q), (1, .ref qsh), (2, .ref qsw)]) hx hb dX4_cheapest_23 hl (k := 3) rfl (n_inc _ _ (by decide)) (by decide) rfl (fun ls hl => ?_)
        refine lv_goto (tgt := 2) hx hb dX4_cheapest_26 (by decide) ?_
        exact ih2 (i + 1) (by omega) (by omega)   _ _ Z ls (lv_sub hl [1, 2, 3, 0] rfl)
  exact L2 (4 + 1) 0 (by omega) (by omega)   _ _ Z ls (lv_sub hl [1, 2, 3, 0] rfl)

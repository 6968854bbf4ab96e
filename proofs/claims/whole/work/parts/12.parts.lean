abbrev rm_k_X1_begin : Room := { frames := 1, cells := 0, slots := 0, locals := 23 }
set_option maxHeartbeats 4000000 in
set_option maxRecDepth 100000 in
theorem k_X1_begin (l : Launch) (D : va_G) (cA : ClassId) (q : Nat) (qs : Nat) (qa : Nat) (size : Nat) (ch : Nat) (sets : Nat → Nat) (amts : Nat → Nat) (np : Nat)  : Ctv l yX1_begin cX1_begin 2 none rm_k_X1_begin D cA [.ref q, .int (nI np)] ([oP q qs qa size ch, aN cA qs 16 sets, aN cA qa 8 amts]) (fun (_ : Unit) => True) (fun _ => [oP q qs qa np 0, aN cA qs 16 (fun _ => 0), aN cA qa 8 (fun _ => 1)]) := by
  refine st_v (by decide) (Nat.le_of_ble_eq_true rfl) ?_
  intro p e s m args below meth c A Q E ret Z ls hl
  have hx := E.1.1
  have hb := E.1.2.1
  have hl : lv_has ls 2 [(0, .ref q), (1, .int (nI np))] := hl
  refine lv_aload_n hx hb dX1_begin_0 rfl (lv_at hl 0 rfl) ?_
  refine lv_iload_n hx hb dX1_begin_1 rfl (lv_at hl 1 rfl) ?_
  refine pF_X1_18 (w1 := [oP q qs qa np ch, aN cA qs 16 sets, aN cA qa 8 amts]) E Z dX1_begin_2 0 rfl (Nat.le_of_ble_eq_true rfl) rfl (fun H locs Z => ?_)
  refine lv_aload_n hx hb dX1_begin_5 rfl (lv_at hl 0 rfl) ?_
  refine lv_iconst (v := nI 0) hx hb dX1_begin_6 (by decide) ?_
  refine pF_X1_22 (w1 := [oP q qs qa np 0, aN cA qs 16 sets, aN cA qa 8 amts]) E Z dX1_begin_7 0 rfl (Nat.le_of_ble_eq_true rfl) rfl (fun H locs Z => ?_)
  refine lv_aload_n hx hb dX1_begin_10 rfl (lv_at hl 0 rfl) ?_
  refine gF_X1_9 E Z dX1_begin_11 0 rfl rfl ?_
  refine lv_iconst (v := nI 0) hx hb dX1_begin_14 (by decide) ?_
  refine c_Sv (As := [.ref qs, .int (nI 0)]) (rest := []) (w2 := fun _ => [oP q qs qa np 0, aN cA qs 16 (fun _ => 0), aN cA qa 8 amts]) E Z (k_J7_fill_53178 l D cA qs 16 sets 0 (by decide)) ws_X1_25 ⟨rfl, rfl, Nat.le_of_ble_eq_true rfl, Nat.le_of_ble_eq_true rfl⟩ [1] rfl rfl (fun _ => rfl) (fun _ => rfl) rfl hl.1 rfl (Nat.le_of_ble_eq_true rfl) dX1_begin_15 ⟨Nat.zero_le _, Nat.zero_le _⟩ (fun _ H locs hp15 Z => ?_)
  refine lv_aload_n hx hb dX1_begin_18 rfl (lv_at hl 0 rfl) ?_
  refine gF_X1_15 E Z dX1_begin_19 0 rfl rfl ?_
  refine lv_iconst (v := nI 1) hx hb dX1_begin_22 (by decide) ?_
  refine c_Sv (As := [.ref qa, .int (nI 1)]) (rest := []) (w2 := fun _ => [oP q qs qa np 0, aN cA qs 16 (fun _ => 0), aN cA qa 8 (fun _ => 1)]) E Z (k_J7_fill_53178 l D cA qa 8 amts 1 (by decide)) ws_X1_25 ⟨rfl, rfl, Nat.le_of_ble_eq_true rfl, Nat.le_of_ble_eq_true rfl⟩ [2] rfl rfl (fun _ => rfl) (fun _ => rfl) rfl hl.1 rfl (Nat.le_of_ble_eq_true rfl) dX1_begin_23 ⟨Nat.zero_le _, Nat.zero_le _⟩ (fun _ H locs hp23 Z => ?_)
  exact ret () Z dX1_begin_26 rfl trivial
abbrev rm_k_X1_howMany : Room := { frames := 0, cells := 0, slots := 0, locals := 0 }
set_option maxHeartbeats 4000000 in
set_option maxRecDepth 100000 in
theorem k_X1_howMany (l : Launch) (D : va_G) (cA : ClassId) (q : Nat) (qs : Nat) (qa : Nat) (size : Nat) (ch : Nat)  : Cti l yX1_howMany cX1_howMany 1 (some .int) rm_k_X1_howMany D cA [.ref q] ([oP q qs qa size ch]) (fun (r : Int32) (_ : Unit) => r = nI size) (fun _ => [oP q qs qa size ch]) := by
  refine st_i (by decide) (Nat.le_of_ble_eq_true rfl) ?_
  intro p e s m args below meth c A Q E ret Z ls hl
  have hx := E.1.1
  have hb := E.1.2.1
  have hl : lv_has ls 1 [(0, .ref q)] := hl
  refine lv_aload_n hx hb dX1_howMany_0 rfl (lv_at hl 0 rfl) ?_
  refine gF_X1_18 E Z dX1_howMany_1 0 rfl rfl ?_
  exact ret () Z dX1_howMany_4 rfl rfl
abbrev rm_k_X1_chosen : Room := { frames := 0, cells := 0, slots := 0, locals := 0 }
set_option maxHeartbeats 4000000 in
set_option maxRecDepth 100000 in
theorem k_X1_chosen (l : Launch) (D : va_G) (cA : ClassId) (q : Nat) (qs : Nat) (qa : Nat) (size : Nat) (ch : Nat)  : Cti l yX1_chosen cX1_chosen 1 (some .int) rm_k_X1_chosen D cA [.ref q] ([oP q qs qa size ch]) (fun (r : Int32) (_ : Unit) => r = nI ch) (fun _ => [oP q qs qa size ch]) := by
  refine st_i (by decide) (Nat.le_of_ble_eq_true rfl) ?_
  intro p e s m args below meth c A Q E ret Z ls hl
  have hx := E.1.1
  have hb := E.1.2.1
  have hl : lv_has ls 1 [(0, .ref q)] := hl
  refine lv_aload_n hx hb dX1_chosen_0 rfl (lv_at hl 0 rfl) ?_
  refine gF_X1_22 E Z dX1_chosen_1 0 rfl rfl ?_
  exact ret () Z dX1_chosen_4 rfl rfl
abbrev rm_k_X1_chosenBy : Room := { frames := 0, cells := 0, slots := 0, locals := 0 }
set_option maxHeartbeats 4000000 in
set_option maxRecDepth 100000 in
theorem k_X1_chosenBy (l : Launch) (D : va_G) (cA : ClassId) (q : Nat) (qs : Nat) (qa : Nat) (size : Nat) (ch : Nat) (k : Nat) (hch : ch < 256) (hk : k < 8) : Cti l yX1_chosenBy cX1_chosenBy 2 (some .int) rm_k_X1_chosenBy D cA [.ref q, .int (nI k)] ([oP q qs qa size ch]) (fun (r : Int32) (_ : Unit) => r = nI (bt ch k)) (fun _ => [oP q qs qa size ch]) := by
  refine st_i (by decide) (Nat.le_of_ble_eq_true rfl) ?_
  intro p e s m args below meth c A Q E ret Z ls hl
  have hx := E.1.1
  have hb := E.1.2.1
  have hl : lv_has ls 2 [(0, .ref q), (1, .int (nI k))] := hl
  refine lv_aload_n hx hb dX1_chosenBy_0 rfl (lv_at hl 0 rfl) ?_
  refine gF_X1_22 E Z dX1_chosenBy_1 0 rfl rfl ?_
  refine lv_iload_n hx hb dX1_chosenBy_4 rfl (lv_at hl 1 rfl) ?_
  refine n_ishr hx hb dX1_chosenBy_5 (by omega) (by omega) ?_
  refine lv_iconst (v := nI 1) hx hb dX1_chosenBy_6 (by decide) ?_
  refine n_iand1 hx hb dX1_chosenBy_7 ?_
  refine r_top (y := nI (bt ch k)) rfl ?_
  exact ret () Z dX1_chosenBy_8 rfl rfl
abbrev rm_k_X1_choose : Room := { frames := 0, cells := 0, slots := 0, locals := 0 }
set_option maxHeartbeats 4000000 in
set_option maxRecDepth 100000 in
theorem k_X1_choose (l : Launch) (D : va_G) (cA : ClassId) (q : Nat) (qs : Nat) (qa : Nat) (size : Nat) (ch : Nat) (k : Nat) (wh : Nat) (hch : ch < 256) (hk : k < 8) (hw : wh < 2) : Ctv l yX1_choose cX1_choose 3 none rm_k_X1_choose D cA [.ref q, .int (nI k), .int (nI wh)] ([oP q qs qa size ch]) (fun (_ : Unit) => True) (fun _ => [oP q qs qa size (setb ch k wh)]) := by
  refine st_v (by decide) (Nat.le_of_ble_eq_true rfl) ?_
  intro p e s m args below meth c A Q E ret Z ls hl
  have hx := E.1.1
  have hb := E.1.2.1
  have hl : lv_has ls 3 [(0, .ref q), (1, .int (nI k)), (2, .int (nI wh))] := hl
  refine lv_aload_n hx hb dX1_choose_0 rfl (lv_at hl 0 rfl) ?_
  refine lv_aload_n hx hb dX1_choose_1 rfl (lv_at hl 0 rfl) ?_
  refine gF_X1_22 E Z dX1_choose_2 0 rfl rfl ?_
  refine lv_iconst (v := nI 1) hx hb dX1_choose_5 (by decide) ?_
  refine lv_iload_n hx hb dX1_choose_6 rfl (lv_at hl 1 rfl) ?_
  refine n_ishl1 hx hb dX1_choose_7 (by omega) ?_
  refine lv_iconst (v := (-1)) hx hb dX1_choose_8 (by decide) ?_
  refine lv_ixor hx hb dX1_choose_9 ?_
  refine lv_iand hx hb dX1_choose_10 ?_
  refine lv_iload_n hx hb dX1_choose_11 rfl (lv_at hl 2 rfl) ?_
  refine lv_iload_n hx hb dX1_choose_12 rfl (lv_at hl 1 rfl) ?_
  refine n_ishl hx hb dX1_choose_13 (by omega) ?_
  refine lv_ior hx hb dX1_choose_14 ?_
  refine r_top (y := nI (setb ch k wh)) (nI_setb ch hch k hk wh hw) ?_
  refine pF_X1_22 (w1 := [oP q qs qa size (setb ch k wh)]) E Z dX1_choose_15 0 rfl (Nat.le_of_ble_eq_true rfl) rfl (fun H locs Z => ?_)
  exact ret () Z dX1_choose_18 rfl trivial
abbrev rm_k_X1_routeSet : Room := { frames := 0, cells := 0, slots := 0, locals := 0 }
set_option maxHeartbeats 4000000 in
set_option maxRecDepth 100000 in
theorem k_X1_routeSet (l : Launch) (D : va_G) (cA : ClassId) (q : Nat) (qs : Nat) (qa : Nat) (size : Nat) (ch : Nat) (sets : Nat → Nat) (k : Nat) (wh : Nat) (hk : k < 8) (hw : wh < 2) : Cti l yX1_routeSet cX1_routeSet 3 (some .int) rm_k_X1_routeSet D cA [.ref q, .int (nI k), .int (nI wh)] ([oP q qs qa size ch, aN cA qs 16 sets]) (fun (r : Int32) (_ : Unit) => r = nI (sets (2 * k + wh))) (fun _ => [oP q qs qa size ch, aN cA qs 16 sets]) := by
  refine st_i (by decide) (Nat.le_of_ble_eq_true rfl) ?_
  intro p e s m args below meth c A Q E ret Z ls hl
  have hx := E.1.1
  have hb := E.1.2.1
  have hl : lv_has ls 3 [(0, .ref q), (1, .int (nI k)), (2, .int (nI wh))] := hl
  refine lv_aload_n hx hb dX1_routeSet_0 rfl (lv_at hl 0 rfl) ?_
  refine gF_X1_9 E Z dX1_routeSet_1 0 rfl rfl ?_
  refine lv_iconst (v := nI 2) hx hb dX1_routeSet_4 (by decide) ?_
  refine lv_iload_n hx hb dX1_routeSet_5 rfl (lv_at hl 1 rfl) ?_
  refine n_imul hx hb dX1_routeSet_6 ?_
  refine lv_iload_n hx hb dX1_routeSet_7 rfl (lv_at hl 2 rfl) ?_
  refine n_iadd hx hb dX1_routeSet_8 ?_
  refine r_ald E Z dX1_routeSet_9 1 rfl (by omega) (by decide) ?_
  exact ret () Z dX1_routeSet_10 rfl rfl
abbrev rm_k_X1_putRouteSet : Room := { frames := 0, cells := 0, slots := 0, locals := 0 }
set_option maxHeartbeats 4000000 in
set_option maxRecDepth 100000 in
theorem k_X1_putRouteSet (l : Launch) (D : va_G) (cA : ClassId) (q : Nat) (qs : Nat) (qa : Nat) (size : Nat) (ch : Nat) (sets : Nat → Nat) (k : Nat) (wh : Nat) (st : Nat) (hk : k < 8) (hw : wh < 2) : Ctv l yX1_putRouteSet cX1_putRouteSet 4 none rm_k_X1_putRouteSet D cA [.ref q, .int (nI k), .int (nI wh), .int (nI st)] ([oP q qs qa size ch, aN cA qs 16 sets]) (fun (_ : Unit) => True) (fun _ => [oP q qs qa size ch, aN cA qs 16 (up sets (2 * k + wh) st)]) := by
  refine st_v (by decide) (Nat.le_of_ble_eq_true rfl) ?_
  intro p e s m args below meth c A Q E ret Z ls hl
  have hx := E.1.1
  have hb := E.1.2.1
  have hl : lv_has ls 4 [(0, .ref q), (1, .int (nI k)), (2, .int (nI wh)), (3, .int (nI st))] := hl
  refine lv_aload_n hx hb dX1_putRouteSet_0 rfl (lv_at hl 0 rfl) ?_
  refine gF_X1_9 E Z dX1_putRouteSet_1 0 rfl rfl ?_
  refine lv_iconst (v := nI 2) hx hb dX1_putRouteSet_4 (by decide) ?_
  refine lv_iload_n hx hb dX1_putRouteSet_5 rfl (lv_at hl 1 rfl) ?_
  refine n_imul hx hb dX1_putRouteSet_6 ?_
  refine lv_iload_n hx hb dX1_putRouteSet_7 rfl (lv_at hl 2 rfl) ?_
  refine n_iadd hx hb dX1_putRouteSet_8 ?_
  refine lv_iload_n hx hb dX1_putRouteSet_9 rfl (lv_at hl 3 rfl) ?_
  refine r_ast (w1 := [oP q qs qa size ch, aN cA qs 16 (up sets (2 * k + wh) st)]) E Z dX1_putRouteSet_10 1 rfl (by omega) (by decide) rfl (fun H locs Z => ?_)
  exact ret () Z dX1_putRouteSet_11 rfl trivial
abbrev rm_k_X1_setBy : Room := { frames := 0, cells := 0, slots := 0, locals := 0 }
set_option maxHeartbeats 4000000 in
set_option maxRecDepth 100000 in
theorem k_X1_setBy (l : Launch) (D : va_G) (cA : ClassId) (q : Nat) (qs : Nat) (qa : Nat) (size : Nat) (ch : Nat) (sets : Nat → Nat) (sc : Nat) (k : Nat) (hsc : sc < 256) (hk : k < 8) : Cti l yX1_setBy cX1_setBy 3 (some .int) rm_k_X1_setBy D cA [.ref q, .int (nI sc), .int (nI k)] ([oP q qs qa size ch, aN cA qs 16 sets]) (fun (r : Int32) (_ : Unit) => r = nI (setB sets sc k)) (fun _ => [oP q qs qa size ch, aN cA qs 16 sets]) := by
  refine st_i (by decide) (Nat.le_of_ble_eq_true rfl) ?_
  intro p e s m args below meth c A Q E ret Z ls hl
  have hx := E.1.1
  have hb := E.1.2.1
  have hl : lv_has ls 3 [(0, .ref q), (1, .int (nI sc)), (2, .int (nI k))] := hl
  refine lv_aload_n hx hb dX1_setBy_0 rfl (lv_at hl 0 rfl) ?_
  refine gF_X1_9 E Z dX1_setBy_1 0 rfl rfl ?_
  refine lv_iconst (v := nI 2) hx hb dX1_setBy_4 (by decide) ?_
  refine lv_iload_n hx hb dX1_setBy_5 rfl (lv_at hl 2 rfl) ?_
  refine n_imul hx hb dX1_setBy_6 ?_
  refine lv_iload_n hx hb dX1_setBy_7 rfl (lv_at hl 1 rfl) ?_
  refine lv_iload_n hx hb dX1_setBy_8 rfl (lv_at hl 2 rfl) ?_
  refine n_ishr hx hb dX1_setBy_9 (by omega) (by omega) ?_
  refine lv_iconst (v := nI 1) hx hb dX1_setBy_10 (by decide) ?_
  refine n_iand1 hx hb dX1_setBy_11 ?_
  refine r_top (y := nI (bt sc k)) rfl ?_
  have hbt := bt_lt sc k
  refine n_iadd hx hb dX1_setBy_12 ?_
  refine r_ald E Z dX1_setBy_13 1 rfl (by omega) (by decide) ?_
  exact ret () Z dX1_setBy_14 rfl rfl
abbrev rm_k_X1_setOf : Room := { frames := 1, cells := 0, slots := 0, locals := 22 }
set_option maxHeartbeats 4000000 in
set_option maxRecDepth 100000 in
theorem k_X1_setOf (l : Launch) (D : va_G) (cA : ClassId) (q : Nat) (qs : Nat) (qa : Nat) (size : Nat) (ch : Nat) (sets : Nat → Nat) (k : Nat) (hch : ch < 256) (hk : k < 8) : Cti l yX1_setOf cX1_setOf 2 (some .int) rm_k_X1_setOf D cA [.ref q, .int (nI k)] ([oP q qs qa size ch, aN cA qs 16 sets]) (fun (r : Int32) (_ : Unit) => r = nI (setB sets ch k)) (fun _ => [oP q qs qa size ch, aN cA qs 16 sets]) := by
  refine st_i (by decide) (Nat.le_of_ble_eq_true rfl) ?_
  intro p e s m args below meth c A Q E ret Z ls hl
  have hx := E.1.1
  have hb := E.1.2.1
  have hl : lv_has ls 2 [(0, .ref q), (1, .int (nI k))] := hl
  refine lv_aload_n hx hb dX1_setOf_0 rfl (lv_at hl 0 rfl) ?_
  refine lv_aload_n hx hb dX1_setOf_1 rfl (lv_at hl 0 rfl) ?_
  refine gF_X1_22 E Z dX1_setOf_2 0 rfl rfl ?_
  refine lv_iload_n hx hb dX1_setOf_5 rfl (lv_at hl 1 rfl) ?_
  refine c_Vi (As := [.int (nI ch), .int (nI k)]) (rest := []) (w2 := fun _ => [oP q qs qa size ch, aN cA qs 16 sets]) E Z (k_X1_setBy l D cA q qs qa size ch sets ch k (by first | assumption | omega) (by first | assumption | omega)) wv_X1_31 ⟨rfl, rfl, Nat.le_of_ble_eq_true rfl, Nat.le_of_ble_eq_true rfl⟩ [0, 1] rfl rfl rfl rfl (q0 := 0) rfl (fun _ => rfl) (fun _ => rfl) rfl hl.1 rfl (Nat.le_of_ble_eq_true rfl) dX1_setOf_6 ⟨Nat.zero_le _, Nat.zero_le _⟩ (fun r6 _ H locs hp6 Z => ?_)
  subst hp6
  exact ret () Z dX1_setOf_9 rfl rfl
abbrev rm_k_X1_piecesOf : Room := { frames := 0, cells := 0, slots := 0, locals := 0 }
set_option maxHeartbeats 4000000 in
set_option maxRecDepth 100000 in
theorem k_X1_piecesOf (l : Launch) (D : va_G) (cA : ClassId) (q : Nat) (qs : Nat) (qa : Nat) (size : Nat) (ch : Nat) (amts : Nat → Nat) (k : Nat) (hk : k < 8) : Cti l yX1_piecesOf cX1_piecesOf 2 (some .int) rm_k_X1_piecesOf D cA [.ref q, .int (nI k)] ([oP q qs qa size ch, aN cA qa 8 amts]) (fun (r : Int32) (_ : Unit) => r = nI (amts k)) (fun _ => [oP q qs qa size ch, aN cA qa 8 amts]) := by
  refine st_i (by decide) (Nat.le_of_ble_eq_true rfl) ?_
  intro p e s m args below meth c A Q E ret Z ls hl
  have hx := E.1.1
  have hb := E.1.2.1
  have hl : lv_has ls 2 [(0, .ref q), (1, .int (nI k))] := hl
  refine lv_aload_n hx hb dX1_piecesOf_0 rfl (lv_at hl 0 rfl) ?_
  refine gF_X1_15 E Z dX1_piecesOf_1 0 rfl rfl ?_
  refine lv_iload_n hx hb dX1_piecesOf_4 rfl (lv_at hl 1 rfl) ?_
  refine r_ald E Z dX1_piecesOf_5 1 rfl (by omega) (by decide) ?_
  exact ret () Z dX1_piecesOf_6 rfl rfl
abbrev rm_k_X1_putPieces : Room := { frames := 0, cells := 0, slots := 0, locals := 0 }
set_option maxHeartbeats 4000000 in
set_option maxRecDepth 100000 in
theorem k_X1_putPieces (l : Launch) (D : va_G) (cA : ClassId) (q : Nat) (qs : Nat) (qa : Nat) (size : Nat) (ch : Nat) (amts : Nat → Nat) (k : Nat) (am : Nat) (hk : k < 8) : Ctv l yX1_putPieces cX1_putPieces 3 none rm_k_X1_putPieces D cA [.ref q, .int (nI k), .int (nI am)] ([oP q qs qa size ch, aN cA qa 8 amts]) (fun (_ : Unit) => True) (fun _ => [oP q qs qa size ch, aN cA qa 8 (up amts k am)]) := by
  refine st_v (by decide) (Nat.le_of_ble_eq_true rfl) ?_
  intro p e s m args below meth c A Q E ret Z ls hl
  have hx := E.1.1
  have hb := E.1.2.1
  have hl : lv_has ls 3 [(0, .ref q), (1, .int (nI k)), (2, .int (nI am))] := hl
  refine lv_aload_n hx hb dX1_putPieces_0 rfl (lv_at hl 0 rfl) ?_
  refine gF_X1_15 E Z dX1_putPieces_1 0 rfl rfl ?_
  refine lv_iload_n hx hb dX1_putPieces_4 rfl (lv_at hl 1 rfl) ?_
  refine lv_iload_n hx hb dX1_putPieces_5 rfl (lv_at hl 2 rfl) ?_
  refine r_ast (w1 := [oP q qs qa size ch, aN cA qa 8 (up amts k am)]) E Z dX1_putPieces_6 1 rfl (by omega) (by decide) rfl (fun H locs Z => ?_)
  exact ret () Z dX1_putPieces_7 rfl trivial
abbrev rm_k_X1_hasMachine : Room := { frames := 0, cells := 0, slots := 0, locals := 0 }
set_option maxHeartbeats 4000000 in
set_option maxRecDepth 100000 in
theorem k_X1_hasMachine (l : Launch) (D : va_G) (cA : ClassId) (st : Nat) (k : Nat) (hst : st < 2 ^ 31) (hk : k < 32) : Cti l yX1_hasMachine cX1_hasMachine 2 (some .boolean) rm_k_X1_hasMachine D cA [.int (nI st), .int (nI k)] ([]) (fun (r : Int32) (_ : Unit) => r = bI (bt st k = 1)) (fun _ => []) := by
  refine st_z (by decide) (Nat.le_of_ble_eq_true rfl) ?_
  intro p e s m args below meth c A Q E ret Z ls hl
  have hx := E.1.1
  have hb := E.1.2.1
  have hl : lv_has ls 2 [(0, .int (nI st)), (1, .int (nI k))] := hl
  refine lv_iload_n hx hb dX1_hasMachine_0 rfl (lv_at hl 0 rfl) ?_
  refine lv_iload_n hx hb dX1_hasMachine_1 rfl (lv_at hl 1 rfl) ?_
  refine n_ishr hx hb dX1_hasMachine_2 (by omega) (by omega) ?_
  refine lv_iconst (v := nI 1) hx hb dX1_hasMachine_3 (by decide) ?_
  refine n_iand1 hx hb dX1_hasMachine_4 ?_
  refine r_top (y := nI (bt st k)) rfl ?_
  have hbt := bt_lt st k
  refine lv_iconst (v := nI 1) hx hb dX1_hasMachine_5 (by decide) ?_
  refine n_icmp_ne (tgt := 13) hx hb dX1_hasMachine_6 (by decide) (by omega) (by omega) (fun c6 => ?_) (fun c6 => ?_)
  · refine lv_iconst (v := nI 0) hx hb dX1_hasMachine_13 (by decide) ?_
    exact ret () Z dX1_hasMachine_14 (Or.inl nI_0) rfl (nI_0.trans (bI_f c6).symm)
  · refine lv_iconst (v := nI 1) hx hb dX1_hasMachine_9 (by decide) ?_
    refine lv_goto (tgt := 14) hx hb dX1_hasMachine_10 (by decide) ?_
    exact ret () Z dX1_hasMachine_14 (Or.inr nI_one) rfl (nI_one.trans (bI_t c6).symm)
abbrev rm_k_X1_wanderBy : Room := { frames := 3, cells := 0, slots := 0, locals := 66 }
set_option maxHeartbeats 4000000 in
set_option maxRecDepth 100000 in
theorem k_X1_wanderBy (l : Launch) (D : va_G) (cA : ClassId) (q : Nat) (qs : Nat) (qa : Nat) (size : Nat) (ch : Nat) (sets : Nat → Nat) (amts : Nat → Nat) (gq : Nat) (gm : Nat) (mc : Nat) (n : Nat) (mem : Nat → Nat) (sc : Nat) (hP : size ≤ 8) (hsc : sc < 256) (hs : ∀ j, sets j < 2 ^ mc) (hm0 : mOk mc n mem) (hM : mc ≤ 7) : Cti l yX1_wanderBy cX1_wanderBy 5 (some .int) rm_k_X1_wanderBy D cA [.ref q, .int (nI sc), .ref gq] ([oP q qs qa size ch, aN cA qs 16 sets, aN cA qa 8 amts, oG gq gm mc n, aN cA gm 4 mem]) (fun (r : Int32) (_ : Unit) => r = nI (sm (wdp mc n sets amts sc) size)) (fun _ => [oP q qs qa size ch, aN cA qs 16 sets, aN cA qa 8 amts, oG gq gm mc n, aN cA gm 4 mem]) := by
  refine st_i (by decide) (Nat.le_of_ble_eq_true rfl) ?_
  intro p e s m args below meth c A Q E ret Z ls hl
  have hx := E.1.1
  have hb := E.1.2.1
  have hl : lv_has ls 5 [(0, .ref q), (1, .int (nI sc)), (2, .ref gq)] := hl
  refine lv_iconst (v := nI 0) hx hb dX1_wanderBy_0 (by decide) ?_
  refine lv_istore_n (lv' := [(3, .int (nI 0)), (0, .ref q), (1, .int (nI sc)), (2, .ref gq)]) hx hb dX1_wanderBy_1 rfl hl (by decide) rfl (fun ls hl => ?_)
  refine lv_iconst (v := nI 0) hx hb dX1_wanderBy_2 (by decide) ?_
  refine lv_istore (lv' := [(4, .int (nI 0)), (3, .int (nI 0)), (0, .ref q), (1, .int (nI sc)), (2, .ref gq)]) hx hb dX1_wanderBy_3 hl (by decide) rfl (fun ls hl => ?_)
  have L5 : ∀ (n5 k : Nat), size + 1 ≤ k + n5 → k ≤ size → ∀ (H : Heap) (locs : List Loc), Wd D A s ([oP q qs qa size ch, aN cA qs 16 sets, aN cA qa 8 amts, oG gq gm mc n, aN cA gm 4 mem]) H locs → ∀ (ls : Array Slot), lv_has ls 5 [(0, .ref q), (1, .int (nI sc)), (2, .ref gq), (3, .int (nI (sm (wdp mc n sets amts sc) k))), (4, .int (nI k))] → W p l e rm_k_X1_wanderBy s m args below meth c H locs 0 0 Q (F0 m 5 ls []) := by
    intro n5
    induction n5 with
    | zero => exact fun k h1 h2 => absurd h1 (by omega)
    | succ n5 ih5 =>
      intro k hn5 hi5  H locs Z ls hl
      refine lv_iload hx hb dX1_wanderBy_5 (lv_at hl 4 rfl) ?_
      refine lv_aload_n hx hb dX1_wanderBy_7 rfl (lv_at hl 0 rfl) ?_
      refine gF_X1_18 E Z dX1_wanderBy_8 0 rfl rfl ?_
      refine n_icmp_ge (tgt := 42) hx hb dX1_wanderBy_11 (by decide) (by omega) (by omega) (fun c11 => ?_) (fun c11 => ?_)
      · obtain rfl : size = k := by omega
        refine lv_iload_n hx hb dX1_wanderBy_42 rfl (lv_at hl 3 rfl) ?_
        exact ret () Z dX1_wanderBy_43 rfl rfl
      · refine lv_iload_n hx hb dX1_wanderBy_14 rfl (lv_at hl 3 rfl) ?_
        refine lv_aload_n hx hb dX1_wanderBy_15 rfl (lv_at hl 0 rfl) ?_
        refine gF_X1_15 E Z dX1_wanderBy_16 0 rfl rfl ?_
        refine lv_iload hx hb dX1_wanderBy_19 (lv_at hl 4 rfl) ?_
        refine r_ald E Z dX1_wanderBy_21 2 rfl (by omega) (by decide) ?_
        refine lv_aload_n hx hb dX1_wanderBy_22 rfl (lv_at hl 2 rfl) ?_
        refine lv_aload_n hx hb dX1_wanderBy_23 rfl (lv_at hl 0 rfl) ?_
        refine lv_iload_n hx hb dX1_wanderBy_24 rfl (lv_at hl 1 rfl) ?_
        refine lv_iload hx hb dX1_wanderBy_25 (lv_at hl 4 rfl) ?_
        refine c_Vi (As := [.int (nI sc), .int (nI k)]) (rest := [.ref gq, .int (nI (amts k)), .int (nI (sm (wdp mc n sets amts sc) k))]) (w2 := fun _ => [oP q qs qa size ch, aN cA qs 16 sets, aN cA qa 8 amts, oG gq gm mc n, aN cA gm 4 mem]) E Z (k_X1_setBy l D cA q qs qa size ch sets sc k (by first | assumption | omega) (by first | assumption | omega)) wv_X1_31 ⟨rfl, rfl, Nat.le_of_ble_eq_true rfl, Nat.le_of_ble_eq_true rfl⟩ [0, 1] rfl rfl rfl rfl (q0 := 0) rfl (fun _ => rfl) (fun _ => rfl) rfl hl.1 rfl (Nat.le_of_ble_eq_true rfl) dX1_wanderBy_27 ⟨Nat.zero_le _, Nat.zero_le _⟩ (fun r27 _ H locs hp27 Z => ?_)
        subst hp27
        refine c_Vi (As := [.int (nI (setB sets sc k))]) (rest := [.int (nI (amts k)), .int (nI (sm (wdp mc n sets amts sc) k))]) (w2 := fun _ => [oP q qs qa size ch, aN cA qs 16 sets, aN cA qa 8 amts, oG gq gm mc n, aN cA gm 4 mem]) E Z (k_X0_wandersOf l D cA gq gm mc n mem (setB sets sc k) (by first | assumption | omega) (by first | assumption | omega) (hs _)) wv_X1_35 ⟨rfl, rfl, Nat.le_of_ble_eq_true rfl, Nat.le_of_ble_eq_true rfl⟩ [3, 4] rfl rfl rfl rfl (q0 := 0) rfl (fun _ => rfl) (fun _ => rfl) rfl hl.1 rfl (Nat.le_of_ble_eq_true rfl) dX1_wanderBy_30 ⟨Nat.zero_le _, Nat.zero_le _⟩ (fun r30 _ H locs hp30 Z => ?_)
        subst hp30
        refine n_imul hx hb dX1_wanderBy_33 ?_
        refine n_iadd hx hb dX1_wanderBy_34 ?_
        refine lv_istore_n (lv' := [(3, .int (nI (sm (wdp mc n sets amts sc) k + ((amts k) * (wn mc n (setB sets sc k)))))), (0, .ref q), (1, .int (nI sc)), (2, .ref gq), (4, .int (nI k))]) hx hb dX1_wanderBy_35 rfl hl (by decide) rfl (fun ls hl => ?_)
        refine lv_iinc (v := nI (k + 1)) (lv' := [(4, .int (nI (k + 1))), (3, .int (nI (sm (wdp mc n sets amts sc) k + ((amts k) * (wn mc n (setB sets sc k)))))), (0, .ref q), (1, .int (nI sc)), (2, .ref gq)]) hx hb dX1_wanderBy_36 hl (k := 4) rfl (n_inc _ _ (by decide)) (by decide) rfl (fun ls hl => ?_)
        refine lv_goto (tgt := 5) hx hb dX1_wanderBy_39 (by decide) ?_
        exact ih5 (k + 1) (by omega) (by omega)   _ _ Z ls (lv_sub hl [2, 3, 4, 1, 0] rfl)
  exact L5 (size + 1) 0 (by omega) (by omega)   _ _ Z ls (lv_sub hl [2, 3, 4, 1, 0] rfl)
abbrev rm_k_X1_idleOf : Room := { frames := 3, cells := 0, slots := 0, locals := 66 }
set_option maxHeartbeats 4000000 in
set_option maxRecDepth 100000 in
theorem k_X1_idleOf (l : Launch) (D : va_G) (cA : ClassId) (q : Nat) (qs : Nat) (qa : Nat) (size : Nat) (ch : Nat) (sets : Nat → Nat) (gq : Nat) (gm : Nat) (mc : Nat) (n : Nat) (mem : Nat → Nat) (hP : size ≤ 8) (hch : ch < 256) (hs : ∀ j, sets j < 2 ^ mc) (hm0 : mOk mc n mem) (hM : mc ≤ 7) : Cti l yX1_idleOf cX1_idleOf 4 (some .int) rm_k_X1_idleOf D cA [.ref q, .ref gq] ([oP q qs qa size ch, aN cA qs 16 sets, oG gq gm mc n, aN cA gm 4 mem]) (fun (r : Int32) (_ : Unit) => r = nI (sm (idp mc n sets ch) size)) (fun _ => [oP q qs qa size ch, aN cA qs 16 sets, oG gq gm mc n, aN cA gm 4 mem]) := by
  refine st_i (by decide) (Nat.le_of_ble_eq_true rfl) ?_
  intro p e s m args below meth c A Q E ret Z ls hl
  have hx := E.1.1
  have hb := E.1.2.1
  have hl : lv_has ls 4 [(0, .ref q), (1, .ref gq)] := hl
  refine lv_iconst (v := nI 0) hx hb dX1_idleOf_0 (by decide) ?_
  refine lv_istore_n (lv' := [(2, .int (nI 0)), (0, .ref q), (1, .ref gq)]) hx hb dX1_idleOf_1 rfl hl (by decide) rfl (fun ls hl => ?_)
  refine lv_iconst (v := nI 0) hx hb dX1_idleOf_2 (by decide) ?_
  refine lv_istore_n (lv' := [(3, .int (nI 0)), (2, .int (nI 0)), (0, .ref q), (1, .ref gq)]) hx hb dX1_idleOf_3 rfl hl (by decide) rfl (fun ls hl => ?_)
  have L4 : ∀ (n4 k : Nat), size + 1 ≤ k + n4 → k ≤ size → ∀ (H : Heap) (locs : List Loc), Wd D A s ([oP q qs qa size ch, aN cA qs 16 sets, oG gq gm mc n, aN cA gm 4 mem]) H locs → ∀ (ls : Array Slot), lv_has ls 4 [(0, .ref q), (1, .ref gq), (2, .int (nI (sm (idp mc n sets ch) k))), (3, .int (nI k))] → W p l e rm_k_X1_idleOf s m args below meth c H locs 0 0 Q (F0 m 4 ls []) := by
    intro n4
    induction n4 with
    | zero => exact fun k h1 h2 => absurd h1 (by omega)
    | succ n4 ih4 =>
      intro k hn4 hi4  H locs Z ls hl
      refine lv_iload_n hx hb dX1_idleOf_4 rfl (lv_at hl 3 rfl) ?_
      refine lv_aload_n hx hb dX1_idleOf_5 rfl (lv_at hl 0 rfl) ?_
      refine gF_X1_18 E Z dX1_idleOf_6 0 rfl rfl ?_
      refine n_icmp_ge (tgt := 30) hx hb dX1_idleOf_9 (by decide) (by omega) (by omega) (fun c9 => ?_) (fun c9 => ?_)
      · obtain rfl : size = k := by omega
        refine lv_iload_n hx hb dX1_idleOf_30 rfl (lv_at hl 2 rfl) ?_
        exact ret () Z dX1_idleOf_31 rfl rfl
      · refine lv_iload_n hx hb dX1_idleOf_12 rfl (lv_at hl 2 rfl) ?_
        refine lv_aload_n hx hb dX1_idleOf_13 rfl (lv_at hl 1 rfl) ?_
        refine lv_aload_n hx hb dX1_idleOf_14 rfl (lv_at hl 0 rfl) ?_
        refine lv_iload_n hx hb dX1_idleOf_15 rfl (lv_at hl 3 rfl) ?_
        refine c_Vi (As := [.int (nI k)]) (rest := [.ref gq, .int (nI (sm (idp mc n sets ch) k))]) (w2 := fun _ => [oP q qs qa size ch, aN cA qs 16 sets, oG gq gm mc n, aN cA gm 4 mem]) E Z (k_X1_setOf l D cA q qs qa size ch sets k (by first | assumption | omega) (by first | assumption | omega)) wv_X1_41 ⟨rfl, rfl, Nat.le_of_ble_eq_true rfl, Nat.le_of_ble_eq_true rfl⟩ [0, 1] rfl rfl rfl rfl (q0 := 0) rfl (fun _ => rfl) (fun _ => rfl) rfl hl.1 rfl (Nat.le_of_ble_eq_true rfl) dX1_idleOf_16 ⟨Nat.zero_le _, Nat.zero_le _⟩ (fun r16 _ H locs hp16 Z => ?_)
        subst hp16
        refine c_Vi (As := [.int (nI (setB sets ch k))]) (rest := [.int (nI (sm (idp mc n sets ch) k))]) (w2 := fun _ => [oP q qs qa size ch, aN cA qs 16 sets, oG gq gm mc n, aN cA gm 4 mem]) E Z (k_X0_idleOf l D cA gq gm mc n mem (setB sets ch k) (by first | assumption | omega) (by first | assumption | omega) (hs _)) wv_X1_44 ⟨rfl, rfl, Nat.le_of_ble_eq_true rfl, Nat.le_of_ble_eq_true rfl⟩ [2, 3] rfl rfl rfl rfl (q0 := 0) rfl (fun _ => rfl) (fun _ => rfl) rfl hl.1 rfl (Nat.le_of_ble_eq_true rfl) dX1_idleOf_19 ⟨Nat.zero_le _, Nat.zero_le _⟩ (fun r19 _ H locs hp19 Z => ?_)
        subst hp19
        refine n_iadd hx hb dX1_idleOf_22 ?_
        refine lv_istore_n (lv' := [(2, .int (nI (sm (idp mc n sets ch) k + (il mc n (setB sets ch k))))), (0, .ref q), (1, .ref gq), (3, .int (nI k))]) hx hb dX1_idleOf_23 rfl hl (by decide) rfl (fun ls hl => ?_)
        refine lv_iinc (v := nI (k + 1)) (lv' := [(3, .int (nI (k + 1))), (2, .int (nI (sm (idp mc n sets ch) k + (il mc n (setB sets ch k))))), (0, .ref q), (1, .ref gq)]) hx hb dX1_idleOf_24 hl (k := 3) rfl (n_inc _ _ (by decide)) (by decide) rfl (fun ls hl => ?_)
        refine lv_goto (tgt := 4) hx hb dX1_idleOf_27 (by decide) ?_
        exact ih4 (k + 1) (by omega) (by omega)   _ _ Z ls (lv_sub hl [2, 3, 1, 0] rfl)
  exact L4 (size + 1) 0 (by omega) (by omega)   _ _ Z ls (lv_sub hl [2, 3, 1, 0] rfl)
abbrev rm_k_X1_loadBy : Room := { frames := 1, cells := 0, slots := 0, locals := 22 }
set_option maxHeartbeats 4000000 in
set_option maxRecDepth 100000 in
theorem k_X1_loadBy (l : Launch) (D : va_G) (cA : ClassId) (q : Nat) (qs : Nat) (qa : Nat) (size : Nat) (ch : Nat) (sets : Nat → Nat) (amts : Nat → Nat) (sc : Nat) (mm : Nat) (hP : size ≤ 8) (hsc : sc < 256) (hs : ∀ j, sets j < 128) (hmm : mm < 32) : Cti l yX1_loadBy cX1_loadBy 5 (some .int) rm_k_X1_loadBy D cA [.ref q, .int (nI sc), .int (nI mm)] ([oP q qs qa size ch, aN cA qs 16 sets, aN cA qa 8 amts]) (fun (r : Int32) (_ : Unit) => r = nI (sm (ldp sets amts sc mm) size)) (fun _ => [oP q qs qa size ch, aN cA qs 16 sets, aN cA qa 8 amts]) := by
  refine st_i (by decide) (Nat.le_of_ble_eq_true rfl) ?_
  intro p e s m args below meth c A Q E ret Z ls hl
  have hx := E.1.1
  have hb := E.1.2.1
  have hl : lv_has ls 5 [(0, .ref q), (1, .int (nI sc)), (2, .int (nI mm))] := hl
  refine lv_iconst (v := nI 0) hx hb dX1_loadBy_0 (by decide) ?_
  refine lv_istore_n (lv' := [(3, .int (nI 0)), (0, .ref q), (1, .int (nI sc)), (2, .int (nI mm))]) hx hb dX1_loadBy_1 rfl hl (by decide) rfl (fun ls hl => ?_)
  refine lv_iconst (v := nI 0) hx hb dX1_loadBy_2 (by decide) ?_
  refine lv_istore (lv' := [(4, .int (nI 0)), (3, .int (nI 0)), (0, .ref q), (1, .int (nI sc)), (2, .int (nI mm))]) hx hb dX1_loadBy_3 hl (by decide) rfl (fun ls hl => ?_)
  have L5 : ∀ (n5 k : Nat), size + 1 ≤ k + n5 → k ≤ size → ∀ (H : Heap) (locs : List Loc), Wd D A s ([oP q qs qa size ch, aN cA qs 16 sets, aN cA qa 8 amts]) H locs → ∀ (ls : Array Slot), lv_has ls 5 [(0, .ref q), (1, .int (nI sc)), (2, .int (nI mm)), (3, .int (nI (sm (ldp sets amts sc mm) k))), (4, .int (nI k))] → W p l e rm_k_X1_loadBy s m args below meth c H locs 0 0 Q (F0 m 5 ls []) := by
    intro n5
    induction n5 with
    | zero => exact fun k h1 h2 => absurd h1 (by omega)
    | succ n5 ih5 =>
      intro k hn5 hi5  H locs Z ls hl
      refine lv_iload hx hb dX1_loadBy_5 (lv_at hl 4 rfl) ?_
      refine lv_aload_n hx hb dX1_loadBy_7 rfl (lv_at hl 0 rfl) ?_
      refine gF_X1_18 E Z dX1_loadBy_8 0 rfl rfl ?_
      refine n_icmp_ge (tgt := 44) hx hb dX1_loadBy_11 (by decide) (by omega) (by omega) (fun c11 => ?_) (fun c11 => ?_)
      · obtain rfl : size = k := by omega
        refine lv_iload_n hx hb dX1_loadBy_44 rfl (lv_at hl 3 rfl) ?_
        exact ret () Z dX1_loadBy_45 rfl rfl
      · refine lv_aload_n hx hb dX1_loadBy_14 rfl (lv_at hl 0 rfl) ?_
        refine lv_iload_n hx hb dX1_loadBy_15 rfl (lv_at hl 1 rfl) ?_
        refine lv_iload hx hb dX1_loadBy_16 (lv_at hl 4 rfl) ?_
        refine c_Vi (As := [.int (nI sc), .int (nI k)]) (rest := []) (w2 := fun _ => [oP q qs qa size ch, aN cA qs 16 sets, aN cA qa 8 amts]) E Z (k_X1_setBy l D cA q qs qa size ch sets sc k (by first | assumption | omega) (by first | assumption | omega)) wv_X1_31 ⟨rfl, rfl, Nat.le_of_ble_eq_true rfl, Nat.le_of_ble_eq_true rfl⟩ [0, 1] rfl rfl rfl rfl (q0 := 0) rfl (fun _ => rfl) (fun _ => rfl) rfl hl.1 rfl (Nat.le_of_ble_eq_true rfl) dX1_loadBy_18 ⟨Nat.zero_le _, Nat.zero_le _⟩ (fun r18 _ H locs hp18 Z => ?_)
        subst hp18
        refine lv_iload_n hx hb dX1_loadBy_21 rfl (lv_at hl 2 rfl) ?_
        refine c_Si (As := [.int (nI (setB sets sc k)), .int (nI mm)]) (rest := []) (w2 := fun _ => [oP q qs qa size ch, aN cA qs 16 sets, aN cA qa 8 amts]) E Z (k_X1_hasMachine l D cA (setB sets sc k) mm (Nat.lt_trans (hs _) (by decide)) (by first | assumption | omega)) ws_X1_47 ⟨rfl, rfl, Nat.le_of_ble_eq_true rfl, Nat.le_of_ble_eq_true rfl⟩ [] rfl rfl (fun _ => rfl) (fun _ => rfl) rfl hl.1 rfl (Nat.le_of_ble_eq_true rfl) dX1_loadBy_22 ⟨Nat.zero_le _, Nat.zero_le _⟩ (fun r22 _ H locs hp22 Z => ?_)
        subst hp22
        refine b_if_eq (tgt := 38) hx hb dX1_loadBy_25 (by decide) (fun c25 => ?_) (fun c25 => ?_)
        · replace hl : lv_has ls 5 [(0, .ref q), (1, .int (nI sc)), (2, .int (nI mm)), (3, .int (nI (sm (ldp sets amts sc mm) (k + 1)))), (4, .int (nI k))] := by rw [show sm (ldp sets amts sc mm) (k + 1) = sm (ldp sets amts sc mm) k from congrArg (sm (ldp sets amts sc mm) k + ·) (if_neg c25)]; exact hl
          refine lv_iinc (v := nI (k + 1)) (lv' := [(4, .int (nI (k + 1))), (0, .ref q), (1, .int (nI sc)), (2, .int (nI mm)), (3, .int (nI (sm (ldp sets amts sc mm) (k + 1))))]) hx hb dX1_loadBy_38 hl (k := 4) rfl (n_inc _ _ (by decide)) (by decide) rfl (fun ls hl => ?_)
          refine lv_goto (tgt := 5) hx hb dX1_loadBy_41 (by decide) ?_
          exact ih5 (k + 1) (by omega) (by omega)   _ _ Z ls (lv_sub hl [1, 2, 3, 4, 0] rfl)
        · refine lv_iload_n hx hb dX1_loadBy_28 rfl (lv_at hl 3 rfl) ?_
          refine lv_aload_n hx hb dX1_loadBy_29 rfl (lv_at hl 0 rfl) ?_
          refine gF_X1_15 E Z dX1_loadBy_30 0 rfl rfl ?_
          refine lv_iload hx hb dX1_loadBy_33 (lv_at hl 4 rfl) ?_
          refine r_ald E Z dX1_loadBy_35 2 rfl (by omega) (by decide) ?_
          refine n_iadd hx hb dX1_loadBy_36 ?_
          refine lv_istore_n (lv' := [(3, .int (nI (sm (ldp sets amts sc mm) k + (amts k)))), (0, .ref q), (1, .int (nI sc)), (2, .int (nI mm)), (4, .int (nI k))]) hx hb dX1_loadBy_37 rfl hl (by decide) rfl (fun ls hl => ?_)
          replace hl : lv_has ls 5 [(3, .int (nI (sm (ldp sets amts sc mm) (k + 1)))), (0, .ref q), (1, .int (nI sc)), (2, .int (nI mm)), (4, .int (nI k))] := by rw [show sm (ldp sets amts sc mm) (k + 1) = sm (ldp sets amts sc mm) k + (amts k) from congrArg (sm (ldp sets amts sc mm) k + ·) (if_pos c25)]; exact hl
          refine lv_iinc (v := nI (k + 1)) (lv' := [(4, .int (nI (k + 1))), (3, .int (nI (sm (ldp sets amts sc mm) (k + 1)))), (0, .ref q), (1, .int (nI sc)), (2, .int (nI mm))]) hx hb dX1_loadBy_38 hl (k := 4) rfl (n_inc _ _ (by decide)) (by decide) rfl (fun ls hl => ?_)
          refine lv_goto (tgt := 5) hx hb dX1_loadBy_41 (by decide) ?_
          exact ih5 (k + 1) (by omega) (by omega)   _ _ Z ls (lv_sub hl [2, 3, 4, 1, 0] rfl)
  exact L5 (size + 1) 0 (by omega) (by omega)   _ _ Z ls (lv_sub hl [2, 3, 4, 1, 0] rfl)
abbrev rm_k_X1_withBoth : Room := { frames := 1, cells := 0, slots := 0, locals := 22 }
set_option maxHeartbeats 4000000 in
set_option maxRecDepth 100000 in
theorem k_X1_withBoth (l : Launch) (D : va_G) (cA : ClassId) (q : Nat) (qs : Nat) (qa : Nat) (size : Nat) (ch : Nat) (sets : Nat → Nat) (a : Nat) (b : Nat) (hP : size ≤ 8) (hch : ch < 256) (hs : ∀ j, sets j < 128) (ha : a < 32) (hb0 : b < 32) : Cti l yX1_withBoth cX1_withBoth 6 (some .int) rm_k_X1_withBoth D cA [.ref q, .int (nI a), .int (nI b)] ([oP q qs qa size ch, aN cA qs 16 sets]) (fun (r : Int32) (_ : Unit) => r = nI (sm (bop sets ch a b) size)) (fun _ => [oP q qs qa size ch, aN cA qs 16 sets]) := by
  refine st_i (by decide) (Nat.le_of_ble_eq_true rfl) ?_
  intro p e s m args below meth c A Q E ret Z ls hl
  have hx := E.1.1
  have hb := E.1.2.1
  have hl : lv_has ls 6 [(0, .ref q), (1, .int (nI a)), (2, .int (nI b))] := hl
  refine lv_iconst (v := nI 0) hx hb dX1_withBoth_0 (by decide) ?_
  refine lv_istore_n (lv' := [(3, .int (nI 0)), (0, .ref q), (1, .int (nI a)), (2, .int (nI b))]) hx hb dX1_withBoth_1 rfl hl (by decide) rfl (fun ls hl => ?_)
  refine lv_iconst (v := nI 0) hx hb dX1_withBoth_2 (by decide) ?_
  refine lv_istore (lv' := [(4, .int (nI 0)), (3, .int (nI 0)), (0, .ref q), (1, .int (nI a)), (2, .int (nI b))]) hx hb dX1_withBoth_3 hl (by decide) rfl (fun ls hl => ?_)
  have L5 : ∀ (n5 k : Nat), size + 1 ≤ k + n5 → k ≤ size → ∀ (H : Heap) (locs : List Loc), Wd D A s ([oP q qs qa size ch, aN cA qs 16 sets]) H locs → ∀ (ls : Array Slot), lv_has ls 6 [(0, .ref q), (1, .int (nI a)), (2, .int (nI b)), (3, .int (nI (sm (bop sets ch a b) k))), (4, .int (nI k))] → W p l e rm_k_X1_withBoth s m args below meth c H locs 0 0 Q (F0 m 5 ls []) := by
    intro n5
    induction n5 with
    | zero => exact fun k h1 h2 => absurd h1 (by omega)
    | succ n5 ih5 =>
      intro k hn5 hi5  H locs Z ls hl
      refine lv_iload hx hb dX1_withBoth_5 (lv_at hl 4 rfl) ?_
      refine lv_aload_n hx hb dX1_withBoth_7 rfl (lv_at hl 0 rfl) ?_
      refine gF_X1_18 E Z dX1_withBoth_8 0 rfl rfl ?_
      refine n_icmp_ge (tgt := 53) hx hb dX1_withBoth_11 (by decide) (by omega) (by omega) (fun c11 => ?_) (fun c11 => ?_)
      · obtain rfl : size = k := by omega
        refine lv_iload_n hx hb dX1_withBoth_53 rfl (lv_at hl 3 rfl) ?_
        exact ret () Z dX1_withBoth_54 rfl rfl
      · refine lv_aload_n hx hb dX1_withBoth_14 rfl (lv_at hl 0 rfl) ?_
        refine lv_aload_n hx hb dX1_withBoth_15 rfl (lv_at hl 0 rfl) ?_
        refine gF_X1_22 E Z dX1_withBoth_16 0 rfl rfl ?_
        refine lv_iload hx hb dX1_withBoth_19 (lv_at hl 4 rfl) ?_
        refine c_Vi (As := [.int (nI ch), .int (nI k)]) (rest := []) (w2 := fun _ => [oP q qs qa size ch, aN cA qs 16 sets]) E Z (k_X1_setBy l D cA q qs qa size ch sets ch k (by first | assumption | omega) (by first | assumption | omega)) wv_X1_31 ⟨rfl, rfl, Nat.le_of_ble_eq_true rfl, Nat.le_of_ble_eq_true rfl⟩ [0, 1] rfl rfl rfl rfl (q0 := 0) rfl (fun _ => rfl) (fun _ => rfl) rfl hl.1 rfl (Nat.le_of_ble_eq_true rfl) dX1_withBoth_21 ⟨Nat.zero_le _, Nat.zero_le _⟩ (fun r21 _ H locs hp21 Z => ?_)
        subst hp21
        refine lv_istore (lv' := [(5, .int (nI (setB sets ch k))), (0, .ref q), (1, .int (nI a)), (2, .int (nI b)), (3, .int (nI (sm (bop sets ch a b) k))), (4, .int (nI k))]) hx hb dX1_withBoth_24 hl (by decide) rfl (fun ls hl => ?_)
        refine lv_iload hx hb dX1_withBoth_26 (lv_at hl 0 rfl) ?_
        refine lv_iload_n hx hb dX1_withBoth_28 rfl (lv_at hl 2 rfl) ?_
        refine c_Si (As := [.int (nI (setB sets ch k)), .int (nI a)]) (rest := []) (w2 := fun _ => [oP q qs qa size ch, aN cA qs 16 sets]) E Z (k_X1_hasMachine l D cA (setB sets ch k) a (Nat.lt_trans (hs _) (by decide)) (by first | assumption | omega)) ws_X1_47 ⟨rfl, rfl, Nat.le_of_ble_eq_true rfl, Nat.le_of_ble_eq_true rfl⟩ [] rfl rfl (fun _ => rfl) (fun _ => rfl) rfl hl.1 rfl (Nat.le_of_ble_eq_true rfl) dX1_withBoth_29 ⟨Nat.zero_le _, Nat.zero_le _⟩ (fun r29 _ H locs hp29 Z => ?_)
        subst hp29
        refine b_if_eq (tgt := 47) hx hb dX1_withBoth_32 (by decide) (fun c32 => ?_) (fun c32 => ?_)
        · replace hl : lv_has ls 6 [(5, .int (nI (setB sets ch k))), (0, .ref q), (1, .int (nI a)), (2, .int (nI b)), (3, .int (nI (sm (bop sets ch a b) (k + 1)))), (4, .int (nI k))] := by rw [show sm (bop sets ch a b) (k + 1) = sm (bop sets ch a b) k from congrArg (sm (bop sets ch a b) k + ·) (if_neg (fun h => c32 h.1))]; exact hl
          refine lv_iinc (v := nI (k + 1)) (lv' := [(4, .int (nI (k + 1))), (5, .int (nI (setB sets ch k))), (0, .ref q), (1, .int (nI a)), (2, .int (nI b)), (3, .int (nI (sm (bop sets ch a b) (k + 1))))]) hx hb dX1_withBoth_47 hl (k := 5) rfl (n_inc _ _ (by decide)) (by decide) rfl (fun ls hl => ?_)
          refine lv_goto (tgt := 5) hx hb dX1_withBoth_50 (by decide) ?_
          exact ih5 (k + 1) (by omega) (by omega)   _ _ Z ls (lv_sub hl [2, 3, 4, 5, 0] rfl)
        · refine lv_iload hx hb dX1_withBoth_35 (lv_at hl 0 rfl) ?_
          refine lv_iload_n hx hb dX1_withBoth_37 rfl (lv_at hl 3 rfl) ?_
          refine c_Si (As := [.int (nI (setB sets ch k)), .int (nI b)]) (rest := []) (w2 := fun _ => [oP q qs qa size ch, aN cA qs 16 sets]) E Z (k_X1_hasMachine l D cA (setB sets ch k) b (Nat.lt_trans (hs _) (by decide)) (by first | assumption | omega)) ws_X1_47 ⟨rfl, rfl, Nat.le_of_ble_eq_true rfl, Nat.le_of_ble_eq_true rfl⟩ [] rfl rfl (fun _ => rfl) (fun _ => rfl) rfl hl.1 rfl (Nat.le_of_ble_eq_true rfl) dX1_withBoth_38 ⟨Nat.zero_le _, Nat.zero_le _⟩ (fun r38 _ H locs hp38 Z => ?_)
          subst hp38
          refine b_if_eq (tgt := 47) hx hb dX1_withBoth_41 (by decide) (fun c41 => ?_) (fun c41 => ?_)
          · replace hl : lv_has ls 6 [(5, .int (nI (setB sets ch k))), (0, .ref q), (1, .int (nI a)), (2, .int (nI b)), (3, .int (nI (sm (bop sets ch a b) (k + 1)))), (4, .int (nI k))] := by rw [show sm (bop sets ch a b) (k + 1) = sm (bop sets ch a b) k from congrArg (sm (bop sets ch a b) k + ·) (if_neg (fun h => c41 h.2))]; exact hl
            refine lv_iinc (v := nI (k + 1)) (lv' := [(4, .int (nI (k + 1))), (5, .int (nI (setB sets ch k))), (0, .ref q), (1, .int (nI a)), (2, .int (nI b)), (3, .int (nI (sm (bop sets ch a b) (k + 1))))]) hx hb dX1_withBoth_47 hl (k := 5) rfl (n_inc _ _ (by decide)) (by decide) rfl (fun ls hl => ?_)
            refine lv_goto (tgt := 5) hx hb dX1_withBoth_50 (by decide) ?_
            exact ih5 (k + 1) (by omega) (by omega)   _ _ Z ls (lv_sub hl [2, 3, 4, 5, 0] rfl)
          · refine lv_iinc (v := nI (sm (bop sets ch a b) k + 1)) (lv' := [(3, .int (nI (sm (bop sets ch a b) k + 1))), (5, .int (nI (setB sets ch k))), (0, .ref q), (1, .int (nI a)), (2, .int (nI b)), (4, .int (nI k))]) hx hb dX1_withBoth_44 hl (k := 4) rfl (n_inc _ _ (by decide)) (by decide) rfl (fun ls hl => ?_)
            replace hl : lv_has ls 6 [(3, .int (nI (sm (bop sets ch a b) (k + 1)))), (5, .int (nI (setB sets ch k))), (0, .ref q), (1, .int (nI a)), (2, .int (nI b)), (4, .int (nI k))] := by rw [show sm (bop sets ch a b) (k + 1) = sm (bop sets ch a b) k + 1 from congrArg (sm (bop sets ch a b) k + ·) (if_pos ⟨c32, c41⟩)]; exact hl
            refine lv_iinc (v := nI (k + 1)) (lv' := [(4, .int (nI (k + 1))), (3, .int (nI (sm (bop sets ch a b) (k + 1)))), (5, .int (nI (setB sets ch k))), (0, .ref q), (1, .int (nI a)), (2, .int (nI b))]) hx hb dX1_withBoth_47 hl (k := 5) rfl (n_inc _ _ (by decide)) (by decide) rfl (fun ls hl => ?_)
            refine lv_goto (tgt := 5) hx hb dX1_withBoth_50 (by decide) ?_
            exact ih5 (k + 1) (by omega) (by omega)   _ _ Z ls (lv_sub hl [3, 4, 5, 1, 0] rfl)
  exact L5 (size + 1) 0 (by omega) (by omega)   _ _ Z ls (lv_sub hl [2, 3, 4, 1, 0] rfl)
abbrev rm_k_X1_withEither : Room := { frames := 1, cells := 0, slots := 0, locals := 22 }
set_option maxHeartbeats 4000000 in
set_option maxRecDepth 100000 in
theorem k_X1_withEither (l : Launch) (D : va_G) (cA : ClassId) (q : Nat) (qs : Nat) (qa : Nat) (size : Nat) (ch : Nat) (sets : Nat → Nat) (a : Nat) (b : Nat) (hP : size ≤ 8) (hch : ch < 256) (hs : ∀ j, sets j < 128) (ha : a < 32) (hb0 : b < 32) : Cti l yX1_withEither cX1_withEither 6 (some .int) rm_k_X1_withEither D cA [.ref q, .int (nI a), .int (nI b)] ([oP q qs qa size ch, aN cA qs 16 sets]) (fun (r : Int32) (_ : Unit) => r = nI (eith size sets ch a b)) (fun _ => [oP q qs qa size ch, aN cA qs 16 sets]) := by
  refine st_i (by decide) (Nat.le_of_ble_eq_true rfl) ?_
  intro p e s m args below meth c A Q E ret Z ls hl
  have hx := E.1.1
  have hb := E.1.2.1
  have hl : lv_has ls 6 [(0, .ref q), (1, .int (nI a)), (2, .int (nI b))] := hl
  refine lv_iconst (v := nI 0) hx hb dX1_withEither_0 (by decide) ?_
  refine lv_istore_n (lv' := [(3, .int (nI 0)), (0, .ref q), (1, .int (nI a)), (2, .int (nI b))]) hx hb dX1_withEither_1 rfl hl (by decide) rfl (fun ls hl => ?_)
  refine lv_iconst (v := nI 0) hx hb dX1_withEither_2 (by decide) ?_
  refine lv_istore (lv' := [(4, .int (nI 0)), (3, .int (nI 0)), (0, .ref q), (1, .int (nI a)), (2, .int (nI b))]) hx hb dX1_withEither_3 hl (by decide) rfl (fun ls hl => ?_)
  have L5 : ∀ (n5 k : Nat), size + 1 ≤ k + n5 → k ≤ size → ∀ (H : Heap) (locs : List Loc), Wd D A s ([oP q qs qa size ch, aN cA qs 16 sets]) H locs → ∀ (ls : Array Slot), lv_has ls 6 [(0, .ref q), (1, .int (nI a)), (2, .int (nI b)), (3, .int (nI (sm (eip sets ch a b) k))), (4, .int (nI k))] → W p l e rm_k_X1_withEither s m args below meth c H locs 0 0 Q (F0 m 5 ls []) := by
    intro n5
    induction n5 with
    | zero => exact fun k h1 h2 => absurd h1 (by omega)
    | succ n5 ih5 =>
      intro k hn5 hi5  H locs Z ls hl
      refine lv_iload hx hb dX1_withEither_5 (lv_at hl 4 rfl) ?_
      refine lv_aload_n hx hb dX1_withEither_7 rfl (lv_at hl 0 rfl) ?_
      refine gF_X1_18 E Z dX1_withEither_8 0 rfl rfl ?_
      refine n_icmp_ge (tgt := 53) hx hb dX1_withEither_11 (by decide) (by omega) (by omega) (fun c11 => ?_) (fun c11 => ?_)
      · obtain rfl : size = k := by omega
        refine lv_iload_n hx hb dX1_withEither_53 rfl (lv_at hl 3 rfl) ?_
        refine lv_iconst (v := nI 1) hx hb dX1_withEither_54 (by decide) ?_
        have hbd : sm (eip sets ch a b) size ≤ size * 1 := sm_bd (fun m _ => by unfold eip; split <;> omega)
        refine n_max E hl.1 mML_X1_51 dX1_withEither_55 (Nat.le_of_ble_eq_true rfl) (Nat.le_of_ble_eq_true rfl) ⟨Nat.zero_le _, Nat.zero_le _⟩ (by omega) (by omega) ?_
        exact ret () Z dX1_withEither_58 rfl rfl
      · refine lv_aload_n hx hb dX1_withEither_14 rfl (lv_at hl 0 rfl) ?_
        refine lv_aload_n hx hb dX1_withEither_15 rfl (lv_at hl 0 rfl) ?_
        refine gF_X1_22 E Z dX1_withEither_16 0 rfl rfl ?_
        refine lv_iload hx hb dX1_withEither_19 (lv_at hl 4 rfl) ?_
        refine c_Vi (As := [.int (nI ch), .int (nI k)]) (rest := []) (w2 := fun _ => [oP q qs qa size ch, aN cA qs 16 sets]) E Z (k_X1_setBy l D cA q qs qa size ch sets ch k (by first | assumption | omega) (by first | assumption | omega)) wv_X1_31 ⟨rfl, rfl, Nat.le_of_ble_eq_true rfl, Nat.le_of_ble_eq_true rfl⟩ [0, 1] rfl rfl rfl rfl (q0 := 0) rfl (fun _ => rfl) (fun _ => rfl) rfl hl.1 rfl (Nat.le_of_ble_eq_true rfl) dX1_withEither_21 ⟨Nat.zero_le _, Nat.zero_le _⟩ (fun r21 _ H locs hp21 Z => ?_)
        subst hp21
        refine lv_istore (lv' := [(5, .int (nI (setB sets ch k))), (0, .ref q), (1, .int (nI a)), (2, .int (nI b)), (3, .int (nI (sm (eip sets ch a b) k))), (4, .int (nI k))]) hx hb dX1_withEither_24 hl (by decide) rfl (fun ls hl => ?_)
        refine lv_iload hx hb dX1_withEither_26 (lv_at hl 0 rfl) ?_
        refine lv_iload_n hx hb dX1_withEither_28 rfl (lv_at hl 2 rfl) ?_
        refine c_Si (As := [.int (nI (setB sets ch k)), .int (nI a)]) (rest := []) (w2 := fun _ => [oP q qs qa size ch, aN cA qs 16 sets]) E Z (k_X1_hasMachine l D cA (setB sets ch k) a (Nat.lt_trans (hs _) (by decide)) (by first | assumption | omega)) ws_X1_47 ⟨rfl, rfl, Nat.le_of_ble_eq_true rfl, Nat.le_of_ble_eq_true rfl⟩ [] rfl rfl (fun _ => rfl) (fun _ => rfl) rfl hl.1 rfl (Nat.le_of_ble_eq_true rfl) dX1_withEither_29 ⟨Nat.zero_le _, Nat.zero_le _⟩ (fun r29 _ H locs hp29 Z => ?_)
        subst hp29
        refine b_if_ne (tgt := 44) hx hb dX1_withEither_32 (by decide) (fun c32 => ?_) (fun c32 => ?_)
        · refine lv_iinc (v := nI (sm (eip sets ch a b) k + 1)) (lv' := [(3, .int (nI (sm (eip sets ch a b) k + 1))), (5, .int (nI (setB sets ch k))), (0, .ref q), (1, .int (nI a)), (2, .int (nI b)), (4, .int (nI k))]) hx hb dX1_withEither_44 hl (k := 4) rfl (n_inc _ _ (by decide)) (by decide) rfl (fun ls hl => ?_)
          replace hl : lv_has ls 6 [(3, .int (nI (sm (eip sets ch a b) (k + 1)))), (5, .int (nI (setB sets ch k))), (0, .ref q), (1, .int (nI a)), (2, .int (nI b)), (4, .int (nI k))] := by rw [show sm (eip sets ch a b) (k + 1) = sm (eip sets ch a b) k + 1 from congrArg (sm (eip sets ch a b) k + ·) (if_pos (Or.inl c32))]; exact hl
          refine lv_iinc (v := nI (k + 1)) (lv' := [(4, .int (nI (k + 1))), (3, .int (nI (sm (eip sets ch a b) (k + 1)))), (5, .int (nI (setB sets ch k))), (0, .ref q), (1, .int (nI a)), (2, .int (nI b))]) hx hb dX1_withEither_47 hl (k := 5) rfl (n_inc _ _ (by decide)) (by decide) rfl (fun ls hl => ?_)
          refine lv_goto (tgt := 5) hx hb dX1_withEither_50 (by decide) ?_
          exact ih5 (k + 1) (by omega) (by omega)   _ _ Z ls (lv_sub hl [3, 4, 5, 1, 0] rfl)
        · refine lv_iload hx hb dX1_withEither_35 (lv_at hl 0 rfl) ?_
          refine lv_iload_n hx hb dX1_withEither_37 rfl (lv_at hl 3 rfl) ?_
          refine c_Si (As := [.int (nI (setB sets ch k)), .int (nI b)]) (rest := []) (w2 := fun _ => [oP q qs qa size ch, aN cA qs 16 sets]) E Z (k_X1_hasMachine l D cA (setB sets ch k) b (Nat.lt_trans (hs _) (by decide)) (by first | assumption | omega)) ws_X1_47 ⟨rfl, rfl, Nat.le_of_ble_eq_true rfl, Nat.le_of_ble_eq_true rfl⟩ [] rfl rfl (fun _ => rfl) (fun _ => rfl) rfl hl.1 rfl (Nat.le_of_ble_eq_true rfl) dX1_withEither_38 ⟨Nat.zero_le _, Nat.zero_le _⟩ (fun r38 _ H locs hp38 Z => ?_)
          subst hp38
          refine b_if_eq (tgt := 47) hx hb dX1_withEither_41 (by decide) (fun c41 => ?_) (fun c41 => ?_)
          · replace hl : lv_has ls 6 [(5, .int (nI (setB sets ch k))), (0, .ref q), (1, .int (nI a)), (2, .int (nI b)), (3, .int (nI (sm (eip sets ch a b) (k + 1)))), (4, .int (nI k))] := by rw [show sm (eip sets ch a b) (k + 1) = sm (eip sets ch a b) k from congrArg (sm (eip sets ch a b) k + ·) (if_neg (fun h => h.elim c32 c41))]; exact hl
            refine lv_iinc (v := nI (k + 1)) (lv' := [(4, .int (nI (k + 1))), (5, .int (nI (setB sets ch k))), (0, .ref q), (1, .int (nI a)), (2, .int (nI b)), (3, .int (nI (sm (eip sets ch a b) (k + 1))))]) hx hb dX1_withEither_47 hl (k := 5) rfl (n_inc _ _ (by decide)) (by decide) rfl (fun ls hl => ?_)
            refine lv_goto (tgt := 5) hx hb dX1_withEither_50 (by decide) ?_
            exact ih5 (k + 1) (by omega) (by omega)   _ _ Z ls (lv_sub hl [2, 3, 4, 5, 0] rfl)
          · refine lv_iinc (v := nI (sm (eip sets ch a b) k + 1)) (lv' := [(3, .int (nI (sm (eip sets ch a b) k + 1))), (5, .int (nI (setB sets ch k))), (0, .ref q), (1, .int (nI a)), (2, .int (nI b)), (4, .int (nI k))]) hx hb dX1_withEither_44 hl (k := 4) rfl (n_inc _ _ (by decide)) (by decide) rfl (fun ls hl => ?_)
            replace hl : lv_has ls 6 [(3, .int (nI (sm (eip sets ch a b) (k + 1)))), (5, .int (nI (setB sets ch k))), (0, .ref q), (1, .int (nI a)), (2, .int (nI b)), (4, .int (nI k))] := by rw [show sm (eip sets ch a b) (k + 1) = sm (eip sets ch a b) k + 1 from congrArg (sm (eip sets ch a b) k + ·) (if_pos (Or.inr c41))]; exact hl
            refine lv_iinc (v := nI (k + 1)) (lv' := [(4, .int (nI (k + 1))), (3, .int (nI (sm (eip sets ch a b) (k + 1)))), (5, .int (nI (setB sets ch k))), (0, .ref q), (1, .int (nI a)), (2, .int (nI b))]) hx hb dX1_withEither_47 hl (k := 5) rfl (n_inc _ _ (by decide)) (by decide) rfl (fun ls hl => ?_)
            refine lv_goto (tgt := 5) hx hb dX1_withEither_50 (by decide) ?_
            exact ih5 (k + 1) (by omega) (by omega)   _ _ Z ls (lv_sub hl [3, 4, 5, 1, 0] rfl)
  exact L5 (size + 1) 0 (by omega) (by omega)   _ _ Z ls (lv_sub hl [2, 3, 4, 1, 0] rfl)
abbrev rm_k_X1_keptHome : Room := { frames := 2, cells := 0, slots := 0, locals := 45 }
set_option maxHeartbeats 4000000 in
set_option maxRecDepth 100000 in
theorem k_X1_keptHome (l : Launch) (D : va_G) (cA : ClassId) (q : Nat) (qs : Nat) (qa : Nat) (size : Nat) (ch : Nat) (sets : Nat → Nat) (amts : Nat → Nat) (gq : Nat) (gm : Nat) (mc : Nat) (n : Nat) (mem : Nat → Nat) (mm : Nat) (d : Nat) (hP : size ≤ 8) (hch : ch < 256) (hs : ∀ j, sets j < 128) (hmm : mm < 32) (hd : d < 4) (hm0 : mOk mc n mem) (hM : mc ≤ 7) : Cti l yX1_keptHome cX1_keptHome 7 (some .int) rm_k_X1_keptHome D cA [.ref q, .int (nI mm), .int (nI d), .ref gq] ([oP q qs qa size ch, aN cA qs 16 sets, aN cA qa 8 amts, oG gq gm mc n, aN cA gm 4 mem]) (fun (r : Int32) (_ : Unit) => r = nI (sm (kpp mc n sets amts ch mm d) size)) (fun _ => [oP q qs qa size ch, aN cA qs 16 sets, aN cA qa 8 amts, oG gq gm mc n, aN cA gm 4 mem]) := by
  refine st_i (by decide) (Nat.le_of_ble_eq_true rfl) ?_
  intro p e s m args below meth c A Q E ret Z ls hl
  have hx := E.1.1
  have hb := E.1.2.1
  have hl : lv_has ls 7 [(0, .ref q), (1, .int (nI mm)), (2, .int (nI d)), (3, .ref gq)] := hl
  refine lv_iconst (v := nI 0) hx hb dX1_keptHome_0 (by decide) ?_
  refine lv_istore (lv' := [(4, .int (nI 0)), (0, .ref q), (1, .int (nI mm)), (2, .int (nI d)), (3, .ref gq)]) hx hb dX1_keptHome_1 hl (by decide) rfl (fun ls hl => ?_)
  refine lv_iconst (v := nI 0) hx hb dX1_keptHome_3 (by decide) ?_
  refine lv_istore (lv' := [(5, .int (nI 0)), (4, .int (nI 0)), (0, .ref q), (1, .int (nI mm)), (2, .int (nI d)), (3, .ref gq)]) hx hb dX1_keptHome_4 hl (by decide) rfl (fun ls hl => ?_)
  have L6 : ∀ (n6 k : Nat), size + 1 ≤ k + n6 → k ≤ size → ∀ (H : Heap) (locs : List Loc), Wd D A s ([oP q qs qa size ch, aN cA qs 16 sets, aN cA qa 8 amts, oG gq gm mc n, aN cA gm 4 mem]) H locs → ∀ (ls : Array Slot), lv_has ls 7 [(0, .ref q), (1, .int (nI mm)), (2, .int (nI d)), (3, .ref gq), (4, .int (nI (sm (kpp mc n sets amts ch mm d) k))), (5, .int (nI k))] → W p l e rm_k_X1_keptHome s m args below meth c H locs 0 0 Q (F0 m 6 ls []) := by
    intro n6
    induction n6 with
    | zero => exact fun k h1 h2 => absurd h1 (by omega)
    | succ n6 ih6 =>
      intro k hn6 hi6  H locs Z ls hl
      refine lv_iload hx hb dX1_keptHome_6 (lv_at hl 5 rfl) ?_
      refine lv_aload_n hx hb dX1_keptHome_8 rfl (lv_at hl 0 rfl) ?_
      refine gF_X1_18 E Z dX1_keptHome_9 0 rfl rfl ?_
      refine n_icmp_ge (tgt := 60) hx hb dX1_keptHome_12 (by decide) (by omega) (by omega) (fun c12 => ?_) (fun c12 => ?_)
      · obtain rfl : size = k := by omega
        refine lv_iload hx hb dX1_keptHome_60 (lv_at hl 4 rfl) ?_
        exact ret () Z dX1_keptHome_62 rfl rfl
      · refine lv_aload_n hx hb dX1_keptHome_15 rfl (lv_at hl 0 rfl) ?_
        refine lv_iload hx hb dX1_keptHome_16 (lv_at hl 5 rfl) ?_
        refine c_Vi (As := [.int (nI k)]) (rest := []) (w2 := fun _ => [oP q qs qa size ch, aN cA qs 16 sets, aN cA qa 8 amts, oG gq gm mc n, aN cA gm 4 mem]) E Z (k_X1_setOf l D cA q qs qa size ch sets k (by first | assumption | omega) (by first | assumption | omega)) wv_X1_41 ⟨rfl, rfl, Nat.le_of_ble_eq_true rfl, Nat.le_of_ble_eq_true rfl⟩ [0, 1] rfl rfl rfl rfl (q0 := 0) rfl (fun _ => rfl) (fun _ => rfl) rfl hl.1 rfl (Nat.le_of_ble_eq_true rfl) dX1_keptHome_18 ⟨Nat.zero_le _, Nat.zero_le _⟩ (fun r18 _ H locs hp18 Z => ?_)
        subst hp18
        refine lv_istore (lv' := [(6, .int (nI (setB sets ch k))), (0, .ref q), (1, .int (nI mm)), (2, .int (nI d)), (3, .ref gq), (4, .int (nI (sm (kpp mc n sets amts ch mm d) k))), (5, .int (nI k))]) hx hb dX1_keptHome_21 hl (by decide) rfl (fun ls hl => ?_)
        refine lv_iload hx hb dX1_keptHome_23 (lv_at hl 0 rfl) ?_
        refine lv_iload_n hx hb dX1_keptHome_25 rfl (lv_at hl 2 rfl) ?_
        refine c_Si (As := [.int (nI (setB sets ch k)), .int (nI mm)]) (rest := []) (w2 := fun _ => [oP q qs qa size ch, aN cA qs 16 sets, aN cA qa 8 amts, oG gq gm mc n, aN cA gm 4 mem]) E Z (k_X1_hasMachine l D cA (setB sets ch k) mm (Nat.lt_trans (hs _) (by decide)) (by first | assumption | omega)) ws_X1_47 ⟨rfl, rfl, Nat.le_of_ble_eq_true rfl, Nat.le_of_ble_eq_true rfl⟩ [] rfl rfl (fun _ => rfl) (fun _ => rfl) rfl hl.1 rfl (Nat.le_of_ble_eq_true rfl) dX1_keptHome_26 ⟨Nat.zero_le _, Nat.zero_le _⟩ (fun r26 _ H locs hp26 Z => ?_)
        subst hp26
        refine b_if_eq (tgt := 54) hx hb dX1_keptHome_29 (by decide) (fun c29 => ?_) (fun c29 => ?_)
        · replace hl : lv_has ls 7 [(6, .int (nI (setB sets ch k))), (0, .ref q), (1, .int (nI mm)), (2, .int (nI d)), (3, .ref gq), (4, .int (nI (sm (kpp mc n sets amts ch mm d) (k + 1)))), (5, .int (nI k))] := by rw [show sm (kpp mc n sets amts ch mm d) (k + 1) = sm (kpp mc n sets amts ch mm d) k from congrArg (sm (kpp mc n sets amts ch mm d) k + ·) (if_neg (fun h => c29 h.1))]; exact hl
          refine lv_iinc (v := nI (k + 1)) (lv' := [(5, .int (nI (k + 1))), (6, .int (nI (setB sets ch k))), (0, .ref q), (1, .int (nI mm)), (2, .int (nI d)), (3, .ref gq), (4, .int (nI (sm (kpp mc n sets amts ch mm d) (k + 1))))]) hx hb dX1_keptHome_54 hl (k := 6) rfl (n_inc _ _ (by decide)) (by decide) rfl (fun ls hl => ?_)
          refine lv_goto (tgt := 6) hx hb dX1_keptHome_57 (by decide) ?_
          exact ih6 (k + 1) (by omega) (by omega)   _ _ Z ls (lv_sub hl [2, 3, 4, 5, 6, 0] rfl)
        · refine lv_aload_n hx hb dX1_keptHome_32 rfl (lv_at hl 4 rfl) ?_
          refine lv_iload hx hb dX1_keptHome_33 (lv_at hl 0 rfl) ?_
          refine c_Vi (As := [.int (nI (setB sets ch k))]) (rest := []) (w2 := fun _ => [oP q qs qa size ch, aN cA qs 16 sets, aN cA qa 8 amts, oG gq gm mc n, aN cA gm 4 mem]) E Z (k_X0_homeOf l D cA gq gm mc n mem (setB sets ch k) (by first | assumption | omega) (by first | assumption | omega)) wv_X1_56 ⟨rfl, rfl, Nat.le_of_ble_eq_true rfl, Nat.le_of_ble_eq_true rfl⟩ [3, 4] rfl rfl rfl rfl (q0 := 0) rfl (fun _ => rfl) (fun _ => rfl) rfl hl.1 rfl (Nat.le_of_ble_eq_true rfl) dX1_keptHome_35 ⟨Nat.zero_le _, Nat.zero_le _⟩ (fun r35 _ H locs hp35 Z => ?_)
          subst hp35
          refine lv_iload_n hx hb dX1_keptHome_38 rfl (lv_at hl 3 rfl) ?_
          have hh := hm_lt mc n (setB sets ch k)
          refine n_icmp_ne (tgt := 54) hx hb dX1_keptHome_39 (by decide) (by omega) (by omega) (fun c39 => ?_) (fun c39 => ?_)
          · replace hl : lv_has ls 7 [(6, .int (nI (setB sets ch k))), (0, .ref q), (1, .int (nI mm)), (2, .int (nI d)), (3, .ref gq), (4, .int (nI (sm (kpp mc n sets amts ch mm d) (k + 1)))), (5, .int (nI k))] := by rw [show sm (kpp mc n sets amts ch mm d) (k + 1) = sm (kpp mc n sets amts ch mm d) k from congrArg (sm (kpp mc n sets amts ch mm d) k + ·) (if_neg (fun h => c39 h.2))]; exact hl
            refine lv_iinc (v := nI (k + 1)) (lv' := [(5, .int (nI (k + 1))), (6, .int (nI (setB sets ch k))), (0, .ref q), (1, .int (nI mm)), (2, .int (nI d)), (3, .ref gq), (4, .int (nI (sm (kpp mc n sets amts ch mm d) (k + 1))))]) hx hb dX1_keptHome_54 hl (k := 6) rfl (n_inc _ _ (by decide)) (by decide) rfl (fun ls hl => ?_)
            refine lv_goto (tgt := 6) hx hb dX1_keptHome_57 (by decide) ?_
            exact ih6 (k + 1) (by omega) (by omega)   _ _ Z ls (lv_sub hl [2, 3, 4, 5, 6, 0] rfl)
          · refine lv_iload hx hb dX1_keptHome_42 (lv_at hl 5 rfl) ?_
            refine lv_aload_n hx hb dX1_keptHome_44 rfl (lv_at hl 1 rfl) ?_
            refine gF_X1_15 E Z dX1_keptHome_45 0 rfl rfl ?_
            refine lv_iload hx hb dX1_keptHome_48 (lv_at hl 6 rfl) ?_
            refine r_ald E Z dX1_keptHome_50 2 rfl (by omega) (by decide) ?_
            refine n_iadd hx hb dX1_keptHome_51 ?_
            refine lv_istore (lv' := [(4, .int (nI (sm (kpp mc n sets amts ch mm d) k + (amts k)))), (6, .int (nI (setB sets ch k))), (0, .ref q), (1, .int (nI mm)), (2, .int (nI d)), (3, .ref gq), (5, .int (nI k))]) hx hb dX1_keptHome_52 hl (by decide) rfl (fun ls hl => ?_)
            replace hl : lv_has ls 7 [(4, .int (nI (sm (kpp mc n sets amts ch mm d) (k + 1)))), (6, .int (nI (setB sets ch k))), (0, .ref q), (1, .int (nI mm)), (2, .int (nI d)), (3, .ref gq), (5, .int (nI k))] := by rw [show sm (kpp mc n sets amts ch mm d) (k + 1) = sm (kpp mc n sets amts ch mm d) k + (amts k) from congrArg (sm (kpp mc n sets amts ch mm d) k + ·) (if_pos ⟨c29, c39⟩)]; exact hl
            refine lv_iinc (v := nI (k + 1)) (lv' := [(5, .int (nI (k + 1))), (4, .int (nI (sm (kpp mc n sets amts ch mm d) (k + 1)))), (6, .int (nI (setB sets ch k))), (0, .ref q), (1, .int (nI mm)), (2, .int (nI d)), (3, .ref gq)]) hx hb dX1_keptHome_54 hl (k := 6) rfl (n_inc _ _ (by decide)) (by decide) rfl (fun ls hl => ?_)
            refine lv_goto (tgt := 6) hx hb dX1_keptHome_57 (by decide) ?_
            exact ih6 (k + 1) (by omega) (by omega)   _ _ Z ls (lv_sub hl [3, 4, 5, 6, 1, 0] rfl)
  exact L6 (size + 1) 0 (by omega) (by omega)   _ _ Z ls (lv_sub hl [2, 3, 4, 5, 1, 0] rfl)

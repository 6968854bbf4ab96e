abbrev rm_k_X5_works_bad : Room := { frames := 1, cells := 0, slots := 0, locals := 22 }
set_option maxHeartbeats 4000000 in
set_option maxRecDepth 100000 in
theorem k_X5_works_bad (l : Launch) (D : va_G) (cA : ClassId) (q : Nat → Nat) (mc : Nat) (bn : Nat) (bl : Nat) (tr : Int64) (x1 : Int32) (x2 : Int32) (hbad : ¬ ((nI 1 ≤ x1 ∧ x1 ≤ nI 7) ∧ (nI 1 ≤ x2 ∧ x2 ≤ nI 8))) : Cti l yX5_works cX5_works 4 (some .int) rm_k_X5_works_bad D cA [.ref (q 0), .int x1, .int x2] ([oX q mc bn bl tr]) (fun (r : Int32) (_ : Unit) => r = (-1)) (fun _ => [oX q mc bn bl tr]) := by
  refine st_i (by decide) (Nat.le_of_ble_eq_true rfl) ?_
  intro p e s m args below meth c A Q E ret Z ls hl
  have hx := E.1.1
  have hb := E.1.2.1
  have hl : lv_has ls 4 [(0, .ref (q 0)), (1, .int x1), (2, .int x2)] := hl
  refine lv_iload_n hx hb dX5_works_0 rfl (lv_at hl 1 rfl) ?_
  refine lv_iconst (v := nI 1) hx hb dX5_works_1 (by decide) ?_
  refine lv_bipush (v := nI 7) hx hb dX5_works_2 (by decide) ?_
  refine c_Si (As := [.int x1, .int (nI 1), .int (nI 7)]) (rest := []) (w2 := fun _ => [oX q mc bn bl tr]) E Z (k_X5_isWithin l D cA x1 (nI 1) (nI 7) ) ws_X5_67 ⟨rfl, rfl, Nat.le_of_ble_eq_true rfl, Nat.le_of_ble_eq_true rfl⟩ [] rfl rfl (fun _ => rfl) (fun _ => rfl) rfl hl.1 rfl (Nat.le_of_ble_eq_true rfl) dX5_works_4 ⟨Nat.zero_le _, Nat.zero_le _⟩ (fun r4 _ H locs hp4 Z => ?_)
  subst hp4
  refine b_if_eq (tgt := 20) hx hb dX5_works_7 (by decide) (fun c7 => ?_) (fun c7 => ?_)
  · refine lv_iconst (v := (-1)) hx hb dX5_works_20 (by decide) ?_
    exact ret () Z dX5_works_21 rfl rfl
  · refine lv_iload_n hx hb dX5_works_10 rfl (lv_at hl 2 rfl) ?_
    refine lv_iconst (v := nI 1) hx hb dX5_works_11 (by decide) ?_
    refine lv_bipush (v := nI 8) hx hb dX5_works_12 (by decide) ?_
    refine c_Si (As := [.int x2, .int (nI 1), .int (nI 8)]) (rest := []) (w2 := fun _ => [oX q mc bn bl tr]) E Z (k_X5_isWithin l D cA x2 (nI 1) (nI 8) ) ws_X5_67 ⟨rfl, rfl, Nat.le_of_ble_eq_true rfl, Nat.le_of_ble_eq_true rfl⟩ [] rfl rfl (fun _ => rfl) (fun _ => rfl) rfl hl.1 rfl (Nat.le_of_ble_eq_true rfl) dX5_works_14 ⟨Nat.zero_le _, Nat.zero_le _⟩ (fun r14 _ H locs hp14 Z => ?_)
    subst hp14
    refine b_if_ne (tgt := 22) hx hb dX5_works_17 (by decide) (fun c17 => ?_) (fun c17 => ?_)
    · exact absurd ⟨c7, c17⟩ hbad
    · refine lv_iconst (v := (-1)) hx hb dX5_works_20 (by decide) ?_
      exact ret () Z dX5_works_21 rfl rfl
abbrev rm_k_X5_works : Room := { frames := 3, cells := 0, slots := 0, locals := 68 }
set_option maxHeartbeats 4000000 in
set_option maxRecDepth 100000 in
theorem k_X5_works (l : Launch) (D : va_G) (cA : ClassId) (q : Nat → Nat) (mc : Nat) (bn : Nat) (bl : Nat) (tr : Int64) (size : Nat) (ch : Nat) (sets : Nat → Nat) (amts : Nat → Nat) (num : Nat) (bo : Nat → Nat) (pr : Nat → Nat) (sh : Nat → Nat) (m1 : Nat) (p1 : Nat) (h1 : 1 ≤ m1 ∧ m1 ≤ 7) (h2 : 1 ≤ p1 ∧ p1 ≤ 8) (hM : mc ≤ 7) : Cti l yX5_works cX5_works 4 (some .int) rm_k_X5_works D cA [.ref (q 0), .int (nI m1), .int (nI p1)] ([oX q mc bn bl tr, oP (q 1) (q 2) (q 3) size ch, aN cA (q 2) 16 sets, aN cA (q 3) 8 amts, oG (q 4) (q 5) mc num, aN cA (q 5) 4 (mF num mc), aN cA (q 17) 7 bo, aN cA (q 18) 7 pr, aN cA (q 19) 4 sh]) (fun (r : Int32) (_ : Unit) => r = nI mc) (fun _ => [oX q m1 bn bl tr, oP (q 1) (q 2) (q 3) p1 0, aN cA (q 2) 16 (fun _ => 0), aN cA (q 3) 8 (fun _ => 1), oG (q 4) (q 5) m1 0, aN cA (q 5) 4 (mF 0 m1), aN cA (q 17) 7 (fun _ => 99), aN cA (q 18) 7 (fun _ => 10), aN cA (q 19) 4 (fun _ => 0)]) := by
  refine st_i (by decide) (Nat.le_of_ble_eq_true rfl) ?_
  intro p e s m args below meth c A Q E ret Z ls hl
  have hx := E.1.1
  have hb := E.1.2.1
  have hl : lv_has ls 4 [(0, .ref (q 0)), (1, .int (nI m1)), (2, .int (nI p1))] := hl
  refine lv_iload_n hx hb dX5_works_0 rfl (lv_at hl 1 rfl) ?_
  refine lv_iconst (v := nI 1) hx hb dX5_works_1 (by decide) ?_
  refine lv_bipush (v := nI 7) hx hb dX5_works_2 (by decide) ?_
  refine c_Si (As := [.int (nI m1), .int (nI 1), .int (nI 7)]) (rest := []) (w2 := fun _ => [oX q mc bn bl tr, oP (q 1) (q 2) (q 3) size ch, aN cA (q 2) 16 sets, aN cA (q 3) 8 amts, oG (q 4) (q 5) mc num, aN cA (q 5) 4 (mF num mc), aN cA (q 17) 7 bo, aN cA (q 18) 7 pr, aN cA (q 19) 4 sh]) E Z (k_X5_isWithin l D cA (nI m1) (nI 1) (nI 7) ) ws_X5_67 ⟨rfl, rfl, Nat.le_of_ble_eq_true rfl, Nat.le_of_ble_eq_true rfl⟩ [] rfl rfl (fun _ => rfl) (fun _ => rfl) rfl hl.1 rfl (Nat.le_of_ble_eq_true rfl) dX5_works_4 ⟨Nat.zero_le _, Nat.zero_le _⟩ (fun r4 _ H locs hp4 Z => ?_)
  subst hp4
  refine b_if_eq (tgt := 20) hx hb dX5_works_7 (by decide) (fun c7 => ?_) (fun c7 => ?_)
  · exact absurd (inr_ok (by omega) (by omega) (by omega)) c7
  · refine lv_iload_n hx hb dX5_works_10 rfl (lv_at hl 2 rfl) ?_
    refine lv_iconst (v := nI 1) hx hb dX5_works_11 (by decide) ?_
    refine lv_bipush (v := nI 8) hx hb dX5_works_12 (by decide) ?_
    refine c_Si (As := [.int (nI p1), .int (nI 1), .int (nI 8)]) (rest := []) (w2 := fun _ => [oX q mc bn bl tr, oP (q 1) (q 2) (q 3) size ch, aN cA (q 2) 16 sets, aN cA (q 3) 8 amts, oG (q 4) (q 5) mc num, aN cA (q 5) 4 (mF num mc), aN cA (q 17) 7 bo, aN cA (q 18) 7 pr, aN cA (q 19) 4 sh]) E Z (k_X5_isWithin l D cA (nI p1) (nI 1) (nI 8) ) ws_X5_67 ⟨rfl, rfl, Nat.le_of_ble_eq_true rfl, Nat.le_of_ble_eq_true rfl⟩ [] rfl rfl (fun _ => rfl) (fun _ => rfl) rfl hl.1 rfl (Nat.le_of_ble_eq_true rfl) dX5_works_14 ⟨Nat.zero_le _, Nat.zero_le _⟩ (fun r14 _ H locs hp14 Z => ?_)
    subst hp14
    refine b_if_ne (tgt := 22) hx hb dX5_works_17 (by decide) (fun c17 => ?_) (fun c17 => ?_)
    · refine lv_aload_n hx hb dX5_works_22 rfl (lv_at hl 0 rfl) ?_
      refine gF_X5_71 E Z dX5_works_23 0 rfl rfl ?_
      refine lv_istore_n (lv' := [(3, .int (nI mc)), (0, .ref (q 0)), (1, .int (nI m1)), (2, .int (nI p1))]) hx hb dX5_works_26 rfl hl (by decide) rfl (fun ls hl => ?_)
      refine lv_aload_n hx hb dX5_works_27 rfl (lv_at hl 1 rfl) ?_
      refine lv_iload_n hx hb dX5_works_28 rfl (lv_at hl 2 rfl) ?_
      refine lv_iload_n hx hb dX5_works_29 rfl (lv_at hl 3 rfl) ?_
      refine c_Vv (As := [.int (nI m1), .int (nI p1)]) (rest := []) (w2 := fun _ => [oX q m1 bn bl tr, oP (q 1) (q 2) (q 3) p1 0, aN cA (q 2) 16 (fun _ => 0), aN cA (q 3) 8 (fun _ => 1), oG (q 4) (q 5) m1 0, aN cA (q 5) 4 (mF 0 m1), aN cA (q 17) 7 (fun _ => 99), aN cA (q 18) 7 (fun _ => 10), aN cA (q 19) 4 (fun _ => 0)]) E Z (k_X5_begin l D cA q mc bn bl tr size ch sets amts mc num (mF num mc) bo pr sh m1 p1 (by first | assumption | omega)) wv_X5_63 ⟨rfl, rfl, Nat.le_of_ble_eq_true rfl, Nat.le_of_ble_eq_true rfl⟩ [0, 1, 2, 3, 4, 5, 6, 7, 8] rfl rfl rfl rfl (q0 := 0) rfl (fun _ => rfl) (fun _ => rfl) rfl hl.1 rfl (Nat.le_of_ble_eq_true rfl) dX5_works_30 ⟨Nat.zero_le _, Nat.zero_le _⟩ (fun _ H locs hp30 Z => ?_)
      refine lv_iload_n hx hb dX5_works_33 rfl (lv_at hl 0 rfl) ?_
      exact ret () Z dX5_works_34 rfl rfl
    · exact absurd (inr_ok (by omega) (by omega) (by omega)) c17
abbrev rm_k_X5_route_bad : Room := { frames := 2, cells := 0, slots := 0, locals := 43 }
set_option maxHeartbeats 4000000 in
set_option maxRecDepth 100000 in
theorem k_X5_route_bad (l : Launch) (D : va_G) (cA : ClassId) (q : Nat → Nat) (mc : Nat) (bn : Nat) (bl : Nat) (tr : Int64) (size : Nat) (ch : Nat) (x1 : Int32) (x2 : Int32) (x3 : Int32) (hp1 : 1 ≤ size) (hM : mc ≤ 7) (hbad : ¬ ((nI 0 ≤ x1 ∧ x1 ≤ nI (size - 1)) ∧ (nI 0 ≤ x2 ∧ x2 ≤ nI 1) ∧ (nI 0 ≤ x3 ∧ x3 ≤ nI (2 ^ mc - 1)))) : Cti l yX5_route cX5_route 5 (some .int) rm_k_X5_route_bad D cA [.ref (q 0), .int x1, .int x2, .int x3] ([oX q mc bn bl tr, oP (q 1) (q 2) (q 3) size ch]) (fun (r : Int32) (_ : Unit) => r = (-1)) (fun _ => [oX q mc bn bl tr, oP (q 1) (q 2) (q 3) size ch]) := by
  refine st_i (by decide) (Nat.le_of_ble_eq_true rfl) ?_
  intro p e s m args below meth c A Q E ret Z ls hl
  have hx := E.1.1
  have hb := E.1.2.1
  have hl : lv_has ls 5 [(0, .ref (q 0)), (1, .int x1), (2, .int x2), (3, .int x3)] := hl
  have h20 := Nat.two_pow_pos mc
  refine lv_aload_n hx hb dX5_route_0 rfl (lv_at hl 0 rfl) ?_
  refine lv_iload_n hx hb dX5_route_1 rfl (lv_at hl 1 rfl) ?_
  refine c_Vi (As := [.int x1]) (rest := []) (w2 := fun _ => [oX q mc bn bl tr, oP (q 1) (q 2) (q 3) size ch]) E Z (k_X5_isPart l D cA q mc bn bl tr size ch x1 (by first | assumption | omega)) wv_X5_75 ⟨rfl, rfl, Nat.le_of_ble_eq_true rfl, Nat.le_of_ble_eq_true rfl⟩ [0, 1] rfl rfl rfl rfl (q0 := 0) rfl (fun _ => rfl) (fun _ => rfl) rfl hl.1 rfl (Nat.le_of_ble_eq_true rfl) dX5_route_2 ⟨Nat.zero_le _, Nat.zero_le _⟩ (fun r2 _ H locs hp2 Z => ?_)
  subst hp2
  refine b_if_eq (tgt := 33) hx hb dX5_route_5 (by decide) (fun c5 => ?_) (fun c5 => ?_)
  · refine lv_iconst (v := (-1)) hx hb dX5_route_33 (by decide) ?_
    exact ret () Z dX5_route_34 rfl rfl
  · refine lv_iload_n hx hb dX5_route_8 rfl (lv_at hl 2 rfl) ?_
    refine lv_iconst (v := nI 0) hx hb dX5_route_9 (by decide) ?_
    refine lv_iconst (v := nI 1) hx hb dX5_route_10 (by decide) ?_
    refine c_Si (As := [.int x2, .int (nI 0), .int (nI 1)]) (rest := []) (w2 := fun _ => [oX q mc bn bl tr, oP (q 1) (q 2) (q 3) size ch]) E Z (k_X5_isWithin l D cA x2 (nI 0) (nI 1) ) ws_X5_67 ⟨rfl, rfl, Nat.le_of_ble_eq_true rfl, Nat.le_of_ble_eq_true rfl⟩ [] rfl rfl (fun _ => rfl) (fun _ => rfl) rfl hl.1 rfl (Nat.le_of_ble_eq_true rfl) dX5_route_11 ⟨Nat.zero_le _, Nat.zero_le _⟩ (fun r11 _ H locs hp11 Z => ?_)
    subst hp11
    refine b_if_eq (tgt := 33) hx hb dX5_route_14 (by decide) (fun c14 => ?_) (fun c14 => ?_)
    · refine lv_iconst (v := (-1)) hx hb dX5_route_33 (by decide) ?_
      exact ret () Z dX5_route_34 rfl rfl
    · refine lv_iload_n hx hb dX5_route_17 rfl (lv_at hl 3 rfl) ?_
      refine lv_iconst (v := nI 0) hx hb dX5_route_18 (by decide) ?_
      refine lv_iconst (v := nI 1) hx hb dX5_route_19 (by decide) ?_
      refine lv_aload_n hx hb dX5_route_20 rfl (lv_at hl 0 rfl) ?_
      refine gF_X5_71 E Z dX5_route_21 0 rfl rfl ?_
      refine n_ishl1 hx hb dX5_route_24 (by omega) ?_
      refine lv_iconst (v := nI 1) hx hb dX5_route_25 (by decide) ?_
      refine n_isub hx hb dX5_route_26 (by omega) ?_
      refine c_Si (As := [.int x3, .int (nI 0), .int (nI (2 ^ mc - 1))]) (rest := []) (w2 := fun _ => [oX q mc bn bl tr, oP (q 1) (q 2) (q 3) size ch]) E Z (k_X5_isWithin l D cA x3 (nI 0) (nI (2 ^ mc - 1)) ) ws_X5_67 ⟨rfl, rfl, Nat.le_of_ble_eq_true rfl, Nat.le_of_ble_eq_true rfl⟩ [] rfl rfl (fun _ => rfl) (fun _ => rfl) rfl hl.1 rfl (Nat.le_of_ble_eq_true rfl) dX5_route_27 ⟨Nat.zero_le _, Nat.zero_le _⟩ (fun r27 _ H locs hp27 Z => ?_)
      subst hp27
      refine b_if_ne (tgt := 35) hx hb dX5_route_30 (by decide) (fun c30 => ?_) (fun c30 => ?_)
      · exact absurd ⟨c5, c14, c30⟩ hbad
      · refine lv_iconst (v := (-1)) hx hb dX5_route_33 (by decide) ?_
        exact ret () Z dX5_route_34 rfl rfl
abbrev rm_k_X5_route : Room := { frames := 2, cells := 0, slots := 0, locals := 43 }
set_option maxHeartbeats 4000000 in
set_option maxRecDepth 100000 in
theorem k_X5_route (l : Launch) (D : va_G) (cA : ClassId) (q : Nat → Nat) (mc : Nat) (bn : Nat) (bl : Nat) (tr : Int64) (size : Nat) (ch : Nat) (sets : Nat → Nat) (k : Nat) (wh : Nat) (st : Nat) (hP : size ≤ 8) (hp1 : 1 ≤ size) (hM : mc ≤ 7) (hk : k < size) (hw : wh < 2) (hst : st < 2 ^ mc) : Cti l yX5_route cX5_route 5 (some .int) rm_k_X5_route D cA [.ref (q 0), .int (nI k), .int (nI wh), .int (nI st)] ([oX q mc bn bl tr, oP (q 1) (q 2) (q 3) size ch, aN cA (q 2) 16 sets]) (fun (r : Int32) (_ : Unit) => r = nI (sets (2 * k + wh))) (fun _ => [oX q mc bn bl tr, oP (q 1) (q 2) (q 3) size ch, aN cA (q 2) 16 (up sets (2 * k + wh) st)]) := by
  refine st_i (by decide) (Nat.le_of_ble_eq_true rfl) ?_
  intro p e s m args below meth c A Q E ret Z ls hl
  have hx := E.1.1
  have hb := E.1.2.1
  have hl : lv_has ls 5 [(0, .ref (q 0)), (1, .int (nI k)), (2, .int (nI wh)), (3, .int (nI st))] := hl
  have h27 : 2 ^ mc ≤ 2 ^ 7 := Nat.pow_le_pow_right (by decide) hM
  have h20 := Nat.two_pow_pos mc
  refine lv_aload_n hx hb dX5_route_0 rfl (lv_at hl 0 rfl) ?_
  refine lv_iload_n hx hb dX5_route_1 rfl (lv_at hl 1 rfl) ?_
  refine c_Vi (As := [.int (nI k)]) (rest := []) (w2 := fun _ => [oX q mc bn bl tr, oP (q 1) (q 2) (q 3) size ch, aN cA (q 2) 16 sets]) E Z (k_X5_isPart l D cA q mc bn bl tr size ch (nI k) (by first | assumption | omega)) wv_X5_75 ⟨rfl, rfl, Nat.le_of_ble_eq_true rfl, Nat.le_of_ble_eq_true rfl⟩ [0, 1] rfl rfl rfl rfl (q0 := 0) rfl (fun _ => rfl) (fun _ => rfl) rfl hl.1 rfl (Nat.le_of_ble_eq_true rfl) dX5_route_2 ⟨Nat.zero_le _, Nat.zero_le _⟩ (fun r2 _ H locs hp2 Z => ?_)
  subst hp2
  refine b_if_eq (tgt := 33) hx hb dX5_route_5 (by decide) (fun c5 => ?_) (fun c5 => ?_)
  · exact absurd (inr_ok (by omega) (by omega) (by omega)) c5
  · refine lv_iload_n hx hb dX5_route_8 rfl (lv_at hl 2 rfl) ?_
    refine lv_iconst (v := nI 0) hx hb dX5_route_9 (by decide) ?_
    refine lv_iconst (v := nI 1) hx hb dX5_route_10 (by decide) ?_
    refine c_Si (As := [.int (nI wh), .int (nI 0), .int (nI 1)]) (rest := []) (w2 := fun _ => [oX q mc bn bl tr, oP (q 1) (q 2) (q 3) size ch, aN cA (q 2) 16 sets]) E Z (k_X5_isWithin l D cA (nI wh) (nI 0) (nI 1) ) ws_X5_67 ⟨rfl, rfl, Nat.le_of_ble_eq_true rfl, Nat.le_of_ble_eq_true rfl⟩ [] rfl rfl (fun _ => rfl) (fun _ => rfl) rfl hl.1 rfl (Nat.le_of_ble_eq_true rfl) dX5_route_11 ⟨Nat.zero_le _, Nat.zero_le _⟩ (fun r11 _ H locs hp11 Z => ?_)
    subst hp11
    refine b_if_eq (tgt := 33) hx hb dX5_route_14 (by decide) (fun c14 => ?_) (fun c14 => ?_)
    · exact absurd (inr_ok (by omega) (by omega) (by omega)) c14
    · refine lv_iload_n hx hb dX5_route_17 rfl (lv_at hl 3 rfl) ?_
      refine lv_iconst (v := nI 0) hx hb dX5_route_18 (by decide) ?_
      refine lv_iconst (v := nI 1) hx hb dX5_route_19 (by decide) ?_
      refine lv_aload_n hx hb dX5_route_20 rfl (lv_at hl 0 rfl) ?_
      refine gF_X5_71 E Z dX5_route_21 0 rfl rfl ?_
      refine n_ishl1 hx hb dX5_route_24 (by omega) ?_
      refine lv_iconst (v := nI 1) hx hb dX5_route_25 (by decide) ?_
      refine n_isub hx hb dX5_route_26 (by omega) ?_
      refine c_Si (As := [.int (nI st), .int (nI 0), .int (nI (2 ^ mc - 1))]) (rest := []) (w2 := fun _ => [oX q mc bn bl tr, oP (q 1) (q 2) (q 3) size ch, aN cA (q 2) 16 sets]) E Z (k_X5_isWithin l D cA (nI st) (nI 0) (nI (2 ^ mc - 1)) ) ws_X5_67 ⟨rfl, rfl, Nat.le_of_ble_eq_true rfl, Nat.le_of_ble_eq_true rfl⟩ [] rfl rfl (fun _ => rfl) (fun _ => rfl) rfl hl.1 rfl (Nat.le_of_ble_eq_true rfl) dX5_route_27 ⟨Nat.zero_le _, Nat.zero_le _⟩ (fun r27 _ H locs hp27 Z => ?_)
      subst hp27
      refine b_if_ne (tgt := 35) hx hb dX5_route_30 (by decide) (fun c30 => ?_) (fun c30 => ?_)
      · refine lv_aload_n hx hb dX5_route_35 rfl (lv_at hl 0 rfl) ?_
        refine gF_X5_10 E Z dX5_route_36 0 rfl rfl ?_
        refine lv_iload_n hx hb dX5_route_39 rfl (lv_at hl 1 rfl) ?_
        refine lv_iload_n hx hb dX5_route_40 rfl (lv_at hl 2 rfl) ?_
        refine c_Vi (As := [.int (nI k), .int (nI wh)]) (rest := []) (w2 := fun _ => [oX q mc bn bl tr, oP (q 1) (q 2) (q 3) size ch, aN cA (q 2) 16 sets]) E Z (k_X1_routeSet l D cA (q 1) (q 2) (q 3) size ch sets k wh (by first | assumption | omega) (by first | assumption | omega)) wv_X5_79 ⟨rfl, rfl, Nat.le_of_ble_eq_true rfl, Nat.le_of_ble_eq_true rfl⟩ [1, 2] rfl rfl rfl rfl (q0 := 0) rfl (fun _ => rfl) (fun _ => rfl) rfl hl.1 rfl (Nat.le_of_ble_eq_true rfl) dX5_route_41 ⟨Nat.zero_le _, Nat.zero_le _⟩ (fun r41 _ H locs hp41 Z => ?_)
        subst hp41
        refine lv_istore (lv' := [(4, .int (nI (sets (2 * k + wh)))), (0, .ref (q 0)), (1, .int (nI k)), (2, .int (nI wh)), (3, .int (nI st))]) hx hb dX5_route_44 hl (by decide) rfl (fun ls hl => ?_)
        refine lv_aload_n hx hb dX5_route_46 rfl (lv_at hl 1 rfl) ?_
        refine gF_X5_10 E Z dX5_route_47 0 rfl rfl ?_
        refine lv_iload_n hx hb dX5_route_50 rfl (lv_at hl 2 rfl) ?_
        refine lv_iload_n hx hb dX5_route_51 rfl (lv_at hl 3 rfl) ?_
        refine lv_iload_n hx hb dX5_route_52 rfl (lv_at hl 4 rfl) ?_
        refine c_Vv (As := [.int (nI k), .int (nI wh), .int (nI st)]) (rest := []) (w2 := fun _ => [oX q mc bn bl tr, oP (q 1) (q 2) (q 3) size ch, aN cA (q 2) 16 (up sets (2 * k + wh) st)]) E Z (k_X1_putRouteSet l D cA (q 1) (q 2) (q 3) size ch sets k wh st (by first | assumption | omega) (by first | assumption | omega)) wv_X5_83 ⟨rfl, rfl, Nat.le_of_ble_eq_true rfl, Nat.le_of_ble_eq_true rfl⟩ [1, 2] rfl rfl rfl rfl (q0 := 0) rfl (fun _ => rfl) (fun _ => rfl) rfl hl.1 rfl (Nat.le_of_ble_eq_true rfl) dX5_route_53 ⟨Nat.zero_le _, Nat.zero_le _⟩ (fun _ H locs hp53 Z => ?_)
        refine lv_iload hx hb dX5_route_56 (lv_at hl 0 rfl) ?_
        exact ret () Z dX5_route_58 rfl rfl
      · exact absurd (inr_ok (by omega) (by omega) (by omega)) c30
abbrev rm_k_X5_goes_bad : Room := { frames := 2, cells := 0, slots := 0, locals := 43 }
set_option maxHeartbeats 4000000 in
set_option maxRecDepth 100000 in
theorem k_X5_goes_bad (l : Launch) (D : va_G) (cA : ClassId) (q : Nat → Nat) (mc : Nat) (bn : Nat) (bl : Nat) (tr : Int64) (size : Nat) (ch : Nat) (x1 : Int32) (x2 : Int32) (hp1 : 1 ≤ size) (hbad : ¬ ((nI 0 ≤ x1 ∧ x1 ≤ nI (size - 1)) ∧ (nI 0 ≤ x2 ∧ x2 ≤ nI 1))) : Cti l yX5_goes cX5_goes 4 (some .int) rm_k_X5_goes_bad D cA [.ref (q 0), .int x1, .int x2] ([oX q mc bn bl tr, oP (q 1) (q 2) (q 3) size ch]) (fun (r : Int32) (_ : Unit) => r = (-1)) (fun _ => [oX q mc bn bl tr, oP (q 1) (q 2) (q 3) size ch]) := by
  refine st_i (by decide) (Nat.le_of_ble_eq_true rfl) ?_
  intro p e s m args below meth c A Q E ret Z ls hl
  have hx := E.1.1
  have hb := E.1.2.1
  have hl : lv_has ls 4 [(0, .ref (q 0)), (1, .int x1), (2, .int x2)] := hl
  refine lv_aload_n hx hb dX5_goes_0 rfl (lv_at hl 0 rfl) ?_
  refine lv_iload_n hx hb dX5_goes_1 rfl (lv_at hl 1 rfl) ?_
  refine c_Vi (As := [.int x1]) (rest := []) (w2 := fun _ => [oX q mc bn bl tr, oP (q 1) (q 2) (q 3) size ch]) E Z (k_X5_isPart l D cA q mc bn bl tr size ch x1 (by first | assumption | omega)) wv_X5_75 ⟨rfl, rfl, Nat.le_of_ble_eq_true rfl, Nat.le_of_ble_eq_true rfl⟩ [0, 1] rfl rfl rfl rfl (q0 := 0) rfl (fun _ => rfl) (fun _ => rfl) rfl hl.1 rfl (Nat.le_of_ble_eq_true rfl) dX5_goes_2 ⟨Nat.zero_le _, Nat.zero_le _⟩ (fun r2 _ H locs hp2 Z => ?_)
  subst hp2
  refine b_if_eq (tgt := 17) hx hb dX5_goes_5 (by decide) (fun c5 => ?_) (fun c5 => ?_)
  · refine lv_iconst (v := (-1)) hx hb dX5_goes_17 (by decide) ?_
    exact ret () Z dX5_goes_18 rfl rfl
  · refine lv_iload_n hx hb dX5_goes_8 rfl (lv_at hl 2 rfl) ?_
    refine lv_iconst (v := nI 0) hx hb dX5_goes_9 (by decide) ?_
    refine lv_iconst (v := nI 1) hx hb dX5_goes_10 (by decide) ?_
    refine c_Si (As := [.int x2, .int (nI 0), .int (nI 1)]) (rest := []) (w2 := fun _ => [oX q mc bn bl tr, oP (q 1) (q 2) (q 3) size ch]) E Z (k_X5_isWithin l D cA x2 (nI 0) (nI 1) ) ws_X5_67 ⟨rfl, rfl, Nat.le_of_ble_eq_true rfl, Nat.le_of_ble_eq_true rfl⟩ [] rfl rfl (fun _ => rfl) (fun _ => rfl) rfl hl.1 rfl (Nat.le_of_ble_eq_true rfl) dX5_goes_11 ⟨Nat.zero_le _, Nat.zero_le _⟩ (fun r11 _ H locs hp11 Z => ?_)
    subst hp11
    refine b_if_ne (tgt := 19) hx hb dX5_goes_14 (by decide) (fun c14 => ?_) (fun c14 => ?_)
    · exact absurd ⟨c5, c14⟩ hbad
    · refine lv_iconst (v := (-1)) hx hb dX5_goes_17 (by decide) ?_
      exact ret () Z dX5_goes_18 rfl rfl
abbrev rm_k_X5_goes : Room := { frames := 2, cells := 0, slots := 0, locals := 43 }
set_option maxHeartbeats 4000000 in
set_option maxRecDepth 100000 in
theorem k_X5_goes (l : Launch) (D : va_G) (cA : ClassId) (q : Nat → Nat) (mc : Nat) (bn : Nat) (bl : Nat) (tr : Int64) (size : Nat) (ch : Nat) (k : Nat) (wh : Nat) (hP : size ≤ 8) (hp1 : 1 ≤ size) (hch : ch < 256) (hk : k < size) (hw : wh < 2) : Cti l yX5_goes cX5_goes 4 (some .int) rm_k_X5_goes D cA [.ref (q 0), .int (nI k), .int (nI wh)] ([oX q mc bn bl tr, oP (q 1) (q 2) (q 3) size ch]) (fun (r : Int32) (_ : Unit) => r = nI (bt ch k)) (fun _ => [oX q mc bn bl tr, oP (q 1) (q 2) (q 3) size (setb ch k wh)]) := by
  refine st_i (by decide) (Nat.le_of_ble_eq_true rfl) ?_
  intro p e s m args below meth c A Q E ret Z ls hl
  have hx := E.1.1
  have hb := E.1.2.1
  have hl : lv_has ls 4 [(0, .ref (q 0)), (1, .int (nI k)), (2, .int (nI wh))] := hl
  refine lv_aload_n hx hb dX5_goes_0 rfl (lv_at hl 0 rfl) ?_
  refine lv_iload_n hx hb dX5_goes_1 rfl (lv_at hl 1 rfl) ?_
  refine c_Vi (As := [.int (nI k)]) (rest := []) (w2 := fun _ => [oX q mc bn bl tr, oP (q 1) (q 2) (q 3) size ch]) E Z (k_X5_isPart l D cA q mc bn bl tr size ch (nI k) (by first | assumption | omega)) wv_X5_75 ⟨rfl, rfl, Nat.le_of_ble_eq_true rfl, Nat.le_of_ble_eq_true rfl⟩ [0, 1] rfl rfl rfl rfl (q0 := 0) rfl (fun _ => rfl) (fun _ => rfl) rfl hl.1 rfl (Nat.le_of_ble_eq_true rfl) dX5_goes_2 ⟨Nat.zero_le _, Nat.zero_le _⟩ (fun r2 _ H locs hp2 Z => ?_)
  subst hp2
  refine b_if_eq (tgt := 17) hx hb dX5_goes_5 (by decide) (fun c5 => ?_) (fun c5 => ?_)
  · exact absurd (inr_ok (by omega) (by omega) (by omega)) c5
  · refine lv_iload_n hx hb dX5_goes_8 rfl (lv_at hl 2 rfl) ?_
    refine lv_iconst (v := nI 0) hx hb dX5_goes_9 (by decide) ?_
    refine lv_iconst (v := nI 1) hx hb dX5_goes_10 (by decide) ?_
    refine c_Si (As := [.int (nI wh), .int (nI 0), .int (nI 1)]) (rest := []) (w2 := fun _ => [oX q mc bn bl tr, oP (q 1) (q 2) (q 3) size ch]) E Z (k_X5_isWithin l D cA (nI wh) (nI 0) (nI 1) ) ws_X5_67 ⟨rfl, rfl, Nat.le_of_ble_eq_true rfl, Nat.le_of_ble_eq_true rfl⟩ [] rfl rfl (fun _ => rfl) (fun _ => rfl) rfl hl.1 rfl (Nat.le_of_ble_eq_true rfl) dX5_goes_11 ⟨Nat.zero_le _, Nat.zero_le _⟩ (fun r11 _ H locs hp11 Z => ?_)
    subst hp11
    refine b_if_ne (tgt := 19) hx hb dX5_goes_14 (by decide) (fun c14 => ?_) (fun c14 => ?_)
    · refine lv_aload_n hx hb dX5_goes_19 rfl (lv_at hl 0 rfl) ?_
      refine gF_X5_10 E Z dX5_goes_20 0 rfl rfl ?_
      refine lv_iload_n hx hb dX5_goes_23 rfl (lv_at hl 1 rfl) ?_
      refine c_Vi (As := [.int (nI k)]) (rest := []) (w2 := fun _ => [oX q mc bn bl tr, oP (q 1) (q 2) (q 3) size ch]) E Z (k_X1_chosenBy l D cA (q 1) (q 2) (q 3) size ch k (by first | assumption | omega) (by first | assumption | omega)) wv_X5_87 ⟨rfl, rfl, Nat.le_of_ble_eq_true rfl, Nat.le_of_ble_eq_true rfl⟩ [1] rfl rfl rfl rfl (q0 := 0) rfl (fun _ => rfl) (fun _ => rfl) rfl hl.1 rfl (Nat.le_of_ble_eq_true rfl) dX5_goes_24 ⟨Nat.zero_le _, Nat.zero_le _⟩ (fun r24 _ H locs hp24 Z => ?_)
      subst hp24
      refine lv_istore_n (lv' := [(3, .int (nI (bt ch k))), (0, .ref (q 0)), (1, .int (nI k)), (2, .int (nI wh))]) hx hb dX5_goes_27 rfl hl (by decide) rfl (fun ls hl => ?_)
      refine lv_aload_n hx hb dX5_goes_28 rfl (lv_at hl 1 rfl) ?_
      refine gF_X5_10 E Z dX5_goes_29 0 rfl rfl ?_
      refine lv_iload_n hx hb dX5_goes_32 rfl (lv_at hl 2 rfl) ?_
      refine lv_iload_n hx hb dX5_goes_33 rfl (lv_at hl 3 rfl) ?_
      refine c_Vv (As := [.int (nI k), .int (nI wh)]) (rest := []) (w2 := fun _ => [oX q mc bn bl tr, oP (q 1) (q 2) (q 3) size (setb ch k wh)]) E Z (k_X1_choose l D cA (q 1) (q 2) (q 3) size ch k wh (by first | assumption | omega) (by first | assumption | omega) (by first | assumption | omega)) wv_X5_91 ⟨rfl, rfl, Nat.le_of_ble_eq_true rfl, Nat.le_of_ble_eq_true rfl⟩ [1] rfl rfl rfl rfl (q0 := 0) rfl (fun _ => rfl) (fun _ => rfl) rfl hl.1 rfl (Nat.le_of_ble_eq_true rfl) dX5_goes_34 ⟨Nat.zero_le _, Nat.zero_le _⟩ (fun _ H locs hp34 Z => ?_)
      refine lv_iload_n hx hb dX5_goes_37 rfl (lv_at hl 0 rfl) ?_
      exact ret () Z dX5_goes_38 rfl rfl
    · exact absurd (inr_ok (by omega) (by omega) (by omega)) c14
abbrev rm_k_X5_pieces_bad : Room := { frames := 2, cells := 0, slots := 0, locals := 43 }
set_option maxHeartbeats 4000000 in
set_option maxRecDepth 100000 in
theorem k_X5_pieces_bad (l : Launch) (D : va_G) (cA : ClassId) (q : Nat → Nat) (mc : Nat) (bn : Nat) (bl : Nat) (tr : Int64) (size : Nat) (ch : Nat) (x1 : Int32) (x2 : Int32) (hp1 : 1 ≤ size) (hbad : ¬ ((nI 0 ≤ x1 ∧ x1 ≤ nI (size - 1)) ∧ (nI 1 ≤ x2 ∧ x2 ≤ nI 9))) : Cti l yX5_pieces cX5_pieces 4 (some .int) rm_k_X5_pieces_bad D cA [.ref (q 0), .int x1, .int x2] ([oX q mc bn bl tr, oP (q 1) (q 2) (q 3) size ch]) (fun (r : Int32) (_ : Unit) => r = (-1)) (fun _ => [oX q mc bn bl tr, oP (q 1) (q 2) (q 3) size ch]) := by
  refine st_i (by decide) (Nat.le_of_ble_eq_true rfl) ?_
  intro p e s m args below meth c A Q E ret Z ls hl
  have hx := E.1.1
  have hb := E.1.2.1
  have hl : lv_has ls 4 [(0, .ref (q 0)), (1, .int x1), (2, .int x2)] := hl
  refine lv_aload_n hx hb dX5_pieces_0 rfl (lv_at hl 0 rfl) ?_
  refine lv_iload_n hx hb dX5_pieces_1 rfl (lv_at hl 1 rfl) ?_
  refine c_Vi (As := [.int x1]) (rest := []) (w2 := fun _ => [oX q mc bn bl tr, oP (q 1) (q 2) (q 3) size ch]) E Z (k_X5_isPart l D cA q mc bn bl tr size ch x1 (by first | assumption | omega)) wv_X5_75 ⟨rfl, rfl, Nat.le_of_ble_eq_true rfl, Nat.le_of_ble_eq_true rfl⟩ [0, 1] rfl rfl rfl rfl (q0 := 0) rfl (fun _ => rfl) (fun _ => rfl) rfl hl.1 rfl (Nat.le_of_ble_eq_true rfl) dX5_pieces_2 ⟨Nat.zero_le _, Nat.zero_le _⟩ (fun r2 _ H locs hp2 Z => ?_)
  subst hp2
  refine b_if_eq (tgt := 18) hx hb dX5_pieces_5 (by decide) (fun c5 => ?_) (fun c5 => ?_)
  · refine lv_iconst (v := (-1)) hx hb dX5_pieces_18 (by decide) ?_
    exact ret () Z dX5_pieces_19 rfl rfl
  · refine lv_iload_n hx hb dX5_pieces_8 rfl (lv_at hl 2 rfl) ?_
    refine lv_iconst (v := nI 1) hx hb dX5_pieces_9 (by decide) ?_
    refine lv_bipush (v := nI 9) hx hb dX5_pieces_10 (by decide) ?_
    refine c_Si (As := [.int x2, .int (nI 1), .int (nI 9)]) (rest := []) (w2 := fun _ => [oX q mc bn bl tr, oP (q 1) (q 2) (q 3) size ch]) E Z (k_X5_isWithin l D cA x2 (nI 1) (nI 9) ) ws_X5_67 ⟨rfl, rfl, Nat.le_of_ble_eq_true rfl, Nat.le_of_ble_eq_true rfl⟩ [] rfl rfl (fun _ => rfl) (fun _ => rfl) rfl hl.1 rfl (Nat.le_of_ble_eq_true rfl) dX5_pieces_12 ⟨Nat.zero_le _, Nat.zero_le _⟩ (fun r12 _ H locs hp12 Z => ?_)
    subst hp12
    refine b_if_ne (tgt := 20) hx hb dX5_pieces_15 (by decide) (fun c15 => ?_) (fun c15 => ?_)
    · exact absurd ⟨c5, c15⟩ hbad
    · refine lv_iconst (v := (-1)) hx hb dX5_pieces_18 (by decide) ?_
      exact ret () Z dX5_pieces_19 rfl rfl
abbrev rm_k_X5_pieces : Room := { frames := 2, cells := 0, slots := 0, locals := 43 }
set_option maxHeartbeats 4000000 in
set_option maxRecDepth 100000 in
theorem k_X5_pieces (l : Launch) (D : va_G) (cA : ClassId) (q : Nat → Nat) (mc : Nat) (bn : Nat) (bl : Nat) (tr : Int64) (size : Nat) (ch : Nat) (amts : Nat → Nat) (k : Nat) (am : Nat) (hP : size ≤ 8) (hp1 : 1 ≤ size) (hk : k < size) (ham : 1 ≤ am ∧ am ≤ 9) : Cti l yX5_pieces cX5_pieces 4 (some .int) rm_k_X5_pieces D cA [.ref (q 0), .int (nI k), .int (nI am)] ([oX q mc bn bl tr, oP (q 1) (q 2) (q 3) size ch, aN cA (q 3) 8 amts]) (fun (r : Int32) (_ : Unit) => r = nI (amts k)) (fun _ => [oX q mc bn bl tr, oP (q 1) (q 2) (q 3) size ch, aN cA (q 3) 8 (up amts k am)]) := by
  refine st_i (by decide) (Nat.le_of_ble_eq_true rfl) ?_
  intro p e s m args below meth c A Q E ret Z ls hl
  have hx := E.1.1
  have hb := E.1.2.1
  have hl : lv_has ls 4 [(0, .ref (q 0)), (1, .int (nI k)), (2, .int (nI am))] := hl
  refine lv_aload_n hx hb dX5_pieces_0 rfl (lv_at hl 0 rfl) ?_
  refine lv_iload_n hx hb dX5_pieces_1 rfl (lv_at hl 1 rfl) ?_
  refine c_Vi (As := [.int (nI k)]) (rest := []) (w2 := fun _ => [oX q mc bn bl tr, oP (q 1) (q 2) (q 3) size ch, aN cA (q 3) 8 amts]) E Z (k_X5_isPart l D cA q mc bn bl tr size ch (nI k) (by first | assumption | omega)) wv_X5_75 ⟨rfl, rfl, Nat.le_of_ble_eq_true rfl, Nat.le_of_ble_eq_true rfl⟩ [0, 1] rfl rfl rfl rfl (q0 := 0) rfl (fun _ => rfl) (fun _ => rfl) rfl hl.1 rfl (Nat.le_of_ble_eq_true rfl) dX5_pieces_2 ⟨Nat.zero_le _, Nat.zero_le _⟩ (fun r2 _ H locs hp2 Z => ?_)
  subst hp2
  refine b_if_eq (tgt := 18) hx hb dX5_pieces_5 (by decide) (fun c5 => ?_) (fun c5 => ?_)
  · exact absurd (inr_ok (by omega) (by omega) (by omega)) c5
  · refine lv_iload_n hx hb dX5_pieces_8 rfl (lv_at hl 2 rfl) ?_
    refine lv_iconst (v := nI 1) hx hb dX5_pieces_9 (by decide) ?_
    refine lv_bipush (v := nI 9) hx hb dX5_pieces_10 (by decide) ?_
    refine c_Si (As := [.int (nI am), .int (nI 1), .int (nI 9)]) (rest := []) (w2 := fun _ => [oX q mc bn bl tr, oP (q 1) (q 2) (q 3) size ch, aN cA (q 3) 8 amts]) E Z (k_X5_isWithin l D cA (nI am) (nI 1) (nI 9) ) ws_X5_67 ⟨rfl, rfl, Nat.le_of_ble_eq_true rfl, Nat.le_of_ble_eq_true rfl⟩ [] rfl rfl (fun _ => rfl) (fun _ => rfl) rfl hl.1 rfl (Nat.le_of_ble_eq_true rfl) dX5_pieces_12 ⟨Nat.zero_le _, Nat.zero_le _⟩ (fun r12 _ H locs hp12 Z => ?_)
    subst hp12
    refine b_if_ne (tgt := 20) hx hb dX5_pieces_15 (by decide) (fun c15 => ?_) (fun c15 => ?_)
    · refine lv_aload_n hx hb dX5_pieces_20 rfl (lv_at hl 0 rfl) ?_
      refine gF_X5_10 E Z dX5_pieces_21 0 rfl rfl ?_
      refine lv_iload_n hx hb dX5_pieces_24 rfl (lv_at hl 1 rfl) ?_
      refine c_Vi (As := [.int (nI k)]) (rest := []) (w2 := fun _ => [oX q mc bn bl tr, oP (q 1) (q 2) (q 3) size ch, aN cA (q 3) 8 amts]) E Z (k_X1_piecesOf l D cA (q 1) (q 2) (q 3) size ch amts k (by first | assumption | omega)) wv_X5_94 ⟨rfl, rfl, Nat.le_of_ble_eq_true rfl, Nat.le_of_ble_eq_true rfl⟩ [1, 2] rfl rfl rfl rfl (q0 := 0) rfl (fun _ => rfl) (fun _ => rfl) rfl hl.1 rfl (Nat.le_of_ble_eq_true rfl) dX5_pieces_25 ⟨Nat.zero_le _, Nat.zero_le _⟩ (fun r25 _ H locs hp25 Z => ?_)
      subst hp25
      refine lv_istore_n (lv' := [(3, .int (nI (amts k))), (0, .ref (q 0)), (1, .int (nI k)), (2, .int (nI am))]) hx hb dX5_pieces_28 rfl hl (by decide) rfl (fun ls hl => ?_)
      refine lv_aload_n hx hb dX5_pieces_29 rfl (lv_at hl 1 rfl) ?_
      refine gF_X5_10 E Z dX5_pieces_30 0 rfl rfl ?_
      refine lv_iload_n hx hb dX5_pieces_33 rfl (lv_at hl 2 rfl) ?_
      refine lv_iload_n hx hb dX5_pieces_34 rfl (lv_at hl 3 rfl) ?_
      refine c_Vv (As := [.int (nI k), .int (nI am)]) (rest := []) (w2 := fun _ => [oX q mc bn bl tr, oP (q 1) (q 2) (q 3) size ch, aN cA (q 3) 8 (up amts k am)]) E Z (k_X1_putPieces l D cA (q 1) (q 2) (q 3) size ch amts k am (by first | assumption | omega)) wv_X5_97 ⟨rfl, rfl, Nat.le_of_ble_eq_true rfl, Nat.le_of_ble_eq_true rfl⟩ [1, 2] rfl rfl rfl rfl (q0 := 0) rfl (fun _ => rfl) (fun _ => rfl) rfl hl.1 rfl (Nat.le_of_ble_eq_true rfl) dX5_pieces_35 ⟨Nat.zero_le _, Nat.zero_le _⟩ (fun _ H locs hp35 Z => ?_)
      refine lv_iload_n hx hb dX5_pieces_38 rfl (lv_at hl 0 rfl) ?_
      exact ret () Z dX5_pieces_39 rfl rfl
    · exact absurd (inr_ok (by omega) (by omega) (by omega)) c15
abbrev rm_k_X5_cell_bad : Room := { frames := 2, cells := 0, slots := 0, locals := 43 }
set_option maxHeartbeats 4000000 in
set_option maxRecDepth 100000 in
theorem k_X5_cell_bad (l : Launch) (D : va_G) (cA : ClassId) (q : Nat → Nat) (mc : Nat) (bn : Nat) (bl : Nat) (tr : Int64) (x1 : Int32) (x2 : Int32) (hm1 : 1 ≤ mc) (hbad : ¬ ((nI 0 ≤ x1 ∧ x1 ≤ nI (mc - 1)) ∧ (nI 0 ≤ x2 ∧ x2 ≤ nI 3))) : Cti l yX5_cell cX5_cell 4 (some .int) rm_k_X5_cell_bad D cA [.ref (q 0), .int x1, .int x2] ([oX q mc bn bl tr]) (fun (r : Int32) (_ : Unit) => r = (-1)) (fun _ => [oX q mc bn bl tr]) := by
  refine st_i (by decide) (Nat.le_of_ble_eq_true rfl) ?_
  intro p e s m args below meth c A Q E ret Z ls hl
  have hx := E.1.1
  have hb := E.1.2.1
  have hl : lv_has ls 4 [(0, .ref (q 0)), (1, .int x1), (2, .int x2)] := hl
  refine lv_aload_n hx hb dX5_cell_0 rfl (lv_at hl 0 rfl) ?_
  refine lv_iload_n hx hb dX5_cell_1 rfl (lv_at hl 1 rfl) ?_
  refine c_Vi (As := [.int x1]) (rest := []) (w2 := fun _ => [oX q mc bn bl tr]) E Z (k_X5_isMachine l D cA q mc bn bl tr x1 (by first | assumption | omega)) wv_X5_100 ⟨rfl, rfl, Nat.le_of_ble_eq_true rfl, Nat.le_of_ble_eq_true rfl⟩ [0] rfl rfl rfl rfl (q0 := 0) rfl (fun _ => rfl) (fun _ => rfl) rfl hl.1 rfl (Nat.le_of_ble_eq_true rfl) dX5_cell_2 ⟨Nat.zero_le _, Nat.zero_le _⟩ (fun r2 _ H locs hp2 Z => ?_)
  subst hp2
  refine b_if_eq (tgt := 15) hx hb dX5_cell_5 (by decide) (fun c5 => ?_) (fun c5 => ?_)
  · refine lv_iconst (v := (-1)) hx hb dX5_cell_15 (by decide) ?_
    exact ret () Z dX5_cell_16 rfl rfl
  · refine lv_iload_n hx hb dX5_cell_8 rfl (lv_at hl 2 rfl) ?_
    refine c_Si (As := [.int x2]) (rest := []) (w2 := fun _ => [oX q mc bn bl tr]) E Z (k_X5_isCell l D cA x2 ) ws_X5_103 ⟨rfl, rfl, Nat.le_of_ble_eq_true rfl, Nat.le_of_ble_eq_true rfl⟩ [] rfl rfl (fun _ => rfl) (fun _ => rfl) rfl hl.1 rfl (Nat.le_of_ble_eq_true rfl) dX5_cell_9 ⟨Nat.zero_le _, Nat.zero_le _⟩ (fun r9 _ H locs hp9 Z => ?_)
    subst hp9
    refine b_if_ne (tgt := 17) hx hb dX5_cell_12 (by decide) (fun c12 => ?_) (fun c12 => ?_)
    · exact absurd ⟨c5, c12⟩ hbad
    · refine lv_iconst (v := (-1)) hx hb dX5_cell_15 (by decide) ?_
      exact ret () Z dX5_cell_16 rfl rfl
abbrev rm_k_X5_cell : Room := { frames := 3, cells := 0, slots := 0, locals := 69 }
set_option maxHeartbeats 4000000 in
set_option maxRecDepth 100000 in
theorem k_X5_cell (l : Launch) (D : va_G) (cA : ClassId) (q : Nat → Nat) (mc : Nat) (bn : Nat) (bl : Nat) (tr : Int64) (num : Nat) (k : Nat) (d : Nat) (hm1 : 1 ≤ mc) (hM : mc ≤ 7) (hnum : num < 2 ^ (2 * mc)) (hk : k < mc) (hd : d < 4) : Cti l yX5_cell cX5_cell 4 (some .int) rm_k_X5_cell D cA [.ref (q 0), .int (nI k), .int (nI d)] ([oX q mc bn bl tr, oG (q 4) (q 5) mc num, aN cA (q 5) 4 (mF num mc)]) (fun (r : Int32) (_ : Unit) => r = nI (cl num k)) (fun _ => [oX q mc bn bl tr, oG (q 4) (q 5) mc (pt num k d), aN cA (q 5) 4 (mF (pt num k d) mc)]) := by
  refine st_i (by decide) (Nat.le_of_ble_eq_true rfl) ?_
  intro p e s m args below meth c A Q E ret Z ls hl
  have hx := E.1.1
  have hb := E.1.2.1
  have hl : lv_has ls 4 [(0, .ref (q 0)), (1, .int (nI k)), (2, .int (nI d))] := hl
  have h14 : 2 ^ (2 * mc) ≤ 2 ^ 14 := Nat.pow_le_pow_right (by decide) (by omega)
  refine lv_aload_n hx hb dX5_cell_0 rfl (lv_at hl 0 rfl) ?_
  refine lv_iload_n hx hb dX5_cell_1 rfl (lv_at hl 1 rfl) ?_
  refine c_Vi (As := [.int (nI k)]) (rest := []) (w2 := fun _ => [oX q mc bn bl tr, oG (q 4) (q 5) mc num, aN cA (q 5) 4 (mF num mc)]) E Z (k_X5_isMachine l D cA q mc bn bl tr (nI k) (by first | assumption | omega)) wv_X5_100 ⟨rfl, rfl, Nat.le_of_ble_eq_true rfl, Nat.le_of_ble_eq_true rfl⟩ [0] rfl rfl rfl rfl (q0 := 0) rfl (fun _ => rfl) (fun _ => rfl) rfl hl.1 rfl (Nat.le_of_ble_eq_true rfl) dX5_cell_2 ⟨Nat.zero_le _, Nat.zero_le _⟩ (fun r2 _ H locs hp2 Z => ?_)
  subst hp2
  refine b_if_eq (tgt := 15) hx hb dX5_cell_5 (by decide) (fun c5 => ?_) (fun c5 => ?_)
  · exact absurd (inr_ok (by omega) (by omega) (by omega)) c5
  · refine lv_iload_n hx hb dX5_cell_8 rfl (lv_at hl 2 rfl) ?_
    refine c_Si (As := [.int (nI d)]) (rest := []) (w2 := fun _ => [oX q mc bn bl tr, oG (q 4) (q 5) mc num, aN cA (q 5) 4 (mF num mc)]) E Z (k_X5_isCell l D cA (nI d) ) ws_X5_103 ⟨rfl, rfl, Nat.le_of_ble_eq_true rfl, Nat.le_of_ble_eq_true rfl⟩ [] rfl rfl (fun _ => rfl) (fun _ => rfl) rfl hl.1 rfl (Nat.le_of_ble_eq_true rfl) dX5_cell_9 ⟨Nat.zero_le _, Nat.zero_le _⟩ (fun r9 _ H locs hp9 Z => ?_)
    subst hp9
    refine b_if_ne (tgt := 17) hx hb dX5_cell_12 (by decide) (fun c12 => ?_) (fun c12 => ?_)
    · refine lv_aload_n hx hb dX5_cell_17 rfl (lv_at hl 0 rfl) ?_
      refine gF_X5_19 E Z dX5_cell_18 0 rfl rfl ?_
      refine lv_iload_n hx hb dX5_cell_21 rfl (lv_at hl 1 rfl) ?_
      refine c_Vi (As := [.int (nI k)]) (rest := []) (w2 := fun _ => [oX q mc bn bl tr, oG (q 4) (q 5) mc num, aN cA (q 5) 4 (mF num mc)]) E Z (k_X0_cellOf l D cA (q 4) (q 5) mc num k (by first | assumption | omega) (by first | assumption | omega)) wv_X5_106 ⟨rfl, rfl, Nat.le_of_ble_eq_true rfl, Nat.le_of_ble_eq_true rfl⟩ [1] rfl rfl rfl rfl (q0 := 0) rfl (fun _ => rfl) (fun _ => rfl) rfl hl.1 rfl (Nat.le_of_ble_eq_true rfl) dX5_cell_22 ⟨Nat.zero_le _, Nat.zero_le _⟩ (fun r22 _ H locs hp22 Z => ?_)
      subst hp22
      refine lv_istore_n (lv' := [(3, .int (nI (cl num k))), (0, .ref (q 0)), (1, .int (nI k)), (2, .int (nI d))]) hx hb dX5_cell_25 rfl hl (by decide) rfl (fun ls hl => ?_)
      refine lv_aload_n hx hb dX5_cell_26 rfl (lv_at hl 1 rfl) ?_
      refine gF_X5_19 E Z dX5_cell_27 0 rfl rfl ?_
      refine lv_iload_n hx hb dX5_cell_30 rfl (lv_at hl 2 rfl) ?_
      refine lv_iload_n hx hb dX5_cell_31 rfl (lv_at hl 3 rfl) ?_
      refine c_Vv (As := [.int (nI k), .int (nI d)]) (rest := []) (w2 := fun _ => [oX q mc bn bl tr, oG (q 4) (q 5) mc (pt num k d), aN cA (q 5) 4 (mF (pt num k d) mc)]) E Z (k_X0_put l D cA (q 4) (q 5) mc num (mF num mc) k d (by first | assumption | omega) (by first | assumption | omega) (by first | assumption | omega) (by first | assumption | omega)) wv_X5_109 ⟨rfl, rfl, Nat.le_of_ble_eq_true rfl, Nat.le_of_ble_eq_true rfl⟩ [1, 2] rfl rfl rfl rfl (q0 := 0) rfl (fun _ => rfl) (fun _ => rfl) rfl hl.1 rfl (Nat.le_of_ble_eq_true rfl) dX5_cell_32 ⟨Nat.zero_le _, Nat.zero_le _⟩ (fun _ H locs hp32 Z => ?_)
      refine lv_iload_n hx hb dX5_cell_35 rfl (lv_at hl 0 rfl) ?_
      exact ret () Z dX5_cell_36 rfl rfl
    · exact absurd (inr_ok (by omega) (by omega) (by omega)) c12
abbrev rm_k_X5_group_bad : Room := { frames := 1, cells := 0, slots := 0, locals := 22 }
set_option maxHeartbeats 4000000 in
set_option maxRecDepth 100000 in
theorem k_X5_group_bad (l : Launch) (D : va_G) (cA : ClassId) (q : Nat → Nat) (mc : Nat) (bn : Nat) (bl : Nat) (tr : Int64) (x1 : Int32) (hM : mc ≤ 7) (hbad : ¬ ((nI 0 ≤ x1 ∧ x1 ≤ nI (2 ^ (2 * mc) - 1)))) : Cti l yX5_group cX5_group 3 (some .int) rm_k_X5_group_bad D cA [.ref (q 0), .int x1] ([oX q mc bn bl tr]) (fun (r : Int32) (_ : Unit) => r = (-1)) (fun _ => [oX q mc bn bl tr]) := by
  refine st_i (by decide) (Nat.le_of_ble_eq_true rfl) ?_
  intro p e s m args below meth c A Q E ret Z ls hl
  have hx := E.1.1
  have hb := E.1.2.1
  have hl : lv_has ls 3 [(0, .ref (q 0)), (1, .int x1)] := hl
  have h202 := Nat.two_pow_pos (2 * mc)
  refine lv_iload_n hx hb dX5_group_0 rfl (lv_at hl 1 rfl) ?_
  refine lv_iconst (v := nI 0) hx hb dX5_group_1 (by decide) ?_
  refine lv_aload_n hx hb dX5_group_2 rfl (lv_at hl 0 rfl) ?_
  refine c_Vi (As := []) (rest := [.int (nI 0), .int x1]) (w2 := fun _ => [oX q mc bn bl tr]) E Z (k_X5_groupings l D cA q mc bn bl tr (by first | assumption | omega)) wv_X5_112 ⟨rfl, rfl, Nat.le_of_ble_eq_true rfl, Nat.le_of_ble_eq_true rfl⟩ [0] rfl rfl rfl rfl (q0 := 0) rfl (fun _ => rfl) (fun _ => rfl) rfl hl.1 rfl (Nat.le_of_ble_eq_true rfl) dX5_group_3 ⟨Nat.zero_le _, Nat.zero_le _⟩ (fun r3 _ H locs hp3 Z => ?_)
  subst hp3
  refine lv_iconst (v := nI 1) hx hb dX5_group_6 (by decide) ?_
  refine n_isub hx hb dX5_group_7 (by omega) ?_
  refine c_Si (As := [.int x1, .int (nI 0), .int (nI (2 ^ (2 * mc) - 1))]) (rest := []) (w2 := fun _ => [oX q mc bn bl tr]) E Z (k_X5_isWithin l D cA x1 (nI 0) (nI (2 ^ (2 * mc) - 1)) ) ws_X5_67 ⟨rfl, rfl, Nat.le_of_ble_eq_true rfl, Nat.le_of_ble_eq_true rfl⟩ [] rfl rfl (fun _ => rfl) (fun _ => rfl) rfl hl.1 rfl (Nat.le_of_ble_eq_true rfl) dX5_group_8 ⟨Nat.zero_le _, Nat.zero_le _⟩ (fun r8 _ H locs hp8 Z => ?_)
  subst hp8
  refine b_if_ne (tgt := 16) hx hb dX5_group_11 (by decide) (fun c11 => ?_) (fun c11 => ?_)
  · exact absurd c11 hbad
  · refine lv_iconst (v := (-1)) hx hb dX5_group_14 (by decide) ?_
    exact ret () Z dX5_group_15 rfl rfl
abbrev rm_k_X5_group : Room := { frames := 2, cells := 0, slots := 0, locals := 46 }
set_option maxHeartbeats 4000000 in
set_option maxRecDepth 100000 in
theorem k_X5_group (l : Launch) (D : va_G) (cA : ClassId) (q : Nat → Nat) (mc : Nat) (bn : Nat) (bl : Nat) (tr : Int64) (num : Nat) (g : Nat) (hM : mc ≤ 7) (hg : g < 2 ^ (2 * mc)) : Cti l yX5_group cX5_group 3 (some .int) rm_k_X5_group D cA [.ref (q 0), .int (nI g)] ([oX q mc bn bl tr, oG (q 4) (q 5) mc num, aN cA (q 5) 4 (mF num mc)]) (fun (r : Int32) (_ : Unit) => r = nI num) (fun _ => [oX q mc bn bl tr, oG (q 4) (q 5) mc g, aN cA (q 5) 4 (mF g mc)]) := by
  refine st_i (by decide) (Nat.le_of_ble_eq_true rfl) ?_
  intro p e s m args below meth c A Q E ret Z ls hl
  have hx := E.1.1
  have hb := E.1.2.1
  have hl : lv_has ls 3 [(0, .ref (q 0)), (1, .int (nI g))] := hl
  have h14 : 2 ^ (2 * mc) ≤ 2 ^ 14 := Nat.pow_le_pow_right (by decide) (by omega)
  have h202 := Nat.two_pow_pos (2 * mc)
  refine lv_iload_n hx hb dX5_group_0 rfl (lv_at hl 1 rfl) ?_
  refine lv_iconst (v := nI 0) hx hb dX5_group_1 (by decide) ?_
  refine lv_aload_n hx hb dX5_group_2 rfl (lv_at hl 0 rfl) ?_
  refine c_Vi (As := []) (rest := [.int (nI 0), .int (nI g)]) (w2 := fun _ => [oX q mc bn bl tr, oG (q 4) (q 5) mc num, aN cA (q 5) 4 (mF num mc)]) E Z (k_X5_groupings l D cA q mc bn bl tr (by first | assumption | omega)) wv_X5_112 ⟨rfl, rfl, Nat.le_of_ble_eq_true rfl, Nat.le_of_ble_eq_true rfl⟩ [0] rfl rfl rfl rfl (q0 := 0) rfl (fun _ => rfl) (fun _ => rfl) rfl hl.1 rfl (Nat.le_of_ble_eq_true rfl) dX5_group_3 ⟨Nat.zero_le _, Nat.zero_le _⟩ (fun r3 _ H locs hp3 Z => ?_)
  subst hp3
  refine lv_iconst (v := nI 1) hx hb dX5_group_6 (by decide) ?_
  refine n_isub hx hb dX5_group_7 (by omega) ?_
  refine c_Si (As := [.int (nI g), .int (nI 0), .int (nI (2 ^ (2 * mc) - 1))]) (rest := []) (w2 := fun _ => [oX q mc bn bl tr, oG (q 4) (q 5) mc num, aN cA (q 5) 4 (mF num mc)]) E Z (k_X5_isWithin l D cA (nI g) (nI 0) (nI (2 ^ (2 * mc) - 1)) ) ws_X5_67 ⟨rfl, rfl, Nat.le_of_ble_eq_true rfl, Nat.le_of_ble_eq_true rfl⟩ [] rfl rfl (fun _ => rfl) (fun _ => rfl) rfl hl.1 rfl (Nat.le_of_ble_eq_true rfl) dX5_group_8 ⟨Nat.zero_le _, Nat.zero_le _⟩ (fun r8 _ H locs hp8 Z => ?_)
  subst hp8
  refine b_if_ne (tgt := 16) hx hb dX5_group_11 (by decide) (fun c11 => ?_) (fun c11 => ?_)
  · refine lv_aload_n hx hb dX5_group_16 rfl (lv_at hl 0 rfl) ?_
    refine gF_X5_19 E Z dX5_group_17 0 rfl rfl ?_
    refine c_Vi (As := []) (rest := []) (w2 := fun _ => [oX q mc bn bl tr, oG (q 4) (q 5) mc num, aN cA (q 5) 4 (mF num mc)]) E Z (k_X0_numbered l D cA (q 4) (q 5) mc num ) wv_X5_116 ⟨rfl, rfl, Nat.le_of_ble_eq_true rfl, Nat.le_of_ble_eq_true rfl⟩ [1] rfl rfl rfl rfl (q0 := 0) rfl (fun _ => rfl) (fun _ => rfl) rfl hl.1 rfl (Nat.le_of_ble_eq_true rfl) dX5_group_20 ⟨Nat.zero_le _, Nat.zero_le _⟩ (fun r20 _ H locs hp20 Z => ?_)
    subst hp20
    refine lv_istore_n (lv' := [(2, .int (nI num)), (0, .ref (q 0)), (1, .int (nI g))]) hx hb dX5_group_23 rfl hl (by decide) rfl (fun ls hl => ?_)
    refine lv_aload_n hx hb dX5_group_24 rfl (lv_at hl 1 rfl) ?_
    refine gF_X5_19 E Z dX5_group_25 0 rfl rfl ?_
    refine lv_iload_n hx hb dX5_group_28 rfl (lv_at hl 2 rfl) ?_
    refine lv_aload_n hx hb dX5_group_29 rfl (lv_at hl 1 rfl) ?_
    refine gF_X5_71 E Z dX5_group_30 0 rfl rfl ?_
    refine c_Vv (As := [.int (nI g), .int (nI mc)]) (rest := []) (w2 := fun _ => [oX q mc bn bl tr, oG (q 4) (q 5) mc g, aN cA (q 5) 4 (mF g mc)]) E Z (k_X0_become l D cA (q 4) (q 5) mc num (mF num mc) g mc (by first | assumption | omega) (by first | assumption | omega)) wv_X5_119 ⟨rfl, rfl, Nat.le_of_ble_eq_true rfl, Nat.le_of_ble_eq_true rfl⟩ [1, 2] rfl rfl rfl rfl (q0 := 0) rfl (fun _ => rfl) (fun _ => rfl) rfl hl.1 rfl (Nat.le_of_ble_eq_true rfl) dX5_group_33 ⟨Nat.zero_le _, Nat.zero_le _⟩ (fun _ H locs hp33 Z => ?_)
    refine lv_iload_n hx hb dX5_group_36 rfl (lv_at hl 0 rfl) ?_
    exact ret () Z dX5_group_37 rfl rfl
  · exact absurd (inr_ok (by omega) (by omega) (by omega)) c11
abbrev rm_k_X5_about_bad : Room := { frames := 2, cells := 0, slots := 0, locals := 43 }
set_option maxHeartbeats 4000000 in
set_option maxRecDepth 100000 in
theorem k_X5_about_bad (l : Launch) (D : va_G) (cA : ClassId) (q : Nat → Nat) (mc : Nat) (bn : Nat) (bl : Nat) (tr : Int64) (size : Nat) (ch : Nat) (x1 : Int32) (x2 : Int32) (hp1 : 1 ≤ size) (hbad : ¬ ((nI 0 ≤ x1 ∧ x1 ≤ nI (size - 1)))) : Cti l yX5_about cX5_about 4 (some .int) rm_k_X5_about_bad D cA [.ref (q 0), .int x1, .int x2] ([oX q mc bn bl tr, oP (q 1) (q 2) (q 3) size ch]) (fun (r : Int32) (_ : Unit) => r = (-1)) (fun _ => [oX q mc bn bl tr, oP (q 1) (q 2) (q 3) size ch]) := by
  refine st_i (by decide) (Nat.le_of_ble_eq_true rfl) ?_
  intro p e s m args below meth c A Q E ret Z ls hl
  have hx := E.1.1
  have hb := E.1.2.1
  have hl : lv_has ls 4 [(0, .ref (q 0)), (1, .int x1), (2, .int x2)] := hl
  refine lv_aload_n hx hb dX5_about_0 rfl (lv_at hl 0 rfl) ?_
  refine lv_iload_n hx hb dX5_about_1 rfl (lv_at hl 1 rfl) ?_
  refine c_Vi (As := [.int x1]) (rest := []) (w2 := fun _ => [oX q mc bn bl tr, oP (q 1) (q 2) (q 3) size ch]) E Z (k_X5_isPart l D cA q mc bn bl tr size ch x1 (by first | assumption | omega)) wv_X5_75 ⟨rfl, rfl, Nat.le_of_ble_eq_true rfl, Nat.le_of_ble_eq_true rfl⟩ [0, 1] rfl rfl rfl rfl (q0 := 0) rfl (fun _ => rfl) (fun _ => rfl) rfl hl.1 rfl (Nat.le_of_ble_eq_true rfl) dX5_about_2 ⟨Nat.zero_le _, Nat.zero_le _⟩ (fun r2 _ H locs hp2 Z => ?_)
  subst hp2
  refine b_if_ne (tgt := 10) hx hb dX5_about_5 (by decide) (fun c5 => ?_) (fun c5 => ?_)
  · exact absurd c5 hbad
  · refine lv_iconst (v := (-1)) hx hb dX5_about_8 (by decide) ?_
    exact ret () Z dX5_about_9 rfl rfl
abbrev rm_k_X5_about : Room := { frames := 3, cells := 0, slots := 0, locals := 66 }
set_option maxHeartbeats 4000000 in
set_option maxRecDepth 100000 in
theorem k_X5_about (l : Launch) (D : va_G) (cA : ClassId) (q : Nat → Nat) (mc : Nat) (bn : Nat) (bl : Nat) (tr : Int64) (size : Nat) (ch : Nat) (sets : Nat → Nat) (amts : Nat → Nat) (num : Nat) (k : Nat) (x2 : Int32) (hP : size ≤ 8) (hp1 : 1 ≤ size) (hch : ch < 256) (hs : ∀ j, sets j < 2 ^ mc) (hM : mc ≤ 7) (hk : k < size) : Cti l yX5_about cX5_about 4 (some .int) rm_k_X5_about D cA [.ref (q 0), .int (nI k), .int x2] ([oX q mc bn bl tr, oP (q 1) (q 2) (q 3) size ch, aN cA (q 2) 16 sets, aN cA (q 3) 8 amts, oG (q 4) (q 5) mc num, aN cA (q 5) 4 (mF num mc)]) (fun (r : Int32) (_ : Unit) => r = (aAbout mc num size sets amts ch k x2)) (fun _ => [oX q mc bn bl tr, oP (q 1) (q 2) (q 3) size ch, aN cA (q 2) 16 sets, aN cA (q 3) 8 amts, oG (q 4) (q 5) mc num, aN cA (q 5) 4 (mF num mc)]) := by
  refine st_i (by decide) (Nat.le_of_ble_eq_true rfl) ?_
  intro p e s m args below meth c A Q E ret Z ls hl
  have hx := E.1.1
  have hb := E.1.2.1
  have hl : lv_has ls 4 [(0, .ref (q 0)), (1, .int (nI k)), (2, .int x2)] := hl
  refine lv_aload_n hx hb dX5_about_0 rfl (lv_at hl 0 rfl) ?_
  refine lv_iload_n hx hb dX5_about_1 rfl (lv_at hl 1 rfl) ?_
  refine c_Vi (As := [.int (nI k)]) (rest := []) (w2 := fun _ => [oX q mc bn bl tr, oP (q 1) (q 2) (q 3) size ch, aN cA (q 2) 16 sets, aN cA (q 3) 8 amts, oG (q 4) (q 5) mc num, aN cA (q 5) 4 (mF num mc)]) E Z (k_X5_isPart l D cA q mc bn bl tr size ch (nI k) (by first | assumption | omega)) wv_X5_75 ⟨rfl, rfl, Nat.le_of_ble_eq_true rfl, Nat.le_of_ble_eq_true rfl⟩ [0, 1] rfl rfl rfl rfl (q0 := 0) rfl (fun _ => rfl) (fun _ => rfl) rfl hl.1 rfl (Nat.le_of_ble_eq_true rfl) dX5_about_2 ⟨Nat.zero_le _, Nat.zero_le _⟩ (fun r2 _ H locs hp2 Z => ?_)
  subst hp2
  refine b_if_ne (tgt := 10) hx hb dX5_about_5 (by decide) (fun c5 => ?_) (fun c5 => ?_)
  · refine lv_aload_n hx hb dX5_about_10 rfl (lv_at hl 0 rfl) ?_
    refine gF_X5_10 E Z dX5_about_11 0 rfl rfl ?_
    refine lv_iload_n hx hb dX5_about_14 rfl (lv_at hl 1 rfl) ?_
    refine c_Vi (As := [.int (nI k)]) (rest := []) (w2 := fun _ => [oX q mc bn bl tr, oP (q 1) (q 2) (q 3) size ch, aN cA (q 2) 16 sets, aN cA (q 3) 8 amts, oG (q 4) (q 5) mc num, aN cA (q 5) 4 (mF num mc)]) E Z (k_X1_setOf l D cA (q 1) (q 2) (q 3) size ch sets k (by first | assumption | omega) (by first | assumption | omega)) wv_X5_122 ⟨rfl, rfl, Nat.le_of_ble_eq_true rfl, Nat.le_of_ble_eq_true rfl⟩ [1, 2] rfl rfl rfl rfl (q0 := 0) rfl (fun _ => rfl) (fun _ => rfl) rfl hl.1 rfl (Nat.le_of_ble_eq_true rfl) dX5_about_15 ⟨Nat.zero_le _, Nat.zero_le _⟩ (fun r15 _ H locs hp15 Z => ?_)
    subst hp15
    refine lv_istore_n (lv' := [(3, .int (nI (setB sets ch k))), (0, .ref (q 0)), (1, .int (nI k)), (2, .int x2)]) hx hb dX5_about_18 rfl hl (by decide) rfl (fun ls hl => ?_)
    refine lv_iload_n hx hb dX5_about_19 rfl (lv_at hl 3 rfl) ?_
    rcases tsw x2 6 (by decide) with ⟨jS, hjS, eS⟩ | oS
    · obtain rfl | rfl | rfl | rfl | rfl | rfl : jS = 0 ∨ jS = 1 ∨ jS = 2 ∨ jS = 3 ∨ jS = 4 ∨ jS = 5 := by omega
      · refine r_top (y := nI 0) eS ?_
        refine lv_tableIn (tgt := 60) hx hb dX5_about_20 (by decide) (by decide) rfl (by decide) ?_
        refine lv_aload_n hx hb dX5_about_60 rfl (lv_at hl 1 rfl) ?_
        refine gF_X5_19 E Z dX5_about_61 0 rfl rfl ?_
        refine lv_iload_n hx hb dX5_about_64 rfl (lv_at hl 0 rfl) ?_
        refine c_Vi (As := [.int (nI (setB sets ch k))]) (rest := []) (w2 := fun _ => [oX q mc bn bl tr, oP (q 1) (q 2) (q 3) size ch, aN cA (q 2) 16 sets, aN cA (q 3) 8 amts, oG (q 4) (q 5) mc num, aN cA (q 5) 4 (mF num mc)]) E Z (k_X0_homeOf l D cA (q 4) (q 5) mc num (mF num mc) (setB sets ch k) (mF_ok _ mc hM) (by first | assumption | omega)) wv_X5_125 ⟨rfl, rfl, Nat.le_of_ble_eq_true rfl, Nat.le_of_ble_eq_true rfl⟩ [4, 5] rfl rfl rfl rfl (q0 := 0) rfl (fun _ => rfl) (fun _ => rfl) rfl hl.1 rfl (Nat.le_of_ble_eq_true rfl) dX5_about_65 ⟨Nat.zero_le _, Nat.zero_le _⟩ (fun r65 _ H locs hp65 Z => ?_)
        subst hp65
        exact ret () Z dX5_about_68 rfl (by rw [eS]; rfl)
      · refine r_top (y := nI 1) eS ?_
        refine lv_tableIn (tgt := 69) hx hb dX5_about_20 (by decide) (by decide) rfl (by decide) ?_
        refine lv_aload_n hx hb dX5_about_69 rfl (lv_at hl 1 rfl) ?_
        refine gF_X5_19 E Z dX5_about_70 0 rfl rfl ?_
        refine lv_iload_n hx hb dX5_about_73 rfl (lv_at hl 0 rfl) ?_
        refine c_Vi (As := [.int (nI (setB sets ch k))]) (rest := []) (w2 := fun _ => [oX q mc bn bl tr, oP (q 1) (q 2) (q 3) size ch, aN cA (q 2) 16 sets, aN cA (q 3) 8 amts, oG (q 4) (q 5) mc num, aN cA (q 5) 4 (mF num mc)]) E Z (k_X0_wandersOf l D cA (q 4) (q 5) mc num (mF num mc) (setB sets ch k) (mF_ok _ mc hM) (by first | assumption | omega) (hs _)) wv_X5_128 ⟨rfl, rfl, Nat.le_of_ble_eq_true rfl, Nat.le_of_ble_eq_true rfl⟩ [4, 5] rfl rfl rfl rfl (q0 := 0) rfl (fun _ => rfl) (fun _ => rfl) rfl hl.1 rfl (Nat.le_of_ble_eq_true rfl) dX5_about_74 ⟨Nat.zero_le _, Nat.zero_le _⟩ (fun r74 _ H locs hp74 Z => ?_)
        subst hp74
        exact ret () Z dX5_about_77 rfl (by rw [eS]; rfl)
      · refine r_top (y := nI 2) eS ?_
        refine lv_tableIn (tgt := 78) hx hb dX5_about_20 (by decide) (by decide) rfl (by decide) ?_
        refine lv_aload_n hx hb dX5_about_78 rfl (lv_at hl 1 rfl) ?_
        refine gF_X5_19 E Z dX5_about_79 0 rfl rfl ?_
        refine lv_iload_n hx hb dX5_about_82 rfl (lv_at hl 0 rfl) ?_
        refine c_Vi (As := [.int (nI (setB sets ch k))]) (rest := []) (w2 := fun _ => [oX q mc bn bl tr, oP (q 1) (q 2) (q 3) size ch, aN cA (q 2) 16 sets, aN cA (q 3) 8 amts, oG (q 4) (q 5) mc num, aN cA (q 5) 4 (mF num mc)]) E Z (k_X0_idleOf l D cA (q 4) (q 5) mc num (mF num mc) (setB sets ch k) (mF_ok _ mc hM) (by first | assumption | omega) (hs _)) wv_X5_131 ⟨rfl, rfl, Nat.le_of_ble_eq_true rfl, Nat.le_of_ble_eq_true rfl⟩ [4, 5] rfl rfl rfl rfl (q0 := 0) rfl (fun _ => rfl) (fun _ => rfl) rfl hl.1 rfl (Nat.le_of_ble_eq_true rfl) dX5_about_83 ⟨Nat.zero_le _, Nat.zero_le _⟩ (fun r83 _ H locs hp83 Z => ?_)
        subst hp83
        exact ret () Z dX5_about_86 rfl (by rw [eS]; rfl)
      · refine r_top (y := nI 3) eS ?_
        refine lv_tableIn (tgt := 87) hx hb dX5_about_20 (by decide) (by decide) rfl (by decide) ?_
        refine lv_aload_n hx hb dX5_about_87 rfl (lv_at hl 1 rfl) ?_
        refine gF_X5_10 E Z dX5_about_88 0 rfl rfl ?_
        refine lv_iload_n hx hb dX5_about_91 rfl (lv_at hl 2 rfl) ?_
        refine c_Vi (As := [.int (nI k)]) (rest := []) (w2 := fun _ => [oX q mc bn bl tr, oP (q 1) (q 2) (q 3) size ch, aN cA (q 2) 16 sets, aN cA (q 3) 8 amts, oG (q 4) (q 5) mc num, aN cA (q 5) 4 (mF num mc)]) E Z (k_X1_piecesOf l D cA (q 1) (q 2) (q 3) size ch amts k (by first | assumption | omega)) wv_X5_94 ⟨rfl, rfl, Nat.le_of_ble_eq_true rfl, Nat.le_of_ble_eq_true rfl⟩ [1, 3] rfl rfl rfl rfl (q0 := 0) rfl (fun _ => rfl) (fun _ => rfl) rfl hl.1 rfl (Nat.le_of_ble_eq_true rfl) dX5_about_92 ⟨Nat.zero_le _, Nat.zero_le _⟩ (fun r92 _ H locs hp92 Z => ?_)
        subst hp92
        exact ret () Z dX5_about_95 rfl (by rw [eS]; rfl)
      · refine r_top (y := nI 4) eS ?_
        refine lv_tableIn (tgt := 96) hx hb dX5_about_20 (by decide) (by decide) rfl (by decide) ?_
        refine lv_aload_n hx hb dX5_about_96 rfl (lv_at hl 1 rfl) ?_
        refine gF_X5_10 E Z dX5_about_97 0 rfl rfl ?_
        refine lv_iload_n hx hb dX5_about_100 rfl (lv_at hl 2 rfl) ?_
        refine c_Vi (As := [.int (nI k)]) (rest := []) (w2 := fun _ => [oX q mc bn bl tr, oP (q 1) (q 2) (q 3) size ch, aN cA (q 2) 16 sets, aN cA (q 3) 8 amts, oG (q 4) (q 5) mc num, aN cA (q 5) 4 (mF num mc)]) E Z (k_X1_chosenBy l D cA (q 1) (q 2) (q 3) size ch k (by first | assumption | omega) (by first | assumption | omega)) wv_X5_87 ⟨rfl, rfl, Nat.le_of_ble_eq_true rfl, Nat.le_of_ble_eq_true rfl⟩ [1] rfl rfl rfl rfl (q0 := 0) rfl (fun _ => rfl) (fun _ => rfl) rfl hl.1 rfl (Nat.le_of_ble_eq_true rfl) dX5_about_101 ⟨Nat.zero_le _, Nat.zero_le _⟩ (fun r101 _ H locs hp101 Z => ?_)
        subst hp101
        exact ret () Z dX5_about_104 rfl (by rw [eS]; rfl)
      · refine r_top (y := nI 5) eS ?_
        refine lv_tableIn (tgt := 105) hx hb dX5_about_20 (by decide) (by decide) rfl (by decide) ?_
        refine lv_iload_n hx hb dX5_about_105 rfl (lv_at hl 0 rfl) ?_
        exact ret () Z dX5_about_106 rfl (by rw [eS]; rfl)
    · refine lv_tableOut (tgt := 107) hx hb dX5_about_20 oS (by decide) ?_
      refine lv_iconst (v := (-1)) hx hb dX5_about_107 (by decide) ?_
      exact ret () Z dX5_about_108 rfl (by unfold aAbout; rw [if_neg (notS (n := 6) oS (by decide) (by decide)), if_neg (notS (n := 6) oS (by decide) (by decide)), if_neg (notS (n := 6) oS (by decide) (by decide)), if_neg (notS (n := 6) oS (by decide) (by decide)), if_neg (notS (n := 6) oS (by decide) (by decide)), if_neg (notS (n := 6) oS (by decide) (by decide))])
  · exact absurd (inr_ok (by omega) (by omega) (by omega)) c5
abbrev rm_k_X5_loss_bad : Room := { frames := 2, cells := 0, slots := 0, locals := 42 }
set_option maxHeartbeats 4000000 in
set_option maxRecDepth 100000 in
theorem k_X5_loss_bad (l : Launch) (D : va_G) (cA : ClassId) (q : Nat → Nat) (mc : Nat) (bn : Nat) (bl : Nat) (tr : Int64) (x1 : Int32) (hbad : ¬ ((nI 0 ≤ x1 ∧ x1 ≤ nI 2))) : Cti l yX5_loss cX5_loss 2 (some .int) rm_k_X5_loss_bad D cA [.ref (q 0), .int x1] ([oX q mc bn bl tr]) (fun (r : Int32) (_ : Unit) => r = (-1)) (fun _ => [oX q mc bn bl tr]) := by
  refine st_i (by decide) (Nat.le_of_ble_eq_true rfl) ?_
  intro p e s m args below meth c A Q E ret Z ls hl
  have hx := E.1.1
  have hb := E.1.2.1
  have hl : lv_has ls 2 [(0, .ref (q 0)), (1, .int x1)] := hl
  refine lv_iload_n hx hb dX5_loss_0 rfl (lv_at hl 1 rfl) ?_
  refine c_Si (As := [.int x1]) (rest := []) (w2 := fun _ => [oX q mc bn bl tr]) E Z (k_X5_isKind l D cA x1 ) ws_X5_134 ⟨rfl, rfl, Nat.le_of_ble_eq_true rfl, Nat.le_of_ble_eq_true rfl⟩ [] rfl rfl (fun _ => rfl) (fun _ => rfl) rfl hl.1 rfl (Nat.le_of_ble_eq_true rfl) dX5_loss_1 ⟨Nat.zero_le _, Nat.zero_le _⟩ (fun r1 _ H locs hp1 Z => ?_)
  subst hp1
  refine b_if_ne (tgt := 9) hx hb dX5_loss_4 (by decide) (fun c4 => ?_) (fun c4 => ?_)
  · exact absurd c4 hbad
  · refine lv_iconst (v := (-1)) hx hb dX5_loss_7 (by decide) ?_
    exact ret () Z dX5_loss_8 rfl rfl
abbrev rm_k_X5_loss : Room := { frames := 5, cells := 0, slots := 0, locals := 113 }
set_option maxHeartbeats 4000000 in
set_option maxRecDepth 100000 in
theorem k_X5_loss (l : Launch) (D : va_G) (cA : ClassId) (q : Nat → Nat) (mc : Nat) (bn : Nat) (bl : Nat) (tr : Int64) (size : Nat) (ch : Nat) (sets : Nat → Nat) (amts : Nat → Nat) (num : Nat) (kd : Nat) (hP : size ≤ 8) (hch : ch < 256) (hs : ∀ j, sets j < 2 ^ mc) (hM : mc ≤ 7) (hkd : kd < 3) : CtiX l yX5_loss cX5_loss 2 (some .int) rm_k_X5_loss D cA [.ref (q 0), .int (nI kd)] ([oX q mc bn bl tr, oP (q 1) (q 2) (q 3) size ch, aN cA (q 2) 16 sets, aN cA (q 3) 8 amts, oG (q 4) (q 5) mc num, aN cA (q 5) 4 (mF num mc)]) (fun (r : Int32) (_ : Unit) => r = nI (lossV mc num size sets amts ch kd)) (fun _ => [oX q mc bn bl (tr + (nI (trk kd)).toInt64), oP (q 1) (q 2) (q 3) size ch, aN cA (q 2) 16 sets, aN cA (q 3) 8 amts, oG (q 4) (q 5) mc num, aN cA (q 5) 4 (mF num mc)]) := by
  refine st_iX (by decide) (Nat.le_of_ble_eq_true rfl) ?_
  intro p e s m args below meth c A Q E hXs ret Z ls hl
  have hx := E.1.1
  have hb := E.1.2.1
  have hl : lv_has ls 2 [(0, .ref (q 0)), (1, .int (nI kd))] := hl
  refine lv_iload_n hx hb dX5_loss_0 rfl (lv_at hl 1 rfl) ?_
  refine c_Si (As := [.int (nI kd)]) (rest := []) (w2 := fun _ => [oX q mc bn bl tr, oP (q 1) (q 2) (q 3) size ch, aN cA (q 2) 16 sets, aN cA (q 3) 8 amts, oG (q 4) (q 5) mc num, aN cA (q 5) 4 (mF num mc)]) E Z (k_X5_isKind l D cA (nI kd) ) ws_X5_134 ⟨rfl, rfl, Nat.le_of_ble_eq_true rfl, Nat.le_of_ble_eq_true rfl⟩ [] rfl rfl (fun _ => rfl) (fun _ => rfl) rfl hl.1 rfl (Nat.le_of_ble_eq_true rfl) dX5_loss_1 ⟨Nat.zero_le _, Nat.zero_le _⟩ (fun r1 _ H locs hp1 Z => ?_)
  subst hp1
  refine b_if_ne (tgt := 9) hx hb dX5_loss_4 (by decide) (fun c4 => ?_) (fun c4 => ?_)
  · refine lv_aload_n hx hb dX5_loss_9 rfl (lv_at hl 0 rfl) ?_
    refine lv_dup hx hb dX5_loss_10 rfl ?_
    refine gF_X5_137 E Z dX5_loss_11 0 rfl rfl ?_
    obtain ⟨t0, hZs, hTs⟩ := hXs
    refine va_gets hx hb hZs Z.2.2 E.1.2.2.2.1 (E.1.2.2.2.2 _ mF_X5_141) (fun _ h => h) dX5_loss_14 ?_
    refine lv_iload_n hx hb dX5_loss_17 rfl (lv_at hl 1 rfl) ?_
    refine va_ti (v := .int (nI (trk kd))) hx hb hTs Z.2.2 (vp_in_nI (by omega) (by decide)) (by rw [nI_clamp (by omega)]) dX5_loss_18 ?_
    refine lv_i2l (v := (nI (trk kd)).toInt64) hx hb dX5_loss_19 rfl ?_
    refine lv_ladd hx hb dX5_loss_20 ?_
    refine pF_X5_137 (w1 := [oX q mc bn bl (tr + ((nI (trk kd)).toInt64)), oP (q 1) (q 2) (q 3) size ch, aN cA (q 2) 16 sets, aN cA (q 3) 8 amts, oG (q 4) (q 5) mc num, aN cA (q 5) 4 (mF num mc)]) E Z dX5_loss_21 0 rfl (Nat.le_of_ble_eq_true rfl) rfl (fun H locs Z => ?_)
    refine lv_aload_n hx hb dX5_loss_24 rfl (lv_at hl 0 rfl) ?_
    refine lv_aload_n hx hb dX5_loss_25 rfl (lv_at hl 0 rfl) ?_
    refine gF_X5_19 E Z dX5_loss_26 0 rfl rfl ?_
    refine lv_iload_n hx hb dX5_loss_29 rfl (lv_at hl 1 rfl) ?_
    refine c_Vi (As := [.ref (q 4), .int (nI kd)]) (rest := []) (w2 := fun _ => [oX q mc bn bl (tr + ((nI (trk kd)).toInt64)), oP (q 1) (q 2) (q 3) size ch, aN cA (q 2) 16 sets, aN cA (q 3) 8 amts, oG (q 4) (q 5) mc num, aN cA (q 5) 4 (mF num mc)]) E Z (k_X5_lossOf l D cA q mc bn bl (tr + ((nI (trk kd)).toInt64)) size ch sets amts (q 4) (q 5) mc num (mF num mc) kd (by first | assumption | omega) (by first | assumption | omega) (by first | assumption | omega) (by first | assumption | omega) (mF_ok _ mc hM) (by first | assumption | omega)) wv_X5_144 ⟨rfl, rfl, Nat.le_of_ble_eq_true rfl, Nat.le_of_ble_eq_true rfl⟩ [0, 1, 2, 3, 4, 5] rfl rfl rfl rfl (q0 := 0) rfl (fun _ => rfl) (fun _ => rfl) rfl hl.1 rfl (Nat.le_of_ble_eq_true rfl) dX5_loss_30 ⟨Nat.zero_le _, Nat.zero_le _⟩ (fun r30 _ H locs hp30 Z => ?_)
    subst hp30
    exact ret () Z dX5_loss_33 rfl rfl
  · exact absurd (inr_ok (by omega) (by omega) (by omega)) c4
abbrev rm_k_X5_best_bad : Room := { frames := 2, cells := 0, slots := 0, locals := 42 }
set_option maxHeartbeats 4000000 in
set_option maxRecDepth 100000 in
theorem k_X5_best_bad (l : Launch) (D : va_G) (cA : ClassId) (q : Nat → Nat) (mc : Nat) (bn : Nat) (bl : Nat) (tr : Int64) (x1 : Int32) (x2 : Int32) (x3 : Int32) (hbad : ¬ ((nI 0 ≤ x1 ∧ x1 ≤ nI 2) ∧ (nI 1 ≤ x2 ∧ x2 ≤ nI 7) ∧ (nI 0 ≤ x3 ∧ x3 ≤ nI 1))) : Cti l yX5_best cX5_best 4 (some .int) rm_k_X5_best_bad D cA [.ref (q 0), .int x1, .int x2, .int x3] ([oX q mc bn bl tr]) (fun (r : Int32) (_ : Unit) => r = (-1)) (fun _ => [oX q mc bn bl tr]) := by
  refine st_i (by decide) (Nat.le_of_ble_eq_true rfl) ?_
  intro p e s m args below meth c A Q E ret Z ls hl
  have hx := E.1.1
  have hb := E.1.2.1
  have hl : lv_has ls 4 [(0, .ref (q 0)), (1, .int x1), (2, .int x2), (3, .int x3)] := hl
  refine lv_iload_n hx hb dX5_best_0 rfl (lv_at hl 1 rfl) ?_
  refine c_Si (As := [.int x1]) (rest := []) (w2 := fun _ => [oX q mc bn bl tr]) E Z (k_X5_isKind l D cA x1 ) ws_X5_134 ⟨rfl, rfl, Nat.le_of_ble_eq_true rfl, Nat.le_of_ble_eq_true rfl⟩ [] rfl rfl (fun _ => rfl) (fun _ => rfl) rfl hl.1 rfl (Nat.le_of_ble_eq_true rfl) dX5_best_1 ⟨Nat.zero_le _, Nat.zero_le _⟩ (fun r1 _ H locs hp1 Z => ?_)
  subst hp1
  refine b_if_eq (tgt := 26) hx hb dX5_best_4 (by decide) (fun c4 => ?_) (fun c4 => ?_)
  · refine lv_iconst (v := (-1)) hx hb dX5_best_26 (by decide) ?_
    exact ret () Z dX5_best_27 rfl rfl
  · refine lv_iload_n hx hb dX5_best_7 rfl (lv_at hl 2 rfl) ?_
    refine lv_iconst (v := nI 1) hx hb dX5_best_8 (by decide) ?_
    refine lv_bipush (v := nI 7) hx hb dX5_best_9 (by decide) ?_
    refine c_Si (As := [.int x2, .int (nI 1), .int (nI 7)]) (rest := []) (w2 := fun _ => [oX q mc bn bl tr]) E Z (k_X5_isWithin l D cA x2 (nI 1) (nI 7) ) ws_X5_67 ⟨rfl, rfl, Nat.le_of_ble_eq_true rfl, Nat.le_of_ble_eq_true rfl⟩ [] rfl rfl (fun _ => rfl) (fun _ => rfl) rfl hl.1 rfl (Nat.le_of_ble_eq_true rfl) dX5_best_11 ⟨Nat.zero_le _, Nat.zero_le _⟩ (fun r11 _ H locs hp11 Z => ?_)
    subst hp11
    refine b_if_eq (tgt := 26) hx hb dX5_best_14 (by decide) (fun c14 => ?_) (fun c14 => ?_)
    · refine lv_iconst (v := (-1)) hx hb dX5_best_26 (by decide) ?_
      exact ret () Z dX5_best_27 rfl rfl
    · refine lv_iload_n hx hb dX5_best_17 rfl (lv_at hl 3 rfl) ?_
      refine lv_iconst (v := nI 0) hx hb dX5_best_18 (by decide) ?_
      refine lv_iconst (v := nI 1) hx hb dX5_best_19 (by decide) ?_
      refine c_Si (As := [.int x3, .int (nI 0), .int (nI 1)]) (rest := []) (w2 := fun _ => [oX q mc bn bl tr]) E Z (k_X5_isWithin l D cA x3 (nI 0) (nI 1) ) ws_X5_67 ⟨rfl, rfl, Nat.le_of_ble_eq_true rfl, Nat.le_of_ble_eq_true rfl⟩ [] rfl rfl (fun _ => rfl) (fun _ => rfl) rfl hl.1 rfl (Nat.le_of_ble_eq_true rfl) dX5_best_20 ⟨Nat.zero_le _, Nat.zero_le _⟩ (fun r20 _ H locs hp20 Z => ?_)
      subst hp20
      refine b_if_ne (tgt := 28) hx hb dX5_best_23 (by decide) (fun c23 => ?_) (fun c23 => ?_)
      · exact absurd ⟨c4, c14, c23⟩ hbad
      · refine lv_iconst (v := (-1)) hx hb dX5_best_26 (by decide) ?_
        exact ret () Z dX5_best_27 rfl rfl
abbrev rm_k_X5_best : Room := { frames := 6, cells := 0, slots := 0, locals := 138 }
set_option maxHeartbeats 4000000 in
set_option maxRecDepth 100000 in
theorem k_X5_best (l : Launch) (D : va_G) (cA : ClassId) (q : Nat → Nat) (mc : Nat) (bn : Nat) (bl : Nat) (tr : Int64) (size : Nat) (ch : Nat) (sets : Nat → Nat) (amts : Nat → Nat) (tmc : Nat) (tn : Nat) (tmem : Nat → Nat) (kd : Nat) (L : Nat) (wh : Nat) (hP : size ≤ 8) (hch : ch < 256) (hs : ∀ j, sets j < 2 ^ mc) (hm1 : 1 ≤ mc) (hM : mc ≤ 7) (ha10 : ∀ j, amts j < 10) (hkd : kd < 3) (hL : 1 ≤ L ∧ L ≤ 7) (hw : wh < 2) : Cti l yX5_best cX5_best 4 (some .int) rm_k_X5_best D cA [.ref (q 0), .int (nI kd), .int (nI L), .int (nI wh)] ([oX q mc bn bl tr, oP (q 1) (q 2) (q 3) size ch, aN cA (q 2) 16 sets, aN cA (q 3) 8 amts, oG (q 6) (q 7) tmc tn, aN cA (q 7) 4 tmem]) (fun (r : Int32) (_ : Nat × Nat × Nat × Nat × (Nat → Nat)) => r = aBest mc size sets amts ch kd L wh) (fun u => [oX q mc u.1 u.2.1 tr, oP (q 1) (q 2) (q 3) size ch, aN cA (q 2) 16 sets, aN cA (q 3) 8 amts, oG (q 6) (q 7) u.2.2.1 u.2.2.2.1, aN cA (q 7) 4 u.2.2.2.2]) := by
  refine st_i (by decide) (Nat.le_of_ble_eq_true rfl) ?_
  intro p e s m args below meth c A Q E ret Z ls hl
  have hx := E.1.1
  have hb := E.1.2.1
  have hl : lv_has ls 4 [(0, .ref (q 0)), (1, .int (nI kd)), (2, .int (nI L)), (3, .int (nI wh))] := hl
  refine lv_iload_n hx hb dX5_best_0 rfl (lv_at hl 1 rfl) ?_
  refine c_Si (As := [.int (nI kd)]) (rest := []) (w2 := fun _ => [oX q mc bn bl tr, oP (q 1) (q 2) (q 3) size ch, aN cA (q 2) 16 sets, aN cA (q 3) 8 amts, oG (q 6) (q 7) tmc tn, aN cA (q 7) 4 tmem]) E Z (k_X5_isKind l D cA (nI kd) ) ws_X5_134 ⟨rfl, rfl, Nat.le_of_ble_eq_true rfl, Nat.le_of_ble_eq_true rfl⟩ [] rfl rfl (fun _ => rfl) (fun _ => rfl) rfl hl.1 rfl (Nat.le_of_ble_eq_true rfl) dX5_best_1 ⟨Nat.zero_le _, Nat.zero_le _⟩ (fun r1 _ H locs hp1 Z => ?_)
  subst hp1
  refine b_if_eq (tgt := 26) hx hb dX5_best_4 (by decide) (fun c4 => ?_) (fun c4 => ?_)
  · exact absurd (inr_ok (by omega) (by omega) (by omega)) c4
  · refine lv_iload_n hx hb dX5_best_7 rfl (lv_at hl 2 rfl) ?_
    refine lv_iconst (v := nI 1) hx hb dX5_best_8 (by decide) ?_
    refine lv_bipush (v := nI 7) hx hb dX5_best_9 (by decide) ?_
    refine c_Si (As := [.int (nI L), .int (nI 1), .int (nI 7)]) (rest := []) (w2 := fun _ => [oX q mc bn bl tr, oP (q 1) (q 2) (q 3) size ch, aN cA (q 2) 16 sets, aN cA (q 3) 8 amts, oG (q 6) (q 7) tmc tn, aN cA (q 7) 4 tmem]) E Z (k_X5_isWithin l D cA (nI L) (nI 1) (nI 7) ) ws_X5_67 ⟨rfl, rfl, Nat.le_of_ble_eq_true rfl, Nat.le_of_ble_eq_true rfl⟩ [] rfl rfl (fun _ => rfl) (fun _ => rfl) rfl hl.1 rfl (Nat.le_of_ble_eq_true rfl) dX5_best_11 ⟨Nat.zero_le _, Nat.zero_le _⟩ (fun r11 _ H locs hp11 Z => ?_)
    subst hp11
    refine b_if_eq (tgt := 26) hx hb dX5_best_14 (by decide) (fun c14 => ?_) (fun c14 => ?_)
    · exact absurd (inr_ok (by omega) (by omega) (by omega)) c14
    · refine lv_iload_n hx hb dX5_best_17 rfl (lv_at hl 3 rfl) ?_
      refine lv_iconst (v := nI 0) hx hb dX5_best_18 (by decide) ?_
      refine lv_iconst (v := nI 1) hx hb dX5_best_19 (by decide) ?_
      refine c_Si (As := [.int (nI wh), .int (nI 0), .int (nI 1)]) (rest := []) (w2 := fun _ => [oX q mc bn bl tr, oP (q 1) (q 2) (q 3) size ch, aN cA (q 2) 16 sets, aN cA (q 3) 8 amts, oG (q 6) (q 7) tmc tn, aN cA (q 7) 4 tmem]) E Z (k_X5_isWithin l D cA (nI wh) (nI 0) (nI 1) ) ws_X5_67 ⟨rfl, rfl, Nat.le_of_ble_eq_true rfl, Nat.le_of_ble_eq_true rfl⟩ [] rfl rfl (fun _ => rfl) (fun _ => rfl) rfl hl.1 rfl (Nat.le_of_ble_eq_true rfl) dX5_best_20 ⟨Nat.zero_le _, Nat.zero_le _⟩ (fun r20 _ H locs hp20 Z => ?_)
      subst hp20
      refine b_if_ne (tgt := 28) hx hb dX5_best_23 (by decide) (fun c23 => ?_) (fun c23 => ?_)
      · refine lv_iconst (v := nI 4) hx hb dX5_best_28 (by decide) ?_
        refine lv_iload_n hx hb dX5_best_29 rfl (lv_at hl 2 rfl) ?_
        refine n_imul hx hb dX5_best_30 ?_
        refine lv_aload_n hx hb dX5_best_31 rfl (lv_at hl 0 rfl) ?_
        refine gF_X5_71 E Z dX5_best_32 0 rfl rfl ?_
        refine n_icmp_ge (tgt := 41) hx hb dX5_best_35 (by decide) (by omega) (by omega) (fun c35 => ?_) (fun c35 => ?_)
        · refine lv_aload_n hx hb dX5_best_41 rfl (lv_at hl 0 rfl) ?_
          refine lv_iload_n hx hb dX5_best_42 rfl (lv_at hl 1 rfl) ?_
          refine lv_iload_n hx hb dX5_best_43 rfl (lv_at hl 2 rfl) ?_
          refine c_Vv (As := [.int (nI kd), .int (nI L)]) (rest := []) (w2 := fun u44 => [oX q mc ((sgb mc size sets amts ch kd L (2 ^ (2 * mc - 2))).1) ((sgb mc size sets amts ch kd L (2 ^ (2 * mc - 2))).2) tr, oP (q 1) (q 2) (q 3) size ch, aN cA (q 2) 16 sets, aN cA (q 3) 8 amts, oG (q 6) (q 7) u44.1 u44.2.1, aN cA (q 7) 4 u44.2.2]) E Z (k_X5_seekGrouping l D cA q mc bn bl tr size ch sets amts tmc tn tmem kd L (by first | assumption | omega) (by first | assumption | omega) (by first | assumption | omega) (by first | assumption | omega) (by first | assumption | omega) (by first | assumption | omega) (by first | assumption | omega) (by first | assumption | omega)) wv_X5_148 ⟨rfl, rfl, Nat.le_of_ble_eq_true rfl, Nat.le_of_ble_eq_true rfl⟩ [0, 1, 2, 3, 4, 5] rfl rfl rfl rfl (q0 := 0) rfl (fun _ => rfl) (fun _ => rfl) rfl hl.1 rfl (Nat.le_of_ble_eq_true rfl) dX5_best_44 ⟨Nat.zero_le _, Nat.zero_le _⟩ (fun u44 H locs hp44 Z => ?_)
          refine lv_iload_n hx hb dX5_best_47 rfl (lv_at hl 3 rfl) ?_
          refine n_if_ne (tgt := 58) hx hb dX5_best_48 (by decide) (by omega) (fun c48 => ?_) (fun c48 => ?_)
          · refine lv_aload_n hx hb dX5_best_58 rfl (lv_at hl 0 rfl) ?_
            refine gF_X5_154 E Z dX5_best_59 0 rfl rfl ?_
            exact ret (_, _, _, _, _) Z dX5_best_62 rfl ((if_neg (Nat.not_lt.mpr c35)).trans (if_neg c48)).symm
          · refine lv_aload_n hx hb dX5_best_51 rfl (lv_at hl 0 rfl) ?_
            refine gF_X5_151 E Z dX5_best_52 0 rfl rfl ?_
            refine lv_goto (tgt := 62) hx hb dX5_best_55 (by decide) ?_
            exact ret (_, _, _, _, _) Z dX5_best_62 rfl ((if_neg (Nat.not_lt.mpr c35)).trans (if_pos c48)).symm
        · refine lv_bipush (v := (-2)) hx hb dX5_best_38 (by decide) ?_
          exact ret (bn, bl, tmc, tn, tmem) Z dX5_best_40 rfl (if_pos c35).symm
      · exact absurd (inr_ok (by omega) (by omega) (by omega)) c23
abbrev rm_k_X5_plain : Room := { frames := 1, cells := 0, slots := 0, locals := 24 }
set_option maxHeartbeats 4000000 in
set_option maxRecDepth 100000 in
theorem k_X5_plain (l : Launch) (D : va_G) (cA : ClassId) (q : Nat → Nat) (mc : Nat) (bn : Nat) (bl : Nat) (tr : Int64) (num : Nat) (hM : mc ≤ 7) (hnum : num < 2 ^ (2 * mc)) : Cti l yX5_plain cX5_plain 1 (some .int) rm_k_X5_plain D cA [.ref (q 0)] ([oX q mc bn bl tr, oG (q 4) (q 5) mc num]) (fun (r : Int32) (_ : Unit) => r = (bI (plain mc num))) (fun _ => [oX q mc bn bl tr, oG (q 4) (q 5) mc num]) := by
  refine st_i (by decide) (Nat.le_of_ble_eq_true rfl) ?_
  intro p e s m args below meth c A Q E ret Z ls hl
  have hx := E.1.1
  have hb := E.1.2.1
  have hl : lv_has ls 1 [(0, .ref (q 0))] := hl
  have h14 : 2 ^ (2 * mc) ≤ 2 ^ 14 := Nat.pow_le_pow_right (by decide) (by omega)
  refine lv_aload_n hx hb dX5_plain_0 rfl (lv_at hl 0 rfl) ?_
  refine gF_X5_19 E Z dX5_plain_1 0 rfl rfl ?_
  refine c_Vi (As := []) (rest := []) (w2 := fun _ => [oX q mc bn bl tr, oG (q 4) (q 5) mc num]) E Z (k_X0_numbered l D cA (q 4) (q 5) mc num ) wv_X5_116 ⟨rfl, rfl, Nat.le_of_ble_eq_true rfl, Nat.le_of_ble_eq_true rfl⟩ [1] rfl rfl rfl rfl (q0 := 0) rfl (fun _ => rfl) (fun _ => rfl) rfl hl.1 rfl (Nat.le_of_ble_eq_true rfl) dX5_plain_4 ⟨Nat.zero_le _, Nat.zero_le _⟩ (fun r4 _ H locs hp4 Z => ?_)
  subst hp4
  refine lv_aload_n hx hb dX5_plain_7 rfl (lv_at hl 0 rfl) ?_
  refine gF_X5_71 E Z dX5_plain_8 0 rfl rfl ?_
  refine c_Si (As := [.int (nI num), .int (nI mc)]) (rest := []) (w2 := fun _ => [oX q mc bn bl tr, oG (q 4) (q 5) mc num]) E Z (k_X0_isPlain l D cA num mc (by first | assumption | omega) (by first | assumption | omega)) ws_X5_157 ⟨rfl, rfl, Nat.le_of_ble_eq_true rfl, Nat.le_of_ble_eq_true rfl⟩ [] rfl rfl (fun _ => rfl) (fun _ => rfl) rfl hl.1 rfl (Nat.le_of_ble_eq_true rfl) dX5_plain_11 ⟨Nat.zero_le _, Nat.zero_le _⟩ (fun r11 _ H locs hp11 Z => ?_)
  subst hp11
  refine b_if_eq (tgt := 21) hx hb dX5_plain_14 (by decide) (fun c14 => ?_) (fun c14 => ?_)
  · refine lv_iconst (v := nI 0) hx hb dX5_plain_21 (by decide) ?_
    exact ret () Z dX5_plain_22 rfl (nI_0.trans (bI_f c14).symm)
  · refine lv_iconst (v := nI 1) hx hb dX5_plain_17 (by decide) ?_
    refine lv_goto (tgt := 22) hx hb dX5_plain_18 (by decide) ?_
    exact ret () Z dX5_plain_22 rfl (nI_one.trans (bI_t c14).symm)
abbrev rm_k_X5_like_bad : Room := { frames := 2, cells := 0, slots := 0, locals := 43 }
set_option maxHeartbeats 4000000 in
set_option maxRecDepth 100000 in
theorem k_X5_like_bad (l : Launch) (D : va_G) (cA : ClassId) (q : Nat → Nat) (mc : Nat) (bn : Nat) (bl : Nat) (tr : Int64) (x1 : Int32) (x2 : Int32) (x3 : Int32) (hm1 : 1 ≤ mc) (hbad : ¬ ((nI 0 ≤ x1 ∧ x1 ≤ nI (mc - 1)) ∧ (nI 0 ≤ x2 ∧ x2 ≤ nI (mc - 1)) ∧ (¬ x1 = x2) ∧ (nI 0 ≤ x3 ∧ x3 ≤ nI 1))) : Cti l yX5_like cX5_like 4 (some .int) rm_k_X5_like_bad D cA [.ref (q 0), .int x1, .int x2, .int x3] ([oX q mc bn bl tr]) (fun (r : Int32) (_ : Unit) => r = (-1)) (fun _ => [oX q mc bn bl tr]) := by
  refine st_i (by decide) (Nat.le_of_ble_eq_true rfl) ?_
  intro p e s m args below meth c A Q E ret Z ls hl
  have hx := E.1.1
  have hb := E.1.2.1
  have hl : lv_has ls 4 [(0, .ref (q 0)), (1, .int x1), (2, .int x2), (3, .int x3)] := hl
  refine lv_aload_n hx hb dX5_like_0 rfl (lv_at hl 0 rfl) ?_
  refine lv_iload_n hx hb dX5_like_1 rfl (lv_at hl 1 rfl) ?_
  refine c_Vi (As := [.int x1]) (rest := []) (w2 := fun _ => [oX q mc bn bl tr]) E Z (k_X5_isMachine l D cA q mc bn bl tr x1 (by first | assumption | omega)) wv_X5_100 ⟨rfl, rfl, Nat.le_of_ble_eq_true rfl, Nat.le_of_ble_eq_true rfl⟩ [0] rfl rfl rfl rfl (q0 := 0) rfl (fun _ => rfl) (fun _ => rfl) rfl hl.1 rfl (Nat.le_of_ble_eq_true rfl) dX5_like_2 ⟨Nat.zero_le _, Nat.zero_le _⟩ (fun r2 _ H locs hp2 Z => ?_)
  subst hp2
  refine b_if_eq (tgt := 30) hx hb dX5_like_5 (by decide) (fun c5 => ?_) (fun c5 => ?_)
  · refine lv_iconst (v := (-1)) hx hb dX5_like_30 (by decide) ?_
    exact ret () Z dX5_like_31 rfl rfl
  · refine lv_aload_n hx hb dX5_like_8 rfl (lv_at hl 0 rfl) ?_
    refine lv_iload_n hx hb dX5_like_9 rfl (lv_at hl 2 rfl) ?_
    refine c_Vi (As := [.int x2]) (rest := []) (w2 := fun _ => [oX q mc bn bl tr]) E Z (k_X5_isMachine l D cA q mc bn bl tr x2 (by first | assumption | omega)) wv_X5_100 ⟨rfl, rfl, Nat.le_of_ble_eq_true rfl, Nat.le_of_ble_eq_true rfl⟩ [0] rfl rfl rfl rfl (q0 := 0) rfl (fun _ => rfl) (fun _ => rfl) rfl hl.1 rfl (Nat.le_of_ble_eq_true rfl) dX5_like_10 ⟨Nat.zero_le _, Nat.zero_le _⟩ (fun r10 _ H locs hp10 Z => ?_)
    subst hp10
    refine b_if_eq (tgt := 30) hx hb dX5_like_13 (by decide) (fun c13 => ?_) (fun c13 => ?_)
    · refine lv_iconst (v := (-1)) hx hb dX5_like_30 (by decide) ?_
      exact ret () Z dX5_like_31 rfl rfl
    · refine lv_iload_n hx hb dX5_like_16 rfl (lv_at hl 1 rfl) ?_
      refine lv_iload_n hx hb dX5_like_17 rfl (lv_at hl 2 rfl) ?_
      refine lv_icmp_eq (tgt := 30) hx hb dX5_like_18 (by decide) (fun c18 => ?_) (fun c18 => ?_)
      · refine lv_iconst (v := (-1)) hx hb dX5_like_30 (by decide) ?_
        exact ret () Z dX5_like_31 rfl rfl
      · refine lv_iload_n hx hb dX5_like_21 rfl (lv_at hl 3 rfl) ?_
        refine lv_iconst (v := nI 0) hx hb dX5_like_22 (by decide) ?_
        refine lv_iconst (v := nI 1) hx hb dX5_like_23 (by decide) ?_
        refine c_Si (As := [.int x3, .int (nI 0), .int (nI 1)]) (rest := []) (w2 := fun _ => [oX q mc bn bl tr]) E Z (k_X5_isWithin l D cA x3 (nI 0) (nI 1) ) ws_X5_67 ⟨rfl, rfl, Nat.le_of_ble_eq_true rfl, Nat.le_of_ble_eq_true rfl⟩ [] rfl rfl (fun _ => rfl) (fun _ => rfl) rfl hl.1 rfl (Nat.le_of_ble_eq_true rfl) dX5_like_24 ⟨Nat.zero_le _, Nat.zero_le _⟩ (fun r24 _ H locs hp24 Z => ?_)
        subst hp24
        refine b_if_ne (tgt := 32) hx hb dX5_like_27 (by decide) (fun c27 => ?_) (fun c27 => ?_)
        · exact absurd ⟨c5, c13, c18, c27⟩ hbad
        · refine lv_iconst (v := (-1)) hx hb dX5_like_30 (by decide) ?_
          exact ret () Z dX5_like_31 rfl rfl
abbrev rm_k_X5_like : Room := { frames := 2, cells := 0, slots := 0, locals := 47 }
set_option maxHeartbeats 4000000 in
set_option maxRecDepth 100000 in
theorem k_X5_like (l : Launch) (D : va_G) (cA : ClassId) (q : Nat → Nat) (mc : Nat) (bn : Nat) (bl : Nat) (tr : Int64) (size : Nat) (ch : Nat) (sets : Nat → Nat) (a : Nat) (b : Nat) (wh : Nat) (hP : size ≤ 8) (hch : ch < 256) (hs : ∀ j, sets j < 2 ^ mc) (hm1 : 1 ≤ mc) (hM : mc ≤ 7) (ha : a < mc) (hb0 : b < mc) (hab : a ≠ b) (hw : wh < 2) : Cti l yX5_like cX5_like 4 (some .int) rm_k_X5_like D cA [.ref (q 0), .int (nI a), .int (nI b), .int (nI wh)] ([oX q mc bn bl tr, oP (q 1) (q 2) (q 3) size ch, aN cA (q 2) 16 sets]) (fun (r : Int32) (_ : Unit) => r = nI (if wh = 0 then sm (bop sets ch a b) size else eith size sets ch a b)) (fun _ => [oX q mc bn bl tr, oP (q 1) (q 2) (q 3) size ch, aN cA (q 2) 16 sets]) := by
  refine st_i (by decide) (Nat.le_of_ble_eq_true rfl) ?_
  intro p e s m args below meth c A Q E ret Z ls hl
  have hx := E.1.1
  have hb := E.1.2.1
  have hl : lv_has ls 4 [(0, .ref (q 0)), (1, .int (nI a)), (2, .int (nI b)), (3, .int (nI wh))] := hl
  have hs7 := hs7_of hs hM
  refine lv_aload_n hx hb dX5_like_0 rfl (lv_at hl 0 rfl) ?_
  refine lv_iload_n hx hb dX5_like_1 rfl (lv_at hl 1 rfl) ?_
  refine c_Vi (As := [.int (nI a)]) (rest := []) (w2 := fun _ => [oX q mc bn bl tr, oP (q 1) (q 2) (q 3) size ch, aN cA (q 2) 16 sets]) E Z (k_X5_isMachine l D cA q mc bn bl tr (nI a) (by first | assumption | omega)) wv_X5_100 ⟨rfl, rfl, Nat.le_of_ble_eq_true rfl, Nat.le_of_ble_eq_true rfl⟩ [0] rfl rfl rfl rfl (q0 := 0) rfl (fun _ => rfl) (fun _ => rfl) rfl hl.1 rfl (Nat.le_of_ble_eq_true rfl) dX5_like_2 ⟨Nat.zero_le _, Nat.zero_le _⟩ (fun r2 _ H locs hp2 Z => ?_)
  subst hp2
  refine b_if_eq (tgt := 30) hx hb dX5_like_5 (by decide) (fun c5 => ?_) (fun c5 => ?_)
  · exact absurd (inr_ok (by omega) (by omega) (by omega)) c5
  · refine lv_aload_n hx hb dX5_like_8 rfl (lv_at hl 0 rfl) ?_
    refine lv_iload_n hx hb dX5_like_9 rfl (lv_at hl 2 rfl) ?_
    refine c_Vi (As := [.int (nI b)]) (rest := []) (w2 := fun _ => [oX q mc bn bl tr, oP (q 1) (q 2) (q 3) size ch, aN cA (q 2) 16 sets]) E Z (k_X5_isMachine l D cA q mc bn bl tr (nI b) (by first | assumption | omega)) wv_X5_100 ⟨rfl, rfl, Nat.le_of_ble_eq_true rfl, Nat.le_of_ble_eq_true rfl⟩ [0] rfl rfl rfl rfl (q0 := 0) rfl (fun _ => rfl) (fun _ => rfl) rfl hl.1 rfl (Nat.le_of_ble_eq_true rfl) dX5_like_10 ⟨Nat.zero_le _, Nat.zero_le _⟩ (fun r10 _ H locs hp10 Z => ?_)
    subst hp10
    refine b_if_eq (tgt := 30) hx hb dX5_like_13 (by decide) (fun c13 => ?_) (fun c13 => ?_)
    · exact absurd (inr_ok (by omega) (by omega) (by omega)) c13
    · refine lv_iload_n hx hb dX5_like_16 rfl (lv_at hl 1 rfl) ?_
      refine lv_iload_n hx hb dX5_like_17 rfl (lv_at hl 2 rfl) ?_
      refine n_icmp_eq (tgt := 30) hx hb dX5_like_18 (by decide) (by omega) (by omega) (fun c18 => ?_) (fun c18 => ?_)
      · exact absurd c18 hab
      · refine lv_iload_n hx hb dX5_like_21 rfl (lv_at hl 3 rfl) ?_
        refine lv_iconst (v := nI 0) hx hb dX5_like_22 (by decide) ?_
        refine lv_iconst (v := nI 1) hx hb dX5_like_23 (by decide) ?_
        refine c_Si (As := [.int (nI wh), .int (nI 0), .int (nI 1)]) (rest := []) (w2 := fun _ => [oX q mc bn bl tr, oP (q 1) (q 2) (q 3) size ch, aN cA (q 2) 16 sets]) E Z (k_X5_isWithin l D cA (nI wh) (nI 0) (nI 1) ) ws_X5_67 ⟨rfl, rfl, Nat.le_of_ble_eq_true rfl, Nat.le_of_ble_eq_true rfl⟩ [] rfl rfl (fun _ => rfl) (fun _ => rfl) rfl hl.1 rfl (Nat.le_of_ble_eq_true rfl) dX5_like_24 ⟨Nat.zero_le _, Nat.zero_le _⟩ (fun r24 _ H locs hp24 Z => ?_)
        subst hp24
        refine b_if_ne (tgt := 32) hx hb dX5_like_27 (by decide) (fun c27 => ?_) (fun c27 => ?_)
        · refine lv_iload_n hx hb dX5_like_32 rfl (lv_at hl 3 rfl) ?_
          refine n_if_ne (tgt := 48) hx hb dX5_like_33 (by decide) (by omega) (fun c33 => ?_) (fun c33 => ?_)
          · refine lv_aload_n hx hb dX5_like_48 rfl (lv_at hl 0 rfl) ?_
            refine gF_X5_10 E Z dX5_like_49 0 rfl rfl ?_
            refine lv_iload_n hx hb dX5_like_52 rfl (lv_at hl 1 rfl) ?_
            refine lv_iload_n hx hb dX5_like_53 rfl (lv_at hl 2 rfl) ?_
            refine c_Vi (As := [.int (nI a), .int (nI b)]) (rest := []) (w2 := fun _ => [oX q mc bn bl tr, oP (q 1) (q 2) (q 3) size ch, aN cA (q 2) 16 sets]) E Z (k_X1_withEither l D cA (q 1) (q 2) (q 3) size ch sets a b (by first | assumption | omega) (by first | assumption | omega) hs7 (by first | assumption | omega) (by first | assumption | omega)) wv_X5_164 ⟨rfl, rfl, Nat.le_of_ble_eq_true rfl, Nat.le_of_ble_eq_true rfl⟩ [1, 2] rfl rfl rfl rfl (q0 := 0) rfl (fun _ => rfl) (fun _ => rfl) rfl hl.1 rfl (Nat.le_of_ble_eq_true rfl) dX5_like_54 ⟨Nat.zero_le _, Nat.zero_le _⟩ (fun r54 _ H locs hp54 Z => ?_)
            subst hp54
            exact ret () Z dX5_like_57 rfl (congrArg nI (if_neg c33)).symm
          · refine lv_aload_n hx hb dX5_like_36 rfl (lv_at hl 0 rfl) ?_
            refine gF_X5_10 E Z dX5_like_37 0 rfl rfl ?_
            refine lv_iload_n hx hb dX5_like_40 rfl (lv_at hl 1 rfl) ?_
            refine lv_iload_n hx hb dX5_like_41 rfl (lv_at hl 2 rfl) ?_
            refine c_Vi (As := [.int (nI a), .int (nI b)]) (rest := []) (w2 := fun _ => [oX q mc bn bl tr, oP (q 1) (q 2) (q 3) size ch, aN cA (q 2) 16 sets]) E Z (k_X1_withBoth l D cA (q 1) (q 2) (q 3) size ch sets a b (by first | assumption | omega) (by first | assumption | omega) hs7 (by first | assumption | omega) (by first | assumption | omega)) wv_X5_161 ⟨rfl, rfl, Nat.le_of_ble_eq_true rfl, Nat.le_of_ble_eq_true rfl⟩ [1, 2] rfl rfl rfl rfl (q0 := 0) rfl (fun _ => rfl) (fun _ => rfl) rfl hl.1 rfl (Nat.le_of_ble_eq_true rfl) dX5_like_42 ⟨Nat.zero_le _, Nat.zero_le _⟩ (fun r42 _ H locs hp42 Z => ?_)
            subst hp42
            refine lv_goto (tgt := 57) hx hb dX5_like_45 (by decide) ?_
            exact ret () Z dX5_like_57 rfl (congrArg nI (if_pos c33)).symm
        · exact absurd (inr_ok (by omega) (by omega) (by omega)) c27
abbrev rm_k_X5_join_bad : Room := { frames := 1, cells := 0, slots := 0, locals := 22 }
set_option maxHeartbeats 4000000 in
set_option maxRecDepth 100000 in
theorem k_X5_join_bad (l : Launch) (D : va_G) (cA : ClassId) (q : Nat → Nat) (mc : Nat) (bn : Nat) (bl : Nat) (tr : Int64) (x1 : Int32) (x2 : Int32) (hbad : ¬ ((nI 0 ≤ x1 ∧ x1 ≤ nI mc - nI 2) ∧ (nI 0 ≤ x2 ∧ x2 ≤ nI 3))) : Cti l yX5_join cX5_join 3 (some .int) rm_k_X5_join_bad D cA [.ref (q 0), .int x1, .int x2] ([oX q mc bn bl tr]) (fun (r : Int32) (_ : Unit) => r = (-1)) (fun _ => [oX q mc bn bl tr]) := by
  refine st_i (by decide) (Nat.le_of_ble_eq_true rfl) ?_
  intro p e s m args below meth c A Q E ret Z ls hl
  have hx := E.1.1
  have hb := E.1.2.1
  have hl : lv_has ls 3 [(0, .ref (q 0)), (1, .int x1), (2, .int x2)] := hl
  refine lv_iload_n hx hb dX5_join_0 rfl (lv_at hl 1 rfl) ?_
  refine lv_iconst (v := nI 0) hx hb dX5_join_1 (by decide) ?_
  refine lv_aload_n hx hb dX5_join_2 rfl (lv_at hl 0 rfl) ?_
  refine gF_X5_71 E Z dX5_join_3 0 rfl rfl ?_
  refine lv_iconst (v := nI 2) hx hb dX5_join_6 (by decide) ?_
  refine lv_isub hx hb dX5_join_7 ?_
  refine c_Si (As := [.int x1, .int (nI 0), .int ((nI mc) - (nI 2))]) (rest := []) (w2 := fun _ => [oX q mc bn bl tr]) E Z (k_X5_isWithin l D cA x1 (nI 0) ((nI mc) - (nI 2)) ) ws_X5_67 ⟨rfl, rfl, Nat.le_of_ble_eq_true rfl, Nat.le_of_ble_eq_true rfl⟩ [] rfl rfl (fun _ => rfl) (fun _ => rfl) rfl hl.1 rfl (Nat.le_of_ble_eq_true rfl) dX5_join_8 ⟨Nat.zero_le _, Nat.zero_le _⟩ (fun r8 _ H locs hp8 Z => ?_)
  subst hp8
  refine b_if_eq (tgt := 23) hx hb dX5_join_11 (by decide) (fun c11 => ?_) (fun c11 => ?_)
  · refine lv_iconst (v := (-1)) hx hb dX5_join_23 (by decide) ?_
    exact ret () Z dX5_join_24 rfl rfl
  · refine lv_iload_n hx hb dX5_join_14 rfl (lv_at hl 2 rfl) ?_
    refine lv_iconst (v := nI 0) hx hb dX5_join_15 (by decide) ?_
    refine lv_iconst (v := nI 3) hx hb dX5_join_16 (by decide) ?_
    refine c_Si (As := [.int x2, .int (nI 0), .int (nI 3)]) (rest := []) (w2 := fun _ => [oX q mc bn bl tr]) E Z (k_X5_isWithin l D cA x2 (nI 0) (nI 3) ) ws_X5_67 ⟨rfl, rfl, Nat.le_of_ble_eq_true rfl, Nat.le_of_ble_eq_true rfl⟩ [] rfl rfl (fun _ => rfl) (fun _ => rfl) rfl hl.1 rfl (Nat.le_of_ble_eq_true rfl) dX5_join_17 ⟨Nat.zero_le _, Nat.zero_le _⟩ (fun r17 _ H locs hp17 Z => ?_)
    subst hp17
    refine b_if_ne (tgt := 25) hx hb dX5_join_20 (by decide) (fun c20 => ?_) (fun c20 => ?_)
    · exact absurd ⟨c11, c20⟩ hbad
    · refine lv_iconst (v := (-1)) hx hb dX5_join_23 (by decide) ?_
      exact ret () Z dX5_join_24 rfl rfl
abbrev rm_k_X5_join : Room := { frames := 6, cells := 0, slots := 0, locals := 144 }
set_option maxHeartbeats 4000000 in
set_option maxRecDepth 100000 in
theorem k_X5_join (l : Launch) (D : va_G) (cA : ClassId) (q : Nat → Nat) (mc : Nat) (bn : Nat) (bl : Nat) (tr : Int64) (size : Nat) (ch : Nat) (sets : Nat → Nat) (tm : Nat) (t : TS) (hp : Nat → Nat) (i : Nat) (w : Nat) (hP : size ≤ 8) (hch : ch < 256) (hs : ∀ j, sets j < 2 ^ mc) (hM : mc ≤ 7) (hi : i + 2 ≤ mc) (hw : w < 4) (ht : tok t) (hh : ∀ j, hp j < 8) : Cti l yX5_join cX5_join 3 (some .int) rm_k_X5_join D cA [.ref (q 0), .int (nI i), .int (nI w)] ([oX q mc bn bl tr, oP (q 1) (q 2) (q 3) size ch, aN cA (q 2) 16 sets, oT (q 8) (q 9) tm t, aN cA (q 9) 7 hp]) (fun (r : Int32) (_ : Unit) => r = (tel (gj size sets ch mc (hin hp mc) t (i + 1)).2 w)) (fun _ => [oX q mc bn bl tr, oP (q 1) (q 2) (q 3) size ch, aN cA (q 2) 16 sets, oT (q 8) (q 9) mc ((gj size sets ch mc (hin hp mc) t (i + 1)).2), aN cA (q 9) 7 ((gj size sets ch mc (hin hp mc) t (i + 1)).1)]) := by
  refine st_i (by decide) (Nat.le_of_ble_eq_true rfl) ?_
  intro p e s m args below meth c A Q E ret Z ls hl
  have hx := E.1.1
  have hb := E.1.2.1
  have hl : lv_has ls 3 [(0, .ref (q 0)), (1, .int (nI i)), (2, .int (nI w))] := hl
  have hs7 := hs7_of hs hM
  refine lv_iload_n hx hb dX5_join_0 rfl (lv_at hl 1 rfl) ?_
  refine lv_iconst (v := nI 0) hx hb dX5_join_1 (by decide) ?_
  refine lv_aload_n hx hb dX5_join_2 rfl (lv_at hl 0 rfl) ?_
  refine gF_X5_71 E Z dX5_join_3 0 rfl rfl ?_
  refine lv_iconst (v := nI 2) hx hb dX5_join_6 (by decide) ?_
  refine lv_isub hx hb dX5_join_7 ?_
  refine c_Si (As := [.int (nI i), .int (nI 0), .int ((nI mc) - (nI 2))]) (rest := []) (w2 := fun _ => [oX q mc bn bl tr, oP (q 1) (q 2) (q 3) size ch, aN cA (q 2) 16 sets, oT (q 8) (q 9) tm t, aN cA (q 9) 7 hp]) E Z (k_X5_isWithin l D cA (nI i) (nI 0) ((nI mc) - (nI 2)) ) ws_X5_67 ⟨rfl, rfl, Nat.le_of_ble_eq_true rfl, Nat.le_of_ble_eq_true rfl⟩ [] rfl rfl (fun _ => rfl) (fun _ => rfl) rfl hl.1 rfl (Nat.le_of_ble_eq_true rfl) dX5_join_8 ⟨Nat.zero_le _, Nat.zero_le _⟩ (fun r8 _ H locs hp8 Z => ?_)
  subst hp8
  refine b_if_eq (tgt := 23) hx hb dX5_join_11 (by decide) (fun c11 => ?_) (fun c11 => ?_)
  · exact absurd (by rw [pk_sub (by omega)]; exact inr_ok (by omega) (by omega) (by omega)) c11
  · refine lv_iload_n hx hb dX5_join_14 rfl (lv_at hl 2 rfl) ?_
    refine lv_iconst (v := nI 0) hx hb dX5_join_15 (by decide) ?_
    refine lv_iconst (v := nI 3) hx hb dX5_join_16 (by decide) ?_
    refine c_Si (As := [.int (nI w), .int (nI 0), .int (nI 3)]) (rest := []) (w2 := fun _ => [oX q mc bn bl tr, oP (q 1) (q 2) (q 3) size ch, aN cA (q 2) 16 sets, oT (q 8) (q 9) tm t, aN cA (q 9) 7 hp]) E Z (k_X5_isWithin l D cA (nI w) (nI 0) (nI 3) ) ws_X5_67 ⟨rfl, rfl, Nat.le_of_ble_eq_true rfl, Nat.le_of_ble_eq_true rfl⟩ [] rfl rfl (fun _ => rfl) (fun _ => rfl) rfl hl.1 rfl (Nat.le_of_ble_eq_true rfl) dX5_join_17 ⟨Nat.zero_le _, Nat.zero_le _⟩ (fun r17 _ H locs hp17 Z => ?_)
    subst hp17
    refine b_if_ne (tgt := 25) hx hb dX5_join_20 (by decide) (fun c20 => ?_) (fun c20 => ?_)
    · refine lv_aload_n hx hb dX5_join_25 rfl (lv_at hl 0 rfl) ?_
      refine gF_X5_29 E Z dX5_join_26 0 rfl rfl ?_
      refine lv_aload_n hx hb dX5_join_29 rfl (lv_at hl 0 rfl) ?_
      refine gF_X5_10 E Z dX5_join_30 0 rfl rfl ?_
      refine lv_aload_n hx hb dX5_join_33 rfl (lv_at hl 0 rfl) ?_
      refine gF_X5_71 E Z dX5_join_34 0 rfl rfl ?_
      refine lv_iload_n hx hb dX5_join_37 rfl (lv_at hl 1 rfl) ?_
      refine lv_iconst (v := nI 1) hx hb dX5_join_38 (by decide) ?_
      refine n_iadd hx hb dX5_join_39 ?_
      refine c_Vv (As := [.ref (q 1), .int (nI mc), .int (nI (i + 1))]) (rest := []) (w2 := fun _ => [oX q mc bn bl tr, oP (q 1) (q 2) (q 3) size ch, aN cA (q 2) 16 sets, oT (q 8) (q 9) mc ((gj size sets ch mc (hin hp mc) t (i + 1)).2), aN cA (q 9) 7 ((gj size sets ch mc (hin hp mc) t (i + 1)).1)]) E Z (k_X3_grow l D cA (q 8) (q 9) tm t hp (q 1) (q 2) (q 3) size ch sets mc (i + 1) (by first | assumption | omega) (by first | assumption | omega) hs7 (by first | assumption | omega) (by first | assumption | omega) (by first | assumption | omega) (by first | assumption | omega)) wv_X5_167 ⟨rfl, rfl, Nat.le_of_ble_eq_true rfl, Nat.le_of_ble_eq_true rfl⟩ [3, 4, 1, 2] rfl rfl rfl rfl (q0 := 0) rfl (fun _ => rfl) (fun _ => rfl) rfl hl.1 rfl (Nat.le_of_ble_eq_true rfl) dX5_join_40 ⟨Nat.zero_le _, Nat.zero_le _⟩ (fun _ H locs hp40 Z => ?_)
      refine lv_aload_n hx hb dX5_join_43 rfl (lv_at hl 0 rfl) ?_
      refine gF_X5_29 E Z dX5_join_44 0 rfl rfl ?_
      refine lv_iload_n hx hb dX5_join_47 rfl (lv_at hl 2 rfl) ?_
      refine c_Vi (As := [.int (nI w)]) (rest := []) (w2 := fun _ => [oX q mc bn bl tr, oP (q 1) (q 2) (q 3) size ch, aN cA (q 2) 16 sets, oT (q 8) (q 9) mc ((gj size sets ch mc (hin hp mc) t (i + 1)).2), aN cA (q 9) 7 ((gj size sets ch mc (hin hp mc) t (i + 1)).1)]) E Z (k_X3_tell l D cA (q 8) (q 9) mc ((gj size sets ch mc (hin hp mc) t (i + 1)).2) w (by first | assumption | omega)) wv_X5_171 ⟨rfl, rfl, Nat.le_of_ble_eq_true rfl, Nat.le_of_ble_eq_true rfl⟩ [3] rfl rfl rfl rfl (q0 := 0) rfl (fun _ => rfl) (fun _ => rfl) rfl hl.1 rfl (Nat.le_of_ble_eq_true rfl) dX5_join_48 ⟨Nat.zero_le _, Nat.zero_le _⟩ (fun r48 _ H locs hp48 Z => ?_)
      subst hp48
      exact ret () Z dX5_join_51 rfl rfl
    · exact absurd (inr_ok (by omega) (by omega) (by omega)) c20
abbrev rm_k_X5_bears_bad : Room := { frames := 2, cells := 0, slots := 0, locals := 43 }
set_option maxHeartbeats 4000000 in
set_option maxRecDepth 100000 in
theorem k_X5_bears_bad (l : Launch) (D : va_G) (cA : ClassId) (q : Nat → Nat) (mc : Nat) (bn : Nat) (bl : Nat) (tr : Int64) (x1 : Int32) (x2 : Int32) (hm1 : 1 ≤ mc) (hbad : ¬ ((nI 0 ≤ x1 ∧ x1 ≤ nI (mc - 1)) ∧ (nI 0 ≤ x2 ∧ x2 ≤ nI 99))) : Cti l yX5_bears cX5_bears 4 (some .int) rm_k_X5_bears_bad D cA [.ref (q 0), .int x1, .int x2] ([oX q mc bn bl tr]) (fun (r : Int32) (_ : Unit) => r = (-1)) (fun _ => [oX q mc bn bl tr]) := by
  refine st_i (by decide) (Nat.le_of_ble_eq_true rfl) ?_
  intro p e s m args below meth c A Q E ret Z ls hl
  have hx := E.1.1
  have hb := E.1.2.1
  have hl : lv_has ls 4 [(0, .ref (q 0)), (1, .int x1), (2, .int x2)] := hl
  refine lv_aload_n hx hb dX5_bears_0 rfl (lv_at hl 0 rfl) ?_
  refine lv_iload_n hx hb dX5_bears_1 rfl (lv_at hl 1 rfl) ?_
  refine c_Vi (As := [.int x1]) (rest := []) (w2 := fun _ => [oX q mc bn bl tr]) E Z (k_X5_isMachine l D cA q mc bn bl tr x1 (by first | assumption | omega)) wv_X5_100 ⟨rfl, rfl, Nat.le_of_ble_eq_true rfl, Nat.le_of_ble_eq_true rfl⟩ [0] rfl rfl rfl rfl (q0 := 0) rfl (fun _ => rfl) (fun _ => rfl) rfl hl.1 rfl (Nat.le_of_ble_eq_true rfl) dX5_bears_2 ⟨Nat.zero_le _, Nat.zero_le _⟩ (fun r2 _ H locs hp2 Z => ?_)
  subst hp2
  refine b_if_eq (tgt := 18) hx hb dX5_bears_5 (by decide) (fun c5 => ?_) (fun c5 => ?_)
  · refine lv_iconst (v := (-1)) hx hb dX5_bears_18 (by decide) ?_
    exact ret () Z dX5_bears_19 rfl rfl
  · refine lv_iload_n hx hb dX5_bears_8 rfl (lv_at hl 2 rfl) ?_
    refine lv_iconst (v := nI 0) hx hb dX5_bears_9 (by decide) ?_
    refine lv_bipush (v := nI 99) hx hb dX5_bears_10 (by decide) ?_
    refine c_Si (As := [.int x2, .int (nI 0), .int (nI 99)]) (rest := []) (w2 := fun _ => [oX q mc bn bl tr]) E Z (k_X5_isWithin l D cA x2 (nI 0) (nI 99) ) ws_X5_67 ⟨rfl, rfl, Nat.le_of_ble_eq_true rfl, Nat.le_of_ble_eq_true rfl⟩ [] rfl rfl (fun _ => rfl) (fun _ => rfl) rfl hl.1 rfl (Nat.le_of_ble_eq_true rfl) dX5_bears_12 ⟨Nat.zero_le _, Nat.zero_le _⟩ (fun r12 _ H locs hp12 Z => ?_)
    subst hp12
    refine b_if_ne (tgt := 20) hx hb dX5_bears_15 (by decide) (fun c15 => ?_) (fun c15 => ?_)
    · exact absurd ⟨c5, c15⟩ hbad
    · refine lv_iconst (v := (-1)) hx hb dX5_bears_18 (by decide) ?_
      exact ret () Z dX5_bears_19 rfl rfl
abbrev rm_k_X5_bears : Room := { frames := 2, cells := 0, slots := 0, locals := 43 }
set_option maxHeartbeats 4000000 in
set_option maxRecDepth 100000 in
theorem k_X5_bears (l : Launch) (D : va_G) (cA : ClassId) (q : Nat → Nat) (mc : Nat) (bn : Nat) (bl : Nat) (tr : Int64) (bo : Nat → Nat) (k : Nat) (am : Nat) (hm1 : 1 ≤ mc) (hM : mc ≤ 7) (hk : k < mc) (ham : 0 ≤ am ∧ am ≤ 99) : Cti l yX5_bears cX5_bears 4 (some .int) rm_k_X5_bears D cA [.ref (q 0), .int (nI k), .int (nI am)] ([oX q mc bn bl tr, aN cA (q 17) 7 bo]) (fun (r : Int32) (_ : Unit) => r = nI (bo k)) (fun _ => [oX q mc bn bl tr, aN cA (q 17) 7 (up bo k am)]) := by
  refine st_i (by decide) (Nat.le_of_ble_eq_true rfl) ?_
  intro p e s m args below meth c A Q E ret Z ls hl
  have hx := E.1.1
  have hb := E.1.2.1
  have hl : lv_has ls 4 [(0, .ref (q 0)), (1, .int (nI k)), (2, .int (nI am))] := hl
  refine lv_aload_n hx hb dX5_bears_0 rfl (lv_at hl 0 rfl) ?_
  refine lv_iload_n hx hb dX5_bears_1 rfl (lv_at hl 1 rfl) ?_
  refine c_Vi (As := [.int (nI k)]) (rest := []) (w2 := fun _ => [oX q mc bn bl tr, aN cA (q 17) 7 bo]) E Z (k_X5_isMachine l D cA q mc bn bl tr (nI k) (by first | assumption | omega)) wv_X5_100 ⟨rfl, rfl, Nat.le_of_ble_eq_true rfl, Nat.le_of_ble_eq_true rfl⟩ [0] rfl rfl rfl rfl (q0 := 0) rfl (fun _ => rfl) (fun _ => rfl) rfl hl.1 rfl (Nat.le_of_ble_eq_true rfl) dX5_bears_2 ⟨Nat.zero_le _, Nat.zero_le _⟩ (fun r2 _ H locs hp2 Z => ?_)
  subst hp2
  refine b_if_eq (tgt := 18) hx hb dX5_bears_5 (by decide) (fun c5 => ?_) (fun c5 => ?_)
  · exact absurd (inr_ok (by omega) (by omega) (by omega)) c5
  · refine lv_iload_n hx hb dX5_bears_8 rfl (lv_at hl 2 rfl) ?_
    refine lv_iconst (v := nI 0) hx hb dX5_bears_9 (by decide) ?_
    refine lv_bipush (v := nI 99) hx hb dX5_bears_10 (by decide) ?_
    refine c_Si (As := [.int (nI am), .int (nI 0), .int (nI 99)]) (rest := []) (w2 := fun _ => [oX q mc bn bl tr, aN cA (q 17) 7 bo]) E Z (k_X5_isWithin l D cA (nI am) (nI 0) (nI 99) ) ws_X5_67 ⟨rfl, rfl, Nat.le_of_ble_eq_true rfl, Nat.le_of_ble_eq_true rfl⟩ [] rfl rfl (fun _ => rfl) (fun _ => rfl) rfl hl.1 rfl (Nat.le_of_ble_eq_true rfl) dX5_bears_12 ⟨Nat.zero_le _, Nat.zero_le _⟩ (fun r12 _ H locs hp12 Z => ?_)
    subst hp12
    refine b_if_ne (tgt := 20) hx hb dX5_bears_15 (by decide) (fun c15 => ?_) (fun c15 => ?_)
    · refine lv_aload_n hx hb dX5_bears_20 rfl (lv_at hl 0 rfl) ?_
      refine gF_X5_47 E Z dX5_bears_21 0 rfl rfl ?_
      refine lv_iload_n hx hb dX5_bears_24 rfl (lv_at hl 1 rfl) ?_
      refine r_ald E Z dX5_bears_25 1 rfl (by omega) (by decide) ?_
      refine lv_istore_n (lv' := [(3, .int (nI (bo k))), (0, .ref (q 0)), (1, .int (nI k)), (2, .int (nI am))]) hx hb dX5_bears_26 rfl hl (by decide) rfl (fun ls hl => ?_)
      refine lv_aload_n hx hb dX5_bears_27 rfl (lv_at hl 1 rfl) ?_
      refine gF_X5_47 E Z dX5_bears_28 0 rfl rfl ?_
      refine lv_iload_n hx hb dX5_bears_31 rfl (lv_at hl 2 rfl) ?_
      refine lv_iload_n hx hb dX5_bears_32 rfl (lv_at hl 3 rfl) ?_
      refine r_ast (w1 := [oX q mc bn bl tr, aN cA (q 17) 7 (up bo k am)]) E Z dX5_bears_33 1 rfl (by omega) (by decide) rfl (fun H locs Z => ?_)
      refine lv_iload_n hx hb dX5_bears_34 rfl (lv_at hl 0 rfl) ?_
      exact ret () Z dX5_bears_35 rfl rfl
    · exact absurd (inr_ok (by omega) (by omega) (by omega)) c15
abbrev rm_k_X5_price_bad : Room := { frames := 2, cells := 0, slots := 0, locals := 43 }
set_option maxHeartbeats 4000000 in
set_option maxRecDepth 100000 in
theorem k_X5_price_bad (l : Launch) (D : va_G) (cA : ClassId) (q : Nat → Nat) (mc : Nat) (bn : Nat) (bl : Nat) (tr : Int64) (x1 : Int32) (x2 : Int32) (hm1 : 1 ≤ mc) (hbad : ¬ ((nI 0 ≤ x1 ∧ x1 ≤ nI (mc - 1)) ∧ (nI 1 ≤ x2 ∧ x2 ≤ nI 50))) : Cti l yX5_price cX5_price 4 (some .int) rm_k_X5_price_bad D cA [.ref (q 0), .int x1, .int x2] ([oX q mc bn bl tr]) (fun (r : Int32) (_ : Unit) => r = (-1)) (fun _ => [oX q mc bn bl tr]) := by
  refine st_i (by decide) (Nat.le_of_ble_eq_true rfl) ?_
  intro p e s m args below meth c A Q E ret Z ls hl
  have hx := E.1.1
  have hb := E.1.2.1
  have hl : lv_has ls 4 [(0, .ref (q 0)), (1, .int x1), (2, .int x2)] := hl
  refine lv_aload_n hx hb dX5_price_0 rfl (lv_at hl 0 rfl) ?_
  refine lv_iload_n hx hb dX5_price_1 rfl (lv_at hl 1 rfl) ?_
  refine c_Vi (As := [.int x1]) (rest := []) (w2 := fun _ => [oX q mc bn bl tr]) E Z (k_X5_isMachine l D cA q mc bn bl tr x1 (by first | assumption | omega)) wv_X5_100 ⟨rfl, rfl, Nat.le_of_ble_eq_true rfl, Nat.le_of_ble_eq_true rfl⟩ [0] rfl rfl rfl rfl (q0 := 0) rfl (fun _ => rfl) (fun _ => rfl) rfl hl.1 rfl (Nat.le_of_ble_eq_true rfl) dX5_price_2 ⟨Nat.zero_le _, Nat.zero_le _⟩ (fun r2 _ H locs hp2 Z => ?_)
  subst hp2
  refine b_if_eq (tgt := 18) hx hb dX5_price_5 (by decide) (fun c5 => ?_) (fun c5 => ?_)
  · refine lv_iconst (v := (-1)) hx hb dX5_price_18 (by decide) ?_
    exact ret () Z dX5_price_19 rfl rfl
  · refine lv_iload_n hx hb dX5_price_8 rfl (lv_at hl 2 rfl) ?_
    refine lv_iconst (v := nI 1) hx hb dX5_price_9 (by decide) ?_
    refine lv_bipush (v := nI 50) hx hb dX5_price_10 (by decide) ?_
    refine c_Si (As := [.int x2, .int (nI 1), .int (nI 50)]) (rest := []) (w2 := fun _ => [oX q mc bn bl tr]) E Z (k_X5_isWithin l D cA x2 (nI 1) (nI 50) ) ws_X5_67 ⟨rfl, rfl, Nat.le_of_ble_eq_true rfl, Nat.le_of_ble_eq_true rfl⟩ [] rfl rfl (fun _ => rfl) (fun _ => rfl) rfl hl.1 rfl (Nat.le_of_ble_eq_true rfl) dX5_price_12 ⟨Nat.zero_le _, Nat.zero_le _⟩ (fun r12 _ H locs hp12 Z => ?_)
    subst hp12
    refine b_if_ne (tgt := 20) hx hb dX5_price_15 (by decide) (fun c15 => ?_) (fun c15 => ?_)
    · exact absurd ⟨c5, c15⟩ hbad
    · refine lv_iconst (v := (-1)) hx hb dX5_price_18 (by decide) ?_
      exact ret () Z dX5_price_19 rfl rfl
abbrev rm_k_X5_price : Room := { frames := 2, cells := 0, slots := 0, locals := 43 }
set_option maxHeartbeats 4000000 in
set_option maxRecDepth 100000 in
theorem k_X5_price (l : Launch) (D : va_G) (cA : ClassId) (q : Nat → Nat) (mc : Nat) (bn : Nat) (bl : Nat) (tr : Int64) (pr : Nat → Nat) (k : Nat) (am : Nat) (hm1 : 1 ≤ mc) (hM : mc ≤ 7) (hk : k < mc) (ham : 1 ≤ am ∧ am ≤ 50) : Cti l yX5_price cX5_price 4 (some .int) rm_k_X5_price D cA [.ref (q 0), .int (nI k), .int (nI am)] ([oX q mc bn bl tr, aN cA (q 18) 7 pr]) (fun (r : Int32) (_ : Unit) => r = nI (pr k)) (fun _ => [oX q mc bn bl tr, aN cA (q 18) 7 (up pr k am)]) := by
  refine st_i (by decide) (Nat.le_of_ble_eq_true rfl) ?_
  intro p e s m args below meth c A Q E ret Z ls hl
  have hx := E.1.1
  have hb := E.1.2.1
  have hl : lv_has ls 4 [(0, .ref (q 0)), (1, .int (nI k)), (2, .int (nI am))] := hl
  refine lv_aload_n hx hb dX5_price_0 rfl (lv_at hl 0 rfl) ?_
  refine lv_iload_n hx hb dX5_price_1 rfl (lv_at hl 1 rfl) ?_
  refine c_Vi (As := [.int (nI k)]) (rest := []) (w2 := fun _ => [oX q mc bn bl tr, aN cA (q 18) 7 pr]) E Z (k_X5_isMachine l D cA q mc bn bl tr (nI k) (by first | assumption | omega)) wv_X5_100 ⟨rfl, rfl, Nat.le_of_ble_eq_true rfl, Nat.le_of_ble_eq_true rfl⟩ [0] rfl rfl rfl rfl (q0 := 0) rfl (fun _ => rfl) (fun _ => rfl) rfl hl.1 rfl (Nat.le_of_ble_eq_true rfl) dX5_price_2 ⟨Nat.zero_le _, Nat.zero_le _⟩ (fun r2 _ H locs hp2 Z => ?_)
  subst hp2
  refine b_if_eq (tgt := 18) hx hb dX5_price_5 (by decide) (fun c5 => ?_) (fun c5 => ?_)
  · exact absurd (inr_ok (by omega) (by omega) (by omega)) c5
  · refine lv_iload_n hx hb dX5_price_8 rfl (lv_at hl 2 rfl) ?_
    refine lv_iconst (v := nI 1) hx hb dX5_price_9 (by decide) ?_
    refine lv_bipush (v := nI 50) hx hb dX5_price_10 (by decide) ?_
    refine c_Si (As := [.int (nI am), .int (nI 1), .int (nI 50)]) (rest := []) (w2 := fun _ => [oX q mc bn bl tr, aN cA (q 18) 7 pr]) E Z (k_X5_isWithin l D cA (nI am) (nI 1) (nI 50) ) ws_X5_67 ⟨rfl, rfl, Nat.le_of_ble_eq_true rfl, Nat.le_of_ble_eq_true rfl⟩ [] rfl rfl (fun _ => rfl) (fun _ => rfl) rfl hl.1 rfl (Nat.le_of_ble_eq_true rfl) dX5_price_12 ⟨Nat.zero_le _, Nat.zero_le _⟩ (fun r12 _ H locs hp12 Z => ?_)
    subst hp12
    refine b_if_ne (tgt := 20) hx hb dX5_price_15 (by decide) (fun c15 => ?_) (fun c15 => ?_)
    · refine lv_aload_n hx hb dX5_price_20 rfl (lv_at hl 0 rfl) ?_
      refine gF_X5_51 E Z dX5_price_21 0 rfl rfl ?_
      refine lv_iload_n hx hb dX5_price_24 rfl (lv_at hl 1 rfl) ?_
      refine r_ald E Z dX5_price_25 1 rfl (by omega) (by decide) ?_
      refine lv_istore_n (lv' := [(3, .int (nI (pr k))), (0, .ref (q 0)), (1, .int (nI k)), (2, .int (nI am))]) hx hb dX5_price_26 rfl hl (by decide) rfl (fun ls hl => ?_)
      refine lv_aload_n hx hb dX5_price_27 rfl (lv_at hl 1 rfl) ?_
      refine gF_X5_51 E Z dX5_price_28 0 rfl rfl ?_
      refine lv_iload_n hx hb dX5_price_31 rfl (lv_at hl 2 rfl) ?_
      refine lv_iload_n hx hb dX5_price_32 rfl (lv_at hl 3 rfl) ?_
      refine r_ast (w1 := [oX q mc bn bl tr, aN cA (q 18) 7 (up pr k am)]) E Z dX5_price_33 1 rfl (by omega) (by decide) rfl (fun H locs Z => ?_)
      refine lv_iload_n hx hb dX5_price_34 rfl (lv_at hl 0 rfl) ?_
      exact ret () Z dX5_price_35 rfl rfl
    · exact absurd (inr_ok (by omega) (by omega) (by omega)) c15
abbrev rm_k_X5_load_bad : Room := { frames := 2, cells := 0, slots := 0, locals := 43 }
set_option maxHeartbeats 4000000 in
set_option maxRecDepth 100000 in
theorem k_X5_load_bad (l : Launch) (D : va_G) (cA : ClassId) (q : Nat → Nat) (mc : Nat) (bn : Nat) (bl : Nat) (tr : Int64) (x1 : Int32) (hm1 : 1 ≤ mc) (hbad : ¬ ((nI 0 ≤ x1 ∧ x1 ≤ nI (mc - 1)))) : Cti l yX5_load cX5_load 2 (some .int) rm_k_X5_load_bad D cA [.ref (q 0), .int x1] ([oX q mc bn bl tr]) (fun (r : Int32) (_ : Unit) => r = (-1)) (fun _ => [oX q mc bn bl tr]) := by
  refine st_i (by decide) (Nat.le_of_ble_eq_true rfl) ?_
  intro p e s m args below meth c A Q E ret Z ls hl
  have hx := E.1.1
  have hb := E.1.2.1
  have hl : lv_has ls 2 [(0, .ref (q 0)), (1, .int x1)] := hl
  refine lv_aload_n hx hb dX5_load_0 rfl (lv_at hl 0 rfl) ?_
  refine lv_iload_n hx hb dX5_load_1 rfl (lv_at hl 1 rfl) ?_
  refine c_Vi (As := [.int x1]) (rest := []) (w2 := fun _ => [oX q mc bn bl tr]) E Z (k_X5_isMachine l D cA q mc bn bl tr x1 (by first | assumption | omega)) wv_X5_100 ⟨rfl, rfl, Nat.le_of_ble_eq_true rfl, Nat.le_of_ble_eq_true rfl⟩ [0] rfl rfl rfl rfl (q0 := 0) rfl (fun _ => rfl) (fun _ => rfl) rfl hl.1 rfl (Nat.le_of_ble_eq_true rfl) dX5_load_2 ⟨Nat.zero_le _, Nat.zero_le _⟩ (fun r2 _ H locs hp2 Z => ?_)
  subst hp2
  refine b_if_ne (tgt := 10) hx hb dX5_load_5 (by decide) (fun c5 => ?_) (fun c5 => ?_)
  · exact absurd c5 hbad
  · refine lv_iconst (v := (-1)) hx hb dX5_load_8 (by decide) ?_
    exact ret () Z dX5_load_9 rfl rfl
abbrev rm_k_X5_load : Room := { frames := 2, cells := 0, slots := 0, locals := 46 }
set_option maxHeartbeats 4000000 in
set_option maxRecDepth 100000 in
theorem k_X5_load (l : Launch) (D : va_G) (cA : ClassId) (q : Nat → Nat) (mc : Nat) (bn : Nat) (bl : Nat) (tr : Int64) (size : Nat) (ch : Nat) (sets : Nat → Nat) (amts : Nat → Nat) (k : Nat) (hP : size ≤ 8) (hch : ch < 256) (hs : ∀ j, sets j < 2 ^ mc) (hm1 : 1 ≤ mc) (hM : mc ≤ 7) (hk : k < mc) : Cti l yX5_load cX5_load 2 (some .int) rm_k_X5_load D cA [.ref (q 0), .int (nI k)] ([oX q mc bn bl tr, oP (q 1) (q 2) (q 3) size ch, aN cA (q 2) 16 sets, aN cA (q 3) 8 amts]) (fun (r : Int32) (_ : Unit) => r = nI (sm (ldp sets amts ch k) size)) (fun _ => [oX q mc bn bl tr, oP (q 1) (q 2) (q 3) size ch, aN cA (q 2) 16 sets, aN cA (q 3) 8 amts]) := by
  refine st_i (by decide) (Nat.le_of_ble_eq_true rfl) ?_
  intro p e s m args below meth c A Q E ret Z ls hl
  have hx := E.1.1
  have hb := E.1.2.1
  have hl : lv_has ls 2 [(0, .ref (q 0)), (1, .int (nI k))] := hl
  have hs7 := hs7_of hs hM
  refine lv_aload_n hx hb dX5_load_0 rfl (lv_at hl 0 rfl) ?_
  refine lv_iload_n hx hb dX5_load_1 rfl (lv_at hl 1 rfl) ?_
  refine c_Vi (As := [.int (nI k)]) (rest := []) (w2 := fun _ => [oX q mc bn bl tr, oP (q 1) (q 2) (q 3) size ch, aN cA (q 2) 16 sets, aN cA (q 3) 8 amts]) E Z (k_X5_isMachine l D cA q mc bn bl tr (nI k) (by first | assumption | omega)) wv_X5_100 ⟨rfl, rfl, Nat.le_of_ble_eq_true rfl, Nat.le_of_ble_eq_true rfl⟩ [0] rfl rfl rfl rfl (q0 := 0) rfl (fun _ => rfl) (fun _ => rfl) rfl hl.1 rfl (Nat.le_of_ble_eq_true rfl) dX5_load_2 ⟨Nat.zero_le _, Nat.zero_le _⟩ (fun r2 _ H locs hp2 Z => ?_)
  subst hp2
  refine b_if_ne (tgt := 10) hx hb dX5_load_5 (by decide) (fun c5 => ?_) (fun c5 => ?_)
  · refine lv_aload_n hx hb dX5_load_10 rfl (lv_at hl 0 rfl) ?_
    refine gF_X5_10 E Z dX5_load_11 0 rfl rfl ?_
    refine lv_aload_n hx hb dX5_load_14 rfl (lv_at hl 0 rfl) ?_
    refine gF_X5_10 E Z dX5_load_15 0 rfl rfl ?_
    refine c_Vi (As := []) (rest := [.ref (q 1)]) (w2 := fun _ => [oX q mc bn bl tr, oP (q 1) (q 2) (q 3) size ch, aN cA (q 2) 16 sets, aN cA (q 3) 8 amts]) E Z (k_X1_chosen l D cA (q 1) (q 2) (q 3) size ch ) wv_X5_174 ⟨rfl, rfl, Nat.le_of_ble_eq_true rfl, Nat.le_of_ble_eq_true rfl⟩ [1] rfl rfl rfl rfl (q0 := 0) rfl (fun _ => rfl) (fun _ => rfl) rfl hl.1 rfl (Nat.le_of_ble_eq_true rfl) dX5_load_18 ⟨Nat.zero_le _, Nat.zero_le _⟩ (fun r18 _ H locs hp18 Z => ?_)
    subst hp18
    refine lv_iload_n hx hb dX5_load_21 rfl (lv_at hl 1 rfl) ?_
    refine c_Vi (As := [.int (nI ch), .int (nI k)]) (rest := []) (w2 := fun _ => [oX q mc bn bl tr, oP (q 1) (q 2) (q 3) size ch, aN cA (q 2) 16 sets, aN cA (q 3) 8 amts]) E Z (k_X1_loadBy l D cA (q 1) (q 2) (q 3) size ch sets amts ch k (by first | assumption | omega) (by first | assumption | omega) hs7 (by first | assumption | omega)) wv_X5_177 ⟨rfl, rfl, Nat.le_of_ble_eq_true rfl, Nat.le_of_ble_eq_true rfl⟩ [1, 2, 3] rfl rfl rfl rfl (q0 := 0) rfl (fun _ => rfl) (fun _ => rfl) rfl hl.1 rfl (Nat.le_of_ble_eq_true rfl) dX5_load_22 ⟨Nat.zero_le _, Nat.zero_le _⟩ (fun r22 _ H locs hp22 Z => ?_)
    subst hp22
    exact ret () Z dX5_load_25 rfl rfl
  · exact absurd (inr_ok (by omega) (by omega) (by omega)) c5
abbrev rm_k_X5_routes_bad : Room := { frames := 1, cells := 0, slots := 0, locals := 22 }
set_option maxHeartbeats 4000000 in
set_option maxRecDepth 100000 in
theorem k_X5_routes_bad (l : Launch) (D : va_G) (cA : ClassId) (q : Nat → Nat) (mc : Nat) (bn : Nat) (bl : Nat) (tr : Int64) (x1 : Int32) (hbad : ¬ ((nI 0 ≤ x1 ∧ x1 ≤ nI 1))) : Cti l yX5_routes cX5_routes 3 (some .int) rm_k_X5_routes_bad D cA [.ref (q 0), .int x1] ([oX q mc bn bl tr]) (fun (r : Int32) (_ : Unit) => r = (-1)) (fun _ => [oX q mc bn bl tr]) := by
  refine st_i (by decide) (Nat.le_of_ble_eq_true rfl) ?_
  intro p e s m args below meth c A Q E ret Z ls hl
  have hx := E.1.1
  have hb := E.1.2.1
  have hl : lv_has ls 3 [(0, .ref (q 0)), (1, .int x1)] := hl
  refine lv_iload_n hx hb dX5_routes_0 rfl (lv_at hl 1 rfl) ?_
  refine lv_iconst (v := nI 0) hx hb dX5_routes_1 (by decide) ?_
  refine lv_iconst (v := nI 1) hx hb dX5_routes_2 (by decide) ?_
  refine c_Si (As := [.int x1, .int (nI 0), .int (nI 1)]) (rest := []) (w2 := fun _ => [oX q mc bn bl tr]) E Z (k_X5_isWithin l D cA x1 (nI 0) (nI 1) ) ws_X5_67 ⟨rfl, rfl, Nat.le_of_ble_eq_true rfl, Nat.le_of_ble_eq_true rfl⟩ [] rfl rfl (fun _ => rfl) (fun _ => rfl) rfl hl.1 rfl (Nat.le_of_ble_eq_true rfl) dX5_routes_3 ⟨Nat.zero_le _, Nat.zero_le _⟩ (fun r3 _ H locs hp3 Z => ?_)
  subst hp3
  refine b_if_ne (tgt := 11) hx hb dX5_routes_6 (by decide) (fun c6 => ?_) (fun c6 => ?_)
  · exact absurd c6 hbad
  · refine lv_iconst (v := (-1)) hx hb dX5_routes_9 (by decide) ?_
    exact ret () Z dX5_routes_10 rfl rfl
abbrev rm_k_X5_routes_none : Room := { frames := 5, cells := 0, slots := 0, locals := 115 }
set_option maxHeartbeats 4000000 in
set_option maxRecDepth 100000 in
theorem k_X5_routes_none (l : Launch) (D : va_G) (cA : ClassId) (q : Nat → Nat) (mc : Nat) (bn : Nat) (bl : Nat) (tr : Int64) (size : Nat) (ch : Nat) (sets : Nat → Nat) (amts : Nat → Nat) (num : Nat) (bo : Nat → Nat) (wh : Nat) (hP : size ≤ 8) (hs : ∀ j, sets j < 2 ^ mc) (hM : mc ≤ 7) (ha10 : ∀ j, amts j < 10) (hb100 : ∀ j, bo j < 100) (hw : wh < 2) (h9 : (bch mc num size sets amts bo (2 ^ size)).1 = -9) : Cti l yX5_routes cX5_routes 3 (some .int) rm_k_X5_routes_none D cA [.ref (q 0), .int (nI wh)] ([oX q mc bn bl tr, oP (q 1) (q 2) (q 3) size ch, aN cA (q 2) 16 sets, aN cA (q 3) 8 amts, oG (q 4) (q 5) mc num, aN cA (q 5) 4 (mF num mc), aN cA (q 17) 7 bo]) (fun (r : Int32) (_ : Unit) => r = (-2)) (fun _ => [oX q mc bn bl tr, oP (q 1) (q 2) (q 3) size ch, aN cA (q 2) 16 sets, aN cA (q 3) 8 amts, oG (q 4) (q 5) mc num, aN cA (q 5) 4 (mF num mc), aN cA (q 17) 7 bo]) := by
  refine st_i (by decide) (Nat.le_of_ble_eq_true rfl) ?_
  intro p e s m args below meth c A Q E ret Z ls hl
  have hx := E.1.1
  have hb := E.1.2.1
  have hl : lv_has ls 3 [(0, .ref (q 0)), (1, .int (nI wh))] := hl
  refine lv_iload_n hx hb dX5_routes_0 rfl (lv_at hl 1 rfl) ?_
  refine lv_iconst (v := nI 0) hx hb dX5_routes_1 (by decide) ?_
  refine lv_iconst (v := nI 1) hx hb dX5_routes_2 (by decide) ?_
  refine c_Si (As := [.int (nI wh), .int (nI 0), .int (nI 1)]) (rest := []) (w2 := fun _ => [oX q mc bn bl tr, oP (q 1) (q 2) (q 3) size ch, aN cA (q 2) 16 sets, aN cA (q 3) 8 amts, oG (q 4) (q 5) mc num, aN cA (q 5) 4 (mF num mc), aN cA (q 17) 7 bo]) E Z (k_X5_isWithin l D cA (nI wh) (nI 0) (nI 1) ) ws_X5_67 ⟨rfl, rfl, Nat.le_of_ble_eq_true rfl, Nat.le_of_ble_eq_true rfl⟩ [] rfl rfl (fun _ => rfl) (fun _ => rfl) rfl hl.1 rfl (Nat.le_of_ble_eq_true rfl) dX5_routes_3 ⟨Nat.zero_le _, Nat.zero_le _⟩ (fun r3 _ H locs hp3 Z => ?_)
  subst hp3
  refine b_if_ne (tgt := 11) hx hb dX5_routes_6 (by decide) (fun c6 => ?_) (fun c6 => ?_)
  · refine lv_aload_n hx hb dX5_routes_11 rfl (lv_at hl 0 rfl) ?_
    refine c_Vi (As := []) (rest := []) (w2 := fun _ => [oX q mc bn bl tr, oP (q 1) (q 2) (q 3) size ch, aN cA (q 2) 16 sets, aN cA (q 3) 8 amts, oG (q 4) (q 5) mc num, aN cA (q 5) 4 (mF num mc), aN cA (q 17) 7 bo]) E Z (k_X5_bestChoice l D cA q mc bn bl tr size ch sets amts num bo (by first | assumption | omega) (by first | assumption | omega) (by first | assumption | omega) (by first | assumption | omega) (by first | assumption | omega)) wv_X5_180 ⟨rfl, rfl, Nat.le_of_ble_eq_true rfl, Nat.le_of_ble_eq_true rfl⟩ [0, 1, 2, 3, 4, 5, 6] rfl rfl rfl rfl (q0 := 0) rfl (fun _ => rfl) (fun _ => rfl) rfl hl.1 rfl (Nat.le_of_ble_eq_true rfl) dX5_routes_12 ⟨Nat.zero_le _, Nat.zero_le _⟩ (fun r12 _ H locs hp12 Z => ?_)
    subst hp12
    refine r_top (y := (-9)) h9 ?_
    refine lv_istore_n (lv' := [(2, .int (-9)), (0, .ref (q 0)), (1, .int (nI wh))]) hx hb dX5_routes_15 rfl hl (by decide) rfl (fun ls hl => ?_)
    refine lv_iload_n hx hb dX5_routes_16 rfl (lv_at hl 0 rfl) ?_
    refine lv_if_ge (tgt := 23) hx hb dX5_routes_17 (by decide) (fun c17 => ?_) (fun c17 => ?_)
    · exact absurd c17 (by decide)
    · refine lv_bipush (v := (-2)) hx hb dX5_routes_20 (by decide) ?_
      exact ret () Z dX5_routes_22 rfl rfl
  · exact absurd (inr_ok (by omega) (by omega) (by omega)) c6
abbrev rm_k_X5_routes : Room := { frames := 5, cells := 0, slots := 0, locals := 115 }
set_option maxHeartbeats 4000000 in
set_option maxRecDepth 100000 in
theorem k_X5_routes (l : Launch) (D : va_G) (cA : ClassId) (q : Nat → Nat) (mc : Nat) (bn : Nat) (bl : Nat) (tr : Int64) (size : Nat) (ch : Nat) (sets : Nat → Nat) (amts : Nat → Nat) (num : Nat) (bo : Nat → Nat) (wh : Nat) (j : Nat) (hP : size ≤ 8) (hs : ∀ j, sets j < 2 ^ mc) (hM : mc ≤ 7) (ha10 : ∀ j, amts j < 10) (hb100 : ∀ j, bo j < 100) (hw : wh < 2) (hj : j < 256) (ej : (bch mc num size sets amts bo (2 ^ size)).1 = nI j) : Cti l yX5_routes cX5_routes 3 (some .int) rm_k_X5_routes D cA [.ref (q 0), .int (nI wh)] ([oX q mc bn bl tr, oP (q 1) (q 2) (q 3) size ch, aN cA (q 2) 16 sets, aN cA (q 3) 8 amts, oG (q 4) (q 5) mc num, aN cA (q 5) 4 (mF num mc), aN cA (q 17) 7 bo]) (fun (r : Int32) (_ : Unit) => r = nI (if wh = 0 then j else sm (wdp mc num sets amts j) size)) (fun _ => [oX q mc bn bl tr, oP (q 1) (q 2) (q 3) size ch, aN cA (q 2) 16 sets, aN cA (q 3) 8 amts, oG (q 4) (q 5) mc num, aN cA (q 5) 4 (mF num mc), aN cA (q 17) 7 bo]) := by
  refine st_i (by decide) (Nat.le_of_ble_eq_true rfl) ?_
  intro p e s m args below meth c A Q E ret Z ls hl
  have hx := E.1.1
  have hb := E.1.2.1
  have hl : lv_has ls 3 [(0, .ref (q 0)), (1, .int (nI wh))] := hl
  refine lv_iload_n hx hb dX5_routes_0 rfl (lv_at hl 1 rfl) ?_
  refine lv_iconst (v := nI 0) hx hb dX5_routes_1 (by decide) ?_
  refine lv_iconst (v := nI 1) hx hb dX5_routes_2 (by decide) ?_
  refine c_Si (As := [.int (nI wh), .int (nI 0), .int (nI 1)]) (rest := []) (w2 := fun _ => [oX q mc bn bl tr, oP (q 1) (q 2) (q 3) size ch, aN cA (q 2) 16 sets, aN cA (q 3) 8 amts, oG (q 4) (q 5) mc num, aN cA (q 5) 4 (mF num mc), aN cA (q 17) 7 bo]) E Z (k_X5_isWithin l D cA (nI wh) (nI 0) (nI 1) ) ws_X5_67 ⟨rfl, rfl, Nat.le_of_ble_eq_true rfl, Nat.le_of_ble_eq_true rfl⟩ [] rfl rfl (fun _ => rfl) (fun _ => rfl) rfl hl.1 rfl (Nat.le_of_ble_eq_true rfl) dX5_routes_3 ⟨Nat.zero_le _, Nat.zero_le _⟩ (fun r3 _ H locs hp3 Z => ?_)
  subst hp3
  refine b_if_ne (tgt := 11) hx hb dX5_routes_6 (by decide) (fun c6 => ?_) (fun c6 => ?_)
  · refine lv_aload_n hx hb dX5_routes_11 rfl (lv_at hl 0 rfl) ?_
    refine c_Vi (As := []) (rest := []) (w2 := fun _ => [oX q mc bn bl tr, oP (q 1) (q 2) (q 3) size ch, aN cA (q 2) 16 sets, aN cA (q 3) 8 amts, oG (q 4) (q 5) mc num, aN cA (q 5) 4 (mF num mc), aN cA (q 17) 7 bo]) E Z (k_X5_bestChoice l D cA q mc bn bl tr size ch sets amts num bo (by first | assumption | omega) (by first | assumption | omega) (by first | assumption | omega) (by first | assumption | omega) (by first | assumption | omega)) wv_X5_180 ⟨rfl, rfl, Nat.le_of_ble_eq_true rfl, Nat.le_of_ble_eq_true rfl⟩ [0, 1, 2, 3, 4, 5, 6] rfl rfl rfl rfl (q0 := 0) rfl (fun _ => rfl) (fun _ => rfl) rfl hl.1 rfl (Nat.le_of_ble_eq_true rfl) dX5_routes_12 ⟨Nat.zero_le _, Nat.zero_le _⟩ (fun r12 _ H locs hp12 Z => ?_)
    subst hp12
    refine r_top (y := nI j) ej ?_
    refine lv_istore_n (lv' := [(2, .int (nI j)), (0, .ref (q 0)), (1, .int (nI wh))]) hx hb dX5_routes_15 rfl hl (by decide) rfl (fun ls hl => ?_)
    refine lv_iload_n hx hb dX5_routes_16 rfl (lv_at hl 0 rfl) ?_
    refine lv_if_ge (tgt := 23) hx hb dX5_routes_17 (by decide) (fun c17 => ?_) (fun c17 => ?_)
    · refine lv_iload_n hx hb dX5_routes_23 rfl (lv_at hl 2 rfl) ?_
      refine n_if_ne (tgt := 31) hx hb dX5_routes_24 (by decide) (by omega) (fun c24 => ?_) (fun c24 => ?_)
      · refine lv_aload_n hx hb dX5_routes_31 rfl (lv_at hl 1 rfl) ?_
        refine gF_X5_10 E Z dX5_routes_32 0 rfl rfl ?_
        refine lv_iload_n hx hb dX5_routes_35 rfl (lv_at hl 0 rfl) ?_
        refine lv_aload_n hx hb dX5_routes_36 rfl (lv_at hl 1 rfl) ?_
        refine gF_X5_19 E Z dX5_routes_37 0 rfl rfl ?_
        refine c_Vi (As := [.int (nI j), .ref (q 4)]) (rest := []) (w2 := fun _ => [oX q mc bn bl tr, oP (q 1) (q 2) (q 3) size ch, aN cA (q 2) 16 sets, aN cA (q 3) 8 amts, oG (q 4) (q 5) mc num, aN cA (q 5) 4 (mF num mc), aN cA (q 17) 7 bo]) E Z (k_X1_wanderBy l D cA (q 1) (q 2) (q 3) size ch sets amts (q 4) (q 5) mc num (mF num mc) j (by first | assumption | omega) (by first | assumption | omega) (by first | assumption | omega) (mF_ok _ mc hM) (by first | assumption | omega)) wv_X5_183 ⟨rfl, rfl, Nat.le_of_ble_eq_true rfl, Nat.le_of_ble_eq_true rfl⟩ [1, 2, 3, 4, 5] rfl rfl rfl rfl (q0 := 0) rfl (fun _ => rfl) (fun _ => rfl) rfl hl.1 rfl (Nat.le_of_ble_eq_true rfl) dX5_routes_40 ⟨Nat.zero_le _, Nat.zero_le _⟩ (fun r40 _ H locs hp40 Z => ?_)
        subst hp40
        exact ret () Z dX5_routes_43 rfl (congrArg nI (if_neg c24)).symm
      · refine lv_iload_n hx hb dX5_routes_27 rfl (lv_at hl 0 rfl) ?_
        refine lv_goto (tgt := 43) hx hb dX5_routes_28 (by decide) ?_
        exact ret () Z dX5_routes_43 rfl (congrArg nI (if_pos c24)).symm
    · exact absurd (nI_pos' (by omega)) c17
  · exact absurd (inr_ok (by omega) (by omega) (by omega)) c6
abbrev rm_k_X5_copy_bad : Room := { frames := 2, cells := 0, slots := 0, locals := 43 }
set_option maxHeartbeats 4000000 in
set_option maxRecDepth 100000 in
theorem k_X5_copy_bad (l : Launch) (D : va_G) (cA : ClassId) (q : Nat → Nat) (mc : Nat) (bn : Nat) (bl : Nat) (tr : Int64) (num : Nat) (x1 : Int32) (x2 : Int32) (hm1 : 1 ≤ mc) (hM : mc ≤ 7) (hnum : num < 2 ^ (2 * mc)) (hbad : ∀ j d, j < mc → d < 4 → x1 = nI j → x2 = nI d → cl num j = d) : Cti l yX5_copy cX5_copy 3 (some .int) rm_k_X5_copy_bad D cA [.ref (q 0), .int x1, .int x2] ([oX q mc bn bl tr, oG (q 4) (q 5) mc num]) (fun (r : Int32) (_ : Unit) => r = (-1)) (fun _ => [oX q mc bn bl tr, oG (q 4) (q 5) mc num]) := by
  refine st_i (by decide) (Nat.le_of_ble_eq_true rfl) ?_
  intro p e s m args below meth c A Q E ret Z ls hl
  have hx := E.1.1
  have hb := E.1.2.1
  have hl : lv_has ls 3 [(0, .ref (q 0)), (1, .int x1), (2, .int x2)] := hl
  have h14 : 2 ^ (2 * mc) ≤ 2 ^ 14 := Nat.pow_le_pow_right (by decide) (by omega)
  refine lv_aload_n hx hb dX5_copy_0 rfl (lv_at hl 0 rfl) ?_
  refine lv_iload_n hx hb dX5_copy_1 rfl (lv_at hl 1 rfl) ?_
  refine c_Vi (As := [.int x1]) (rest := []) (w2 := fun _ => [oX q mc bn bl tr, oG (q 4) (q 5) mc num]) E Z (k_X5_isMachine l D cA q mc bn bl tr x1 (by first | assumption | omega)) wv_X5_100 ⟨rfl, rfl, Nat.le_of_ble_eq_true rfl, Nat.le_of_ble_eq_true rfl⟩ [0] rfl rfl rfl rfl (q0 := 0) rfl (fun _ => rfl) (fun _ => rfl) rfl hl.1 rfl (Nat.le_of_ble_eq_true rfl) dX5_copy_2 ⟨Nat.zero_le _, Nat.zero_le _⟩ (fun r2 _ H locs hp2 Z => ?_)
  subst hp2
  refine b_if_eq (tgt := 27) hx hb dX5_copy_5 (by decide) (fun c5 => ?_) (fun c5 => ?_)
  · refine lv_iconst (v := (-1)) hx hb dX5_copy_27 (by decide) ?_
    exact ret () Z dX5_copy_28 rfl rfl
  · obtain ⟨k, hk0, hk, rfl⟩ := in_nat (by omega) c5 (by decide)
    refine lv_iload_n hx hb dX5_copy_8 rfl (lv_at hl 2 rfl) ?_
    refine c_Si (As := [.int x2]) (rest := []) (w2 := fun _ => [oX q mc bn bl tr, oG (q 4) (q 5) mc num]) E Z (k_X5_isCell l D cA x2 ) ws_X5_103 ⟨rfl, rfl, Nat.le_of_ble_eq_true rfl, Nat.le_of_ble_eq_true rfl⟩ [] rfl rfl (fun _ => rfl) (fun _ => rfl) rfl hl.1 rfl (Nat.le_of_ble_eq_true rfl) dX5_copy_9 ⟨Nat.zero_le _, Nat.zero_le _⟩ (fun r9 _ H locs hp9 Z => ?_)
    subst hp9
    refine b_if_eq (tgt := 27) hx hb dX5_copy_12 (by decide) (fun c12 => ?_) (fun c12 => ?_)
    · refine lv_iconst (v := (-1)) hx hb dX5_copy_27 (by decide) ?_
      exact ret () Z dX5_copy_28 rfl rfl
    · obtain ⟨d, hd0, hd, rfl⟩ := in_nat (by decide) c12 (by decide)
      have hcl := cl_lt num k
      refine lv_aload_n hx hb dX5_copy_15 rfl (lv_at hl 0 rfl) ?_
      refine gF_X5_19 E Z dX5_copy_16 0 rfl rfl ?_
      refine lv_iload_n hx hb dX5_copy_19 rfl (lv_at hl 1 rfl) ?_
      refine c_Vi (As := [.int (nI k)]) (rest := []) (w2 := fun _ => [oX q mc bn bl tr, oG (q 4) (q 5) mc num]) E Z (k_X0_cellOf l D cA (q 4) (q 5) mc num k (by first | assumption | omega) (by first | assumption | omega)) wv_X5_106 ⟨rfl, rfl, Nat.le_of_ble_eq_true rfl, Nat.le_of_ble_eq_true rfl⟩ [1] rfl rfl rfl rfl (q0 := 0) rfl (fun _ => rfl) (fun _ => rfl) rfl hl.1 rfl (Nat.le_of_ble_eq_true rfl) dX5_copy_20 ⟨Nat.zero_le _, Nat.zero_le _⟩ (fun r20 _ H locs hp20 Z => ?_)
      subst hp20
      refine lv_iload_n hx hb dX5_copy_23 rfl (lv_at hl 2 rfl) ?_
      refine n_icmp_ne (tgt := 29) hx hb dX5_copy_24 (by decide) (by omega) (by omega) (fun c24 => ?_) (fun c24 => ?_)
      · exact absurd (hbad k d (by omega) (by omega) rfl rfl) c24
      · refine lv_iconst (v := (-1)) hx hb dX5_copy_27 (by decide) ?_
        exact ret () Z dX5_copy_28 rfl rfl
abbrev rm_k_X5_copy : Room := { frames := 3, cells := 0, slots := 0, locals := 71 }
set_option maxHeartbeats 4000000 in
set_option maxRecDepth 100000 in
theorem k_X5_copy (l : Launch) (D : va_G) (cA : ClassId) (q : Nat → Nat) (mc : Nat) (bn : Nat) (bl : Nat) (tr : Int64) (size : Nat) (ch : Nat) (sets : Nat → Nat) (amts : Nat → Nat) (num : Nat) (k : Nat) (d : Nat) (hP : size ≤ 8) (hch : ch < 256) (hs : ∀ j, sets j < 2 ^ mc) (hm1 : 1 ≤ mc) (hM : mc ≤ 7) (hnum : num < 2 ^ (2 * mc)) (hk : k < mc) (hd : d < 4) (hne : cl num k ≠ d) : Cti l yX5_copy cX5_copy 3 (some .int) rm_k_X5_copy D cA [.ref (q 0), .int (nI k), .int (nI d)] ([oX q mc bn bl tr, oP (q 1) (q 2) (q 3) size ch, aN cA (q 2) 16 sets, aN cA (q 3) 8 amts, oG (q 4) (q 5) mc num, aN cA (q 5) 4 (mF num mc)]) (fun (r : Int32) (_ : Unit) => r = nI (sm (kpp mc num sets amts ch k d) size)) (fun _ => [oX q mc bn bl tr, oP (q 1) (q 2) (q 3) size ch, aN cA (q 2) 16 sets, aN cA (q 3) 8 amts, oG (q 4) (q 5) mc num, aN cA (q 5) 4 (mF num mc)]) := by
  refine st_i (by decide) (Nat.le_of_ble_eq_true rfl) ?_
  intro p e s m args below meth c A Q E ret Z ls hl
  have hx := E.1.1
  have hb := E.1.2.1
  have hl : lv_has ls 3 [(0, .ref (q 0)), (1, .int (nI k)), (2, .int (nI d))] := hl
  have h14 : 2 ^ (2 * mc) ≤ 2 ^ 14 := Nat.pow_le_pow_right (by decide) (by omega)
  have hs7 := hs7_of hs hM
  have hcl := cl_lt num k
  refine lv_aload_n hx hb dX5_copy_0 rfl (lv_at hl 0 rfl) ?_
  refine lv_iload_n hx hb dX5_copy_1 rfl (lv_at hl 1 rfl) ?_
  refine c_Vi (As := [.int (nI k)]) (rest := []) (w2 := fun _ => [oX q mc bn bl tr, oP (q 1) (q 2) (q 3) size ch, aN cA (q 2) 16 sets, aN cA (q 3) 8 amts, oG (q 4) (q 5) mc num, aN cA (q 5) 4 (mF num mc)]) E Z (k_X5_isMachine l D cA q mc bn bl tr (nI k) (by first | assumption | omega)) wv_X5_100 ⟨rfl, rfl, Nat.le_of_ble_eq_true rfl, Nat.le_of_ble_eq_true rfl⟩ [0] rfl rfl rfl rfl (q0 := 0) rfl (fun _ => rfl) (fun _ => rfl) rfl hl.1 rfl (Nat.le_of_ble_eq_true rfl) dX5_copy_2 ⟨Nat.zero_le _, Nat.zero_le _⟩ (fun r2 _ H locs hp2 Z => ?_)
  subst hp2
  refine b_if_eq (tgt := 27) hx hb dX5_copy_5 (by decide) (fun c5 => ?_) (fun c5 => ?_)
  · exact absurd (inr_ok (by omega) (by omega) (by omega)) c5
  · refine lv_iload_n hx hb dX5_copy_8 rfl (lv_at hl 2 rfl) ?_
    refine c_Si (As := [.int (nI d)]) (rest := []) (w2 := fun _ => [oX q mc bn bl tr, oP (q 1) (q 2) (q 3) size ch, aN cA (q 2) 16 sets, aN cA (q 3) 8 amts, oG (q 4) (q 5) mc num, aN cA (q 5) 4 (mF num mc)]) E Z (k_X5_isCell l D cA (nI d) ) ws_X5_103 ⟨rfl, rfl, Nat.le_of_ble_eq_true rfl, Nat.le_of_ble_eq_true rfl⟩ [] rfl rfl (fun _ => rfl) (fun _ => rfl) rfl hl.1 rfl (Nat.le_of_ble_eq_true rfl) dX5_copy_9 ⟨Nat.zero_le _, Nat.zero_le _⟩ (fun r9 _ H locs hp9 Z => ?_)
    subst hp9
    refine b_if_eq (tgt := 27) hx hb dX5_copy_12 (by decide) (fun c12 => ?_) (fun c12 => ?_)
    · exact absurd (inr_ok (by omega) (by omega) (by omega)) c12
    · refine lv_aload_n hx hb dX5_copy_15 rfl (lv_at hl 0 rfl) ?_
      refine gF_X5_19 E Z dX5_copy_16 0 rfl rfl ?_
      refine lv_iload_n hx hb dX5_copy_19 rfl (lv_at hl 1 rfl) ?_
      refine c_Vi (As := [.int (nI k)]) (rest := []) (w2 := fun _ => [oX q mc bn bl tr, oP (q 1) (q 2) (q 3) size ch, aN cA (q 2) 16 sets, aN cA (q 3) 8 amts, oG (q 4) (q 5) mc num, aN cA (q 5) 4 (mF num mc)]) E Z (k_X0_cellOf l D cA (q 4) (q 5) mc num k (by first | assumption | omega) (by first | assumption | omega)) wv_X5_106 ⟨rfl, rfl, Nat.le_of_ble_eq_true rfl, Nat.le_of_ble_eq_true rfl⟩ [4] rfl rfl rfl rfl (q0 := 0) rfl (fun _ => rfl) (fun _ => rfl) rfl hl.1 rfl (Nat.le_of_ble_eq_true rfl) dX5_copy_20 ⟨Nat.zero_le _, Nat.zero_le _⟩ (fun r20 _ H locs hp20 Z => ?_)
      subst hp20
      refine lv_iload_n hx hb dX5_copy_23 rfl (lv_at hl 2 rfl) ?_
      refine n_icmp_ne (tgt := 29) hx hb dX5_copy_24 (by decide) (by omega) (by omega) (fun c24 => ?_) (fun c24 => ?_)
      · refine lv_aload_n hx hb dX5_copy_29 rfl (lv_at hl 0 rfl) ?_
        refine gF_X5_10 E Z dX5_copy_30 0 rfl rfl ?_
        refine lv_iload_n hx hb dX5_copy_33 rfl (lv_at hl 1 rfl) ?_
        refine lv_iload_n hx hb dX5_copy_34 rfl (lv_at hl 2 rfl) ?_
        refine lv_aload_n hx hb dX5_copy_35 rfl (lv_at hl 0 rfl) ?_
        refine gF_X5_19 E Z dX5_copy_36 0 rfl rfl ?_
        refine c_Vi (As := [.int (nI k), .int (nI d), .ref (q 4)]) (rest := []) (w2 := fun _ => [oX q mc bn bl tr, oP (q 1) (q 2) (q 3) size ch, aN cA (q 2) 16 sets, aN cA (q 3) 8 amts, oG (q 4) (q 5) mc num, aN cA (q 5) 4 (mF num mc)]) E Z (k_X1_keptHome l D cA (q 1) (q 2) (q 3) size ch sets amts (q 4) (q 5) mc num (mF num mc) k d (by first | assumption | omega) (by first | assumption | omega) hs7 (by first | assumption | omega) (by first | assumption | omega) (mF_ok _ mc hM) (by first | assumption | omega)) wv_X5_187 ⟨rfl, rfl, Nat.le_of_ble_eq_true rfl, Nat.le_of_ble_eq_true rfl⟩ [1, 2, 3, 4, 5] rfl rfl rfl rfl (q0 := 0) rfl (fun _ => rfl) (fun _ => rfl) rfl hl.1 rfl (Nat.le_of_ble_eq_true rfl) dX5_copy_39 ⟨Nat.zero_le _, Nat.zero_le _⟩ (fun r39 _ H locs hp39 Z => ?_)
        subst hp39
        exact ret () Z dX5_copy_42 rfl rfl
      · exact absurd c24 hne
abbrev rm_k_X5_saved_bad : Room := { frames := 1, cells := 0, slots := 0, locals := 22 }
set_option maxHeartbeats 4000000 in
set_option maxRecDepth 100000 in
theorem k_X5_saved_bad (l : Launch) (D : va_G) (cA : ClassId) (q : Nat → Nat) (mc : Nat) (bn : Nat) (bl : Nat) (tr : Int64) (x1 : Int32) (hbad : ¬ ((nI 0 ≤ x1 ∧ x1 ≤ nI 200))) : Cti l yX5_saved cX5_saved 3 (some .int) rm_k_X5_saved_bad D cA [.ref (q 0), .int x1] ([oX q mc bn bl tr]) (fun (r : Int32) (_ : Unit) => r = (-1)) (fun _ => [oX q mc bn bl tr]) := by
  refine st_i (by decide) (Nat.le_of_ble_eq_true rfl) ?_
  intro p e s m args below meth c A Q E ret Z ls hl
  have hx := E.1.1
  have hb := E.1.2.1
  have hl : lv_has ls 3 [(0, .ref (q 0)), (1, .int x1)] := hl
  refine lv_iload_n hx hb dX5_saved_0 rfl (lv_at hl 1 rfl) ?_
  refine lv_iconst (v := nI 0) hx hb dX5_saved_1 (by decide) ?_
  refine lv_sipush (v := nI 200) hx hb dX5_saved_2 (by decide) ?_
  refine c_Si (As := [.int x1, .int (nI 0), .int (nI 200)]) (rest := []) (w2 := fun _ => [oX q mc bn bl tr]) E Z (k_X5_isWithin l D cA x1 (nI 0) (nI 200) ) ws_X5_67 ⟨rfl, rfl, Nat.le_of_ble_eq_true rfl, Nat.le_of_ble_eq_true rfl⟩ [] rfl rfl (fun _ => rfl) (fun _ => rfl) rfl hl.1 rfl (Nat.le_of_ble_eq_true rfl) dX5_saved_5 ⟨Nat.zero_le _, Nat.zero_le _⟩ (fun r5 _ H locs hp5 Z => ?_)
  subst hp5
  refine b_if_ne (tgt := 13) hx hb dX5_saved_8 (by decide) (fun c8 => ?_) (fun c8 => ?_)
  · exact absurd c8 hbad
  · refine lv_iconst (v := (-1)) hx hb dX5_saved_11 (by decide) ?_
    exact ret () Z dX5_saved_12 rfl rfl
abbrev rm_k_X5_saved : Room := { frames := 4, cells := 0, slots := 0, locals := 94 }
set_option maxHeartbeats 4000000 in
set_option maxRecDepth 100000 in
theorem k_X5_saved (l : Launch) (D : va_G) (cA : ClassId) (q : Nat → Nat) (mc : Nat) (bn : Nat) (bl : Nat) (tr : Int64) (size : Nat) (ch : Nat) (sets : Nat → Nat) (amts : Nat → Nat) (num : Nat) (pr : Nat → Nat) (sv : Nat → Nat) (pu : Nat) (hP : size ≤ 8) (hch : ch < 256) (hs : ∀ j, sets j < 2 ^ mc) (hM : mc ≤ 7) (ha10 : ∀ j, amts j < 10) (hnum : num < 2 ^ (2 * mc)) (hpu : pu ≤ 200) (hpr : ∀ j, 1 ≤ pr j ∧ pr j ≤ 50) : Cti l yX5_saved cX5_saved 3 (some .int) rm_k_X5_saved D cA [.ref (q 0), .int (nI pu)] ([oX q mc bn bl tr, oP (q 1) (q 2) (q 3) size ch, aN cA (q 2) 16 sets, aN cA (q 3) 8 amts, oG (q 4) (q 5) mc num, aN cA (q 5) 4 (mF num mc), aN cA (q 18) 7 pr, aN cA (q 21) 201 sv]) (fun (r : Int32) (_ : Unit) => r = nI (svF mc num size sets amts pr ch pu mc pu)) (fun _ => [oX q mc bn bl tr, oP (q 1) (q 2) (q 3) size ch, aN cA (q 2) 16 sets, aN cA (q 3) 8 amts, oG (q 4) (q 5) mc num, aN cA (q 5) 4 (mF num mc), aN cA (q 18) 7 pr, aN cA (q 21) 201 (svF mc num size sets amts pr ch pu mc)]) := by
  refine st_i (by decide) (Nat.le_of_ble_eq_true rfl) ?_
  intro p e s m args below meth c A Q E ret Z ls hl
  have hx := E.1.1
  have hb := E.1.2.1
  have hl : lv_has ls 3 [(0, .ref (q 0)), (1, .int (nI pu))] := hl
  have h14 : 2 ^ (2 * mc) ≤ 2 ^ 14 := Nat.pow_le_pow_right (by decide) (by omega)
  have hs7 := hs7_of hs hM
  refine lv_iload_n hx hb dX5_saved_0 rfl (lv_at hl 1 rfl) ?_
  refine lv_iconst (v := nI 0) hx hb dX5_saved_1 (by decide) ?_
  refine lv_sipush (v := nI 200) hx hb dX5_saved_2 (by decide) ?_
  refine c_Si (As := [.int (nI pu), .int (nI 0), .int (nI 200)]) (rest := []) (w2 := fun _ => [oX q mc bn bl tr, oP (q 1) (q 2) (q 3) size ch, aN cA (q 2) 16 sets, aN cA (q 3) 8 amts, oG (q 4) (q 5) mc num, aN cA (q 5) 4 (mF num mc), aN cA (q 18) 7 pr, aN cA (q 21) 201 sv]) E Z (k_X5_isWithin l D cA (nI pu) (nI 0) (nI 200) ) ws_X5_67 ⟨rfl, rfl, Nat.le_of_ble_eq_true rfl, Nat.le_of_ble_eq_true rfl⟩ [] rfl rfl (fun _ => rfl) (fun _ => rfl) rfl hl.1 rfl (Nat.le_of_ble_eq_true rfl) dX5_saved_5 ⟨Nat.zero_le _, Nat.zero_le _⟩ (fun r5 _ H locs hp5 Z => ?_)
  subst hp5
  refine b_if_ne (tgt := 13) hx hb dX5_saved_8 (by decide) (fun c8 => ?_) (fun c8 => ?_)
  · refine lv_aload_n hx hb dX5_saved_13 rfl (lv_at hl 0 rfl) ?_
    refine gF_X5_60 E Z dX5_saved_14 0 rfl rfl ?_
    refine lv_iconst (v := nI 0) hx hb dX5_saved_17 (by decide) ?_
    refine c_Sv (As := [.ref (q 21), .int (nI 0)]) (rest := []) (w2 := fun _ => [oX q mc bn bl tr, oP (q 1) (q 2) (q 3) size ch, aN cA (q 2) 16 sets, aN cA (q 3) 8 amts, oG (q 4) (q 5) mc num, aN cA (q 5) 4 (mF num mc), aN cA (q 18) 7 pr, aN cA (q 21) 201 (fun _ => 0)]) E Z (k_J7_fill_53178 l D cA (q 21) 201 sv 0 (by decide)) ws_X5_191 ⟨rfl, rfl, Nat.le_of_ble_eq_true rfl, Nat.le_of_ble_eq_true rfl⟩ [7] rfl rfl (fun _ => rfl) (fun _ => rfl) rfl hl.1 rfl (Nat.le_of_ble_eq_true rfl) dX5_saved_18 ⟨Nat.zero_le _, Nat.zero_le _⟩ (fun _ H locs hp18 Z => ?_)
    refine lv_iconst (v := nI 0) hx hb dX5_saved_21 (by decide) ?_
    refine lv_istore_n (lv' := [(2, .int (nI 0)), (0, .ref (q 0)), (1, .int (nI pu))]) hx hb dX5_saved_22 rfl hl (by decide) rfl (fun ls hl => ?_)
    have L23 : ∀ (n23 k : Nat), mc + 1 ≤ k + n23 → k ≤ mc → ∀ (H : Heap) (locs : List Loc), Wd D A s ([oX q mc bn bl tr, oP (q 1) (q 2) (q 3) size ch, aN cA (q 2) 16 sets, aN cA (q 3) 8 amts, oG (q 4) (q 5) mc num, aN cA (q 5) 4 (mF num mc), aN cA (q 18) 7 pr, aN cA (q 21) 201 (svF mc num size sets amts pr ch pu k)]) H locs → ∀ (ls : Array Slot), lv_has ls 3 [(0, .ref (q 0)), (1, .int (nI pu)), (2, .int (nI k))] → W p l e rm_k_X5_saved s m args below meth c H locs 0 0 Q (F0 m 23 ls []) := by
      intro n23
      induction n23 with
      | zero => exact fun k h1 h2 => absurd h1 (by omega)
      | succ n23 ih23 =>
        intro k hn23 hi23  H locs Z ls hl
        refine lv_iload_n hx hb dX5_saved_23 rfl (lv_at hl 2 rfl) ?_
        refine lv_aload_n hx hb dX5_saved_24 rfl (lv_at hl 0 rfl) ?_
        refine gF_X5_71 E Z dX5_saved_25 0 rfl rfl ?_
        refine n_icmp_ge (tgt := 43) hx hb dX5_saved_28 (by decide) (by omega) (by omega) (fun c28 => ?_) (fun c28 => ?_)
        · obtain rfl : mc = k := by omega
          refine lv_aload_n hx hb dX5_saved_43 rfl (lv_at hl 0 rfl) ?_
          refine gF_X5_60 E Z dX5_saved_44 0 rfl rfl ?_
          refine lv_iload_n hx hb dX5_saved_47 rfl (lv_at hl 1 rfl) ?_
          refine r_ald E Z dX5_saved_48 7 rfl (by omega) (by decide) ?_
          exact ret () Z dX5_saved_49 rfl rfl
        · refine lv_aload_n hx hb dX5_saved_31 rfl (lv_at hl 0 rfl) ?_
          refine lv_iload_n hx hb dX5_saved_32 rfl (lv_at hl 2 rfl) ?_
          refine lv_iload_n hx hb dX5_saved_33 rfl (lv_at hl 1 rfl) ?_
          refine c_Vv (As := [.int (nI k), .int (nI pu)]) (rest := []) (w2 := fun _ => [oX q mc bn bl tr, oP (q 1) (q 2) (q 3) size ch, aN cA (q 2) 16 sets, aN cA (q 3) 8 amts, oG (q 4) (q 5) mc num, aN cA (q 5) 4 (mF num mc), aN cA (q 18) 7 pr, aN cA (q 21) 201 (oc mc num size sets amts ch (pr k) pu k (svF mc num size sets amts pr ch pu k) 4)]) E Z (k_X5_offerCopies l D cA q mc bn bl tr size ch sets amts num pr (svF mc num size sets amts pr ch pu k) k pu (k * 60000) (by first | assumption | omega) (by first | assumption | omega) hs7 (by first | assumption | omega) (by first | assumption | omega) (by first | assumption | omega) (by first | assumption | omega) (by first | assumption | omega) (svF_le hP ha10 hpu k) (by omega) (by first | assumption | omega)) wv_X5_197 ⟨rfl, rfl, Nat.le_of_ble_eq_true rfl, Nat.le_of_ble_eq_true rfl⟩ [0, 1, 2, 3, 4, 5, 6, 7] rfl rfl rfl rfl (q0 := 0) rfl (fun _ => rfl) (fun _ => rfl) rfl hl.1 rfl (Nat.le_of_ble_eq_true rfl) dX5_saved_34 ⟨Nat.zero_le _, Nat.zero_le _⟩ (fun _ H locs hp34 Z => ?_)
          refine lv_iinc (v := nI (k + 1)) (lv' := [(2, .int (nI (k + 1))), (0, .ref (q 0)), (1, .int (nI pu))]) hx hb dX5_saved_37 hl (k := 2) rfl (n_inc _ _ (by decide)) (by decide) rfl (fun ls hl => ?_)
          refine lv_goto (tgt := 23) hx hb dX5_saved_40 (by decide) ?_
          exact ih23 (k + 1) (by omega) (by omega)   _ _ Z ls (lv_sub hl [1, 2, 0] rfl)
    exact L23 (mc + 1) 0 (by omega) (by omega)   _ _ Z ls (lv_sub hl [1, 2, 0] rfl)
  · exact absurd (inr_ok (by omega) (by omega) (by omega)) c8
abbrev rm_k_X5_way_bad : Room := { frames := 2, cells := 0, slots := 0, locals := 43 }
set_option maxHeartbeats 4000000 in
set_option maxRecDepth 100000 in
theorem k_X5_way_bad (l : Launch) (D : va_G) (cA : ClassId) (q : Nat → Nat) (mc : Nat) (bn : Nat) (bl : Nat) (tr : Int64) (x1 : Int32) (x2 : Int32) (x3 : Int32) (x4 : Int32) (hbad : ∀ a b d f, a < 4 → b < 4 → d < 4 → f < 4 → x1 = nI a → x2 = nI b → x3 = nI d → x4 = nI f → ¬ eo (ord a b d f)) : Cti l yX5_way cX5_way 6 (some .int) rm_k_X5_way_bad D cA [.ref (q 0), .int x1, .int x2, .int x3, .int x4] ([oX q mc bn bl tr]) (fun (r : Int32) (_ : Unit) => r = (-1)) (fun _ => [oX q mc bn bl tr]) := by
  refine st_i (by decide) (Nat.le_of_ble_eq_true rfl) ?_
  intro p e s m args below meth c A Q E ret Z ls hl
  have hx := E.1.1
  have hb := E.1.2.1
  have hl : lv_has ls 6 [(0, .ref (q 0)), (1, .int x1), (2, .int x2), (3, .int x3), (4, .int x4)] := hl
  refine lv_iload_n hx hb dX5_way_0 rfl (lv_at hl 1 rfl) ?_
  refine c_Si (As := [.int x1]) (rest := []) (w2 := fun _ => [oX q mc bn bl tr]) E Z (k_X5_isCell l D cA x1 ) ws_X5_103 ⟨rfl, rfl, Nat.le_of_ble_eq_true rfl, Nat.le_of_ble_eq_true rfl⟩ [] rfl rfl (fun _ => rfl) (fun _ => rfl) rfl hl.1 rfl (Nat.le_of_ble_eq_true rfl) dX5_way_1 ⟨Nat.zero_le _, Nat.zero_le _⟩ (fun r1 _ H locs hp1 Z => ?_)
  subst hp1
  refine b_if_eq (tgt := 29) hx hb dX5_way_4 (by decide) (fun c4 => ?_) (fun c4 => ?_)
  · refine lv_iconst (v := (-1)) hx hb dX5_way_29 (by decide) ?_
    exact ret () Z dX5_way_30 rfl rfl
  · refine lv_iload_n hx hb dX5_way_7 rfl (lv_at hl 2 rfl) ?_
    refine c_Si (As := [.int x2]) (rest := []) (w2 := fun _ => [oX q mc bn bl tr]) E Z (k_X5_isCell l D cA x2 ) ws_X5_103 ⟨rfl, rfl, Nat.le_of_ble_eq_true rfl, Nat.le_of_ble_eq_true rfl⟩ [] rfl rfl (fun _ => rfl) (fun _ => rfl) rfl hl.1 rfl (Nat.le_of_ble_eq_true rfl) dX5_way_8 ⟨Nat.zero_le _, Nat.zero_le _⟩ (fun r8 _ H locs hp8 Z => ?_)
    subst hp8
    refine b_if_eq (tgt := 29) hx hb dX5_way_11 (by decide) (fun c11 => ?_) (fun c11 => ?_)
    · refine lv_iconst (v := (-1)) hx hb dX5_way_29 (by decide) ?_
      exact ret () Z dX5_way_30 rfl rfl
    · refine lv_iload_n hx hb dX5_way_14 rfl (lv_at hl 3 rfl) ?_
      refine c_Si (As := [.int x3]) (rest := []) (w2 := fun _ => [oX q mc bn bl tr]) E Z (k_X5_isCell l D cA x3 ) ws_X5_103 ⟨rfl, rfl, Nat.le_of_ble_eq_true rfl, Nat.le_of_ble_eq_true rfl⟩ [] rfl rfl (fun _ => rfl) (fun _ => rfl) rfl hl.1 rfl (Nat.le_of_ble_eq_true rfl) dX5_way_15 ⟨Nat.zero_le _, Nat.zero_le _⟩ (fun r15 _ H locs hp15 Z => ?_)
      subst hp15
      refine b_if_eq (tgt := 29) hx hb dX5_way_18 (by decide) (fun c18 => ?_) (fun c18 => ?_)
      · refine lv_iconst (v := (-1)) hx hb dX5_way_29 (by decide) ?_
        exact ret () Z dX5_way_30 rfl rfl
      · refine lv_iload hx hb dX5_way_21 (lv_at hl 4 rfl) ?_
        refine c_Si (As := [.int x4]) (rest := []) (w2 := fun _ => [oX q mc bn bl tr]) E Z (k_X5_isCell l D cA x4 ) ws_X5_103 ⟨rfl, rfl, Nat.le_of_ble_eq_true rfl, Nat.le_of_ble_eq_true rfl⟩ [] rfl rfl (fun _ => rfl) (fun _ => rfl) rfl hl.1 rfl (Nat.le_of_ble_eq_true rfl) dX5_way_23 ⟨Nat.zero_le _, Nat.zero_le _⟩ (fun r23 _ H locs hp23 Z => ?_)
        subst hp23
        refine b_if_ne (tgt := 31) hx hb dX5_way_26 (by decide) (fun c26 => ?_) (fun c26 => ?_)
        · obtain ⟨a, hza0, hza, rfl⟩ := in_nat (by decide) c4 (by decide)
          obtain ⟨b, hzb0, hzb, rfl⟩ := in_nat (by decide) c11 (by decide)
          obtain ⟨d, hzd0, hzd, rfl⟩ := in_nat (by decide) c18 (by decide)
          obtain ⟨f, hzf0, hzf, rfl⟩ := in_nat (by decide) c26 (by decide)
          refine lv_iload_n hx hb dX5_way_31 rfl (lv_at hl 1 rfl) ?_
          refine lv_iload_n hx hb dX5_way_32 rfl (lv_at hl 2 rfl) ?_
          refine lv_iload_n hx hb dX5_way_33 rfl (lv_at hl 3 rfl) ?_
          refine lv_iload hx hb dX5_way_34 (lv_at hl 4 rfl) ?_
          refine c_Si (As := [.int (nI a), .int (nI b), .int (nI d), .int (nI f)]) (rest := []) (w2 := fun _ => [oX q mc bn bl tr]) E Z (k_X2_orderOf l D cA a b d f ) ws_X5_200 ⟨rfl, rfl, Nat.le_of_ble_eq_true rfl, Nat.le_of_ble_eq_true rfl⟩ [] rfl rfl (fun _ => rfl) (fun _ => rfl) rfl hl.1 rfl (Nat.le_of_ble_eq_true rfl) dX5_way_36 ⟨Nat.zero_le _, Nat.zero_le _⟩ (fun r36 _ H locs hp36 Z => ?_)
          subst hp36
          refine lv_istore (lv' := [(5, .int (nI (ord a b d f))), (0, .ref (q 0)), (1, .int (nI a)), (2, .int (nI b)), (3, .int (nI d)), (4, .int (nI f))]) hx hb dX5_way_39 hl (by decide) rfl (fun ls hl => ?_)
          refine lv_iload hx hb dX5_way_41 (lv_at hl 0 rfl) ?_
          refine c_Si (As := [.int (nI (ord a b d f))]) (rest := []) (w2 := fun _ => [oX q mc bn bl tr]) E Z (k_X2_hasEachOnce l D cA (ord a b d f) (Nat.lt_trans (ord_lt a (by omega) b (by omega) d (by omega) f (by omega)) (by decide))) ws_X5_204 ⟨rfl, rfl, Nat.le_of_ble_eq_true rfl, Nat.le_of_ble_eq_true rfl⟩ [] rfl rfl (fun _ => rfl) (fun _ => rfl) rfl hl.1 rfl (Nat.le_of_ble_eq_true rfl) dX5_way_43 ⟨Nat.zero_le _, Nat.zero_le _⟩ (fun r43 _ H locs hp43 Z => ?_)
          subst hp43
          refine b_if_ne (tgt := 51) hx hb dX5_way_46 (by decide) (fun c46 => ?_) (fun c46 => ?_)
          · exact absurd c46 (hbad a b d f (by omega) (by omega) (by omega) (by omega) rfl rfl rfl rfl)
          · refine lv_iconst (v := (-1)) hx hb dX5_way_49 (by decide) ?_
            exact ret () Z dX5_way_50 rfl rfl
        · refine lv_iconst (v := (-1)) hx hb dX5_way_29 (by decide) ?_
          exact ret () Z dX5_way_30 rfl rfl
abbrev rm_k_X5_way : Room := { frames := 3, cells := 0, slots := 0, locals := 72 }
set_option maxHeartbeats 4000000 in
set_option maxRecDepth 100000 in
theorem k_X5_way (l : Launch) (D : va_G) (cA : ClassId) (q : Nat → Nat) (mc : Nat) (bn : Nat) (bl : Nat) (tr : Int64) (size : Nat) (ch : Nat) (sets : Nat → Nat) (amts : Nat → Nat) (num : Nat) (tp : Nat → Nat) (pl : Nat → Nat) (a : Nat) (b : Nat) (d : Nat) (f : Nat) (hP : size ≤ 8) (hch : ch < 256) (hs : ∀ j, sets j < 2 ^ mc) (hM : mc ≤ 7) (hnum : num < 2 ^ (2 * mc)) (ha : a < 4) (hb0 : b < 4) (hd : d < 4) (hf : f < 4) (he : eo (ord a b d f)) : Cti l yX5_way cX5_way 6 (some .int) rm_k_X5_way D cA [.ref (q 0), .int (nI a), .int (nI b), .int (nI d), .int (nI f)] ([oX q mc bn bl tr, oP (q 1) (q 2) (q 3) size ch, aN cA (q 2) 16 sets, aN cA (q 3) 8 amts, oG (q 4) (q 5) mc num, aN cA (q 5) 4 (mF num mc), oR (q 10) (q 11) (q 12), aN cA (q 11) 16 tp, aN cA (q 12) 4 pl]) (fun (r : Int32) (_ : Unit) => r = nI (sm (wfs (ob mc num sets amts ch size) (plc (ord a b d f))) 4)) (fun _ => [oX q mc bn bl tr, oP (q 1) (q 2) (q 3) size ch, aN cA (q 2) 16 sets, aN cA (q 3) 8 amts, oG (q 4) (q 5) mc num, aN cA (q 5) 4 (mF num mc), oR (q 10) (q 11) (q 12), aN cA (q 11) 16 (ob mc num sets amts ch size), aN cA (q 12) 4 (plc (ord a b d f))]) := by
  refine st_i (by decide) (Nat.le_of_ble_eq_true rfl) ?_
  intro p e s m args below meth c A Q E ret Z ls hl
  have hx := E.1.1
  have hb := E.1.2.1
  have hl : lv_has ls 6 [(0, .ref (q 0)), (1, .int (nI a)), (2, .int (nI b)), (3, .int (nI d)), (4, .int (nI f))] := hl
  have h14 : 2 ^ (2 * mc) ≤ 2 ^ 14 := Nat.pow_le_pow_right (by decide) (by omega)
  have hs7 := hs7_of hs hM
  have hord := ord_lt a ha b hb0 d hd f hf
  refine lv_iload_n hx hb dX5_way_0 rfl (lv_at hl 1 rfl) ?_
  refine c_Si (As := [.int (nI a)]) (rest := []) (w2 := fun _ => [oX q mc bn bl tr, oP (q 1) (q 2) (q 3) size ch, aN cA (q 2) 16 sets, aN cA (q 3) 8 amts, oG (q 4) (q 5) mc num, aN cA (q 5) 4 (mF num mc), oR (q 10) (q 11) (q 12), aN cA (q 11) 16 tp, aN cA (q 12) 4 pl]) E Z (k_X5_isCell l D cA (nI a) ) ws_X5_103 ⟨rfl, rfl, Nat.le_of_ble_eq_true rfl, Nat.le_of_ble_eq_true rfl⟩ [] rfl rfl (fun _ => rfl) (fun _ => rfl) rfl hl.1 rfl (Nat.le_of_ble_eq_true rfl) dX5_way_1 ⟨Nat.zero_le _, Nat.zero_le _⟩ (fun r1 _ H locs hp1 Z => ?_)
  subst hp1
  refine b_if_eq (tgt := 29) hx hb dX5_way_4 (by decide) (fun c4 => ?_) (fun c4 => ?_)
  · exact absurd (inr_ok (by omega) (by omega) (by omega)) c4
  · refine lv_iload_n hx hb dX5_way_7 rfl (lv_at hl 2 rfl) ?_
    refine c_Si (As := [.int (nI b)]) (rest := []) (w2 := fun _ => [oX q mc bn bl tr, oP (q 1) (q 2) (q 3) size ch, aN cA (q 2) 16 sets, aN cA (q 3) 8 amts, oG (q 4) (q 5) mc num, aN cA (q 5) 4 (mF num mc), oR (q 10) (q 11) (q 12), aN cA (q 11) 16 tp, aN cA (q 12) 4 pl]) E Z (k_X5_isCell l D cA (nI b) ) ws_X5_103 ⟨rfl, rfl, Nat.le_of_ble_eq_true rfl, Nat.le_of_ble_eq_true rfl⟩ [] rfl rfl (fun _ => rfl) (fun _ => rfl) rfl hl.1 rfl (Nat.le_of_ble_eq_true rfl) dX5_way_8 ⟨Nat.zero_le _, Nat.zero_le _⟩ (fun r8 _ H locs hp8 Z => ?_)
    subst hp8
    refine b_if_eq (tgt := 29) hx hb dX5_way_11 (by decide) (fun c11 => ?_) (fun c11 => ?_)
    · exact absurd (inr_ok (by omega) (by omega) (by omega)) c11
    · refine lv_iload_n hx hb dX5_way_14 rfl (lv_at hl 3 rfl) ?_
      refine c_Si (As := [.int (nI d)]) (rest := []) (w2 := fun _ => [oX q mc bn bl tr, oP (q 1) (q 2) (q 3) size ch, aN cA (q 2) 16 sets, aN cA (q 3) 8 amts, oG (q 4) (q 5) mc num, aN cA (q 5) 4 (mF num mc), oR (q 10) (q 11) (q 12), aN cA (q 11) 16 tp, aN cA (q 12) 4 pl]) E Z (k_X5_isCell l D cA (nI d) ) ws_X5_103 ⟨rfl, rfl, Nat.le_of_ble_eq_true rfl, Nat.le_of_ble_eq_true rfl⟩ [] rfl rfl (fun _ => rfl) (fun _ => rfl) rfl hl.1 rfl (Nat.le_of_ble_eq_true rfl) dX5_way_15 ⟨Nat.zero_le _, Nat.zero_le _⟩ (fun r15 _ H locs hp15 Z => ?_)
      subst hp15
      refine b_if_eq (tgt := 29) hx hb dX5_way_18 (by decide) (fun c18 => ?_) (fun c18 => ?_)
      · exact absurd (inr_ok (by omega) (by omega) (by omega)) c18
      · refine lv_iload hx hb dX5_way_21 (lv_at hl 4 rfl) ?_
        refine c_Si (As := [.int (nI f)]) (rest := []) (w2 := fun _ => [oX q mc bn bl tr, oP (q 1) (q 2) (q 3) size ch, aN cA (q 2) 16 sets, aN cA (q 3) 8 amts, oG (q 4) (q 5) mc num, aN cA (q 5) 4 (mF num mc), oR (q 10) (q 11) (q 12), aN cA (q 11) 16 tp, aN cA (q 12) 4 pl]) E Z (k_X5_isCell l D cA (nI f) ) ws_X5_103 ⟨rfl, rfl, Nat.le_of_ble_eq_true rfl, Nat.le_of_ble_eq_true rfl⟩ [] rfl rfl (fun _ => rfl) (fun _ => rfl) rfl hl.1 rfl (Nat.le_of_ble_eq_true rfl) dX5_way_23 ⟨Nat.zero_le _, Nat.zero_le _⟩ (fun r23 _ H locs hp23 Z => ?_)
        subst hp23
        refine b_if_ne (tgt := 31) hx hb dX5_way_26 (by decide) (fun c26 => ?_) (fun c26 => ?_)
        · refine lv_iload_n hx hb dX5_way_31 rfl (lv_at hl 1 rfl) ?_
          refine lv_iload_n hx hb dX5_way_32 rfl (lv_at hl 2 rfl) ?_
          refine lv_iload_n hx hb dX5_way_33 rfl (lv_at hl 3 rfl) ?_
          refine lv_iload hx hb dX5_way_34 (lv_at hl 4 rfl) ?_
          refine c_Si (As := [.int (nI a), .int (nI b), .int (nI d), .int (nI f)]) (rest := []) (w2 := fun _ => [oX q mc bn bl tr, oP (q 1) (q 2) (q 3) size ch, aN cA (q 2) 16 sets, aN cA (q 3) 8 amts, oG (q 4) (q 5) mc num, aN cA (q 5) 4 (mF num mc), oR (q 10) (q 11) (q 12), aN cA (q 11) 16 tp, aN cA (q 12) 4 pl]) E Z (k_X2_orderOf l D cA a b d f ) ws_X5_200 ⟨rfl, rfl, Nat.le_of_ble_eq_true rfl, Nat.le_of_ble_eq_true rfl⟩ [] rfl rfl (fun _ => rfl) (fun _ => rfl) rfl hl.1 rfl (Nat.le_of_ble_eq_true rfl) dX5_way_36 ⟨Nat.zero_le _, Nat.zero_le _⟩ (fun r36 _ H locs hp36 Z => ?_)
          subst hp36
          refine lv_istore (lv' := [(5, .int (nI (ord a b d f))), (0, .ref (q 0)), (1, .int (nI a)), (2, .int (nI b)), (3, .int (nI d)), (4, .int (nI f))]) hx hb dX5_way_39 hl (by decide) rfl (fun ls hl => ?_)
          refine lv_iload hx hb dX5_way_41 (lv_at hl 0 rfl) ?_
          refine c_Si (As := [.int (nI (ord a b d f))]) (rest := []) (w2 := fun _ => [oX q mc bn bl tr, oP (q 1) (q 2) (q 3) size ch, aN cA (q 2) 16 sets, aN cA (q 3) 8 amts, oG (q 4) (q 5) mc num, aN cA (q 5) 4 (mF num mc), oR (q 10) (q 11) (q 12), aN cA (q 11) 16 tp, aN cA (q 12) 4 pl]) E Z (k_X2_hasEachOnce l D cA (ord a b d f) (by first | assumption | omega)) ws_X5_204 ⟨rfl, rfl, Nat.le_of_ble_eq_true rfl, Nat.le_of_ble_eq_true rfl⟩ [] rfl rfl (fun _ => rfl) (fun _ => rfl) rfl hl.1 rfl (Nat.le_of_ble_eq_true rfl) dX5_way_43 ⟨Nat.zero_le _, Nat.zero_le _⟩ (fun r43 _ H locs hp43 Z => ?_)
          subst hp43
          refine b_if_ne (tgt := 51) hx hb dX5_way_46 (by decide) (fun c46 => ?_) (fun c46 => ?_)
          · refine lv_aload_n hx hb dX5_way_51 rfl (lv_at hl 1 rfl) ?_
            refine gF_X5_36 E Z dX5_way_52 0 rfl rfl ?_
            refine lv_aload_n hx hb dX5_way_55 rfl (lv_at hl 1 rfl) ?_
            refine gF_X5_10 E Z dX5_way_56 0 rfl rfl ?_
            refine lv_aload_n hx hb dX5_way_59 rfl (lv_at hl 1 rfl) ?_
            refine gF_X5_19 E Z dX5_way_60 0 rfl rfl ?_
            refine lv_aload_n hx hb dX5_way_63 rfl (lv_at hl 1 rfl) ?_
            refine gF_X5_71 E Z dX5_way_64 0 rfl rfl ?_
            refine c_Vv (As := [.ref (q 1), .ref (q 4), .int (nI mc)]) (rest := []) (w2 := fun _ => [oX q mc bn bl tr, oP (q 1) (q 2) (q 3) size ch, aN cA (q 2) 16 sets, aN cA (q 3) 8 amts, oG (q 4) (q 5) mc num, aN cA (q 5) 4 (mF num mc), oR (q 10) (q 11) (q 12), aN cA (q 11) 16 (ob mc num sets amts ch size), aN cA (q 12) 4 pl]) E Z (k_X2_observe l D cA (q 10) (q 11) (q 12) tp (q 1) (q 2) (q 3) size ch sets amts (q 4) (q 5) mc num (mF num mc) (by first | assumption | omega) (by first | assumption | omega) hs7 (by first | assumption | omega) (mF_ok _ mc hM) (by first | assumption | omega)) wv_X5_207 ⟨rfl, rfl, Nat.le_of_ble_eq_true rfl, Nat.le_of_ble_eq_true rfl⟩ [6, 7, 1, 2, 3, 4, 5] rfl rfl rfl rfl (q0 := 0) rfl (fun _ => rfl) (fun _ => rfl) rfl hl.1 rfl (Nat.le_of_ble_eq_true rfl) dX5_way_67 ⟨Nat.zero_le _, Nat.zero_le _⟩ (fun _ H locs hp67 Z => ?_)
            refine lv_aload_n hx hb dX5_way_70 rfl (lv_at hl 1 rfl) ?_
            refine gF_X5_36 E Z dX5_way_71 0 rfl rfl ?_
            refine lv_iload hx hb dX5_way_74 (lv_at hl 0 rfl) ?_
            refine c_Vi (As := [.int (nI (ord a b d f))]) (rest := []) (w2 := fun _ => [oX q mc bn bl tr, oP (q 1) (q 2) (q 3) size ch, aN cA (q 2) 16 sets, aN cA (q 3) 8 amts, oG (q 4) (q 5) mc num, aN cA (q 5) 4 (mF num mc), oR (q 10) (q 11) (q 12), aN cA (q 11) 16 (ob mc num sets amts ch size), aN cA (q 12) 4 (plc (ord a b d f))]) E Z (k_X2_wayOf l D cA (q 10) (q 11) (q 12) (ob mc num sets amts ch size) pl (ord a b d f) (by first | assumption | omega) (by first | assumption | omega)) wv_X5_211 ⟨rfl, rfl, Nat.le_of_ble_eq_true rfl, Nat.le_of_ble_eq_true rfl⟩ [6, 7, 8] rfl rfl rfl rfl (q0 := 0) rfl (fun _ => rfl) (fun _ => rfl) rfl hl.1 rfl (Nat.le_of_ble_eq_true rfl) dX5_way_76 ⟨Nat.zero_le _, Nat.zero_le _⟩ (fun r76 _ H locs hp76 Z => ?_)
            subst hp76
            exact ret () Z dX5_way_79 rfl rfl
          · exact absurd he c46
        · exact absurd (inr_ok (by omega) (by omega) (by omega)) c26
abbrev rm_k_X5_floor_bad : Room := { frames := 1, cells := 0, slots := 0, locals := 22 }
set_option maxHeartbeats 4000000 in
set_option maxRecDepth 100000 in
theorem k_X5_floor_bad (l : Launch) (D : va_G) (cA : ClassId) (q : Nat → Nat) (mc : Nat) (bn : Nat) (bl : Nat) (tr : Int64) (x1 : Int32) (hbad : ¬ ((nI 0 ≤ x1 ∧ x1 ≤ nI 4))) : Cti l yX5_floor cX5_floor 3 (some .int) rm_k_X5_floor_bad D cA [.ref (q 0), .int x1] ([oX q mc bn bl tr]) (fun (r : Int32) (_ : Unit) => r = (-1)) (fun _ => [oX q mc bn bl tr]) := by
  refine st_i (by decide) (Nat.le_of_ble_eq_true rfl) ?_
  intro p e s m args below meth c A Q E ret Z ls hl
  have hx := E.1.1
  have hb := E.1.2.1
  have hl : lv_has ls 3 [(0, .ref (q 0)), (1, .int x1)] := hl
  refine lv_iload_n hx hb dX5_floor_0 rfl (lv_at hl 1 rfl) ?_
  refine lv_iconst (v := nI 0) hx hb dX5_floor_1 (by decide) ?_
  refine lv_iconst (v := nI 4) hx hb dX5_floor_2 (by decide) ?_
  refine c_Si (As := [.int x1, .int (nI 0), .int (nI 4)]) (rest := []) (w2 := fun _ => [oX q mc bn bl tr]) E Z (k_X5_isWithin l D cA x1 (nI 0) (nI 4) ) ws_X5_67 ⟨rfl, rfl, Nat.le_of_ble_eq_true rfl, Nat.le_of_ble_eq_true rfl⟩ [] rfl rfl (fun _ => rfl) (fun _ => rfl) rfl hl.1 rfl (Nat.le_of_ble_eq_true rfl) dX5_floor_3 ⟨Nat.zero_le _, Nat.zero_le _⟩ (fun r3 _ H locs hp3 Z => ?_)
  subst hp3
  refine b_if_ne (tgt := 11) hx hb dX5_floor_6 (by decide) (fun c6 => ?_) (fun c6 => ?_)
  · exact absurd c6 hbad
  · refine lv_iconst (v := (-1)) hx hb dX5_floor_9 (by decide) ?_
    exact ret () Z dX5_floor_10 rfl rfl
abbrev rm_k_X5_floor : Room := { frames := 3, cells := 0, slots := 0, locals := 72 }
set_option maxHeartbeats 4000000 in
set_option maxRecDepth 100000 in
theorem k_X5_floor (l : Launch) (D : va_G) (cA : ClassId) (q : Nat → Nat) (mc : Nat) (bn : Nat) (bl : Nat) (tr : Int64) (size : Nat) (ch : Nat) (sets : Nat → Nat) (amts : Nat → Nat) (num : Nat) (tp : Nat → Nat) (pl : Nat → Nat) (wh : Nat) (hP : size ≤ 8) (hch : ch < 256) (hs : ∀ j, sets j < 2 ^ mc) (hM : mc ≤ 7) (hnum : num < 2 ^ (2 * mc)) (hw : wh ≤ 4) (hB : ∀ o, sm (wfs (ob mc num sets amts ch size) (plc o)) 4 < 2 ^ 30) : Cti l yX5_floor cX5_floor 3 (some .int) rm_k_X5_floor D cA [.ref (q 0), .int (nI wh)] ([oX q mc bn bl tr, oP (q 1) (q 2) (q 3) size ch, aN cA (q 2) 16 sets, aN cA (q 3) 8 amts, oG (q 4) (q 5) mc num, aN cA (q 5) 4 (mF num mc), oR (q 10) (q 11) (q 12), aN cA (q 11) 16 tp, aN cA (q 12) 4 pl]) (fun (r : Int32) (_ : Nat → Nat) => r = nI (if wh = 4 then sm (wfs (ob mc num sets amts ch size) (plc (bo (ob mc num sets amts ch size) 256).1)) 4 else cat (bo (ob mc num sets amts ch size) 256).1 wh)) (fun u => [oX q mc bn bl tr, oP (q 1) (q 2) (q 3) size ch, aN cA (q 2) 16 sets, aN cA (q 3) 8 amts, oG (q 4) (q 5) mc num, aN cA (q 5) 4 (mF num mc), oR (q 10) (q 11) (q 12), aN cA (q 11) 16 (ob mc num sets amts ch size), aN cA (q 12) 4 u]) := by
  refine st_i (by decide) (Nat.le_of_ble_eq_true rfl) ?_
  intro p e s m args below meth c A Q E ret Z ls hl
  have hx := E.1.1
  have hb := E.1.2.1
  have hl : lv_has ls 3 [(0, .ref (q 0)), (1, .int (nI wh))] := hl
  have h14 : 2 ^ (2 * mc) ≤ 2 ^ 14 := Nat.pow_le_pow_right (by decide) (by omega)
  have hs7 := hs7_of hs hM
  have hbo := (bo_ok hB 256).resolve_left (by decide)
  refine lv_iload_n hx hb dX5_floor_0 rfl (lv_at hl 1 rfl) ?_
  refine lv_iconst (v := nI 0) hx hb dX5_floor_1 (by decide) ?_
  refine lv_iconst (v := nI 4) hx hb dX5_floor_2 (by decide) ?_
  refine c_Si (As := [.int (nI wh), .int (nI 0), .int (nI 4)]) (rest := []) (w2 := fun _ => [oX q mc bn bl tr, oP (q 1) (q 2) (q 3) size ch, aN cA (q 2) 16 sets, aN cA (q 3) 8 amts, oG (q 4) (q 5) mc num, aN cA (q 5) 4 (mF num mc), oR (q 10) (q 11) (q 12), aN cA (q 11) 16 tp, aN cA (q 12) 4 pl]) E Z (k_X5_isWithin l D cA (nI wh) (nI 0) (nI 4) ) ws_X5_67 ⟨rfl, rfl, Nat.le_of_ble_eq_true rfl, Nat.le_of_ble_eq_true rfl⟩ [] rfl rfl (fun _ => rfl) (fun _ => rfl) rfl hl.1 rfl (Nat.le_of_ble_eq_true rfl) dX5_floor_3 ⟨Nat.zero_le _, Nat.zero_le _⟩ (fun r3 _ H locs hp3 Z => ?_)
  subst hp3
  refine b_if_ne (tgt := 11) hx hb dX5_floor_6 (by decide) (fun c6 => ?_) (fun c6 => ?_)
  · refine lv_aload_n hx hb dX5_floor_11 rfl (lv_at hl 0 rfl) ?_
    refine gF_X5_36 E Z dX5_floor_12 0 rfl rfl ?_
    refine lv_aload_n hx hb dX5_floor_15 rfl (lv_at hl 0 rfl) ?_
    refine gF_X5_10 E Z dX5_floor_16 0 rfl rfl ?_
    refine lv_aload_n hx hb dX5_floor_19 rfl (lv_at hl 0 rfl) ?_
    refine gF_X5_19 E Z dX5_floor_20 0 rfl rfl ?_
    refine lv_aload_n hx hb dX5_floor_23 rfl (lv_at hl 0 rfl) ?_
    refine gF_X5_71 E Z dX5_floor_24 0 rfl rfl ?_
    refine c_Vv (As := [.ref (q 1), .ref (q 4), .int (nI mc)]) (rest := []) (w2 := fun _ => [oX q mc bn bl tr, oP (q 1) (q 2) (q 3) size ch, aN cA (q 2) 16 sets, aN cA (q 3) 8 amts, oG (q 4) (q 5) mc num, aN cA (q 5) 4 (mF num mc), oR (q 10) (q 11) (q 12), aN cA (q 11) 16 (ob mc num sets amts ch size), aN cA (q 12) 4 pl]) E Z (k_X2_observe l D cA (q 10) (q 11) (q 12) tp (q 1) (q 2) (q 3) size ch sets amts (q 4) (q 5) mc num (mF num mc) (by first | assumption | omega) (by first | assumption | omega) hs7 (by first | assumption | omega) (mF_ok _ mc hM) (by first | assumption | omega)) wv_X5_207 ⟨rfl, rfl, Nat.le_of_ble_eq_true rfl, Nat.le_of_ble_eq_true rfl⟩ [6, 7, 1, 2, 3, 4, 5] rfl rfl rfl rfl (q0 := 0) rfl (fun _ => rfl) (fun _ => rfl) rfl hl.1 rfl (Nat.le_of_ble_eq_true rfl) dX5_floor_27 ⟨Nat.zero_le _, Nat.zero_le _⟩ (fun _ H locs hp27 Z => ?_)
    refine lv_aload_n hx hb dX5_floor_30 rfl (lv_at hl 0 rfl) ?_
    refine gF_X5_36 E Z dX5_floor_31 0 rfl rfl ?_
    refine c_Vi (As := []) (rest := []) (w2 := fun u34 => [oX q mc bn bl tr, oP (q 1) (q 2) (q 3) size ch, aN cA (q 2) 16 sets, aN cA (q 3) 8 amts, oG (q 4) (q 5) mc num, aN cA (q 5) 4 (mF num mc), oR (q 10) (q 11) (q 12), aN cA (q 11) 16 (ob mc num sets amts ch size), aN cA (q 12) 4 u34]) E Z (k_X2_bestOrder l D cA (q 10) (q 11) (q 12) (ob mc num sets amts ch size) pl (by first | assumption | omega)) wv_X5_214 ⟨rfl, rfl, Nat.le_of_ble_eq_true rfl, Nat.le_of_ble_eq_true rfl⟩ [6, 7, 8] rfl rfl rfl rfl (q0 := 0) rfl (fun _ => rfl) (fun _ => rfl) rfl hl.1 rfl (Nat.le_of_ble_eq_true rfl) dX5_floor_34 ⟨Nat.zero_le _, Nat.zero_le _⟩ (fun r34 u34 H locs hp34 Z => ?_)
    subst hp34
    refine lv_istore_n (lv' := [(2, .int (nI ((bo (ob mc num sets amts ch size) 256).1))), (0, .ref (q 0)), (1, .int (nI wh))]) hx hb dX5_floor_37 rfl hl (by decide) rfl (fun ls hl => ?_)
    refine lv_iload_n hx hb dX5_floor_38 rfl (lv_at hl 2 rfl) ?_
    refine lv_iconst (v := nI 4) hx hb dX5_floor_39 (by decide) ?_
    refine n_icmp_ne (tgt := 54) hx hb dX5_floor_40 (by decide) (by omega) (by omega) (fun c40 => ?_) (fun c40 => ?_)
    · refine lv_iload_n hx hb dX5_floor_54 rfl (lv_at hl 0 rfl) ?_
      refine lv_iload_n hx hb dX5_floor_55 rfl (lv_at hl 2 rfl) ?_
      refine c_Si (As := [.int (nI ((bo (ob mc num sets amts ch size) 256).1)), .int (nI wh)]) (rest := []) (w2 := fun _ => [oX q mc bn bl tr, oP (q 1) (q 2) (q 3) size ch, aN cA (q 2) 16 sets, aN cA (q 3) 8 amts, oG (q 4) (q 5) mc num, aN cA (q 5) 4 (mF num mc), oR (q 10) (q 11) (q 12), aN cA (q 11) 16 (ob mc num sets amts ch size), aN cA (q 12) 4 u34]) E Z (k_X2_cellAt l D cA ((bo (ob mc num sets amts ch size) 256).1) wh (by omega) (by omega)) ws_X5_217 ⟨rfl, rfl, Nat.le_of_ble_eq_true rfl, Nat.le_of_ble_eq_true rfl⟩ [] rfl rfl (fun _ => rfl) (fun _ => rfl) rfl hl.1 rfl (Nat.le_of_ble_eq_true rfl) dX5_floor_56 ⟨Nat.zero_le _, Nat.zero_le _⟩ (fun r56 _ H locs hp56 Z => ?_)
      subst hp56
      exact ret _ Z dX5_floor_59 rfl (congrArg nI (if_neg c40)).symm
    · refine lv_aload_n hx hb dX5_floor_43 rfl (lv_at hl 1 rfl) ?_
      refine gF_X5_36 E Z dX5_floor_44 0 rfl rfl ?_
      refine lv_iload_n hx hb dX5_floor_47 rfl (lv_at hl 0 rfl) ?_
      refine c_Vi (As := [.int (nI ((bo (ob mc num sets amts ch size) 256).1))]) (rest := []) (w2 := fun _ => [oX q mc bn bl tr, oP (q 1) (q 2) (q 3) size ch, aN cA (q 2) 16 sets, aN cA (q 3) 8 amts, oG (q 4) (q 5) mc num, aN cA (q 5) 4 (mF num mc), oR (q 10) (q 11) (q 12), aN cA (q 11) 16 (ob mc num sets amts ch size), aN cA (q 12) 4 (plc ((bo (ob mc num sets amts ch size) 256).1))]) E Z (k_X2_wayOf l D cA (q 10) (q 11) (q 12) (ob mc num sets amts ch size) u34 ((bo (ob mc num sets amts ch size) 256).1) hbo.2 hbo.1) wv_X5_211 ⟨rfl, rfl, Nat.le_of_ble_eq_true rfl, Nat.le_of_ble_eq_true rfl⟩ [6, 7, 8] rfl rfl rfl rfl (q0 := 0) rfl (fun _ => rfl) (fun _ => rfl) rfl hl.1 rfl (Nat.le_of_ble_eq_true rfl) dX5_floor_48 ⟨Nat.zero_le _, Nat.zero_le _⟩ (fun r48 _ H locs hp48 Z => ?_)
      subst hp48
      refine lv_goto (tgt := 59) hx hb dX5_floor_51 (by decide) ?_
      exact ret _ Z dX5_floor_59 rfl (congrArg nI (if_pos c40)).symm
  · exact absurd (inr_ok (by omega) (by omega) (by omega)) c6
abbrev rm_k_X5_keep_bad : Room := { frames := 1, cells := 0, slots := 0, locals := 22 }
set_option maxHeartbeats 4000000 in
set_option maxRecDepth 100000 in
theorem k_X5_keep_bad (l : Launch) (D : va_G) (cA : ClassId) (q : Nat → Nat) (mc : Nat) (bn : Nat) (bl : Nat) (tr : Int64) (x1 : Int32) (hbad : ¬ ((nI 0 ≤ x1 ∧ x1 ≤ nI 3))) : Cti l yX5_keep cX5_keep 2 (some .int) rm_k_X5_keep_bad D cA [.ref (q 0), .int x1] ([oX q mc bn bl tr]) (fun (r : Int32) (_ : Unit) => r = (-1)) (fun _ => [oX q mc bn bl tr]) := by
  refine st_i (by decide) (Nat.le_of_ble_eq_true rfl) ?_
  intro p e s m args below meth c A Q E ret Z ls hl
  have hx := E.1.1
  have hb := E.1.2.1
  have hl : lv_has ls 2 [(0, .ref (q 0)), (1, .int x1)] := hl
  refine lv_iload_n hx hb dX5_keep_0 rfl (lv_at hl 1 rfl) ?_
  refine lv_iconst (v := nI 0) hx hb dX5_keep_1 (by decide) ?_
  refine lv_iconst (v := nI 3) hx hb dX5_keep_2 (by decide) ?_
  refine c_Si (As := [.int x1, .int (nI 0), .int (nI 3)]) (rest := []) (w2 := fun _ => [oX q mc bn bl tr]) E Z (k_X5_isWithin l D cA x1 (nI 0) (nI 3) ) ws_X5_67 ⟨rfl, rfl, Nat.le_of_ble_eq_true rfl, Nat.le_of_ble_eq_true rfl⟩ [] rfl rfl (fun _ => rfl) (fun _ => rfl) rfl hl.1 rfl (Nat.le_of_ble_eq_true rfl) dX5_keep_3 ⟨Nat.zero_le _, Nat.zero_le _⟩ (fun r3 _ H locs hp3 Z => ?_)
  subst hp3
  refine b_if_ne (tgt := 11) hx hb dX5_keep_6 (by decide) (fun c6 => ?_) (fun c6 => ?_)
  · exact absurd c6 hbad
  · refine lv_iconst (v := (-1)) hx hb dX5_keep_9 (by decide) ?_
    exact ret () Z dX5_keep_10 rfl rfl
abbrev rm_k_X5_keep : Room := { frames := 1, cells := 0, slots := 0, locals := 22 }
set_option maxHeartbeats 4000000 in
set_option maxRecDepth 100000 in
theorem k_X5_keep (l : Launch) (D : va_G) (cA : ClassId) (q : Nat → Nat) (mc : Nat) (bn : Nat) (bl : Nat) (tr : Int64) (num : Nat) (sh : Nat → Nat) (k : Nat) (hk : k < 4) : Cti l yX5_keep cX5_keep 2 (some .int) rm_k_X5_keep D cA [.ref (q 0), .int (nI k)] ([oX q mc bn bl tr, oG (q 4) (q 5) mc num, aN cA (q 19) 4 sh]) (fun (r : Int32) (_ : Unit) => r = nI num) (fun _ => [oX q mc bn bl tr, oG (q 4) (q 5) mc num, aN cA (q 19) 4 (up sh k num)]) := by
  refine st_i (by decide) (Nat.le_of_ble_eq_true rfl) ?_
  intro p e s m args below meth c A Q E ret Z ls hl
  have hx := E.1.1
  have hb := E.1.2.1
  have hl : lv_has ls 2 [(0, .ref (q 0)), (1, .int (nI k))] := hl
  refine lv_iload_n hx hb dX5_keep_0 rfl (lv_at hl 1 rfl) ?_
  refine lv_iconst (v := nI 0) hx hb dX5_keep_1 (by decide) ?_
  refine lv_iconst (v := nI 3) hx hb dX5_keep_2 (by decide) ?_
  refine c_Si (As := [.int (nI k), .int (nI 0), .int (nI 3)]) (rest := []) (w2 := fun _ => [oX q mc bn bl tr, oG (q 4) (q 5) mc num, aN cA (q 19) 4 sh]) E Z (k_X5_isWithin l D cA (nI k) (nI 0) (nI 3) ) ws_X5_67 ⟨rfl, rfl, Nat.le_of_ble_eq_true rfl, Nat.le_of_ble_eq_true rfl⟩ [] rfl rfl (fun _ => rfl) (fun _ => rfl) rfl hl.1 rfl (Nat.le_of_ble_eq_true rfl) dX5_keep_3 ⟨Nat.zero_le _, Nat.zero_le _⟩ (fun r3 _ H locs hp3 Z => ?_)
  subst hp3
  refine b_if_ne (tgt := 11) hx hb dX5_keep_6 (by decide) (fun c6 => ?_) (fun c6 => ?_)
  · refine lv_aload_n hx hb dX5_keep_11 rfl (lv_at hl 0 rfl) ?_
    refine gF_X5_54 E Z dX5_keep_12 0 rfl rfl ?_
    refine lv_iload_n hx hb dX5_keep_15 rfl (lv_at hl 1 rfl) ?_
    refine lv_aload_n hx hb dX5_keep_16 rfl (lv_at hl 0 rfl) ?_
    refine gF_X5_19 E Z dX5_keep_17 0 rfl rfl ?_
    refine c_Vi (As := []) (rest := [.int (nI k), .ref (q 19)]) (w2 := fun _ => [oX q mc bn bl tr, oG (q 4) (q 5) mc num, aN cA (q 19) 4 sh]) E Z (k_X0_numbered l D cA (q 4) (q 5) mc num ) wv_X5_116 ⟨rfl, rfl, Nat.le_of_ble_eq_true rfl, Nat.le_of_ble_eq_true rfl⟩ [1] rfl rfl rfl rfl (q0 := 0) rfl (fun _ => rfl) (fun _ => rfl) rfl hl.1 rfl (Nat.le_of_ble_eq_true rfl) dX5_keep_20 ⟨Nat.zero_le _, Nat.zero_le _⟩ (fun r20 _ H locs hp20 Z => ?_)
    subst hp20
    refine r_ast (w1 := [oX q mc bn bl tr, oG (q 4) (q 5) mc num, aN cA (q 19) 4 (up sh k num)]) E Z dX5_keep_23 2 rfl (by omega) (by decide) rfl (fun H locs Z => ?_)
    refine lv_aload_n hx hb dX5_keep_24 rfl (lv_at hl 0 rfl) ?_
    refine gF_X5_54 E Z dX5_keep_25 0 rfl rfl ?_
    refine lv_iload_n hx hb dX5_keep_28 rfl (lv_at hl 1 rfl) ?_
    refine r_ald E Z dX5_keep_29 2 rfl (by omega) (by decide) ?_
    exact ret () Z dX5_keep_30 rfl (congrArg nI (up_s _ _ _))
  · exact absurd (inr_ok (by omega) (by omega) (by omega)) c6
abbrev rm_k_X5_year_bad : Room := { frames := 1, cells := 0, slots := 0, locals := 22 }
set_option maxHeartbeats 4000000 in
set_option maxRecDepth 100000 in
theorem k_X5_year_bad (l : Launch) (D : va_G) (cA : ClassId) (q : Nat → Nat) (mc : Nat) (bn : Nat) (bl : Nat) (tr : Int64) (x1 : Int32) (hbad : ¬ ((nI 0 ≤ x1 ∧ x1 ≤ nI 9))) : Cti l yX5_year cX5_year 2 (some .int) rm_k_X5_year_bad D cA [.ref (q 0), .int x1] ([oX q mc bn bl tr]) (fun (r : Int32) (_ : Unit) => r = (-1)) (fun _ => [oX q mc bn bl tr]) := by
  refine st_i (by decide) (Nat.le_of_ble_eq_true rfl) ?_
  intro p e s m args below meth c A Q E ret Z ls hl
  have hx := E.1.1
  have hb := E.1.2.1
  have hl : lv_has ls 2 [(0, .ref (q 0)), (1, .int x1)] := hl
  refine lv_iload_n hx hb dX5_year_0 rfl (lv_at hl 1 rfl) ?_
  refine lv_iconst (v := nI 0) hx hb dX5_year_1 (by decide) ?_
  refine lv_bipush (v := nI 9) hx hb dX5_year_2 (by decide) ?_
  refine c_Si (As := [.int x1, .int (nI 0), .int (nI 9)]) (rest := []) (w2 := fun _ => [oX q mc bn bl tr]) E Z (k_X5_isWithin l D cA x1 (nI 0) (nI 9) ) ws_X5_67 ⟨rfl, rfl, Nat.le_of_ble_eq_true rfl, Nat.le_of_ble_eq_true rfl⟩ [] rfl rfl (fun _ => rfl) (fun _ => rfl) rfl hl.1 rfl (Nat.le_of_ble_eq_true rfl) dX5_year_4 ⟨Nat.zero_le _, Nat.zero_le _⟩ (fun r4 _ H locs hp4 Z => ?_)
  subst hp4
  refine b_if_ne (tgt := 12) hx hb dX5_year_7 (by decide) (fun c7 => ?_) (fun c7 => ?_)
  · exact absurd c7 hbad
  · refine lv_iconst (v := (-1)) hx hb dX5_year_10 (by decide) ?_
    exact ret () Z dX5_year_11 rfl rfl
abbrev rm_k_X5_year_full : Room := { frames := 1, cells := 0, slots := 0, locals := 22 }
set_option maxHeartbeats 4000000 in
set_option maxRecDepth 100000 in
theorem k_X5_year_full (l : Launch) (D : va_G) (cA : ClassId) (q : Nat → Nat) (mc : Nat) (bn : Nat) (bl : Nat) (tr : Int64) (ny : Nat) (cg : Nat) (wh : Nat) (hw : wh ≤ 9) (hy : ny = 6) : Cti l yX5_year cX5_year 2 (some .int) rm_k_X5_year_full D cA [.ref (q 0), .int (nI wh)] ([oX q mc bn bl tr, oY (q 13) (q 14) (q 15) (q 16) ny cg]) (fun (r : Int32) (_ : Unit) => r = (-3)) (fun _ => [oX q mc bn bl tr, oY (q 13) (q 14) (q 15) (q 16) ny cg]) := by
  refine st_i (by decide) (Nat.le_of_ble_eq_true rfl) ?_
  intro p e s m args below meth c A Q E ret Z ls hl
  have hx := E.1.1
  have hb := E.1.2.1
  have hl : lv_has ls 2 [(0, .ref (q 0)), (1, .int (nI wh))] := hl
  refine lv_iload_n hx hb dX5_year_0 rfl (lv_at hl 1 rfl) ?_
  refine lv_iconst (v := nI 0) hx hb dX5_year_1 (by decide) ?_
  refine lv_bipush (v := nI 9) hx hb dX5_year_2 (by decide) ?_
  refine c_Si (As := [.int (nI wh), .int (nI 0), .int (nI 9)]) (rest := []) (w2 := fun _ => [oX q mc bn bl tr, oY (q 13) (q 14) (q 15) (q 16) ny cg]) E Z (k_X5_isWithin l D cA (nI wh) (nI 0) (nI 9) ) ws_X5_67 ⟨rfl, rfl, Nat.le_of_ble_eq_true rfl, Nat.le_of_ble_eq_true rfl⟩ [] rfl rfl (fun _ => rfl) (fun _ => rfl) rfl hl.1 rfl (Nat.le_of_ble_eq_true rfl) dX5_year_4 ⟨Nat.zero_le _, Nat.zero_le _⟩ (fun r4 _ H locs hp4 Z => ?_)
  subst hp4
  refine b_if_ne (tgt := 12) hx hb dX5_year_7 (by decide) (fun c7 => ?_) (fun c7 => ?_)
  · refine lv_aload_n hx hb dX5_year_12 rfl (lv_at hl 0 rfl) ?_
    refine gF_X5_43 E Z dX5_year_13 0 rfl rfl ?_
    refine c_Vi (As := []) (rest := []) (w2 := fun _ => [oX q mc bn bl tr, oY (q 13) (q 14) (q 15) (q 16) ny cg]) E Z (k_X4_howMany l D cA (q 13) (q 14) (q 15) (q 16) ny cg ) wv_X5_220 ⟨rfl, rfl, Nat.le_of_ble_eq_true rfl, Nat.le_of_ble_eq_true rfl⟩ [1] rfl rfl rfl rfl (q0 := 0) rfl (fun _ => rfl) (fun _ => rfl) rfl hl.1 rfl (Nat.le_of_ble_eq_true rfl) dX5_year_16 ⟨Nat.zero_le _, Nat.zero_le _⟩ (fun r16 _ H locs hp16 Z => ?_)
    subst hp16
    refine lv_bipush (v := nI 6) hx hb dX5_year_19 (by decide) ?_
    refine n_icmp_lt (tgt := 27) hx hb dX5_year_21 (by decide) (by omega) (by omega) (fun c21 => ?_) (fun c21 => ?_)
    · exact absurd c21 (by omega)
    · refine lv_bipush (v := (-3)) hx hb dX5_year_24 (by decide) ?_
      exact ret () Z dX5_year_26 rfl rfl
  · exact absurd (inr_ok (by omega) (by omega) (by omega)) c7
abbrev rm_k_X5_year : Room := { frames := 1, cells := 0, slots := 0, locals := 22 }
set_option maxHeartbeats 4000000 in
set_option maxRecDepth 100000 in
theorem k_X5_year (l : Launch) (D : va_G) (cA : ClassId) (q : Nat → Nat) (mc : Nat) (bn : Nat) (bl : Nat) (tr : Int64) (ny : Nat) (cg : Nat) (wt : Nat → Nat) (wh : Nat) (hw : wh ≤ 9) (hy : ny < 6) : Cti l yX5_year cX5_year 2 (some .int) rm_k_X5_year D cA [.ref (q 0), .int (nI wh)] ([oX q mc bn bl tr, oY (q 13) (q 14) (q 15) (q 16) ny cg, aN cA (q 14) 6 wt]) (fun (r : Int32) (_ : Unit) => r = nI (ny + 1)) (fun _ => [oX q mc bn bl tr, oY (q 13) (q 14) (q 15) (q 16) (ny + 1) cg, aN cA (q 14) 6 (up wt ny wh)]) := by
  refine st_i (by decide) (Nat.le_of_ble_eq_true rfl) ?_
  intro p e s m args below meth c A Q E ret Z ls hl
  have hx := E.1.1
  have hb := E.1.2.1
  have hl : lv_has ls 2 [(0, .ref (q 0)), (1, .int (nI wh))] := hl
  refine lv_iload_n hx hb dX5_year_0 rfl (lv_at hl 1 rfl) ?_
  refine lv_iconst (v := nI 0) hx hb dX5_year_1 (by decide) ?_
  refine lv_bipush (v := nI 9) hx hb dX5_year_2 (by decide) ?_
  refine c_Si (As := [.int (nI wh), .int (nI 0), .int (nI 9)]) (rest := []) (w2 := fun _ => [oX q mc bn bl tr, oY (q 13) (q 14) (q 15) (q 16) ny cg, aN cA (q 14) 6 wt]) E Z (k_X5_isWithin l D cA (nI wh) (nI 0) (nI 9) ) ws_X5_67 ⟨rfl, rfl, Nat.le_of_ble_eq_true rfl, Nat.le_of_ble_eq_true rfl⟩ [] rfl rfl (fun _ => rfl) (fun _ => rfl) rfl hl.1 rfl (Nat.le_of_ble_eq_true rfl) dX5_year_4 ⟨Nat.zero_le _, Nat.zero_le _⟩ (fun r4 _ H locs hp4 Z => ?_)
  subst hp4
  refine b_if_ne (tgt := 12) hx hb dX5_year_7 (by decide) (fun c7 => ?_) (fun c7 => ?_)
  · refine lv_aload_n hx hb dX5_year_12 rfl (lv_at hl 0 rfl) ?_
    refine gF_X5_43 E Z dX5_year_13 0 rfl rfl ?_
    refine c_Vi (As := []) (rest := []) (w2 := fun _ => [oX q mc bn bl tr, oY (q 13) (q 14) (q 15) (q 16) ny cg, aN cA (q 14) 6 wt]) E Z (k_X4_howMany l D cA (q 13) (q 14) (q 15) (q 16) ny cg ) wv_X5_220 ⟨rfl, rfl, Nat.le_of_ble_eq_true rfl, Nat.le_of_ble_eq_true rfl⟩ [1] rfl rfl rfl rfl (q0 := 0) rfl (fun _ => rfl) (fun _ => rfl) rfl hl.1 rfl (Nat.le_of_ble_eq_true rfl) dX5_year_16 ⟨Nat.zero_le _, Nat.zero_le _⟩ (fun r16 _ H locs hp16 Z => ?_)
    subst hp16
    refine lv_bipush (v := nI 6) hx hb dX5_year_19 (by decide) ?_
    refine n_icmp_lt (tgt := 27) hx hb dX5_year_21 (by decide) (by omega) (by omega) (fun c21 => ?_) (fun c21 => ?_)
    · refine lv_aload_n hx hb dX5_year_27 rfl (lv_at hl 0 rfl) ?_
      refine gF_X5_43 E Z dX5_year_28 0 rfl rfl ?_
      refine lv_iload_n hx hb dX5_year_31 rfl (lv_at hl 1 rfl) ?_
      refine c_Vv (As := [.int (nI wh)]) (rest := []) (w2 := fun _ => [oX q mc bn bl tr, oY (q 13) (q 14) (q 15) (q 16) (ny + 1) cg, aN cA (q 14) 6 (up wt ny wh)]) E Z (k_X4_append l D cA (q 13) (q 14) (q 15) (q 16) ny cg wt wh (by first | assumption | omega)) wv_X5_223 ⟨rfl, rfl, Nat.le_of_ble_eq_true rfl, Nat.le_of_ble_eq_true rfl⟩ [1, 2] rfl rfl rfl rfl (q0 := 0) rfl (fun _ => rfl) (fun _ => rfl) rfl hl.1 rfl (Nat.le_of_ble_eq_true rfl) dX5_year_32 ⟨Nat.zero_le _, Nat.zero_le _⟩ (fun _ H locs hp32 Z => ?_)
      refine lv_aload_n hx hb dX5_year_35 rfl (lv_at hl 0 rfl) ?_
      refine gF_X5_43 E Z dX5_year_36 0 rfl rfl ?_
      refine c_Vi (As := []) (rest := []) (w2 := fun _ => [oX q mc bn bl tr, oY (q 13) (q 14) (q 15) (q 16) (ny + 1) cg, aN cA (q 14) 6 (up wt ny wh)]) E Z (k_X4_howMany l D cA (q 13) (q 14) (q 15) (q 16) (ny + 1) cg ) wv_X5_220 ⟨rfl, rfl, Nat.le_of_ble_eq_true rfl, Nat.le_of_ble_eq_true rfl⟩ [1] rfl rfl rfl rfl (q0 := 0) rfl (fun _ => rfl) (fun _ => rfl) rfl hl.1 rfl (Nat.le_of_ble_eq_true rfl) dX5_year_39 ⟨Nat.zero_le _, Nat.zero_le _⟩ (fun r39 _ H locs hp39 Z => ?_)
      subst hp39
      exact ret () Z dX5_year_42 rfl rfl
    · exact absurd c21 (by omega)
  · exact absurd (inr_ok (by omega) (by omega) (by omega)) c7
abbrev rm_k_X5_change_bad : Room := { frames := 1, cells := 0, slots := 0, locals := 22 }
set_option maxHeartbeats 4000000 in
set_option maxRecDepth 100000 in
theorem k_X5_change_bad (l : Launch) (D : va_G) (cA : ClassId) (q : Nat → Nat) (mc : Nat) (bn : Nat) (bl : Nat) (tr : Int64) (x1 : Int32) (hbad : ¬ ((nI 0 ≤ x1 ∧ x1 ≤ nI 50))) : Cti l yX5_change cX5_change 3 (some .int) rm_k_X5_change_bad D cA [.ref (q 0), .int x1] ([oX q mc bn bl tr]) (fun (r : Int32) (_ : Unit) => r = (-1)) (fun _ => [oX q mc bn bl tr]) := by
  refine st_i (by decide) (Nat.le_of_ble_eq_true rfl) ?_
  intro p e s m args below meth c A Q E ret Z ls hl
  have hx := E.1.1
  have hb := E.1.2.1
  have hl : lv_has ls 3 [(0, .ref (q 0)), (1, .int x1)] := hl
  refine lv_iload_n hx hb dX5_change_0 rfl (lv_at hl 1 rfl) ?_
  refine lv_iconst (v := nI 0) hx hb dX5_change_1 (by decide) ?_
  refine lv_bipush (v := nI 50) hx hb dX5_change_2 (by decide) ?_
  refine c_Si (As := [.int x1, .int (nI 0), .int (nI 50)]) (rest := []) (w2 := fun _ => [oX q mc bn bl tr]) E Z (k_X5_isWithin l D cA x1 (nI 0) (nI 50) ) ws_X5_67 ⟨rfl, rfl, Nat.le_of_ble_eq_true rfl, Nat.le_of_ble_eq_true rfl⟩ [] rfl rfl (fun _ => rfl) (fun _ => rfl) rfl hl.1 rfl (Nat.le_of_ble_eq_true rfl) dX5_change_4 ⟨Nat.zero_le _, Nat.zero_le _⟩ (fun r4 _ H locs hp4 Z => ?_)
  subst hp4
  refine b_if_ne (tgt := 12) hx hb dX5_change_7 (by decide) (fun c7 => ?_) (fun c7 => ?_)
  · exact absurd c7 hbad
  · refine lv_iconst (v := (-1)) hx hb dX5_change_10 (by decide) ?_
    exact ret () Z dX5_change_11 rfl rfl
abbrev rm_k_X5_change : Room := { frames := 1, cells := 0, slots := 0, locals := 22 }
set_option maxHeartbeats 4000000 in
set_option maxRecDepth 100000 in
theorem k_X5_change (l : Launch) (D : va_G) (cA : ClassId) (q : Nat → Nat) (mc : Nat) (bn : Nat) (bl : Nat) (tr : Int64) (ny : Nat) (cg : Nat) (wh : Nat) (hw : wh ≤ 50) : Cti l yX5_change cX5_change 3 (some .int) rm_k_X5_change D cA [.ref (q 0), .int (nI wh)] ([oX q mc bn bl tr, oY (q 13) (q 14) (q 15) (q 16) ny cg]) (fun (r : Int32) (_ : Unit) => r = nI cg) (fun _ => [oX q mc bn bl tr, oY (q 13) (q 14) (q 15) (q 16) ny wh]) := by
  refine st_i (by decide) (Nat.le_of_ble_eq_true rfl) ?_
  intro p e s m args below meth c A Q E ret Z ls hl
  have hx := E.1.1
  have hb := E.1.2.1
  have hl : lv_has ls 3 [(0, .ref (q 0)), (1, .int (nI wh))] := hl
  refine lv_iload_n hx hb dX5_change_0 rfl (lv_at hl 1 rfl) ?_
  refine lv_iconst (v := nI 0) hx hb dX5_change_1 (by decide) ?_
  refine lv_bipush (v := nI 50) hx hb dX5_change_2 (by decide) ?_
  refine c_Si (As := [.int (nI wh), .int (nI 0), .int (nI 50)]) (rest := []) (w2 := fun _ => [oX q mc bn bl tr, oY (q 13) (q 14) (q 15) (q 16) ny cg]) E Z (k_X5_isWithin l D cA (nI wh) (nI 0) (nI 50) ) ws_X5_67 ⟨rfl, rfl, Nat.le_of_ble_eq_true rfl, Nat.le_of_ble_eq_true rfl⟩ [] rfl rfl (fun _ => rfl) (fun _ => rfl) rfl hl.1 rfl (Nat.le_of_ble_eq_true rfl) dX5_change_4 ⟨Nat.zero_le _, Nat.zero_le _⟩ (fun r4 _ H locs hp4 Z => ?_)
  subst hp4
  refine b_if_ne (tgt := 12) hx hb dX5_change_7 (by decide) (fun c7 => ?_) (fun c7 => ?_)
  · refine lv_aload_n hx hb dX5_change_12 rfl (lv_at hl 0 rfl) ?_
    refine gF_X5_43 E Z dX5_change_13 0 rfl rfl ?_
    refine c_Vi (As := []) (rest := []) (w2 := fun _ => [oX q mc bn bl tr, oY (q 13) (q 14) (q 15) (q 16) ny cg]) E Z (k_X4_costOfMove l D cA (q 13) (q 14) (q 15) (q 16) ny cg ) wv_X5_227 ⟨rfl, rfl, Nat.le_of_ble_eq_true rfl, Nat.le_of_ble_eq_true rfl⟩ [1] rfl rfl rfl rfl (q0 := 0) rfl (fun _ => rfl) (fun _ => rfl) rfl hl.1 rfl (Nat.le_of_ble_eq_true rfl) dX5_change_16 ⟨Nat.zero_le _, Nat.zero_le _⟩ (fun r16 _ H locs hp16 Z => ?_)
    subst hp16
    refine lv_istore_n (lv' := [(2, .int (nI cg)), (0, .ref (q 0)), (1, .int (nI wh))]) hx hb dX5_change_19 rfl hl (by decide) rfl (fun ls hl => ?_)
    refine lv_aload_n hx hb dX5_change_20 rfl (lv_at hl 1 rfl) ?_
    refine gF_X5_43 E Z dX5_change_21 0 rfl rfl ?_
    refine lv_iload_n hx hb dX5_change_24 rfl (lv_at hl 2 rfl) ?_
    refine c_Vv (As := [.int (nI wh)]) (rest := []) (w2 := fun _ => [oX q mc bn bl tr, oY (q 13) (q 14) (q 15) (q 16) ny wh]) E Z (k_X4_putCostOfMove l D cA (q 13) (q 14) (q 15) (q 16) ny cg wh ) wv_X5_230 ⟨rfl, rfl, Nat.le_of_ble_eq_true rfl, Nat.le_of_ble_eq_true rfl⟩ [1] rfl rfl rfl rfl (q0 := 0) rfl (fun _ => rfl) (fun _ => rfl) rfl hl.1 rfl (Nat.le_of_ble_eq_true rfl) dX5_change_25 ⟨Nat.zero_le _, Nat.zero_le _⟩ (fun _ H locs hp25 Z => ?_)
    refine lv_iload_n hx hb dX5_change_28 rfl (lv_at hl 0 rfl) ?_
    exact ret () Z dX5_change_29 rfl rfl
  · exact absurd (inr_ok (by omega) (by omega) (by omega)) c7
abbrev rm_k_X5_plan_none : Room := { frames := 1, cells := 0, slots := 0, locals := 20 }
set_option maxHeartbeats 4000000 in
set_option maxRecDepth 100000 in
theorem k_X5_plan_none (l : Launch) (D : va_G) (cA : ClassId) (q : Nat → Nat) (mc : Nat) (bn : Nat) (bl : Nat) (tr : Int64) (ny : Nat) (cg : Nat) (hy : ny = 0) : Cti l yX5_plan cX5_plan 2 (some .int) rm_k_X5_plan_none D cA [.ref (q 0)] ([oX q mc bn bl tr, oY (q 13) (q 14) (q 15) (q 16) ny cg]) (fun (r : Int32) (_ : Unit) => r = (-2)) (fun _ => [oX q mc bn bl tr, oY (q 13) (q 14) (q 15) (q 16) ny cg]) := by
  refine st_i (by decide) (Nat.le_of_ble_eq_true rfl) ?_
  intro p e s m args below meth c A Q E ret Z ls hl
  have hx := E.1.1
  have hb := E.1.2.1
  have hl : lv_has ls 2 [(0, .ref (q 0))] := hl
  refine lv_aload_n hx hb dX5_plan_0 rfl (lv_at hl 0 rfl) ?_
  refine gF_X5_43 E Z dX5_plan_1 0 rfl rfl ?_
  refine c_Vi (As := []) (rest := []) (w2 := fun _ => [oX q mc bn bl tr, oY (q 13) (q 14) (q 15) (q 16) ny cg]) E Z (k_X4_howMany l D cA (q 13) (q 14) (q 15) (q 16) ny cg ) wv_X5_220 ⟨rfl, rfl, Nat.le_of_ble_eq_true rfl, Nat.le_of_ble_eq_true rfl⟩ [1] rfl rfl rfl rfl (q0 := 0) rfl (fun _ => rfl) (fun _ => rfl) rfl hl.1 rfl (Nat.le_of_ble_eq_true rfl) dX5_plan_4 ⟨Nat.zero_le _, Nat.zero_le _⟩ (fun r4 _ H locs hp4 Z => ?_)
  subst hp4
  refine n_if_ne (tgt := 13) hx hb dX5_plan_7 (by decide) (by omega) (fun c7 => ?_) (fun c7 => ?_)
  · exact absurd hy c7
  · refine lv_bipush (v := (-2)) hx hb dX5_plan_10 (by decide) ?_
    exact ret () Z dX5_plan_12 rfl rfl
abbrev rm_k_X5_plan : Room := { frames := 4, cells := 0, slots := 0, locals := 90 }
set_option maxHeartbeats 4000000 in
set_option maxRecDepth 100000 in
theorem k_X5_plan (l : Launch) (D : va_G) (cA : ClassId) (q : Nat → Nat) (mc : Nat) (bn : Nat) (bl : Nat) (tr : Int64) (size : Nat) (ch : Nat) (sets : Nat → Nat) (amts : Nat → Nat) (tmc : Nat) (tn : Nat) (tmem : Nat → Nat) (ny : Nat) (cg : Nat) (wt : Nat → Nat) (co : Nat → Nat) (nc : Nat → Nat) (sh : Nat → Nat) (sw : Nat → Nat) (hP : size ≤ 8) (hch : ch < 256) (hs : ∀ j, sets j < 2 ^ mc) (hM : mc ≤ 7) (ha10 : ∀ j, amts j < 10) (hy : 1 ≤ ny ∧ ny ≤ 6) (hsh : ∀ j, sh j < 2 ^ (2 * mc)) (hwt : ∀ j, wt j < 10) (hcg : cg ≤ 50) : Cti l yX5_plan cX5_plan 2 (some .int) rm_k_X5_plan D cA [.ref (q 0)] ([oX q mc bn bl tr, oP (q 1) (q 2) (q 3) size ch, aN cA (q 2) 16 sets, aN cA (q 3) 8 amts, oG (q 6) (q 7) tmc tn, aN cA (q 7) 4 tmem, oY (q 13) (q 14) (q 15) (q 16) ny cg, aN cA (q 14) 6 wt, aN cA (q 15) 4 co, aN cA (q 16) 4 nc, aN cA (q 19) 4 sh, aN cA (q 20) 4 sw]) (fun (r : Int32) (_ : (Nat × Nat × (Nat → Nat)) × (Nat → Nat) × (Nat → Nat)) => r = nI (mn1 (cyf wt (fun z => sm (wdp mc (sh z) sets amts ch) size) sh cg (ny - 1)) 3)) (fun u => [oX q mc bn bl tr, oP (q 1) (q 2) (q 3) size ch, aN cA (q 2) 16 sets, aN cA (q 3) 8 amts, oG (q 6) (q 7) u.1.1 u.1.2.1, aN cA (q 7) 4 u.1.2.2, oY (q 13) (q 14) (q 15) (q 16) ny cg, aN cA (q 14) 6 wt, aN cA (q 15) 4 u.2.1, aN cA (q 16) 4 u.2.2, aN cA (q 19) 4 sh, aN cA (q 20) 4 (fun z => sm (wdp mc (sh z) sets amts ch) size)]) := by
  refine st_i (by decide) (Nat.le_of_ble_eq_true rfl) ?_
  intro p e s m args below meth c A Q E ret Z ls hl
  have hx := E.1.1
  have hb := E.1.2.1
  have hl : lv_has ls 2 [(0, .ref (q 0))] := hl
  have h14 : 2 ^ (2 * mc) ≤ 2 ^ 14 := Nat.pow_le_pow_right (by decide) (by omega)
  have hsh31 : ∀ j, sh j < 2 ^ 31 := fun j => by have := hsh j; omega
  have hsw : ∀ j, (fun z => sm (wdp mc (sh z) sets amts ch) size) j < 5000 := fun j => wds_le hM hP ha10
  refine lv_aload_n hx hb dX5_plan_0 rfl (lv_at hl 0 rfl) ?_
  refine gF_X5_43 E Z dX5_plan_1 0 rfl rfl ?_
  refine c_Vi (As := []) (rest := []) (w2 := fun _ => [oX q mc bn bl tr, oP (q 1) (q 2) (q 3) size ch, aN cA (q 2) 16 sets, aN cA (q 3) 8 amts, oG (q 6) (q 7) tmc tn, aN cA (q 7) 4 tmem, oY (q 13) (q 14) (q 15) (q 16) ny cg, aN cA (q 14) 6 wt, aN cA (q 15) 4 co, aN cA (q 16) 4 nc, aN cA (q 19) 4 sh, aN cA (q 20) 4 sw]) E Z (k_X4_howMany l D cA (q 13) (q 14) (q 15) (q 16) ny cg ) wv_X5_220 ⟨rfl, rfl, Nat.le_of_ble_eq_true rfl, Nat.le_of_ble_eq_true rfl⟩ [6] rfl rfl rfl rfl (q0 := 0) rfl (fun _ => rfl) (fun _ => rfl) rfl hl.1 rfl (Nat.le_of_ble_eq_true rfl) dX5_plan_4 ⟨Nat.zero_le _, Nat.zero_le _⟩ (fun r4 _ H locs hp4 Z => ?_)
  subst hp4
  refine n_if_ne (tgt := 13) hx hb dX5_plan_7 (by decide) (by omega) (fun c7 => ?_) (fun c7 => ?_)
  · refine lv_iconst (v := nI 0) hx hb dX5_plan_13 (by decide) ?_
    refine lv_istore_n (lv' := [(1, .int (nI 0)), (0, .ref (q 0))]) hx hb dX5_plan_14 rfl hl (by decide) rfl (fun ls hl => ?_)
    have L15 : ∀ (n15 k : Nat), 4 + 1 ≤ k + n15 → k ≤ 4 → ∀ (tmc : Nat) (tn : Nat) (tmem : Nat → Nat), ∀ (H : Heap) (locs : List Loc), Wd D A s ([oX q mc bn bl tr, oP (q 1) (q 2) (q 3) size ch, aN cA (q 2) 16 sets, aN cA (q 3) 8 amts, oG (q 6) (q 7) tmc tn, aN cA (q 7) 4 tmem, oY (q 13) (q 14) (q 15) (q 16) ny cg, aN cA (q 14) 6 wt, aN cA (q 15) 4 co, aN cA (q 16) 4 nc, aN cA (q 19) 4 sh, aN cA (q 20) 4 (upTo (fun z => sm (wdp mc (sh z) sets amts ch) size) sw k)]) H locs → ∀ (ls : Array Slot), lv_has ls 2 [(0, .ref (q 0)), (1, .int (nI k))] → W p l e rm_k_X5_plan s m args below meth c H locs 0 0 Q (F0 m 15 ls []) := by
      intro n15
      induction n15 with
      | zero => exact fun k h1 h2 => absurd h1 (by omega)
      | succ n15 ih15 =>
        intro k hn15 hi15 tmc tn tmem  H locs Z ls hl
        refine lv_iload_n hx hb dX5_plan_15 rfl (lv_at hl 1 rfl) ?_
        refine lv_iconst (v := nI 4) hx hb dX5_plan_16 (by decide) ?_
        refine n_icmp_ge (tgt := 67) hx hb dX5_plan_17 (by decide) (by omega) (by omega) (fun c17 => ?_) (fun c17 => ?_)
        · obtain rfl : 4 = k := by omega
          replace Z : Wd D A s ([oX q mc bn bl tr, oP (q 1) (q 2) (q 3) size ch, aN cA (q 2) 16 sets, aN cA (q 3) 8 amts, oG (q 6) (q 7) tmc tn, aN cA (q 7) 4 tmem, oY (q 13) (q 14) (q 15) (q 16) ny cg, aN cA (q 14) 6 wt, aN cA (q 15) 4 co, aN cA (q 16) 4 nc, aN cA (q 19) 4 sh, aN cA (q 20) 4 (fun z => sm (wdp mc (sh z) sets amts ch) size)]) _ _ := Z.norm 11 rfl (fun j hj => congrArg nI (upTo_at _ _ 4 j hj)) rfl
          refine lv_aload_n hx hb dX5_plan_67 rfl (lv_at hl 0 rfl) ?_
          refine gF_X5_43 E Z dX5_plan_68 0 rfl rfl ?_
          refine lv_aload_n hx hb dX5_plan_71 rfl (lv_at hl 0 rfl) ?_
          refine gF_X5_54 E Z dX5_plan_72 0 rfl rfl ?_
          refine lv_aload_n hx hb dX5_plan_75 rfl (lv_at hl 0 rfl) ?_
          refine gF_X5_57 E Z dX5_plan_76 0 rfl rfl ?_
          refine c_Vi (As := [.ref (q 19), .ref (q 20)]) (rest := []) (w2 := fun u79 => [oX q mc bn bl tr, oP (q 1) (q 2) (q 3) size ch, aN cA (q 2) 16 sets, aN cA (q 3) 8 amts, oG (q 6) (q 7) tmc tn, aN cA (q 7) 4 tmem, oY (q 13) (q 14) (q 15) (q 16) ny cg, aN cA (q 14) 6 wt, aN cA (q 15) 4 u79.1, aN cA (q 16) 4 u79.2, aN cA (q 19) 4 sh, aN cA (q 20) 4 (fun z => sm (wdp mc (sh z) sets amts ch) size)]) E Z (k_X4_cheapest l D cA (q 13) (q 14) (q 15) (q 16) ny cg wt co nc (q 19) sh (q 20) (fun z => sm (wdp mc (sh z) sets amts ch) size) (by omega) (by omega) (by first | assumption | omega) hsw (by first | assumption | omega) hsh31) wv_X5_233 ⟨rfl, rfl, Nat.le_of_ble_eq_true rfl, Nat.le_of_ble_eq_true rfl⟩ [6, 7, 8, 9, 10, 11] rfl rfl rfl rfl (q0 := 0) rfl (fun _ => rfl) (fun _ => rfl) rfl hl.1 rfl (Nat.le_of_ble_eq_true rfl) dX5_plan_79 ⟨Nat.zero_le _, Nat.zero_le _⟩ (fun r79 u79 H locs hp79 Z => ?_)
          subst hp79
          exact ret ((_, _, _), _, _) Z dX5_plan_82 rfl rfl
        · refine lv_aload_n hx hb dX5_plan_20 rfl (lv_at hl 0 rfl) ?_
          refine gF_X5_23 E Z dX5_plan_21 0 rfl rfl ?_
          refine lv_aload_n hx hb dX5_plan_24 rfl (lv_at hl 0 rfl) ?_
          refine gF_X5_54 E Z dX5_plan_25 0 rfl rfl ?_
          refine lv_iload_n hx hb dX5_plan_28 rfl (lv_at hl 1 rfl) ?_
          refine r_ald E Z dX5_plan_29 10 rfl (by omega) (by decide) ?_
          refine lv_aload_n hx hb dX5_plan_30 rfl (lv_at hl 0 rfl) ?_
          refine gF_X5_71 E Z dX5_plan_31 0 rfl rfl ?_
          refine c_Vv (As := [.int (nI (sh k)), .int (nI mc)]) (rest := []) (w2 := fun _ => [oX q mc bn bl tr, oP (q 1) (q 2) (q 3) size ch, aN cA (q 2) 16 sets, aN cA (q 3) 8 amts, oG (q 6) (q 7) mc (sh k), aN cA (q 7) 4 (mF (sh k) mc), oY (q 13) (q 14) (q 15) (q 16) ny cg, aN cA (q 14) 6 wt, aN cA (q 15) 4 co, aN cA (q 16) 4 nc, aN cA (q 19) 4 sh, aN cA (q 20) 4 (upTo (fun z => sm (wdp mc (sh z) sets amts ch) size) sw k)]) E Z (k_X0_become l D cA (q 6) (q 7) tmc tn tmem (sh k) mc (hsh31 _) (by first | assumption | omega)) wv_X5_119 ⟨rfl, rfl, Nat.le_of_ble_eq_true rfl, Nat.le_of_ble_eq_true rfl⟩ [4, 5] rfl rfl rfl rfl (q0 := 0) rfl (fun _ => rfl) (fun _ => rfl) rfl hl.1 rfl (Nat.le_of_ble_eq_true rfl) dX5_plan_34 ⟨Nat.zero_le _, Nat.zero_le _⟩ (fun _ H locs hp34 Z => ?_)
          refine lv_aload_n hx hb dX5_plan_37 rfl (lv_at hl 0 rfl) ?_
          refine gF_X5_57 E Z dX5_plan_38 0 rfl rfl ?_
          refine lv_iload_n hx hb dX5_plan_41 rfl (lv_at hl 1 rfl) ?_
          refine lv_aload_n hx hb dX5_plan_42 rfl (lv_at hl 0 rfl) ?_
          refine gF_X5_10 E Z dX5_plan_43 0 rfl rfl ?_
          refine lv_aload_n hx hb dX5_plan_46 rfl (lv_at hl 0 rfl) ?_
          refine gF_X5_10 E Z dX5_plan_47 0 rfl rfl ?_
          refine c_Vi (As := []) (rest := [.ref (q 1), .int (nI k), .ref (q 20)]) (w2 := fun _ => [oX q mc bn bl tr, oP (q 1) (q 2) (q 3) size ch, aN cA (q 2) 16 sets, aN cA (q 3) 8 amts, oG (q 6) (q 7) mc (sh k), aN cA (q 7) 4 (mF (sh k) mc), oY (q 13) (q 14) (q 15) (q 16) ny cg, aN cA (q 14) 6 wt, aN cA (q 15) 4 co, aN cA (q 16) 4 nc, aN cA (q 19) 4 sh, aN cA (q 20) 4 (upTo (fun z => sm (wdp mc (sh z) sets amts ch) size) sw k)]) E Z (k_X1_chosen l D cA (q 1) (q 2) (q 3) size ch ) wv_X5_174 ⟨rfl, rfl, Nat.le_of_ble_eq_true rfl, Nat.le_of_ble_eq_true rfl⟩ [1] rfl rfl rfl rfl (q0 := 0) rfl (fun _ => rfl) (fun _ => rfl) rfl hl.1 rfl (Nat.le_of_ble_eq_true rfl) dX5_plan_50 ⟨Nat.zero_le _, Nat.zero_le _⟩ (fun r50 _ H locs hp50 Z => ?_)
          subst hp50
          refine lv_aload_n hx hb dX5_plan_53 rfl (lv_at hl 0 rfl) ?_
          refine gF_X5_23 E Z dX5_plan_54 0 rfl rfl ?_
          refine c_Vi (As := [.int (nI ch), .ref (q 6)]) (rest := [.int (nI k), .ref (q 20)]) (w2 := fun _ => [oX q mc bn bl tr, oP (q 1) (q 2) (q 3) size ch, aN cA (q 2) 16 sets, aN cA (q 3) 8 amts, oG (q 6) (q 7) mc (sh k), aN cA (q 7) 4 (mF (sh k) mc), oY (q 13) (q 14) (q 15) (q 16) ny cg, aN cA (q 14) 6 wt, aN cA (q 15) 4 co, aN cA (q 16) 4 nc, aN cA (q 19) 4 sh, aN cA (q 20) 4 (upTo (fun z => sm (wdp mc (sh z) sets amts ch) size) sw k)]) E Z (k_X1_wanderBy l D cA (q 1) (q 2) (q 3) size ch sets amts (q 6) (q 7) mc (sh k) (mF (sh k) mc) ch (by first | assumption | omega) (by first | assumption | omega) (by first | assumption | omega) (mF_ok _ mc hM) (by first | assumption | omega)) wv_X5_183 ⟨rfl, rfl, Nat.le_of_ble_eq_true rfl, Nat.le_of_ble_eq_true rfl⟩ [1, 2, 3, 4, 5] rfl rfl rfl rfl (q0 := 0) rfl (fun _ => rfl) (fun _ => rfl) rfl hl.1 rfl (Nat.le_of_ble_eq_true rfl) dX5_plan_57 ⟨Nat.zero_le _, Nat.zero_le _⟩ (fun r57 _ H locs hp57 Z => ?_)
          subst hp57
          refine r_ast (w1 := [oX q mc bn bl tr, oP (q 1) (q 2) (q 3) size ch, aN cA (q 2) 16 sets, aN cA (q 3) 8 amts, oG (q 6) (q 7) mc (sh k), aN cA (q 7) 4 (mF (sh k) mc), oY (q 13) (q 14) (q 15) (q 16) ny cg, aN cA (q 14) 6 wt, aN cA (q 15) 4 co, aN cA (q 16) 4 nc, aN cA (q 19) 4 sh, aN cA (q 20) 4 (up (upTo (fun z => sm (wdp mc (sh z) sets amts ch) size) sw k) k (sm (wdp mc (sh k) sets amts ch) size))]) E Z dX5_plan_60 11 rfl (by omega) (by decide) rfl (fun H locs Z => ?_)
          refine lv_iinc (v := nI (k + 1)) (lv' := [(1, .int (nI (k + 1))), (0, .ref (q 0))]) hx hb dX5_plan_61 hl (k := 1) rfl (n_inc _ _ (by decide)) (by decide) rfl (fun ls hl => ?_)
          refine lv_goto (tgt := 15) hx hb dX5_plan_64 (by decide) ?_
          exact ih15 (k + 1) (by omega) (by omega) _ _ _  _ _ Z ls (lv_sub hl [1, 0] rfl)
    exact L15 (4 + 1) 0 (by omega) (by omega) _ _ _  _ _ Z ls (lv_sub hl [1, 0] rfl)
  · exact absurd hy (by omega)
abbrev rm_k_X5_count : Room := { frames := 1, cells := 0, slots := 0, locals := 20 }
set_option maxHeartbeats 4000000 in
set_option maxRecDepth 100000 in
theorem k_X5_count (l : Launch) (D : va_G) (cA : ClassId) (q : Nat → Nat) (mc : Nat) (bn : Nat) (bl : Nat) (tr : Int64) (size : Nat) (ch : Nat) (num : Nat) (ny : Nat) (cg : Nat) (sh : Nat → Nat) (x1 : Int32)  : Cti l yX5_count cX5_count 2 (some .int) rm_k_X5_count D cA [.ref (q 0), .int x1] ([oX q mc bn bl tr, oP (q 1) (q 2) (q 3) size ch, oG (q 4) (q 5) mc num, oY (q 13) (q 14) (q 15) (q 16) ny cg, aN cA (q 19) 4 sh]) (fun (r : Int32) (_ : Unit) => r = (aCount mc size num ny sh x1)) (fun _ => [oX q mc bn bl tr, oP (q 1) (q 2) (q 3) size ch, oG (q 4) (q 5) mc num, oY (q 13) (q 14) (q 15) (q 16) ny cg, aN cA (q 19) 4 sh]) := by
  refine st_i (by decide) (Nat.le_of_ble_eq_true rfl) ?_
  intro p e s m args below meth c A Q E ret Z ls hl
  have hx := E.1.1
  have hb := E.1.2.1
  have hl : lv_has ls 2 [(0, .ref (q 0)), (1, .int x1)] := hl
  refine lv_iload_n hx hb dX5_count_0 rfl (lv_at hl 1 rfl) ?_
  rcases tsw x1 5 (by decide) with ⟨jS, hjS, eS⟩ | oS
  · obtain rfl | rfl | rfl | rfl | rfl : jS = 0 ∨ jS = 1 ∨ jS = 2 ∨ jS = 3 ∨ jS = 4 := by omega
    · refine r_top (y := nI 0) eS ?_
      refine lv_tableIn (tgt := 36) hx hb dX5_count_1 (by decide) (by decide) rfl (by decide) ?_
      refine lv_aload_n hx hb dX5_count_36 rfl (lv_at hl 0 rfl) ?_
      refine gF_X5_71 E Z dX5_count_37 0 rfl rfl ?_
      exact ret () Z dX5_count_40 rfl (by rw [eS]; rfl)
    · refine r_top (y := nI 1) eS ?_
      refine lv_tableIn (tgt := 41) hx hb dX5_count_1 (by decide) (by decide) rfl (by decide) ?_
      refine lv_aload_n hx hb dX5_count_41 rfl (lv_at hl 0 rfl) ?_
      refine gF_X5_10 E Z dX5_count_42 0 rfl rfl ?_
      refine c_Vi (As := []) (rest := []) (w2 := fun _ => [oX q mc bn bl tr, oP (q 1) (q 2) (q 3) size ch, oG (q 4) (q 5) mc num, oY (q 13) (q 14) (q 15) (q 16) ny cg, aN cA (q 19) 4 sh]) E Z (k_X1_howMany l D cA (q 1) (q 2) (q 3) size ch ) wv_X5_237 ⟨rfl, rfl, Nat.le_of_ble_eq_true rfl, Nat.le_of_ble_eq_true rfl⟩ [1] rfl rfl rfl rfl (q0 := 0) rfl (fun _ => rfl) (fun _ => rfl) rfl hl.1 rfl (Nat.le_of_ble_eq_true rfl) dX5_count_45 ⟨Nat.zero_le _, Nat.zero_le _⟩ (fun r45 _ H locs hp45 Z => ?_)
      subst hp45
      exact ret () Z dX5_count_48 rfl (by rw [eS]; rfl)
    · refine r_top (y := nI 2) eS ?_
      refine lv_tableIn (tgt := 49) hx hb dX5_count_1 (by decide) (by decide) rfl (by decide) ?_
      refine lv_aload_n hx hb dX5_count_49 rfl (lv_at hl 0 rfl) ?_
      refine gF_X5_19 E Z dX5_count_50 0 rfl rfl ?_
      refine c_Vi (As := []) (rest := []) (w2 := fun _ => [oX q mc bn bl tr, oP (q 1) (q 2) (q 3) size ch, oG (q 4) (q 5) mc num, oY (q 13) (q 14) (q 15) (q 16) ny cg, aN cA (q 19) 4 sh]) E Z (k_X0_numbered l D cA (q 4) (q 5) mc num ) wv_X5_116 ⟨rfl, rfl, Nat.le_of_ble_eq_true rfl, Nat.le_of_ble_eq_true rfl⟩ [2] rfl rfl rfl rfl (q0 := 0) rfl (fun _ => rfl) (fun _ => rfl) rfl hl.1 rfl (Nat.le_of_ble_eq_true rfl) dX5_count_53 ⟨Nat.zero_le _, Nat.zero_le _⟩ (fun r53 _ H locs hp53 Z => ?_)
      subst hp53
      exact ret () Z dX5_count_56 rfl (by rw [eS]; rfl)
    · refine r_top (y := nI 3) eS ?_
      refine lv_tableIn (tgt := 57) hx hb dX5_count_1 (by decide) (by decide) rfl (by decide) ?_
      refine lv_aload_n hx hb dX5_count_57 rfl (lv_at hl 0 rfl) ?_
      refine gF_X5_43 E Z dX5_count_58 0 rfl rfl ?_
      refine c_Vi (As := []) (rest := []) (w2 := fun _ => [oX q mc bn bl tr, oP (q 1) (q 2) (q 3) size ch, oG (q 4) (q 5) mc num, oY (q 13) (q 14) (q 15) (q 16) ny cg, aN cA (q 19) 4 sh]) E Z (k_X4_howMany l D cA (q 13) (q 14) (q 15) (q 16) ny cg ) wv_X5_220 ⟨rfl, rfl, Nat.le_of_ble_eq_true rfl, Nat.le_of_ble_eq_true rfl⟩ [3] rfl rfl rfl rfl (q0 := 0) rfl (fun _ => rfl) (fun _ => rfl) rfl hl.1 rfl (Nat.le_of_ble_eq_true rfl) dX5_count_61 ⟨Nat.zero_le _, Nat.zero_le _⟩ (fun r61 _ H locs hp61 Z => ?_)
      subst hp61
      exact ret () Z dX5_count_64 rfl (by rw [eS]; rfl)
    · refine r_top (y := nI 4) eS ?_
      refine lv_tableIn (tgt := 65) hx hb dX5_count_1 (by decide) (by decide) rfl (by decide) ?_
      refine lv_aload_n hx hb dX5_count_65 rfl (lv_at hl 0 rfl) ?_
      refine gF_X5_54 E Z dX5_count_66 0 rfl rfl ?_
      refine lv_iconst (v := nI 0) hx hb dX5_count_69 (by decide) ?_
      refine r_ald E Z dX5_count_70 4 rfl (by omega) (by decide) ?_
      exact ret () Z dX5_count_71 rfl (by rw [eS]; rfl)
  · refine lv_tableOut (tgt := 72) hx hb dX5_count_1 oS (by decide) ?_
    refine lv_iconst (v := (-1)) hx hb dX5_count_72 (by decide) ?_
    exact ret () Z dX5_count_73 rfl (by unfold aCount; rw [if_neg (notS (n := 5) oS (by decide) (by decide)), if_neg (notS (n := 5) oS (by decide) (by decide)), if_neg (notS (n := 5) oS (by decide) (by decide)), if_neg (notS (n := 5) oS (by decide) (by decide)), if_neg (notS (n := 5) oS (by decide) (by decide))])
abbrev rm_k_X5_trace : Room := { frames := 0, cells := 0, slots := 0, locals := 0 }
set_option maxHeartbeats 4000000 in
set_option maxRecDepth 100000 in
theorem k_X5_trace (l : Launch) (D : va_G) (cA : ClassId) (q : Nat → Nat) (mc : Nat) (bn : Nat) (bl : Nat) (tr : Int64)  : Ctl l yX5_trace cX5_trace 1 (some .long) rm_k_X5_trace D cA [.ref (q 0)] ([oX q mc bn bl tr]) (fun (r : Int64) (_ : Unit) => r = tr) (fun _ => [oX q mc bn bl tr]) := by
  refine st_l (by decide) (Nat.le_of_ble_eq_true rfl) ?_
  intro p e s m args below meth c A Q E ret Z ls hl
  have hx := E.1.1
  have hb := E.1.2.1
  have hl : lv_has ls 1 [(0, .ref (q 0))] := hl
  refine lv_aload_n hx hb dX5_trace_0 rfl (lv_at hl 0 rfl) ?_
  refine gF_X5_137 E Z dX5_trace_1 0 rfl rfl ?_
  exact ret () Z dX5_trace_4 rfl rfl

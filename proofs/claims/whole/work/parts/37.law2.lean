set_option maxHeartbeats 4000000 in
set_option maxRecDepth 100000 in
theorem lc_loss {p : Program} {l : Launch} {e : Env} {s : State} {m : MethodId} {below : List Frame} {meth : Method} {c : Code} {D : va_G} {cA : ClassId} {A : Nat → Prop} {b L : Nat} {xs : Nat → Int32} {Q : State → Prop} {q q2 : Nat → Nat} {i : Nat} (E : Ev p s m #[Value.ref b] c cL_law 4 RL D cA A) (hXs : XZ A s s.heap) (SC : va_X b L xs s s.heap ∧ b < s.heap.size ∧ ¬ A b) (hi : i + 5 ≤ L) (hL : L ≤ 2560) (N901 : LN p l e s m below meth c D cA A b Q q q2 i) {mc size ch num ny cg bn bl tmc tn tm : Nat} {sets amts hp wt bo pr sh tmem tp pl co nc sw sv mo pl2 co2 nx : Nat → Nat} {t : TS} {tr : Int64} {be : Nat → Int32} (hI : LInv mc size ch num ny cg sets amts hp wt bo pr sh mo t) {H : Heap} {locs : List Loc} (Z : Wd D A s (LW cA q q2 mc size ch num ny cg bn bl tmc tn tm sets amts hp wt bo pr sh tmem tp pl co nc sw sv mo pl2 co2 nx t tr be) H locs) {ls : Array Slot} (hl : lv_has ls 4 [(0, .ref b), (1, .ref (q 0)), (2, .ref (q2 0)), (3, .int (nI i))]) : W p l e room_1 s m #[Value.ref b] below meth c H locs 37 640 Q (F0 m 383 ls []) := by
  have hx := E.1.1
  have hb := E.1.2.1
  unfold LN LW at N901
  unfold LW at Z
  obtain ⟨hm1, hM, hp1, hP, hc2, hs, ha10, hnum, ht, hh, hny, hcg, hwt, hb100, hpr, hsh, hmo⟩ := hI
  have hch := ch256 hc2 hP
  have h20 := Nat.two_pow_pos mc
  have h202 := Nat.two_pow_pos (2 * mc)
  have h27 : 2 ^ mc ≤ 2 ^ 7 := Nat.pow_le_pow_right (by decide) hM
  have h14 : 2 ^ (2 * mc) ≤ 2 ^ 14 := Nat.pow_le_pow_right (by decide) (by omega)
  by_cases hC : (nI 0 ≤ xs (i + 1) ∧ xs (i + 1) ≤ nI 2)
  · obtain ⟨k1, hk10, hk11, ek1⟩ := in_nat (by decide) hC (by decide)
    refine lv_aload_n hx hb dL_law_383 rfl (lv_at hl 1 rfl) ?_
    refine lv_aload_n hx hb dL_law_384 rfl (lv_at hl 0 rfl) ?_
    refine lv_iload_n hx hb dL_law_385 rfl (lv_at hl 3 rfl) ?_
    refine lv_iconst (v := nI 1) hx hb dL_law_386 (by decide) ?_
    refine n_iadd hx hb dL_law_387 ?_
    refine r_sld E Z SC (by omega) hL dL_law_388 ?_
    refine r_top (y := nI k1) ek1 ?_
    refine c_ViX hXs (As := [.int (nI k1)]) (rest := []) (w2 := fun _ => [oX q mc bn bl (tr + (nI (trk k1)).toInt64), oP (q 1) (q 2) (q 3) size ch, aN cA (q 2) 16 sets, aN cA (q 3) 8 amts, oG (q 4) (q 5) mc num, aN cA (q 5) 4 (mF num mc), oG (q 6) (q 7) tmc tn, aN cA (q 7) 4 tmem, oT (q 8) (q 9) tm t, aN cA (q 9) 7 hp, oR (q 10) (q 11) (q 12), aN cA (q 11) 16 tp, aN cA (q 12) 4 pl, oY (q 13) (q 14) (q 15) (q 16) ny cg, aN cA (q 14) 6 wt, aN cA (q 15) 4 co, aN cA (q 16) 4 nc, aN cA (q 17) 7 bo, aN cA (q 18) 7 pr, aN cA (q 19) 4 sh, aN cA (q 20) 4 sw, aN cA (q 21) 201 sv, oM q2 0 tr mc size num ny cg, aN cA (q2 1) 16 sets, aN cA (q2 2) 8 (bt ch), aN cA (q2 3) 8 amts, aN cA (q2 4) 7 bo, aN cA (q2 5) 7 pr, aN cA (q2 6) 4 sh, aN cA (q2 7) 6 wt, aN cA (q2 8) 7 hp, aR cA (q2 9) 4 (tel t), aN cA (q2 10) 201 mo, aN cA (q2 11) 4 pl2, aR cA (q2 12) 5 be, aN cA (q2 13) 4 co2, aN cA (q2 14) 4 nx]) E Z (k_X5_loss l D cA q mc bn bl tr size ch sets amts num k1 (by first | assumption | omega) (by first | assumption | omega) (by first | assumption | omega) (by first | assumption | omega) (by first | assumption | omega)) wv_L_44 ⟨rfl, rfl, Nat.le_of_ble_eq_true rfl, Nat.le_of_ble_eq_true rfl⟩ [0, 1, 2, 3, 4, 5] rfl rfl rfl rfl (q0 := 0) rfl (fun _ => rfl) (fun _ => rfl) rfl hl.1 rfl (Nat.le_of_ble_eq_true rfl) dL_law_389 ⟨(Nat.le_of_ble_eq_true rfl), (Nat.le_of_ble_eq_true rfl)⟩ (fun r389 _ H locs hp389 Z => ?_)
    subst hp389
    refine lv_topi (fun y9 ey9 => ?_)
    refine lv_aload_n hx hb dL_law_392 rfl (lv_at hl 2 rfl) ?_
    refine lv_aload_n hx hb dL_law_393 rfl (lv_at hl 0 rfl) ?_
    refine lv_iload_n hx hb dL_law_394 rfl (lv_at hl 3 rfl) ?_
    refine lv_iconst (v := nI 1) hx hb dL_law_395 (by decide) ?_
    refine n_iadd hx hb dL_law_396 ?_
    refine r_sld E Z SC (by omega) hL dL_law_397 ?_
    refine r_top (y := nI k1) ek1 ?_
    refine c_Vi (As := [.int (nI k1)]) (rest := [.int y9]) (w2 := fun _ => [oX q mc bn bl (tr + (nI (trk k1)).toInt64), oP (q 1) (q 2) (q 3) size ch, aN cA (q 2) 16 sets, aN cA (q 3) 8 amts, oG (q 4) (q 5) mc num, aN cA (q 5) 4 (mF num mc), oG (q 6) (q 7) tmc tn, aN cA (q 7) 4 tmem, oT (q 8) (q 9) tm t, aN cA (q 9) 7 hp, oR (q 10) (q 11) (q 12), aN cA (q 11) 16 tp, aN cA (q 12) 4 pl, oY (q 13) (q 14) (q 15) (q 16) ny cg, aN cA (q 14) 6 wt, aN cA (q 15) 4 co, aN cA (q 16) 4 nc, aN cA (q 17) 7 bo, aN cA (q 18) 7 pr, aN cA (q 19) 4 sh, aN cA (q 20) 4 sw, aN cA (q 21) 201 sv, oM q2 0 (tr + (nI (trk k1)).toInt64) mc size num ny cg, aN cA (q2 1) 16 sets, aN cA (q2 2) 8 (bt ch), aN cA (q2 3) 8 amts, aN cA (q2 4) 7 bo, aN cA (q2 5) 7 pr, aN cA (q2 6) 4 sh, aN cA (q2 7) 6 wt, aN cA (q2 8) 7 hp, aR cA (q2 9) 4 (tel t), aN cA (q2 10) 201 mo, aN cA (q2 11) 4 pl2, aR cA (q2 12) 5 be, aN cA (q2 13) 4 co2, aN cA (q2 14) 4 nx]) E Z (k_X6_loss l D cA q2 tr mc size num ny cg sets ch amts k1 (by first | assumption | omega) (by first | assumption | omega) (by first | assumption | omega) (by first | assumption | omega) (by first | assumption | omega)) wv_L_47 ⟨rfl, rfl, Nat.le_of_ble_eq_true rfl, Nat.le_of_ble_eq_true rfl⟩ [22, 23, 24, 25] rfl rfl rfl rfl (q0 := 0) rfl (fun _ => rfl) (fun _ => rfl) rfl hl.1 rfl (Nat.le_of_ble_eq_true rfl) dL_law_398 ⟨(Nat.le_of_ble_eq_true rfl), (Nat.le_of_ble_eq_true rfl)⟩ (fun r398 _ H locs hp398 Z => ?_)
    subst hp398
    refine lv_icmp_eq (tgt := 901) hx hb dL_law_401 (by decide) (fun c401 => ?_) (fun c401 => absurd (ey9.trans (congrArg nI (lossM_V (show k1 < 3 by omega)).symm)) c401)
    exact N901 _ _ _ _ _ _ _ _ _ _ _ _ _ _ _ _ _ _ _ _ _ _ _ _ _ _ _ _ _ _ _ _ ⟨hm1, hM, hp1, hP, hc2, hs, ha10, hnum, ht, hh, hny, hcg, hwt, hb100, hpr, hsh, hmo⟩ _ _ Z _ hl
  · have hC2 := hC
    refine lv_aload_n hx hb dL_law_383 rfl (lv_at hl 1 rfl) ?_
    refine lv_aload_n hx hb dL_law_384 rfl (lv_at hl 0 rfl) ?_
    refine lv_iload_n hx hb dL_law_385 rfl (lv_at hl 3 rfl) ?_
    refine lv_iconst (v := nI 1) hx hb dL_law_386 (by decide) ?_
    refine n_iadd hx hb dL_law_387 ?_
    refine r_sld E Z SC (by omega) hL dL_law_388 ?_
    refine c_Vi (As := [.int (xs (i + 1))]) (rest := []) (w2 := fun _ => [oX q mc bn bl tr, oP (q 1) (q 2) (q 3) size ch, aN cA (q 2) 16 sets, aN cA (q 3) 8 amts, oG (q 4) (q 5) mc num, aN cA (q 5) 4 (mF num mc), oG (q 6) (q 7) tmc tn, aN cA (q 7) 4 tmem, oT (q 8) (q 9) tm t, aN cA (q 9) 7 hp, oR (q 10) (q 11) (q 12), aN cA (q 11) 16 tp, aN cA (q 12) 4 pl, oY (q 13) (q 14) (q 15) (q 16) ny cg, aN cA (q 14) 6 wt, aN cA (q 15) 4 co, aN cA (q 16) 4 nc, aN cA (q 17) 7 bo, aN cA (q 18) 7 pr, aN cA (q 19) 4 sh, aN cA (q 20) 4 sw, aN cA (q 21) 201 sv, oM q2 0 tr mc size num ny cg, aN cA (q2 1) 16 sets, aN cA (q2 2) 8 (bt ch), aN cA (q2 3) 8 amts, aN cA (q2 4) 7 bo, aN cA (q2 5) 7 pr, aN cA (q2 6) 4 sh, aN cA (q2 7) 6 wt, aN cA (q2 8) 7 hp, aR cA (q2 9) 4 (tel t), aN cA (q2 10) 201 mo, aN cA (q2 11) 4 pl2, aR cA (q2 12) 5 be, aN cA (q2 13) 4 co2, aN cA (q2 14) 4 nx]) E Z (k_X5_loss_bad l D cA q mc bn bl tr (xs (i + 1)) (by first | assumption | omega)) wv_L_44 ⟨rfl, rfl, Nat.le_of_ble_eq_true rfl, Nat.le_of_ble_eq_true rfl⟩ [0] rfl rfl rfl rfl (q0 := 0) rfl (fun _ => rfl) (fun _ => rfl) rfl hl.1 rfl (Nat.le_of_ble_eq_true rfl) dL_law_389 ⟨(Nat.le_of_ble_eq_true rfl), (Nat.le_of_ble_eq_true rfl)⟩ (fun r389 _ H locs hp389 Z => ?_)
    subst hp389
    refine lv_topi (fun y9 ey9 => ?_)
    refine lv_aload_n hx hb dL_law_392 rfl (lv_at hl 2 rfl) ?_
    refine lv_aload_n hx hb dL_law_393 rfl (lv_at hl 0 rfl) ?_
    refine lv_iload_n hx hb dL_law_394 rfl (lv_at hl 3 rfl) ?_
    refine lv_iconst (v := nI 1) hx hb dL_law_395 (by decide) ?_
    refine n_iadd hx hb dL_law_396 ?_
    refine r_sld E Z SC (by omega) hL dL_law_397 ?_
    refine c_Vi (As := [.int (xs (i + 1))]) (rest := [.int y9]) (w2 := fun _ => [oX q mc bn bl tr, oP (q 1) (q 2) (q 3) size ch, aN cA (q 2) 16 sets, aN cA (q 3) 8 amts, oG (q 4) (q 5) mc num, aN cA (q 5) 4 (mF num mc), oG (q 6) (q 7) tmc tn, aN cA (q 7) 4 tmem, oT (q 8) (q 9) tm t, aN cA (q 9) 7 hp, oR (q 10) (q 11) (q 12), aN cA (q 11) 16 tp, aN cA (q 12) 4 pl, oY (q 13) (q 14) (q 15) (q 16) ny cg, aN cA (q 14) 6 wt, aN cA (q 15) 4 co, aN cA (q 16) 4 nc, aN cA (q 17) 7 bo, aN cA (q 18) 7 pr, aN cA (q 19) 4 sh, aN cA (q 20) 4 sw, aN cA (q 21) 201 sv, oM q2 0 tr mc size num ny cg, aN cA (q2 1) 16 sets, aN cA (q2 2) 8 (bt ch), aN cA (q2 3) 8 amts, aN cA (q2 4) 7 bo, aN cA (q2 5) 7 pr, aN cA (q2 6) 4 sh, aN cA (q2 7) 6 wt, aN cA (q2 8) 7 hp, aR cA (q2 9) 4 (tel t), aN cA (q2 10) 201 mo, aN cA (q2 11) 4 pl2, aR cA (q2 12) 5 be, aN cA (q2 13) 4 co2, aN cA (q2 14) 4 nx]) E Z (k_X6_loss_bad l D cA q2 tr mc size num ny cg (xs (i + 1)) (by first | assumption | omega)) wv_L_47 ⟨rfl, rfl, Nat.le_of_ble_eq_true rfl, Nat.le_of_ble_eq_true rfl⟩ [22] rfl rfl rfl rfl (q0 := 0) rfl (fun _ => rfl) (fun _ => rfl) rfl hl.1 rfl (Nat.le_of_ble_eq_true rfl) dL_law_398 ⟨(Nat.le_of_ble_eq_true rfl), (Nat.le_of_ble_eq_true rfl)⟩ (fun r398 _ H locs hp398 Z => ?_)
    subst hp398
    refine lv_icmp_eq (tgt := 901) hx hb dL_law_401 (by decide) (fun c401 => ?_) (fun c401 => absurd ey9 c401)
    exact N901 _ _ _ _ _ _ _ _ _ _ _ _ _ _ _ _ _ _ _ _ _ _ _ _ _ _ _ _ _ _ _ _ ⟨hm1, hM, hp1, hP, hc2, hs, ha10, hnum, ht, hh, hny, hcg, hwt, hb100, hpr, hsh, hmo⟩ _ _ Z _ hl
set_option maxHeartbeats 4000000 in
set_option maxRecDepth 100000 in
theorem lc_best {p : Program} {l : Launch} {e : Env} {s : State} {m : MethodId} {below : List Frame} {meth : Method} {c : Code} {D : va_G} {cA : ClassId} {A : Nat → Prop} {b L : Nat} {xs : Nat → Int32} {Q : State → Prop} {q q2 : Nat → Nat} {i : Nat} (E : Ev p s m #[Value.ref b] c cL_law 4 RL D cA A) (hXs : XZ A s s.heap) (SC : va_X b L xs s s.heap ∧ b < s.heap.size ∧ ¬ A b) (hi : i + 5 ≤ L) (hL : L ≤ 2560) (N901 : LN p l e s m below meth c D cA A b Q q q2 i) {mc size ch num ny cg bn bl tmc tn tm : Nat} {sets amts hp wt bo pr sh tmem tp pl co nc sw sv mo pl2 co2 nx : Nat → Nat} {t : TS} {tr : Int64} {be : Nat → Int32} (hI : LInv mc size ch num ny cg sets amts hp wt bo pr sh mo t) {H : Heap} {locs : List Loc} (Z : Wd D A s (LW cA q q2 mc size ch num ny cg bn bl tmc tn tm sets amts hp wt bo pr sh tmem tp pl co nc sw sv mo pl2 co2 nx t tr be) H locs) {ls : Array Slot} (hl : lv_has ls 4 [(0, .ref b), (1, .ref (q 0)), (2, .ref (q2 0)), (3, .int (nI i))]) : W p l e room_1 s m #[Value.ref b] below meth c H locs 37 640 Q (F0 m 406 ls []) := by
  have hx := E.1.1
  have hb := E.1.2.1
  unfold LN LW at N901
  unfold LW at Z
  obtain ⟨hm1, hM, hp1, hP, hc2, hs, ha10, hnum, ht, hh, hny, hcg, hwt, hb100, hpr, hsh, hmo⟩ := hI
  have hch := ch256 hc2 hP
  have h20 := Nat.two_pow_pos mc
  have h202 := Nat.two_pow_pos (2 * mc)
  have h27 : 2 ^ mc ≤ 2 ^ 7 := Nat.pow_le_pow_right (by decide) hM
  have h14 : 2 ^ (2 * mc) ≤ 2 ^ 14 := Nat.pow_le_pow_right (by decide) (by omega)
  by_cases hC : (nI 0 ≤ xs (i + 1) ∧ xs (i + 1) ≤ nI 2) ∧ (nI 1 ≤ xs (i + 2) ∧ xs (i + 2) ≤ nI 7) ∧ (nI 0 ≤ xs (i + 3) ∧ xs (i + 3) ≤ nI 1)
  · obtain ⟨k1, hk10, hk11, ek1⟩ := in_nat (by decide) hC.1 (by decide)
    obtain ⟨k2, hk20, hk21, ek2⟩ := in_nat (by decide) hC.2.1 (by decide)
    obtain ⟨k3, hk30, hk31, ek3⟩ := in_nat (by decide) hC.2.2 (by decide)
    refine lv_aload_n hx hb dL_law_406 rfl (lv_at hl 1 rfl) ?_
    refine lv_aload_n hx hb dL_law_407 rfl (lv_at hl 0 rfl) ?_
    refine lv_iload_n hx hb dL_law_408 rfl (lv_at hl 3 rfl) ?_
    refine lv_iconst (v := nI 1) hx hb dL_law_409 (by decide) ?_
    refine n_iadd hx hb dL_law_410 ?_
    refine r_sld E Z SC (by omega) hL dL_law_411 ?_
    refine r_top (y := nI k1) ek1 ?_
    refine lv_aload_n hx hb dL_law_412 rfl (lv_at hl 0 rfl) ?_
    refine lv_iload_n hx hb dL_law_413 rfl (lv_at hl 3 rfl) ?_
    refine lv_iconst (v := nI 2) hx hb dL_law_414 (by decide) ?_
    refine n_iadd hx hb dL_law_415 ?_
    refine r_sld E Z SC (by omega) hL dL_law_416 ?_
    refine r_top (y := nI k2) ek2 ?_
    refine lv_aload_n hx hb dL_law_417 rfl (lv_at hl 0 rfl) ?_
    refine lv_iload_n hx hb dL_law_418 rfl (lv_at hl 3 rfl) ?_
    refine lv_iconst (v := nI 3) hx hb dL_law_419 (by decide) ?_
    refine n_iadd hx hb dL_law_420 ?_
    refine r_sld E Z SC (by omega) hL dL_law_421 ?_
    refine r_top (y := nI k3) ek3 ?_
    refine c_Vi (As := [.int (nI k1), .int (nI k2), .int (nI k3)]) (rest := []) (w2 := fun u422 => [oX q mc u422.1 u422.2.1 tr, oP (q 1) (q 2) (q 3) size ch, aN cA (q 2) 16 sets, aN cA (q 3) 8 amts, oG (q 4) (q 5) mc num, aN cA (q 5) 4 (mF num mc), oG (q 6) (q 7) u422.2.2.1 u422.2.2.2.1, aN cA (q 7) 4 u422.2.2.2.2, oT (q 8) (q 9) tm t, aN cA (q 9) 7 hp, oR (q 10) (q 11) (q 12), aN cA (q 11) 16 tp, aN cA (q 12) 4 pl, oY (q 13) (q 14) (q 15) (q 16) ny cg, aN cA (q 14) 6 wt, aN cA (q 15) 4 co, aN cA (q 16) 4 nc, aN cA (q 17) 7 bo, aN cA (q 18) 7 pr, aN cA (q 19) 4 sh, aN cA (q 20) 4 sw, aN cA (q 21) 201 sv, oM q2 0 tr mc size num ny cg, aN cA (q2 1) 16 sets, aN cA (q2 2) 8 (bt ch), aN cA (q2 3) 8 amts, aN cA (q2 4) 7 bo, aN cA (q2 5) 7 pr, aN cA (q2 6) 4 sh, aN cA (q2 7) 6 wt, aN cA (q2 8) 7 hp, aR cA (q2 9) 4 (tel t), aN cA (q2 10) 201 mo, aN cA (q2 11) 4 pl2, aR cA (q2 12) 5 be, aN cA (q2 13) 4 co2, aN cA (q2 14) 4 nx]) E Z (k_X5_best l D cA q mc bn bl tr size ch sets amts tmc tn tmem k1 k2 k3 (by first | assumption | omega) (by first | assumption | omega) (by first | assumption | omega) (by first | assumption | omega) (by first | assumption | omega) (by first | assumption | omega) (by first | assumption | omega) (by first | assumption | omega) (by first | assumption | omega)) wv_L_48 ⟨rfl, rfl, Nat.le_of_ble_eq_true rfl, Nat.le_of_ble_eq_true rfl⟩ [0, 1, 2, 3, 6, 7] rfl rfl rfl rfl (q0 := 0) rfl (fun _ => rfl) (fun _ => rfl) rfl hl.1 rfl (Nat.le_of_ble_eq_true rfl) dL_law_422 ⟨(Nat.le_of_ble_eq_true rfl), (Nat.le_of_ble_eq_true rfl)⟩ (fun r422 u422 H locs hp422 Z => ?_)
    subst hp422
    refine lv_topi (fun y9 ey9 => ?_)
    refine lv_aload_n hx hb dL_law_425 rfl (lv_at hl 2 rfl) ?_
    refine lv_aload_n hx hb dL_law_426 rfl (lv_at hl 0 rfl) ?_
    refine lv_iload_n hx hb dL_law_427 rfl (lv_at hl 3 rfl) ?_
    refine lv_iconst (v := nI 1) hx hb dL_law_428 (by decide) ?_
    refine n_iadd hx hb dL_law_429 ?_
    refine r_sld E Z SC (by omega) hL dL_law_430 ?_
    refine r_top (y := nI k1) ek1 ?_
    refine lv_aload_n hx hb dL_law_431 rfl (lv_at hl 0 rfl) ?_
    refine lv_iload_n hx hb dL_law_432 rfl (lv_at hl 3 rfl) ?_
    refine lv_iconst (v := nI 2) hx hb dL_law_433 (by decide) ?_
    refine n_iadd hx hb dL_law_434 ?_
    refine r_sld E Z SC (by omega) hL dL_law_435 ?_
    refine r_top (y := nI k2) ek2 ?_
    refine lv_aload_n hx hb dL_law_436 rfl (lv_at hl 0 rfl) ?_
    refine lv_iload_n hx hb dL_law_437 rfl (lv_at hl 3 rfl) ?_
    refine lv_iconst (v := nI 3) hx hb dL_law_438 (by decide) ?_
    refine n_iadd hx hb dL_law_439 ?_
    refine r_sld E Z SC (by omega) hL dL_law_440 ?_
    refine r_top (y := nI k3) ek3 ?_
    refine c_Vi (As := [.int (nI k1), .int (nI k2), .int (nI k3)]) (rest := [.int y9]) (w2 := fun _ => [oX q mc u422.1 u422.2.1 tr, oP (q 1) (q 2) (q 3) size ch, aN cA (q 2) 16 sets, aN cA (q 3) 8 amts, oG (q 4) (q 5) mc num, aN cA (q 5) 4 (mF num mc), oG (q 6) (q 7) u422.2.2.1 u422.2.2.2.1, aN cA (q 7) 4 u422.2.2.2.2, oT (q 8) (q 9) tm t, aN cA (q 9) 7 hp, oR (q 10) (q 11) (q 12), aN cA (q 11) 16 tp, aN cA (q 12) 4 pl, oY (q 13) (q 14) (q 15) (q 16) ny cg, aN cA (q 14) 6 wt, aN cA (q 15) 4 co, aN cA (q 16) 4 nc, aN cA (q 17) 7 bo, aN cA (q 18) 7 pr, aN cA (q 19) 4 sh, aN cA (q 20) 4 sw, aN cA (q 21) 201 sv, oM q2 0 tr mc size num ny cg, aN cA (q2 1) 16 sets, aN cA (q2 2) 8 (bt ch), aN cA (q2 3) 8 amts, aN cA (q2 4) 7 bo, aN cA (q2 5) 7 pr, aN cA (q2 6) 4 sh, aN cA (q2 7) 6 wt, aN cA (q2 8) 7 hp, aR cA (q2 9) 4 (tel t), aN cA (q2 10) 201 mo, aN cA (q2 11) 4 pl2, aR cA (q2 12) 5 be, aN cA (q2 13) 4 co2, aN cA (q2 14) 4 nx]) E Z (k_X6_best l D cA q2 tr mc size num ny cg sets ch amts k1 k2 k3 (by first | assumption | omega) (by first | assumption | omega) (by first | assumption | omega) (by first | assumption | omega) (by first | assumption | omega) (by first | assumption | omega) (by first | assumption | omega) (by first | assumption | omega)) wv_L_51 ⟨rfl, rfl, Nat.le_of_ble_eq_true rfl, Nat.le_of_ble_eq_true rfl⟩ [22, 23, 24, 25] rfl rfl rfl rfl (q0 := 0) rfl (fun _ => rfl) (fun _ => rfl) rfl hl.1 rfl (Nat.le_of_ble_eq_true rfl) dL_law_441 ⟨(Nat.le_of_ble_eq_true rfl), (Nat.le_of_ble_eq_true rfl)⟩ (fun r441 _ H locs hp441 Z => ?_)
    subst hp441
    refine lv_icmp_eq (tgt := 901) hx hb dL_law_444 (by decide) (fun c444 => ?_) (fun c444 => absurd (ey9.trans (E_best hm1 hM hP ha10 (by omega) (by omega) k3)) c444)
    exact N901 _ _ _ _ _ _ _ _ _ _ _ _ _ _ _ _ _ _ _ _ _ _ _ _ _ _ _ _ _ _ _ _ ⟨hm1, hM, hp1, hP, hc2, hs, ha10, hnum, ht, hh, hny, hcg, hwt, hb100, hpr, hsh, hmo⟩ _ _ Z _ hl
  · have hC2 := hC
    refine lv_aload_n hx hb dL_law_406 rfl (lv_at hl 1 rfl) ?_
    refine lv_aload_n hx hb dL_law_407 rfl (lv_at hl 0 rfl) ?_
    refine lv_iload_n hx hb dL_law_408 rfl (lv_at hl 3 rfl) ?_
    refine lv_iconst (v := nI 1) hx hb dL_law_409 (by decide) ?_
    refine n_iadd hx hb dL_law_410 ?_
    refine r_sld E Z SC (by omega) hL dL_law_411 ?_
    refine lv_aload_n hx hb dL_law_412 rfl (lv_at hl 0 rfl) ?_
    refine lv_iload_n hx hb dL_law_413 rfl (lv_at hl 3 rfl) ?_
    refine lv_iconst (v := nI 2) hx hb dL_law_414 (by decide) ?_
    refine n_iadd hx hb dL_law_415 ?_
    refine r_sld E Z SC (by omega) hL dL_law_416 ?_
    refine lv_aload_n hx hb dL_law_417 rfl (lv_at hl 0 rfl) ?_
    refine lv_iload_n hx hb dL_law_418 rfl (lv_at hl 3 rfl) ?_
    refine lv_iconst (v := nI 3) hx hb dL_law_419 (by decide) ?_
    refine n_iadd hx hb dL_law_420 ?_
    refine r_sld E Z SC (by omega) hL dL_law_421 ?_
    refine c_Vi (As := [.int (xs (i + 1)), .int (xs (i + 2)), .int (xs (i + 3))]) (rest := []) (w2 := fun _ => [oX q mc bn bl tr, oP (q 1) (q 2) (q 3) size ch, aN cA (q 2) 16 sets, aN cA (q 3) 8 amts, oG (q 4) (q 5) mc num, aN cA (q 5) 4 (mF num mc), oG (q 6) (q 7) tmc tn, aN cA (q 7) 4 tmem, oT (q 8) (q 9) tm t, aN cA (q 9) 7 hp, oR (q 10) (q 11) (q 12), aN cA (q 11) 16 tp, aN cA (q 12) 4 pl, oY (q 13) (q 14) (q 15) (q 16) ny cg, aN cA (q 14) 6 wt, aN cA (q 15) 4 co, aN cA (q 16) 4 nc, aN cA (q 17) 7 bo, aN cA (q 18) 7 pr, aN cA (q 19) 4 sh, aN cA (q 20) 4 sw, aN cA (q 21) 201 sv, oM q2 0 tr mc size num ny cg, aN cA (q2 1) 16 sets, aN cA (q2 2) 8 (bt ch), aN cA (q2 3) 8 amts, aN cA (q2 4) 7 bo, aN cA (q2 5) 7 pr, aN cA (q2 6) 4 sh, aN cA (q2 7) 6 wt, aN cA (q2 8) 7 hp, aR cA (q2 9) 4 (tel t), aN cA (q2 10) 201 mo, aN cA (q2 11) 4 pl2, aR cA (q2 12) 5 be, aN cA (q2 13) 4 co2, aN cA (q2 14) 4 nx]) E Z (k_X5_best_bad l D cA q mc bn bl tr (xs (i + 1)) (xs (i + 2)) (xs (i + 3)) (by first | assumption | omega)) wv_L_48 ⟨rfl, rfl, Nat.le_of_ble_eq_true rfl, Nat.le_of_ble_eq_true rfl⟩ [0] rfl rfl rfl rfl (q0 := 0) rfl (fun _ => rfl) (fun _ => rfl) rfl hl.1 rfl (Nat.le_of_ble_eq_true rfl) dL_law_422 ⟨(Nat.le_of_ble_eq_true rfl), (Nat.le_of_ble_eq_true rfl)⟩ (fun r422 _ H locs hp422 Z => ?_)
    subst hp422
    refine lv_topi (fun y9 ey9 => ?_)
    refine lv_aload_n hx hb dL_law_425 rfl (lv_at hl 2 rfl) ?_
    refine lv_aload_n hx hb dL_law_426 rfl (lv_at hl 0 rfl) ?_
    refine lv_iload_n hx hb dL_law_427 rfl (lv_at hl 3 rfl) ?_
    refine lv_iconst (v := nI 1) hx hb dL_law_428 (by decide) ?_
    refine n_iadd hx hb dL_law_429 ?_
    refine r_sld E Z SC (by omega) hL dL_law_430 ?_
    refine lv_aload_n hx hb dL_law_431 rfl (lv_at hl 0 rfl) ?_
    refine lv_iload_n hx hb dL_law_432 rfl (lv_at hl 3 rfl) ?_
    refine lv_iconst (v := nI 2) hx hb dL_law_433 (by decide) ?_
    refine n_iadd hx hb dL_law_434 ?_
    refine r_sld E Z SC (by omega) hL dL_law_435 ?_
    refine lv_aload_n hx hb dL_law_436 rfl (lv_at hl 0 rfl) ?_
    refine lv_iload_n hx hb dL_law_437 rfl (lv_at hl 3 rfl) ?_
    refine lv_iconst (v := nI 3) hx hb dL_law_438 (by decide) ?_
    refine n_iadd hx hb dL_law_439 ?_
    refine r_sld E Z SC (by omega) hL dL_law_440 ?_
    refine c_Vi (As := [.int (xs (i + 1)), .int (xs (i + 2)), .int (xs (i + 3))]) (rest := [.int y9]) (w2 := fun _ => [oX q mc bn bl tr, oP (q 1) (q 2) (q 3) size ch, aN cA (q 2) 16 sets, aN cA (q 3) 8 amts, oG (q 4) (q 5) mc num, aN cA (q 5) 4 (mF num mc), oG (q 6) (q 7) tmc tn, aN cA (q 7) 4 tmem, oT (q 8) (q 9) tm t, aN cA (q 9) 7 hp, oR (q 10) (q 11) (q 12), aN cA (q 11) 16 tp, aN cA (q 12) 4 pl, oY (q 13) (q 14) (q 15) (q 16) ny cg, aN cA (q 14) 6 wt, aN cA (q 15) 4 co, aN cA (q 16) 4 nc, aN cA (q 17) 7 bo, aN cA (q 18) 7 pr, aN cA (q 19) 4 sh, aN cA (q 20) 4 sw, aN cA (q 21) 201 sv, oM q2 0 tr mc size num ny cg, aN cA (q2 1) 16 sets, aN cA (q2 2) 8 (bt ch), aN cA (q2 3) 8 amts, aN cA (q2 4) 7 bo, aN cA (q2 5) 7 pr, aN cA (q2 6) 4 sh, aN cA (q2 7) 6 wt, aN cA (q2 8) 7 hp, aR cA (q2 9) 4 (tel t), aN cA (q2 10) 201 mo, aN cA (q2 11) 4 pl2, aR cA (q2 12) 5 be, aN cA (q2 13) 4 co2, aN cA (q2 14) 4 nx]) E Z (k_X6_best_bad l D cA q2 tr mc size num ny cg (xs (i + 1)) (xs (i + 2)) (xs (i + 3)) (by first | assumption | omega)) wv_L_51 ⟨rfl, rfl, Nat.le_of_ble_eq_true rfl, Nat.le_of_ble_eq_true rfl⟩ [22] rfl rfl rfl rfl (q0 := 0) rfl (fun _ => rfl) (fun _ => rfl) rfl hl.1 rfl (Nat.le_of_ble_eq_true rfl) dL_law_441 ⟨(Nat.le_of_ble_eq_true rfl), (Nat.le_of_ble_eq_true rfl)⟩ (fun r441 _ H locs hp441 Z => ?_)
    subst hp441
    refine lv_icmp_eq (tgt := 901) hx hb dL_law_444 (by decide) (fun c444 => ?_) (fun c444 => absurd ey9 c444)
    exact N901 _ _ _ _ _ _ _ _ _ _ _ _ _ _ _ _ _ _ _ _ _ _ _ _ _ _ _ _ _ _ _ _ ⟨hm1, hM, hp1, hP, hc2, hs, ha10, hnum, ht, hh, hny, hcg, hwt, hb100, hpr, hsh, hmo⟩ _ _ Z _ hl
set_option maxHeartbeats 4000000 in
set_option maxRecDepth 100000 in
theorem lc_plain {p : Program} {l : Launch} {e : Env} {s : State} {m : MethodId} {below : List Frame} {meth : Method} {c : Code} {D : va_G} {cA : ClassId} {A : Nat → Prop} {b L : Nat} {xs : Nat → Int32} {Q : State → Prop} {q q2 : Nat → Nat} {i : Nat} (E : Ev p s m #[Value.ref b] c cL_law 4 RL D cA A) (hXs : XZ A s s.heap) (SC : va_X b L xs s s.heap ∧ b < s.heap.size ∧ ¬ A b) (hi : i + 5 ≤ L) (hL : L ≤ 2560) (N901 : LN p l e s m below meth c D cA A b Q q q2 i) {mc size ch num ny cg bn bl tmc tn tm : Nat} {sets amts hp wt bo pr sh tmem tp pl co nc sw sv mo pl2 co2 nx : Nat → Nat} {t : TS} {tr : Int64} {be : Nat → Int32} (hI : LInv mc size ch num ny cg sets amts hp wt bo pr sh mo t) {H : Heap} {locs : List Loc} (Z : Wd D A s (LW cA q q2 mc size ch num ny cg bn bl tmc tn tm sets amts hp wt bo pr sh tmem tp pl co nc sw sv mo pl2 co2 nx t tr be) H locs) {ls : Array Slot} (hl : lv_has ls 4 [(0, .ref b), (1, .ref (q 0)), (2, .ref (q2 0)), (3, .int (nI i))]) : W p l e room_1 s m #[Value.ref b] below meth c H locs 37 640 Q (F0 m 449 ls []) := by
  have hx := E.1.1
  have hb := E.1.2.1
  unfold LN LW at N901
  unfold LW at Z
  obtain ⟨hm1, hM, hp1, hP, hc2, hs, ha10, hnum, ht, hh, hny, hcg, hwt, hb100, hpr, hsh, hmo⟩ := hI
  have hch := ch256 hc2 hP
  have h20 := Nat.two_pow_pos mc
  have h202 := Nat.two_pow_pos (2 * mc)
  have h27 : 2 ^ mc ≤ 2 ^ 7 := Nat.pow_le_pow_right (by decide) hM
  have h14 : 2 ^ (2 * mc) ≤ 2 ^ 14 := Nat.pow_le_pow_right (by decide) (by omega)
  refine lv_aload_n hx hb dL_law_449 rfl (lv_at hl 1 rfl) ?_
  refine c_Vi (As := []) (rest := []) (w2 := fun _ => [oX q mc bn bl tr, oP (q 1) (q 2) (q 3) size ch, aN cA (q 2) 16 sets, aN cA (q 3) 8 amts, oG (q 4) (q 5) mc num, aN cA (q 5) 4 (mF num mc), oG (q 6) (q 7) tmc tn, aN cA (q 7) 4 tmem, oT (q 8) (q 9) tm t, aN cA (q 9) 7 hp, oR (q 10) (q 11) (q 12), aN cA (q 11) 16 tp, aN cA (q 12) 4 pl, oY (q 13) (q 14) (q 15) (q 16) ny cg, aN cA (q 14) 6 wt, aN cA (q 15) 4 co, aN cA (q 16) 4 nc, aN cA (q 17) 7 bo, aN cA (q 18) 7 pr, aN cA (q 19) 4 sh, aN cA (q 20) 4 sw, aN cA (q 21) 201 sv, oM q2 0 tr mc size num ny cg, aN cA (q2 1) 16 sets, aN cA (q2 2) 8 (bt ch), aN cA (q2 3) 8 amts, aN cA (q2 4) 7 bo, aN cA (q2 5) 7 pr, aN cA (q2 6) 4 sh, aN cA (q2 7) 6 wt, aN cA (q2 8) 7 hp, aR cA (q2 9) 4 (tel t), aN cA (q2 10) 201 mo, aN cA (q2 11) 4 pl2, aR cA (q2 12) 5 be, aN cA (q2 13) 4 co2, aN cA (q2 14) 4 nx]) E Z (k_X5_plain l D cA q mc bn bl tr num (by first | assumption | omega) (by first | assumption | omega)) wv_L_52 ⟨rfl, rfl, Nat.le_of_ble_eq_true rfl, Nat.le_of_ble_eq_true rfl⟩ [0, 4] rfl rfl rfl rfl (q0 := 0) rfl (fun _ => rfl) (fun _ => rfl) rfl hl.1 rfl (Nat.le_of_ble_eq_true rfl) dL_law_450 ⟨(Nat.le_of_ble_eq_true rfl), (Nat.le_of_ble_eq_true rfl)⟩ (fun r450 _ H locs hp450 Z => ?_)
  subst hp450
  refine lv_topi (fun y9 ey9 => ?_)
  refine lv_aload_n hx hb dL_law_453 rfl (lv_at hl 2 rfl) ?_
  refine c_Vi (As := []) (rest := [.int y9]) (w2 := fun _ => [oX q mc bn bl tr, oP (q 1) (q 2) (q 3) size ch, aN cA (q 2) 16 sets, aN cA (q 3) 8 amts, oG (q 4) (q 5) mc num, aN cA (q 5) 4 (mF num mc), oG (q 6) (q 7) tmc tn, aN cA (q 7) 4 tmem, oT (q 8) (q 9) tm t, aN cA (q 9) 7 hp, oR (q 10) (q 11) (q 12), aN cA (q 11) 16 tp, aN cA (q 12) 4 pl, oY (q 13) (q 14) (q 15) (q 16) ny cg, aN cA (q 14) 6 wt, aN cA (q 15) 4 co, aN cA (q 16) 4 nc, aN cA (q 17) 7 bo, aN cA (q 18) 7 pr, aN cA (q 19) 4 sh, aN cA (q 20) 4 sw, aN cA (q 21) 201 sv, oM q2 0 tr mc size num ny cg, aN cA (q2 1) 16 sets, aN cA (q2 2) 8 (bt ch), aN cA (q2 3) 8 amts, aN cA (q2 4) 7 bo, aN cA (q2 5) 7 pr, aN cA (q2 6) 4 sh, aN cA (q2 7) 6 wt, aN cA (q2 8) 7 hp, aR cA (q2 9) 4 (tel t), aN cA (q2 10) 201 mo, aN cA (q2 11) 4 pl2, aR cA (q2 12) 5 be, aN cA (q2 13) 4 co2, aN cA (q2 14) 4 nx]) E Z (k_X6_plain l D cA q2 tr mc size num ny cg (by first | assumption | omega) (by first | assumption | omega)) wv_L_56 ⟨rfl, rfl, Nat.le_of_ble_eq_true rfl, Nat.le_of_ble_eq_true rfl⟩ [22] rfl rfl rfl rfl (q0 := 0) rfl (fun _ => rfl) (fun _ => rfl) rfl hl.1 rfl (Nat.le_of_ble_eq_true rfl) dL_law_454 ⟨(Nat.le_of_ble_eq_true rfl), (Nat.le_of_ble_eq_true rfl)⟩ (fun r454 _ H locs hp454 Z => ?_)
  subst hp454
  refine lv_icmp_eq (tgt := 901) hx hb dL_law_457 (by decide) (fun c457 => ?_) (fun c457 => absurd ey9 c457)
  exact N901 _ _ _ _ _ _ _ _ _ _ _ _ _ _ _ _ _ _ _ _ _ _ _ _ _ _ _ _ _ _ _ _ ⟨hm1, hM, hp1, hP, hc2, hs, ha10, hnum, ht, hh, hny, hcg, hwt, hb100, hpr, hsh, hmo⟩ _ _ Z _ hl
set_option maxHeartbeats 4000000 in
set_option maxRecDepth 100000 in
theorem lc_like {p : Program} {l : Launch} {e : Env} {s : State} {m : MethodId} {below : List Frame} {meth : Method} {c : Code} {D : va_G} {cA : ClassId} {A : Nat → Prop} {b L : Nat} {xs : Nat → Int32} {Q : State → Prop} {q q2 : Nat → Nat} {i : Nat} (E : Ev p s m #[Value.ref b] c cL_law 4 RL D cA A) (hXs : XZ A s s.heap) (SC : va_X b L xs s s.heap ∧ b < s.heap.size ∧ ¬ A b) (hi : i + 5 ≤ L) (hL : L ≤ 2560) (N901 : LN p l e s m below meth c D cA A b Q q q2 i) {mc size ch num ny cg bn bl tmc tn tm : Nat} {sets amts hp wt bo pr sh tmem tp pl co nc sw sv mo pl2 co2 nx : Nat → Nat} {t : TS} {tr : Int64} {be : Nat → Int32} (hI : LInv mc size ch num ny cg sets amts hp wt bo pr sh mo t) {H : Heap} {locs : List Loc} (Z : Wd D A s (LW cA q q2 mc size ch num ny cg bn bl tmc tn tm sets amts hp wt bo pr sh tmem tp pl co nc sw sv mo pl2 co2 nx t tr be) H locs) {ls : Array Slot} (hl : lv_has ls 4 [(0, .ref b), (1, .ref (q 0)), (2, .ref (q2 0)), (3, .int (nI i))]) : W p l e room_1 s m #[Value.ref b] below meth c H locs 37 640 Q (F0 m 462 ls []) := by
  have hx := E.1.1
  have hb := E.1.2.1
  unfold LN LW at N901
  unfold LW at Z
  obtain ⟨hm1, hM, hp1, hP, hc2, hs, ha10, hnum, ht, hh, hny, hcg, hwt, hb100, hpr, hsh, hmo⟩ := hI
  have hch := ch256 hc2 hP
  have h20 := Nat.two_pow_pos mc
  have h202 := Nat.two_pow_pos (2 * mc)
  have h27 : 2 ^ mc ≤ 2 ^ 7 := Nat.pow_le_pow_right (by decide) hM
  have h14 : 2 ^ (2 * mc) ≤ 2 ^ 14 := Nat.pow_le_pow_right (by decide) (by omega)
  by_cases hC : (nI 0 ≤ xs (i + 1) ∧ xs (i + 1) ≤ nI (mc - 1)) ∧ (nI 0 ≤ xs (i + 2) ∧ xs (i + 2) ≤ nI (mc - 1)) ∧ (¬ xs (i + 1) = xs (i + 2)) ∧ (nI 0 ≤ xs (i + 3) ∧ xs (i + 3) ≤ nI 1)
  · obtain ⟨k1, hk10, hk11, ek1⟩ := in_nat (by omega) hC.1 (by decide)
    obtain ⟨k2, hk20, hk21, ek2⟩ := in_nat (by omega) hC.2.1 (by decide)
    obtain ⟨k3, hk30, hk31, ek3⟩ := in_nat (by decide) hC.2.2.2 (by decide)
    have hab : k1 ≠ k2 := fun h => hC.2.2.1 (by rw [ek1, ek2, h])
    refine lv_aload_n hx hb dL_law_462 rfl (lv_at hl 1 rfl) ?_
    refine lv_aload_n hx hb dL_law_463 rfl (lv_at hl 0 rfl) ?_
    refine lv_iload_n hx hb dL_law_464 rfl (lv_at hl 3 rfl) ?_
    refine lv_iconst (v := nI 1) hx hb dL_law_465 (by decide) ?_
    refine n_iadd hx hb dL_law_466 ?_
    refine r_sld E Z SC (by omega) hL dL_law_467 ?_
    refine r_top (y := nI k1) ek1 ?_
    refine lv_aload_n hx hb dL_law_468 rfl (lv_at hl 0 rfl) ?_
    refine lv_iload_n hx hb dL_law_469 rfl (lv_at hl 3 rfl) ?_
    refine lv_iconst (v := nI 2) hx hb dL_law_470 (by decide) ?_
    refine n_iadd hx hb dL_law_471 ?_
    refine r_sld E Z SC (by omega) hL dL_law_472 ?_
    refine r_top (y := nI k2) ek2 ?_
    refine lv_aload_n hx hb dL_law_473 rfl (lv_at hl 0 rfl) ?_
    refine lv_iload_n hx hb dL_law_474 rfl (lv_at hl 3 rfl) ?_
    refine lv_iconst (v := nI 3) hx hb dL_law_475 (by decide) ?_
    refine n_iadd hx hb dL_law_476 ?_
    refine r_sld E Z SC (by omega) hL dL_law_477 ?_
    refine r_top (y := nI k3) ek3 ?_
    refine c_Vi (As := [.int (nI k1), .int (nI k2), .int (nI k3)]) (rest := []) (w2 := fun _ => [oX q mc bn bl tr, oP (q 1) (q 2) (q 3) size ch, aN cA (q 2) 16 sets, aN cA (q 3) 8 amts, oG (q 4) (q 5) mc num, aN cA (q 5) 4 (mF num mc), oG (q 6) (q 7) tmc tn, aN cA (q 7) 4 tmem, oT (q 8) (q 9) tm t, aN cA (q 9) 7 hp, oR (q 10) (q 11) (q 12), aN cA (q 11) 16 tp, aN cA (q 12) 4 pl, oY (q 13) (q 14) (q 15) (q 16) ny cg, aN cA (q 14) 6 wt, aN cA (q 15) 4 co, aN cA (q 16) 4 nc, aN cA (q 17) 7 bo, aN cA (q 18) 7 pr, aN cA (q 19) 4 sh, aN cA (q 20) 4 sw, aN cA (q 21) 201 sv, oM q2 0 tr mc size num ny cg, aN cA (q2 1) 16 sets, aN cA (q2 2) 8 (bt ch), aN cA (q2 3) 8 amts, aN cA (q2 4) 7 bo, aN cA (q2 5) 7 pr, aN cA (q2 6) 4 sh, aN cA (q2 7) 6 wt, aN cA (q2 8) 7 hp, aR cA (q2 9) 4 (tel t), aN cA (q2 10) 201 mo, aN cA (q2 11) 4 pl2, aR cA (q2 12) 5 be, aN cA (q2 13) 4 co2, aN cA (q2 14) 4 nx]) E Z (k_X5_like l D cA q mc bn bl tr size ch sets k1 k2 k3 (by first | assumption | omega) (by first | assumption | omega) (by first | assumption | omega) (by first | assumption | omega) (by first | assumption | omega) (by first | assumption | omega) (by first | assumption | omega) (by first | assumption | omega) (by first | assumption | omega)) wv_L_57 ⟨rfl, rfl, Nat.le_of_ble_eq_true rfl, Nat.le_of_ble_eq_true rfl⟩ [0, 1, 2] rfl rfl rfl rfl (q0 := 0) rfl (fun _ => rfl) (fun _ => rfl) rfl hl.1 rfl (Nat.le_of_ble_eq_true rfl) dL_law_478 ⟨(Nat.le_of_ble_eq_true rfl), (Nat.le_of_ble_eq_true rfl)⟩ (fun r478 _ H locs hp478 Z => ?_)
    subst hp478
    refine lv_topi (fun y9 ey9 => ?_)
    refine lv_aload_n hx hb dL_law_481 rfl (lv_at hl 2 rfl) ?_
    refine lv_aload_n hx hb dL_law_482 rfl (lv_at hl 0 rfl) ?_
    refine lv_iload_n hx hb dL_law_483 rfl (lv_at hl 3 rfl) ?_
    refine lv_iconst (v := nI 1) hx hb dL_law_484 (by decide) ?_
    refine n_iadd hx hb dL_law_485 ?_
    refine r_sld E Z SC (by omega) hL dL_law_486 ?_
    refine r_top (y := nI k1) ek1 ?_
    refine lv_aload_n hx hb dL_law_487 rfl (lv_at hl 0 rfl) ?_
    refine lv_iload_n hx hb dL_law_488 rfl (lv_at hl 3 rfl) ?_
    refine lv_iconst (v := nI 2) hx hb dL_law_489 (by decide) ?_
    refine n_iadd hx hb dL_law_490 ?_
    refine r_sld E Z SC (by omega) hL dL_law_491 ?_
    refine r_top (y := nI k2) ek2 ?_
    refine lv_aload_n hx hb dL_law_492 rfl (lv_at hl 0 rfl) ?_
    refine lv_iload_n hx hb dL_law_493 rfl (lv_at hl 3 rfl) ?_
    refine lv_iconst (v := nI 3) hx hb dL_law_494 (by decide) ?_
    refine n_iadd hx hb dL_law_495 ?_
    refine r_sld E Z SC (by omega) hL dL_law_496 ?_
    refine r_top (y := nI k3) ek3 ?_
    refine c_Vi (As := [.int (nI k1), .int (nI k2), .int (nI k3)]) (rest := [.int y9]) (w2 := fun _ => [oX q mc bn bl tr, oP (q 1) (q 2) (q 3) size ch, aN cA (q 2) 16 sets, aN cA (q 3) 8 amts, oG (q 4) (q 5) mc num, aN cA (q 5) 4 (mF num mc), oG (q 6) (q 7) tmc tn, aN cA (q 7) 4 tmem, oT (q 8) (q 9) tm t, aN cA (q 9) 7 hp, oR (q 10) (q 11) (q 12), aN cA (q 11) 16 tp, aN cA (q 12) 4 pl, oY (q 13) (q 14) (q 15) (q 16) ny cg, aN cA (q 14) 6 wt, aN cA (q 15) 4 co, aN cA (q 16) 4 nc, aN cA (q 17) 7 bo, aN cA (q 18) 7 pr, aN cA (q 19) 4 sh, aN cA (q 20) 4 sw, aN cA (q 21) 201 sv, oM q2 0 tr mc size num ny cg, aN cA (q2 1) 16 sets, aN cA (q2 2) 8 (bt ch), aN cA (q2 3) 8 amts, aN cA (q2 4) 7 bo, aN cA (q2 5) 7 pr, aN cA (q2 6) 4 sh, aN cA (q2 7) 6 wt, aN cA (q2 8) 7 hp, aR cA (q2 9) 4 (tel t), aN cA (q2 10) 201 mo, aN cA (q2 11) 4 pl2, aR cA (q2 12) 5 be, aN cA (q2 13) 4 co2, aN cA (q2 14) 4 nx]) E Z (k_X6_like l D cA q2 tr mc size num ny cg sets ch k1 k2 k3 (by first | assumption | omega) (by first | assumption | omega) (by first | assumption | omega) (by first | assumption | omega) (by first | assumption | omega) (by first | assumption | omega) (by first | assumption | omega) (by first | assumption | omega)) wv_L_60 ⟨rfl, rfl, Nat.le_of_ble_eq_true rfl, Nat.le_of_ble_eq_true rfl⟩ [22, 23, 24] rfl rfl rfl rfl (q0 := 0) rfl (fun _ => rfl) (fun _ => rfl) rfl hl.1 rfl (Nat.le_of_ble_eq_true rfl) dL_law_497 ⟨(Nat.le_of_ble_eq_true rfl), (Nat.le_of_ble_eq_true rfl)⟩ (fun r497 _ H locs hp497 Z => ?_)
    subst hp497
    refine lv_icmp_eq (tgt := 901) hx hb dL_law_500 (by decide) (fun c500 => ?_) (fun c500 => absurd ey9 c500)
    exact N901 _ _ _ _ _ _ _ _ _ _ _ _ _ _ _ _ _ _ _ _ _ _ _ _ _ _ _ _ _ _ _ _ ⟨hm1, hM, hp1, hP, hc2, hs, ha10, hnum, ht, hh, hny, hcg, hwt, hb100, hpr, hsh, hmo⟩ _ _ Z _ hl
  · have hC2 := hC
    refine lv_aload_n hx hb dL_law_462 rfl (lv_at hl 1 rfl) ?_
    refine lv_aload_n hx hb dL_law_463 rfl (lv_at hl 0 rfl) ?_
    refine lv_iload_n hx hb dL_law_464 rfl (lv_at hl 3 rfl) ?_
    refine lv_iconst (v := nI 1) hx hb dL_law_465 (by decide) ?_
    refine n_iadd hx hb dL_law_466 ?_
    refine r_sld E Z SC (by omega) hL dL_law_467 ?_
    refine lv_aload_n hx hb dL_law_468 rfl (lv_at hl 0 rfl) ?_
    refine lv_iload_n hx hb dL_law_469 rfl (lv_at hl 3 rfl) ?_
    refine lv_iconst (v := nI 2) hx hb dL_law_470 (by decide) ?_
    refine n_iadd hx hb dL_law_471 ?_
    refine r_sld E Z SC (by omega) hL dL_law_472 ?_
    refine lv_aload_n hx hb dL_law_473 rfl (lv_at hl 0 rfl) ?_
    refine lv_iload_n hx hb dL_law_474 rfl (lv_at hl 3 rfl) ?_
    refine lv_iconst (v := nI 3) hx hb dL_law_475 (by decide) ?_
    refine n_iadd hx hb dL_law_476 ?_
    refine r_sld E Z SC (by omega) hL dL_law_477 ?_
    refine c_Vi (As := [.int (xs (i + 1)), .int (xs (i + 2)), .int (xs (i + 3))]) (rest := []) (w2 := fun _ => [oX q mc bn bl tr, oP (q 1) (q 2) (q 3) size ch, aN cA (q 2) 16 sets, aN cA (q 3) 8 amts, oG (q 4) (q 5) mc num, aN cA (q 5) 4 (mF num mc), oG (q 6) (q 7) tmc tn, aN cA (q 7) 4 tmem, oT (q 8) (q 9) tm t, aN cA (q 9) 7 hp, oR (q 10) (q 11) (q 12), aN cA (q 11) 16 tp, aN cA (q 12) 4 pl, oY (q 13) (q 14) (q 15) (q 16) ny cg, aN cA (q 14) 6 wt, aN cA (q 15) 4 co, aN cA (q 16) 4 nc, aN cA (q 17) 7 bo, aN cA (q 18) 7 pr, aN cA (q 19) 4 sh, aN cA (q 20) 4 sw, aN cA (q 21) 201 sv, oM q2 0 tr mc size num ny cg, aN cA (q2 1) 16 sets, aN cA (q2 2) 8 (bt ch), aN cA (q2 3) 8 amts, aN cA (q2 4) 7 bo, aN cA (q2 5) 7 pr, aN cA (q2 6) 4 sh, aN cA (q2 7) 6 wt, aN cA (q2 8) 7 hp, aR cA (q2 9) 4 (tel t), aN cA (q2 10) 201 mo, aN cA (q2 11) 4 pl2, aR cA (q2 12) 5 be, aN cA (q2 13) 4 co2, aN cA (q2 14) 4 nx]) E Z (k_X5_like_bad l D cA q mc bn bl tr (xs (i + 1)) (xs (i + 2)) (xs (i + 3)) (by first | assumption | omega) (by first | assumption | omega)) wv_L_57 ⟨rfl, rfl, Nat.le_of_ble_eq_true rfl, Nat.le_of_ble_eq_true rfl⟩ [0] rfl rfl rfl rfl (q0 := 0) rfl (fun _ => rfl) (fun _ => rfl) rfl hl.1 rfl (Nat.le_of_ble_eq_true rfl) dL_law_478 ⟨(Nat.le_of_ble_eq_true rfl), (Nat.le_of_ble_eq_true rfl)⟩ (fun r478 _ H locs hp478 Z => ?_)
    subst hp478
    refine lv_topi (fun y9 ey9 => ?_)
    refine lv_aload_n hx hb dL_law_481 rfl (lv_at hl 2 rfl) ?_
    refine lv_aload_n hx hb dL_law_482 rfl (lv_at hl 0 rfl) ?_
    refine lv_iload_n hx hb dL_law_483 rfl (lv_at hl 3 rfl) ?_
    refine lv_iconst (v := nI 1) hx hb dL_law_484 (by decide) ?_
    refine n_iadd hx hb dL_law_485 ?_
    refine r_sld E Z SC (by omega) hL dL_law_486 ?_
    refine lv_aload_n hx hb dL_law_487 rfl (lv_at hl 0 rfl) ?_
    refine lv_iload_n hx hb dL_law_488 rfl (lv_at hl 3 rfl) ?_
    refine lv_iconst (v := nI 2) hx hb dL_law_489 (by decide) ?_
    refine n_iadd hx hb dL_law_490 ?_
    refine r_sld E Z SC (by omega) hL dL_law_491 ?_
    refine lv_aload_n hx hb dL_law_492 rfl (lv_at hl 0 rfl) ?_
    refine lv_iload_n hx hb dL_law_493 rfl (lv_at hl 3 rfl) ?_
    refine lv_iconst (v := nI 3) hx hb dL_law_494 (by decide) ?_
    refine n_iadd hx hb dL_law_495 ?_
    refine r_sld E Z SC (by omega) hL dL_law_496 ?_
    refine c_Vi (As := [.int (xs (i + 1)), .int (xs (i + 2)), .int (xs (i + 3))]) (rest := [.int y9]) (w2 := fun _ => [oX q mc bn bl tr, oP (q 1) (q 2) (q 3) size ch, aN cA (q 2) 16 sets, aN cA (q 3) 8 amts, oG (q 4) (q 5) mc num, aN cA (q 5) 4 (mF num mc), oG (q 6) (q 7) tmc tn, aN cA (q 7) 4 tmem, oT (q 8) (q 9) tm t, aN cA (q 9) 7 hp, oR (q 10) (q 11) (q 12), aN cA (q 11) 16 tp, aN cA (q 12) 4 pl, oY (q 13) (q 14) (q 15) (q 16) ny cg, aN cA (q 14) 6 wt, aN cA (q 15) 4 co, aN cA (q 16) 4 nc, aN cA (q 17) 7 bo, aN cA (q 18) 7 pr, aN cA (q 19) 4 sh, aN cA (q 20) 4 sw, aN cA (q 21) 201 sv, oM q2 0 tr mc size num ny cg, aN cA (q2 1) 16 sets, aN cA (q2 2) 8 (bt ch), aN cA (q2 3) 8 amts, aN cA (q2 4) 7 bo, aN cA (q2 5) 7 pr, aN cA (q2 6) 4 sh, aN cA (q2 7) 6 wt, aN cA (q2 8) 7 hp, aR cA (q2 9) 4 (tel t), aN cA (q2 10) 201 mo, aN cA (q2 11) 4 pl2, aR cA (q2 12) 5 be, aN cA (q2 13) 4 co2, aN cA (q2 14) 4 nx]) E Z (k_X6_like_bad l D cA q2 tr mc size num ny cg (xs (i + 1)) (xs (i + 2)) (xs (i + 3)) (by first | assumption | omega) (by first | assumption | omega)) wv_L_60 ⟨rfl, rfl, Nat.le_of_ble_eq_true rfl, Nat.le_of_ble_eq_true rfl⟩ [22] rfl rfl rfl rfl (q0 := 0) rfl (fun _ => rfl) (fun _ => rfl) rfl hl.1 rfl (Nat.le_of_ble_eq_true rfl) dL_law_497 ⟨(Nat.le_of_ble_eq_true rfl), (Nat.le_of_ble_eq_true rfl)⟩ (fun r497 _ H locs hp497 Z => ?_)
    subst hp497
    refine lv_icmp_eq (tgt := 901) hx hb dL_law_500 (by decide) (fun c500 => ?_) (fun c500 => absurd ey9 c500)
    exact N901 _ _ _ _ _ _ _ _ _ _ _ _ _ _ _ _ _ _ _ _ _ _ _ _ _ _ _ _ _ _ _ _ ⟨hm1, hM, hp1, hP, hc2, hs, ha10, hnum, ht, hh, hny, hcg, hwt, hb100, hpr, hsh, hmo⟩ _ _ Z _ hl
set_option maxHeartbeats 4000000 in
set_option maxRecDepth 100000 in
theorem lc_join {p : Program} {l : Launch} {e : Env} {s : State} {m : MethodId} {below : List Frame} {meth : Method} {c : Code} {D : va_G} {cA : ClassId} {A : Nat → Prop} {b L : Nat} {xs : Nat → Int32} {Q : State → Prop} {q q2 : Nat → Nat} {i : Nat} (E : Ev p s m #[Value.ref b] c cL_law 4 RL D cA A) (hXs : XZ A s s.heap) (SC : va_X b L xs s s.heap ∧ b < s.heap.size ∧ ¬ A b) (hi : i + 5 ≤ L) (hL : L ≤ 2560) (N901 : LN p l e s m below meth c D cA A b Q q q2 i) {mc size ch num ny cg bn bl tmc tn tm : Nat} {sets amts hp wt bo pr sh tmem tp pl co nc sw sv mo pl2 co2 nx : Nat → Nat} {t : TS} {tr : Int64} {be : Nat → Int32} (hI : LInv mc size ch num ny cg sets amts hp wt bo pr sh mo t) {H : Heap} {locs : List Loc} (Z : Wd D A s (LW cA q q2 mc size ch num ny cg bn bl tmc tn tm sets amts hp wt bo pr sh tmem tp pl co nc sw sv mo pl2 co2 nx t tr be) H locs) {ls : Array Slot} (hl : lv_has ls 4 [(0, .ref b), (1, .ref (q 0)), (2, .ref (q2 0)), (3, .int (nI i))]) : W p l e room_1 s m #[Value.ref b] below meth c H locs 37 640 Q (F0 m 505 ls []) := by
  have hx := E.1.1
  have hb := E.1.2.1
  unfold LN LW at N901
  unfold LW at Z
  obtain ⟨hm1, hM, hp1, hP, hc2, hs, ha10, hnum, ht, hh, hny, hcg, hwt, hb100, hpr, hsh, hmo⟩ := hI
  have hch := ch256 hc2 hP
  have h20 := Nat.two_pow_pos mc
  have h202 := Nat.two_pow_pos (2 * mc)
  have h27 : 2 ^ mc ≤ 2 ^ 7 := Nat.pow_le_pow_right (by decide) hM
  have h14 : 2 ^ (2 * mc) ≤ 2 ^ 14 := Nat.pow_le_pow_right (by decide) (by omega)
  by_cases hC : (nI 0 ≤ xs (i + 1) ∧ xs (i + 1) ≤ nI mc - nI 2) ∧ (nI 0 ≤ xs (i + 2) ∧ xs (i + 2) ≤ nI 3)
  · have hmc2 : 2 ≤ mc := by
      rcases Nat.lt_or_ge mc 2 with hz | hz
      · exfalso
        have h1 := Int32.le_iff_toInt_le.mp (Int32.le_trans hC.1.1 hC.1.2)
        rw [nI_toInt (by decide), pk_sub_toInt (by omega) (by decide)] at h1
        omega
      · exact hz
    have hC1 := hC.1
    rw [pk_sub hmc2] at hC1
    obtain ⟨k1, hk10, hk11, ek1⟩ := in_nat (by omega) hC1 (by decide)
    obtain ⟨k2, hk20, hk21, ek2⟩ := in_nat (by decide) hC.2 (by decide)
    have ej := (E_join (M := mc) (P := size) (sets := sets) (ch := ch) (hp := hp) (t := t) hP (k1 + 1) (by omega)).1
    have hok := gj_ok (P := size) (sets := sets) (ch := ch) mc ht (hin_lt hh mc (by omega)) (k1 + 1)
    refine lv_aload_n hx hb dL_law_505 rfl (lv_at hl 1 rfl) ?_
    refine lv_aload_n hx hb dL_law_506 rfl (lv_at hl 0 rfl) ?_
    refine lv_iload_n hx hb dL_law_507 rfl (lv_at hl 3 rfl) ?_
    refine lv_iconst (v := nI 1) hx hb dL_law_508 (by decide) ?_
    refine n_iadd hx hb dL_law_509 ?_
    refine r_sld E Z SC (by omega) hL dL_law_510 ?_
    refine r_top (y := nI k1) ek1 ?_
    refine lv_aload_n hx hb dL_law_511 rfl (lv_at hl 0 rfl) ?_
    refine lv_iload_n hx hb dL_law_512 rfl (lv_at hl 3 rfl) ?_
    refine lv_iconst (v := nI 2) hx hb dL_law_513 (by decide) ?_
    refine n_iadd hx hb dL_law_514 ?_
    refine r_sld E Z SC (by omega) hL dL_law_515 ?_
    refine r_top (y := nI k2) ek2 ?_
    refine c_Vi (As := [.int (nI k1), .int (nI k2)]) (rest := []) (w2 := fun _ => [oX q mc bn bl tr, oP (q 1) (q 2) (q 3) size ch, aN cA (q 2) 16 sets, aN cA (q 3) 8 amts, oG (q 4) (q 5) mc num, aN cA (q 5) 4 (mF num mc), oG (q 6) (q 7) tmc tn, aN cA (q 7) 4 tmem, oT (q 8) (q 9) mc ((gj size sets ch mc (hin hp mc) t (k1 + 1)).2), aN cA (q 9) 7 ((gj size sets ch mc (hin hp mc) t (k1 + 1)).1), oR (q 10) (q 11) (q 12), aN cA (q 11) 16 tp, aN cA (q 12) 4 pl, oY (q 13) (q 14) (q 15) (q 16) ny cg, aN cA (q 14) 6 wt, aN cA (q 15) 4 co, aN cA (q 16) 4 nc, aN cA (q 17) 7 bo, aN cA (q 18) 7 pr, aN cA (q 19) 4 sh, aN cA (q 20) 4 sw, aN cA (q 21) 201 sv, oM q2 0 tr mc size num ny cg, aN cA (q2 1) 16 sets, aN cA (q2 2) 8 (bt ch), aN cA (q2 3) 8 amts, aN cA (q2 4) 7 bo, aN cA (q2 5) 7 pr, aN cA (q2 6) 4 sh, aN cA (q2 7) 6 wt, aN cA (q2 8) 7 hp, aR cA (q2 9) 4 (tel t), aN cA (q2 10) 201 mo, aN cA (q2 11) 4 pl2, aR cA (q2 12) 5 be, aN cA (q2 13) 4 co2, aN cA (q2 14) 4 nx]) E Z (k_X5_join l D cA q mc bn bl tr size ch sets tm t hp k1 k2 (by first | assumption | omega) (by first | assumption | omega) (by first | assumption | omega) (by first | assumption | omega) (by first | assumption | omega) (by first | assumption | omega) (by first | assumption | omega) (by first | assumption | omega)) wv_L_61 ⟨rfl, rfl, Nat.le_of_ble_eq_true rfl, Nat.le_of_ble_eq_true rfl⟩ [0, 1, 2, 8, 9] rfl rfl rfl rfl (q0 := 0) rfl (fun _ => rfl) (fun _ => rfl) rfl hl.1 rfl (Nat.le_of_ble_eq_true rfl) dL_law_516 ⟨(Nat.le_of_ble_eq_true rfl), (Nat.le_of_ble_eq_true rfl)⟩ (fun r516 _ H locs hp516 Z => ?_)
    subst hp516
    refine lv_topi (fun y9 ey9 => ?_)
    refine lv_aload_n hx hb dL_law_519 rfl (lv_at hl 2 rfl) ?_
    refine lv_aload_n hx hb dL_law_520 rfl (lv_at hl 0 rfl) ?_
    refine lv_iload_n hx hb dL_law_521 rfl (lv_at hl 3 rfl) ?_
    refine lv_iconst (v := nI 1) hx hb dL_law_522 (by decide) ?_
    refine n_iadd hx hb dL_law_523 ?_
    refine r_sld E Z SC (by omega) hL dL_law_524 ?_
    refine r_top (y := nI k1) ek1 ?_
    refine lv_aload_n hx hb dL_law_525 rfl (lv_at hl 0 rfl) ?_
    refine lv_iload_n hx hb dL_law_526 rfl (lv_at hl 3 rfl) ?_
    refine lv_iconst (v := nI 2) hx hb dL_law_527 (by decide) ?_
    refine n_iadd hx hb dL_law_528 ?_
    refine r_sld E Z SC (by omega) hL dL_law_529 ?_
    refine r_top (y := nI k2) ek2 ?_
    refine c_Vi (As := [.int (nI k1), .int (nI k2)]) (rest := [.int y9]) (w2 := fun _ => [oX q mc bn bl tr, oP (q 1) (q 2) (q 3) size ch, aN cA (q 2) 16 sets, aN cA (q 3) 8 amts, oG (q 4) (q 5) mc num, aN cA (q 5) 4 (mF num mc), oG (q 6) (q 7) tmc tn, aN cA (q 7) 4 tmem, oT (q 8) (q 9) mc ((gj size sets ch mc (hin hp mc) t (k1 + 1)).2), aN cA (q 9) 7 ((gj size sets ch mc (hin hp mc) t (k1 + 1)).1), oR (q 10) (q 11) (q 12), aN cA (q 11) 16 tp, aN cA (q 12) 4 pl, oY (q 13) (q 14) (q 15) (q 16) ny cg, aN cA (q 14) 6 wt, aN cA (q 15) 4 co, aN cA (q 16) 4 nc, aN cA (q 17) 7 bo, aN cA (q 18) 7 pr, aN cA (q 19) 4 sh, aN cA (q 20) 4 sw, aN cA (q 21) 201 sv, oM q2 0 tr mc size num ny cg, aN cA (q2 1) 16 sets, aN cA (q2 2) 8 (bt ch), aN cA (q2 3) 8 amts, aN cA (q2 4) 7 bo, aN cA (q2 5) 7 pr, aN cA (q2 6) 4 sh, aN cA (q2 7) 6 wt, aN cA (q2 8) 7 ((gm size sets ch mc (hin hp mc) t (k1 + 1)).1), aR cA (q2 9) 4 (tel (gm size sets ch mc (hin hp mc) t (k1 + 1)).2), aN cA (q2 10) 201 mo, aN cA (q2 11) 4 pl2, aR cA (q2 12) 5 be, aN cA (q2 13) 4 co2, aN cA (q2 14) 4 nx]) E Z (k_X6_join l D cA q2 tr mc size num ny cg sets ch hp t k1 k2 (by first | assumption | omega) (by first | assumption | omega) (by first | assumption | omega) (by first | assumption | omega) (by first | assumption | omega) (by first | assumption | omega) (by first | assumption | omega)) wv_L_64 ⟨rfl, rfl, Nat.le_of_ble_eq_true rfl, Nat.le_of_ble_eq_true rfl⟩ [22, 23, 24, 30, 31] rfl rfl rfl rfl (q0 := 0) rfl (fun _ => rfl) (fun _ => rfl) rfl hl.1 rfl (Nat.le_of_ble_eq_true rfl) dL_law_530 ⟨(Nat.le_of_ble_eq_true rfl), (Nat.le_of_ble_eq_true rfl)⟩ (fun r530 _ H locs hp530 Z => ?_)
    subst hp530
    refine lv_icmp_eq (tgt := 901) hx hb dL_law_533 (by decide) (fun c533 => ?_) (fun c533 => absurd (ey9.trans (by rw [ej])) c533)
    rw [← ej] at Z
    exact N901 _ _ _ _ _ _ _ _ _ _ _ _ _ _ _ _ _ _ _ _ _ _ _ _ _ _ _ _ _ _ _ _ ⟨hm1, hM, hp1, hP, hc2, hs, ha10, hnum, hok.2, hok.1, hny, hcg, hwt, hb100, hpr, hsh, hmo⟩ _ _ Z _ hl
  · have hC2 := hC
    refine lv_aload_n hx hb dL_law_505 rfl (lv_at hl 1 rfl) ?_
    refine lv_aload_n hx hb dL_law_506 rfl (lv_at hl 0 rfl) ?_
    refine lv_iload_n hx hb dL_law_507 rfl (lv_at hl 3 rfl) ?_
    refine lv_iconst (v := nI 1) hx hb dL_law_508 (by decide) ?_
    refine n_iadd hx hb dL_law_509 ?_
    refine r_sld E Z SC (by omega) hL dL_law_510 ?_
    refine lv_aload_n hx hb dL_law_511 rfl (lv_at hl 0 rfl) ?_
    refine lv_iload_n hx hb dL_law_512 rfl (lv_at hl 3 rfl) ?_
    refine lv_iconst (v := nI 2) hx hb dL_law_513 (by decide) ?_
    refine n_iadd hx hb dL_law_514 ?_
    refine r_sld E Z SC (by omega) hL dL_law_515 ?_
    refine c_Vi (As := [.int (xs (i + 1)), .int (xs (i + 2))]) (rest := []) (w2 := fun _ => [oX q mc bn bl tr, oP (q 1) (q 2) (q 3) size ch, aN cA (q 2) 16 sets, aN cA (q 3) 8 amts, oG (q 4) (q 5) mc num, aN cA (q 5) 4 (mF num mc), oG (q 6) (q 7) tmc tn, aN cA (q 7) 4 tmem, oT (q 8) (q 9) tm t, aN cA (q 9) 7 hp, oR (q 10) (q 11) (q 12), aN cA (q 11) 16 tp, aN cA (q 12) 4 pl, oY (q 13) (q 14) (q 15) (q 16) ny cg, aN cA (q 14) 6 wt, aN cA (q 15) 4 co, aN cA (q 16) 4 nc, aN cA (q 17) 7 bo, aN cA (q 18) 7 pr, aN cA (q 19) 4 sh, aN cA (q 20) 4 sw, aN cA (q 21) 201 sv, oM q2 0 tr mc size num ny cg, aN cA (q2 1) 16 sets, aN cA (q2 2) 8 (bt ch), aN cA (q2 3) 8 amts, aN cA (q2 4) 7 bo, aN cA (q2 5) 7 pr, aN cA (q2 6) 4 sh, aN cA (q2 7) 6 wt, aN cA (q2 8) 7 hp, aR cA (q2 9) 4 (tel t), aN cA (q2 10) 201 mo, aN cA (q2 11) 4 pl2, aR cA (q2 12) 5 be, aN cA (q2 13) 4 co2, aN cA (q2 14) 4 nx]) E Z (k_X5_join_bad l D cA q mc bn bl tr (xs (i + 1)) (xs (i + 2)) (by first | assumption | omega)) wv_L_61 ⟨rfl, rfl, Nat.le_of_ble_eq_true rfl, Nat.le_of_ble_eq_true rfl⟩ [0] rfl rfl rfl rfl (q0 := 0) rfl (fun _ => rfl) (fun _ => rfl) rfl hl.1 rfl (Nat.le_of_ble_eq_true rfl) dL_law_516 ⟨(Nat.le_of_ble_eq_true rfl), (Nat.le_of_ble_eq_true rfl)⟩ (fun r516 _ H locs hp516 Z => ?_)
    subst hp516
    refine lv_topi (fun y9 ey9 => ?_)
    refine lv_aload_n hx hb dL_law_519 rfl (lv_at hl 2 rfl) ?_
    refine lv_aload_n hx hb dL_law_520 rfl (lv_at hl 0 rfl) ?_
    refine lv_iload_n hx hb dL_law_521 rfl (lv_at hl 3 rfl) ?_
    refine lv_iconst (v := nI 1) hx hb dL_law_522 (by decide) ?_
    refine n_iadd hx hb dL_law_523 ?_
    refine r_sld E Z SC (by omega) hL dL_law_524 ?_
    refine lv_aload_n hx hb dL_law_525 rfl (lv_at hl 0 rfl) ?_
    refine lv_iload_n hx hb dL_law_526 rfl (lv_at hl 3 rfl) ?_
    refine lv_iconst (v := nI 2) hx hb dL_law_527 (by decide) ?_
    refine n_iadd hx hb dL_law_528 ?_
    refine r_sld E Z SC (by omega) hL dL_law_529 ?_
    refine c_Vi (As := [.int (xs (i + 1)), .int (xs (i + 2))]) (rest := [.int y9]) (w2 := fun _ => [oX q mc bn bl tr, oP (q 1) (q 2) (q 3) size ch, aN cA (q 2) 16 sets, aN cA (q 3) 8 amts, oG (q 4) (q 5) mc num, aN cA (q 5) 4 (mF num mc), oG (q 6) (q 7) tmc tn, aN cA (q 7) 4 tmem, oT (q 8) (q 9) tm t, aN cA (q 9) 7 hp, oR (q 10) (q 11) (q 12), aN cA (q 11) 16 tp, aN cA (q 12) 4 pl, oY (q 13) (q 14) (q 15) (q 16) ny cg, aN cA (q 14) 6 wt, aN cA (q 15) 4 co, aN cA (q 16) 4 nc, aN cA (q 17) 7 bo, aN cA (q 18) 7 pr, aN cA (q 19) 4 sh, aN cA (q 20) 4 sw, aN cA (q 21) 201 sv, oM q2 0 tr mc size num ny cg, aN cA (q2 1) 16 sets, aN cA (q2 2) 8 (bt ch), aN cA (q2 3) 8 amts, aN cA (q2 4) 7 bo, aN cA (q2 5) 7 pr, aN cA (q2 6) 4 sh, aN cA (q2 7) 6 wt, aN cA (q2 8) 7 hp, aR cA (q2 9) 4 (tel t), aN cA (q2 10) 201 mo, aN cA (q2 11) 4 pl2, aR cA (q2 12) 5 be, aN cA (q2 13) 4 co2, aN cA (q2 14) 4 nx]) E Z (k_X6_join_bad l D cA q2 tr mc size num ny cg (xs (i + 1)) (xs (i + 2)) (by first | assumption | omega)) wv_L_64 ⟨rfl, rfl, Nat.le_of_ble_eq_true rfl, Nat.le_of_ble_eq_true rfl⟩ [22] rfl rfl rfl rfl (q0 := 0) rfl (fun _ => rfl) (fun _ => rfl) rfl hl.1 rfl (Nat.le_of_ble_eq_true rfl) dL_law_530 ⟨(Nat.le_of_ble_eq_true rfl), (Nat.le_of_ble_eq_true rfl)⟩ (fun r530 _ H locs hp530 Z => ?_)
    subst hp530
    refine lv_icmp_eq (tgt := 901) hx hb dL_law_533 (by decide) (fun c533 => ?_) (fun c533 => absurd ey9 c533)
    exact N901 _ _ _ _ _ _ _ _ _ _ _ _ _ _ _ _ _ _ _ _ _ _ _ _ _ _ _ _ _ _ _ _ ⟨hm1, hM, hp1, hP, hc2, hs, ha10, hnum, ht, hh, hny, hcg, hwt, hb100, hpr, hsh, hmo⟩ _ _ Z _ hl
set_option maxHeartbeats 4000000 in
set_option maxRecDepth 100000 in
theorem lc_bears {p : Program} {l : Launch} {e : Env} {s : State} {m : MethodId} {below : List Frame} {meth : Method} {c : Code} {D : va_G} {cA : ClassId} {A : Nat → Prop} {b L : Nat} {xs : Nat → Int32} {Q : State → Prop} {q q2 : Nat → Nat} {i : Nat} (E : Ev p s m #[Value.ref b] c cL_law 4 RL D cA A) (hXs : XZ A s s.heap) (SC : va_X b L xs s s.heap ∧ b < s.heap.size ∧ ¬ A b) (hi : i + 5 ≤ L) (hL : L ≤ 2560) (N901 : LN p l e s m below meth c D cA A b Q q q2 i) {mc size ch num ny cg bn bl tmc tn tm : Nat} {sets amts hp wt bo pr sh tmem tp pl co nc sw sv mo pl2 co2 nx : Nat → Nat} {t : TS} {tr : Int64} {be : Nat → Int32} (hI : LInv mc size ch num ny cg sets amts hp wt bo pr sh mo t) {H : Heap} {locs : List Loc} (Z : Wd D A s (LW cA q q2 mc size ch num ny cg bn bl tmc tn tm sets amts hp wt bo pr sh tmem tp pl co nc sw sv mo pl2 co2 nx t tr be) H locs) {ls : Array Slot} (hl : lv_has ls 4 [(0, .ref b), (1, .ref (q 0)), (2, .ref (q2 0)), (3, .int (nI i))]) : W p l e room_1 s m #[Value.ref b] below meth c H locs 37 640 Q (F0 m 538 ls []) := by
  have hx := E.1.1
  have hb := E.1.2.1
  unfold LN LW at N901
  unfold LW at Z
  obtain ⟨hm1, hM, hp1, hP, hc2, hs, ha10, hnum, ht, hh, hny, hcg, hwt, hb100, hpr, hsh, hmo⟩ := hI
  have hch := ch256 hc2 hP
  have h20 := Nat.two_pow_pos mc
  have h202 := Nat.two_pow_pos (2 * mc)
  have h27 : 2 ^ mc ≤ 2 ^ 7 := Nat.pow_le_pow_right (by decide) hM
  have h14 : 2 ^ (2 * mc) ≤ 2 ^ 14 := Nat.pow_le_pow_right (by decide) (by omega)
  by_cases hC : (nI 0 ≤ xs (i + 1) ∧ xs (i + 1) ≤ nI (mc - 1)) ∧ (nI 0 ≤ xs (i + 2) ∧ xs (i + 2) ≤ nI 99)
  · obtain ⟨k1, hk10, hk11, ek1⟩ := in_nat (by omega) hC.1 (by decide)
    obtain ⟨k2, hk20, hk21, ek2⟩ := in_nat (by decide) hC.2 (by decide)
    refine lv_aload_n hx hb dL_law_538 rfl (lv_at hl 1 rfl) ?_
    refine lv_aload_n hx hb dL_law_539 rfl (lv_at hl 0 rfl) ?_
    refine lv_iload_n hx hb dL_law_540 rfl (lv_at hl 3 rfl) ?_
    refine lv_iconst (v := nI 1) hx hb dL_law_541 (by decide) ?_
    refine n_iadd hx hb dL_law_542 ?_
    refine r_sld E Z SC (by omega) hL dL_law_543 ?_
    refine r_top (y := nI k1) ek1 ?_
    refine lv_aload_n hx hb dL_law_544 rfl (lv_at hl 0 rfl) ?_
    refine lv_iload_n hx hb dL_law_545 rfl (lv_at hl 3 rfl) ?_
    refine lv_iconst (v := nI 2) hx hb dL_law_546 (by decide) ?_
    refine n_iadd hx hb dL_law_547 ?_
    refine r_sld E Z SC (by omega) hL dL_law_548 ?_
    refine r_top (y := nI k2) ek2 ?_
    refine c_Vi (As := [.int (nI k1), .int (nI k2)]) (rest := []) (w2 := fun _ => [oX q mc bn bl tr, oP (q 1) (q 2) (q 3) size ch, aN cA (q 2) 16 sets, aN cA (q 3) 8 amts, oG (q 4) (q 5) mc num, aN cA (q 5) 4 (mF num mc), oG (q 6) (q 7) tmc tn, aN cA (q 7) 4 tmem, oT (q 8) (q 9) tm t, aN cA (q 9) 7 hp, oR (q 10) (q 11) (q 12), aN cA (q 11) 16 tp, aN cA (q 12) 4 pl, oY (q 13) (q 14) (q 15) (q 16) ny cg, aN cA (q 14) 6 wt, aN cA (q 15) 4 co, aN cA (q 16) 4 nc, aN cA (q 17) 7 (up bo k1 k2), aN cA (q 18) 7 pr, aN cA (q 19) 4 sh, aN cA (q 20) 4 sw, aN cA (q 21) 201 sv, oM q2 0 tr mc size num ny cg, aN cA (q2 1) 16 sets, aN cA (q2 2) 8 (bt ch), aN cA (q2 3) 8 amts, aN cA (q2 4) 7 bo, aN cA (q2 5) 7 pr, aN cA (q2 6) 4 sh, aN cA (q2 7) 6 wt, aN cA (q2 8) 7 hp, aR cA (q2 9) 4 (tel t), aN cA (q2 10) 201 mo, aN cA (q2 11) 4 pl2, aR cA (q2 12) 5 be, aN cA (q2 13) 4 co2, aN cA (q2 14) 4 nx]) E Z (k_X5_bears l D cA q mc bn bl tr bo k1 k2 (by first | assumption | omega) (by first | assumption | omega) (by first | assumption | omega) (by first | assumption | omega)) wv_L_65 ⟨rfl, rfl, Nat.le_of_ble_eq_true rfl, Nat.le_of_ble_eq_true rfl⟩ [0, 17] rfl rfl rfl rfl (q0 := 0) rfl (fun _ => rfl) (fun _ => rfl) rfl hl.1 rfl (Nat.le_of_ble_eq_true rfl) dL_law_549 ⟨(Nat.le_of_ble_eq_true rfl), (Nat.le_of_ble_eq_true rfl)⟩ (fun r549 _ H locs hp549 Z => ?_)
    subst hp549
    refine lv_topi (fun y9 ey9 => ?_)
    refine lv_aload_n hx hb dL_law_552 rfl (lv_at hl 2 rfl) ?_
    refine lv_aload_n hx hb dL_law_553 rfl (lv_at hl 0 rfl) ?_
    refine lv_iload_n hx hb dL_law_554 rfl (lv_at hl 3 rfl) ?_
    refine lv_iconst (v := nI 1) hx hb dL_law_555 (by decide) ?_
    refine n_iadd hx hb dL_law_556 ?_
    refine r_sld E Z SC (by omega) hL dL_law_557 ?_
    refine r_top (y := nI k1) ek1 ?_
    refine lv_aload_n hx hb dL_law_558 rfl (lv_at hl 0 rfl) ?_
    refine lv_iload_n hx hb dL_law_559 rfl (lv_at hl 3 rfl) ?_
    refine lv_iconst (v := nI 2) hx hb dL_law_560 (by decide) ?_
    refine n_iadd hx hb dL_law_561 ?_
    refine r_sld E Z SC (by omega) hL dL_law_562 ?_
    refine r_top (y := nI k2) ek2 ?_
    refine c_Vi (As := [.int (nI k1), .int (nI k2)]) (rest := [.int y9]) (w2 := fun _ => [oX q mc bn bl tr, oP (q 1) (q 2) (q 3) size ch, aN cA (q 2) 16 sets, aN cA (q 3) 8 amts, oG (q 4) (q 5) mc num, aN cA (q 5) 4 (mF num mc), oG (q 6) (q 7) tmc tn, aN cA (q 7) 4 tmem, oT (q 8) (q 9) tm t, aN cA (q 9) 7 hp, oR (q 10) (q 11) (q 12), aN cA (q 11) 16 tp, aN cA (q 12) 4 pl, oY (q 13) (q 14) (q 15) (q 16) ny cg, aN cA (q 14) 6 wt, aN cA (q 15) 4 co, aN cA (q 16) 4 nc, aN cA (q 17) 7 (up bo k1 k2), aN cA (q 18) 7 pr, aN cA (q 19) 4 sh, aN cA (q 20) 4 sw, aN cA (q 21) 201 sv, oM q2 0 tr mc size num ny cg, aN cA (q2 1) 16 sets, aN cA (q2 2) 8 (bt ch), aN cA (q2 3) 8 amts, aN cA (q2 4) 7 (up bo k1 k2), aN cA (q2 5) 7 pr, aN cA (q2 6) 4 sh, aN cA (q2 7) 6 wt, aN cA (q2 8) 7 hp, aR cA (q2 9) 4 (tel t), aN cA (q2 10) 201 mo, aN cA (q2 11) 4 pl2, aR cA (q2 12) 5 be, aN cA (q2 13) 4 co2, aN cA (q2 14) 4 nx]) E Z (k_X6_bears l D cA q2 tr mc size num ny cg bo k1 k2 (by first | assumption | omega) (by first | assumption | omega) (by first | assumption | omega) (by first | assumption | omega)) wv_L_68 ⟨rfl, rfl, Nat.le_of_ble_eq_true rfl, Nat.le_of_ble_eq_true rfl⟩ [22, 26] rfl rfl rfl rfl (q0 := 0) rfl (fun _ => rfl) (fun _ => rfl) rfl hl.1 rfl (Nat.le_of_ble_eq_true rfl) dL_law_563 ⟨(Nat.le_of_ble_eq_true rfl), (Nat.le_of_ble_eq_true rfl)⟩ (fun r563 _ H locs hp563 Z => ?_)
    subst hp563
    refine lv_icmp_eq (tgt := 901) hx hb dL_law_566 (by decide) (fun c566 => ?_) (fun c566 => absurd ey9 c566)
    exact N901 _ _ _ _ _ _ _ _ _ _ _ _ _ _ _ _ _ _ _ _ _ _ _ _ _ _ _ _ _ _ _ _ ⟨hm1, hM, hp1, hP, hc2, hs, ha10, hnum, ht, hh, hny, hcg, hwt, up_all (P := fun z => z < 100) hb100 (by omega), hpr, hsh, hmo⟩ _ _ Z _ hl
  · have hC2 := hC
    refine lv_aload_n hx hb dL_law_538 rfl (lv_at hl 1 rfl) ?_
    refine lv_aload_n hx hb dL_law_539 rfl (lv_at hl 0 rfl) ?_
    refine lv_iload_n hx hb dL_law_540 rfl (lv_at hl 3 rfl) ?_
    refine lv_iconst (v := nI 1) hx hb dL_law_541 (by decide) ?_
    refine n_iadd hx hb dL_law_542 ?_
    refine r_sld E Z SC (by omega) hL dL_law_543 ?_
    refine lv_aload_n hx hb dL_law_544 rfl (lv_at hl 0 rfl) ?_
    refine lv_iload_n hx hb dL_law_545 rfl (lv_at hl 3 rfl) ?_
    refine lv_iconst (v := nI 2) hx hb dL_law_546 (by decide) ?_
    refine n_iadd hx hb dL_law_547 ?_
    refine r_sld E Z SC (by omega) hL dL_law_548 ?_
    refine c_Vi (As := [.int (xs (i + 1)), .int (xs (i + 2))]) (rest := []) (w2 := fun _ => [oX q mc bn bl tr, oP (q 1) (q 2) (q 3) size ch, aN cA (q 2) 16 sets, aN cA (q 3) 8 amts, oG (q 4) (q 5) mc num, aN cA (q 5) 4 (mF num mc), oG (q 6) (q 7) tmc tn, aN cA (q 7) 4 tmem, oT (q 8) (q 9) tm t, aN cA (q 9) 7 hp, oR (q 10) (q 11) (q 12), aN cA (q 11) 16 tp, aN cA (q 12) 4 pl, oY (q 13) (q 14) (q 15) (q 16) ny cg, aN cA (q 14) 6 wt, aN cA (q 15) 4 co, aN cA (q 16) 4 nc, aN cA (q 17) 7 bo, aN cA (q 18) 7 pr, aN cA (q 19) 4 sh, aN cA (q 20) 4 sw, aN cA (q 21) 201 sv, oM q2 0 tr mc size num ny cg, aN cA (q2 1) 16 sets, aN cA (q2 2) 8 (bt ch), aN cA (q2 3) 8 amts, aN cA (q2 4) 7 bo, aN cA (q2 5) 7 pr, aN cA (q2 6) 4 sh, aN cA (q2 7) 6 wt, aN cA (q2 8) 7 hp, aR cA (q2 9) 4 (tel t), aN cA (q2 10) 201 mo, aN cA (q2 11) 4 pl2, aR cA (q2 12) 5 be, aN cA (q2 13) 4 co2, aN cA (q2 14) 4 nx]) E Z (k_X5_bears_bad l D cA q mc bn bl tr (xs (i + 1)) (xs (i + 2)) (by first | assumption | omega) (by first | assumption | omega)) wv_L_65 ⟨rfl, rfl, Nat.le_of_ble_eq_true rfl, Nat.le_of_ble_eq_true rfl⟩ [0] rfl rfl rfl rfl (q0 := 0) rfl (fun _ => rfl) (fun _ => rfl) rfl hl.1 rfl (Nat.le_of_ble_eq_true rfl) dL_law_549 ⟨(Nat.le_of_ble_eq_true rfl), (Nat.le_of_ble_eq_true rfl)⟩ (fun r549 _ H locs hp549 Z => ?_)
    subst hp549
    refine lv_topi (fun y9 ey9 => ?_)
    refine lv_aload_n hx hb dL_law_552 rfl (lv_at hl 2 rfl) ?_
    refine lv_aload_n hx hb dL_law_553 rfl (lv_at hl 0 rfl) ?_
    refine lv_iload_n hx hb dL_law_554 rfl (lv_at hl 3 rfl) ?_
    refine lv_iconst (v := nI 1) hx hb dL_law_555 (by decide) ?_
    refine n_iadd hx hb dL_law_556 ?_
    refine r_sld E Z SC (by omega) hL dL_law_557 ?_
    refine lv_aload_n hx hb dL_law_558 rfl (lv_at hl 0 rfl) ?_
    refine lv_iload_n hx hb dL_law_559 rfl (lv_at hl 3 rfl) ?_
    refine lv_iconst (v := nI 2) hx hb dL_law_560 (by decide) ?_
    refine n_iadd hx hb dL_law_561 ?_
    refine r_sld E Z SC (by omega) hL dL_law_562 ?_
    refine c_Vi (As := [.int (xs (i + 1)), .int (xs (i + 2))]) (rest := [.int y9]) (w2 := fun _ => [oX q mc bn bl tr, oP (q 1) (q 2) (q 3) size ch, aN cA (q 2) 16 sets, aN cA (q 3) 8 amts, oG (q 4) (q 5) mc num, aN cA (q 5) 4 (mF num mc), oG (q 6) (q 7) tmc tn, aN cA (q 7) 4 tmem, oT (q 8) (q 9) tm t, aN cA (q 9) 7 hp, oR (q 10) (q 11) (q 12), aN cA (q 11) 16 tp, aN cA (q 12) 4 pl, oY (q 13) (q 14) (q 15) (q 16) ny cg, aN cA (q 14) 6 wt, aN cA (q 15) 4 co, aN cA (q 16) 4 nc, aN cA (q 17) 7 bo, aN cA (q 18) 7 pr, aN cA (q 19) 4 sh, aN cA (q 20) 4 sw, aN cA (q 21) 201 sv, oM q2 0 tr mc size num ny cg, aN cA (q2 1) 16 sets, aN cA (q2 2) 8 (bt ch), aN cA (q2 3) 8 amts, aN cA (q2 4) 7 bo, aN cA (q2 5) 7 pr, aN cA (q2 6) 4 sh, aN cA (q2 7) 6 wt, aN cA (q2 8) 7 hp, aR cA (q2 9) 4 (tel t), aN cA (q2 10) 201 mo, aN cA (q2 11) 4 pl2, aR cA (q2 12) 5 be, aN cA (q2 13) 4 co2, aN cA (q2 14) 4 nx]) E Z (k_X6_bears_bad l D cA q2 tr mc size num ny cg (xs (i + 1)) (xs (i + 2)) (by first | assumption | omega) (by first | assumption | omega)) wv_L_68 ⟨rfl, rfl, Nat.le_of_ble_eq_true rfl, Nat.le_of_ble_eq_true rfl⟩ [22] rfl rfl rfl rfl (q0 := 0) rfl (fun _ => rfl) (fun _ => rfl) rfl hl.1 rfl (Nat.le_of_ble_eq_true rfl) dL_law_563 ⟨(Nat.le_of_ble_eq_true rfl), (Nat.le_of_ble_eq_true rfl)⟩ (fun r563 _ H locs hp563 Z => ?_)
    subst hp563
    refine lv_icmp_eq (tgt := 901) hx hb dL_law_566 (by decide) (fun c566 => ?_) (fun c566 => absurd ey9 c566)
    exact N901 _ _ _ _ _ _ _ _ _ _ _ _ _ _ _ _ _ _ _ _ _ _ _ _ _ _ _ _ _ _ _ _ ⟨hm1, hM, hp1, hP, hc2, hs, ha10, hnum, ht, hh, hny, hcg, hwt, hb100, hpr, hsh, hmo⟩ _ _ Z _ hl

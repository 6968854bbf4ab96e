set_option maxHeartbeats 4000000 in
set_option maxRecDepth 100000 in
theorem lc_price {p : Program} {l : Launch} {e : Env} {s : State} {m : MethodId} {below : List Frame} {meth : Method} {c : Code} {D : va_G} {cA : ClassId} {A : Nat → Prop} {b L : Nat} {xs : Nat → Int32} {Q : State → Prop} {q q2 : Nat → Nat} {i : Nat} (E : Ev p s m #[Value.ref b] c cL_law 4 RL D cA A) (hXs : XZ A s s.heap) (SC : va_X b L xs s s.heap ∧ b < s.heap.size ∧ ¬ A b) (hi : i + 5 ≤ L) (hL : L ≤ 2560) (N901 : LN p l e s m below meth c D cA A b Q q q2 i) {mc size ch num ny cg bn bl tmc tn tm : Nat} {sets amts hp wt bo pr sh tmem tp pl co nc sw sv mo pl2 co2 nx : Nat → Nat} {t : TS} {tr : Int64} {be : Nat → Int32} (hI : LInv mc size ch num ny cg sets amts hp wt bo pr sh mo t) {H : Heap} {locs : List Loc} (Z : Wd D A s (LW cA q q2 mc size ch num ny cg bn bl tmc tn tm sets amts hp wt bo pr sh tmem tp pl co nc sw sv mo pl2 co2 nx t tr be) H locs) {ls : Array Slot} (hl : lv_has ls 4 [(0, .ref b), (1, .ref (q 0)), (2, .ref (q2 0)), (3, .int (nI i))]) : W p l e room_1 s m #[Value.ref b] below meth c H locs 37 640 Q (F0 m 617 ls []) := by
  have hx := E.1.1
  have hb := E.1.2.1
  unfold LN LW at N901
  unfold LW at Z
  obtain ⟨hm1, hM, hp1, hP, hc2, hs, ha10, hnum, ht, hh, hny, hcg, hwt, hb100, hpr, hsh, hmo⟩ := hI
  have hch := ch256 hc2 hP
  have h20 := Nat.two_pow_pos mc
  have h202 := Nat.two_pow_pos (2 * mc)
  have h27 : 2 ^ mc ≤ 2 ^ 7 := Nat.pow_le_pow_right (by decide) hM
  have h14 : 2 ^ (2 * mc) ≤ 2 ^ 14 := Nat.pow_le_pow_right (by decide) (by omega)
  by_cases hC : (nI 0 ≤ xs (i + 1) ∧ xs (i + 1) ≤ nI (mc - 1)) ∧ (nI 1 ≤ xs (i + 2) ∧ xs (i + 2) ≤ nI 50)
  · obtain ⟨k1, hk10, hk11, ek1⟩ := in_nat (by omega) hC.1 (by decide)
    obtain ⟨k2, hk20, hk21, ek2⟩ := in_nat (by decide) hC.2 (by decide)
    refine lv_aload_n hx hb dL_law_617 rfl (lv_at hl 1 rfl) ?_
    refine lv_aload_n hx hb dL_law_618 rfl (lv_at hl 0 rfl) ?_
    refine lv_iload_n hx hb dL_law_619 rfl (lv_at hl 3 rfl) ?_
    refine lv_iconst (v := nI 1) hx hb dL_law_620 (by decide) ?_
    refine n_iadd hx hb dL_law_621 ?_
    refine r_sld E Z SC (by omega) hL dL_law_622 ?_
    refine r_top (y := nI k1) ek1 ?_
    refine lv_aload_n hx hb dL_law_623 rfl (lv_at hl 0 rfl) ?_
    refine lv_iload_n hx hb dL_law_624 rfl (lv_at hl 3 rfl) ?_
    refine lv_iconst (v := nI 2) hx hb dL_law_625 (by decide) ?_
    refine n_iadd hx hb dL_law_626 ?_
    refine r_sld E Z SC (by omega) hL dL_law_627 ?_
    refine r_top (y := nI k2) ek2 ?_
    refine c_Vi (As := [.int (nI k1), .int (nI k2)]) (rest := []) (w2 := fun _ => [oX q mc bn bl tr, oP (q 1) (q 2) (q 3) size ch, aN cA (q 2) 16 sets, aN cA (q 3) 8 amts, oG (q 4) (q 5) mc num, aN cA (q 5) 4 (mF num mc), oG (q 6) (q 7) tmc tn, aN cA (q 7) 4 tmem, oT (q 8) (q 9) tm t, aN cA (q 9) 7 hp, oR (q 10) (q 11) (q 12), aN cA (q 11) 16 tp, aN cA (q 12) 4 pl, oY (q 13) (q 14) (q 15) (q 16) ny cg, aN cA (q 14) 6 wt, aN cA (q 15) 4 co, aN cA (q 16) 4 nc, aN cA (q 17) 7 bo, aN cA (q 18) 7 (up pr k1 k2), aN cA (q 19) 4 sh, aN cA (q 20) 4 sw, aN cA (q 21) 201 sv, oM q2 0 tr mc size num ny cg, aN cA (q2 1) 16 sets, aN cA (q2 2) 8 (bt ch), aN cA (q2 3) 8 amts, aN cA (q2 4) 7 bo, aN cA (q2 5) 7 pr, aN cA (q2 6) 4 sh, aN cA (q2 7) 6 wt, aN cA (q2 8) 7 hp, aR cA (q2 9) 4 (tel t), aN cA (q2 10) 201 mo, aN cA (q2 11) 4 pl2, aR cA (q2 12) 5 be, aN cA (q2 13) 4 co2, aN cA (q2 14) 4 nx]) E Z (k_X5_price l D cA q mc bn bl tr pr k1 k2 (by first | assumption | omega) (by first | assumption | omega) (by first | assumption | omega) (by first | assumption | omega)) wv_L_77 ⟨rfl, rfl, Nat.le_of_ble_eq_true rfl, Nat.le_of_ble_eq_true rfl⟩ [0, 18] rfl rfl rfl rfl (q0 := 0) rfl (fun _ => rfl) (fun _ => rfl) rfl hl.1 rfl (Nat.le_of_ble_eq_true rfl) dL_law_628 ⟨(Nat.le_of_ble_eq_true rfl), (Nat.le_of_ble_eq_true rfl)⟩ (fun r628 _ H locs hp628 Z => ?_)
    subst hp628
    refine lv_topi (fun y9 ey9 => ?_)
    refine lv_aload_n hx hb dL_law_631 rfl (lv_at hl 2 rfl) ?_
    refine lv_aload_n hx hb dL_law_632 rfl (lv_at hl 0 rfl) ?_
    refine lv_iload_n hx hb dL_law_633 rfl (lv_at hl 3 rfl) ?_
    refine lv_iconst (v := nI 1) hx hb dL_law_634 (by decide) ?_
    refine n_iadd hx hb dL_law_635 ?_
    refine r_sld E Z SC (by omega) hL dL_law_636 ?_
    refine r_top (y := nI k1) ek1 ?_
    refine lv_aload_n hx hb dL_law_637 rfl (lv_at hl 0 rfl) ?_
    refine lv_iload_n hx hb dL_law_638 rfl (lv_at hl 3 rfl) ?_
    refine lv_iconst (v := nI 2) hx hb dL_law_639 (by decide) ?_
    refine n_iadd hx hb dL_law_640 ?_
    refine r_sld E Z SC (by omega) hL dL_law_641 ?_
    refine r_top (y := nI k2) ek2 ?_
    refine c_Vi (As := [.int (nI k1), .int (nI k2)]) (rest := [.int y9]) (w2 := fun _ => [oX q mc bn bl tr, oP (q 1) (q 2) (q 3) size ch, aN cA (q 2) 16 sets, aN cA (q 3) 8 amts, oG (q 4) (q 5) mc num, aN cA (q 5) 4 (mF num mc), oG (q 6) (q 7) tmc tn, aN cA (q 7) 4 tmem, oT (q 8) (q 9) tm t, aN cA (q 9) 7 hp, oR (q 10) (q 11) (q 12), aN cA (q 11) 16 tp, aN cA (q 12) 4 pl, oY (q 13) (q 14) (q 15) (q 16) ny cg, aN cA (q 14) 6 wt, aN cA (q 15) 4 co, aN cA (q 16) 4 nc, aN cA (q 17) 7 bo, aN cA (q 18) 7 (up pr k1 k2), aN cA (q 19) 4 sh, aN cA (q 20) 4 sw, aN cA (q 21) 201 sv, oM q2 0 tr mc size num ny cg, aN cA (q2 1) 16 sets, aN cA (q2 2) 8 (bt ch), aN cA (q2 3) 8 amts, aN cA (q2 4) 7 bo, aN cA (q2 5) 7 (up pr k1 k2), aN cA (q2 6) 4 sh, aN cA (q2 7) 6 wt, aN cA (q2 8) 7 hp, aR cA (q2 9) 4 (tel t), aN cA (q2 10) 201 mo, aN cA (q2 11) 4 pl2, aR cA (q2 12) 5 be, aN cA (q2 13) 4 co2, aN cA (q2 14) 4 nx]) E Z (k_X6_price l D cA q2 tr mc size num ny cg pr k1 k2 (by first | assumption | omega) (by first | assumption | omega) (by first | assumption | omega) (by first | assumption | omega)) wv_L_80 ⟨rfl, rfl, Nat.le_of_ble_eq_true rfl, Nat.le_of_ble_eq_true rfl⟩ [22, 27] rfl rfl rfl rfl (q0 := 0) rfl (fun _ => rfl) (fun _ => rfl) rfl hl.1 rfl (Nat.le_of_ble_eq_true rfl) dL_law_642 ⟨(Nat.le_of_ble_eq_true rfl), (Nat.le_of_ble_eq_true rfl)⟩ (fun r642 _ H locs hp642 Z => ?_)
    subst hp642
    refine lv_icmp_eq (tgt := 901) hx hb dL_law_645 (by decide) (fun c645 => ?_) (fun c645 => absurd ey9 c645)
    exact N901 _ _ _ _ _ _ _ _ _ _ _ _ _ _ _ _ _ _ _ _ _ _ _ _ _ _ _ _ _ _ _ _ ⟨hm1, hM, hp1, hP, hc2, hs, ha10, hnum, ht, hh, hny, hcg, hwt, hb100, up_all (P := fun z => 1 ≤ z ∧ z ≤ 50) hpr (by omega), hsh, hmo⟩ _ _ Z _ hl
  · have hC2 := hC
    refine lv_aload_n hx hb dL_law_617 rfl (lv_at hl 1 rfl) ?_
    refine lv_aload_n hx hb dL_law_618 rfl (lv_at hl 0 rfl) ?_
    refine lv_iload_n hx hb dL_law_619 rfl (lv_at hl 3 rfl) ?_
    refine lv_iconst (v := nI 1) hx hb dL_law_620 (by decide) ?_
    refine n_iadd hx hb dL_law_621 ?_
    refine r_sld E Z SC (by omega) hL dL_law_622 ?_
    refine lv_aload_n hx hb dL_law_623 rfl (lv_at hl 0 rfl) ?_
    refine lv_iload_n hx hb dL_law_624 rfl (lv_at hl 3 rfl) ?_
    refine lv_iconst (v := nI 2) hx hb dL_law_625 (by decide) ?_
    refine n_iadd hx hb dL_law_626 ?_
    refine r_sld E Z SC (by omega) hL dL_law_627 ?_
    refine c_Vi (As := [.int (xs (i + 1)), .int (xs (i + 2))]) (rest := []) (w2 := fun _ => [oX q mc bn bl tr, oP (q 1) (q 2) (q 3) size ch, aN cA (q 2) 16 sets, aN cA (q 3) 8 amts, oG (q 4) (q 5) mc num, aN cA (q 5) 4 (mF num mc), oG (q 6) (q 7) tmc tn, aN cA (q 7) 4 tmem, oT (q 8) (q 9) tm t, aN cA (q 9) 7 hp, oR (q 10) (q 11) (q 12), aN cA (q 11) 16 tp, aN cA (q 12) 4 pl, oY (q 13) (q 14) (q 15) (q 16) ny cg, aN cA (q 14) 6 wt, aN cA (q 15) 4 co, aN cA (q 16) 4 nc, aN cA (q 17) 7 bo, aN cA (q 18) 7 pr, aN cA (q 19) 4 sh, aN cA (q 20) 4 sw, aN cA (q 21) 201 sv, oM q2 0 tr mc size num ny cg, aN cA (q2 1) 16 sets, aN cA (q2 2) 8 (bt ch), aN cA (q2 3) 8 amts, aN cA (q2 4) 7 bo, aN cA (q2 5) 7 pr, aN cA (q2 6) 4 sh, aN cA (q2 7) 6 wt, aN cA (q2 8) 7 hp, aR cA (q2 9) 4 (tel t), aN cA (q2 10) 201 mo, aN cA (q2 11) 4 pl2, aR cA (q2 12) 5 be, aN cA (q2 13) 4 co2, aN cA (q2 14) 4 nx]) E Z (k_X5_price_bad l D cA q mc bn bl tr (xs (i + 1)) (xs (i + 2)) (by first | assumption | omega) (by first | assumption | omega)) wv_L_77 ⟨rfl, rfl, Nat.le_of_ble_eq_true rfl, Nat.le_of_ble_eq_true rfl⟩ [0] rfl rfl rfl rfl (q0 := 0) rfl (fun _ => rfl) (fun _ => rfl) rfl hl.1 rfl (Nat.le_of_ble_eq_true rfl) dL_law_628 ⟨(Nat.le_of_ble_eq_true rfl), (Nat.le_of_ble_eq_true rfl)⟩ (fun r628 _ H locs hp628 Z => ?_)
    subst hp628
    refine lv_topi (fun y9 ey9 => ?_)
    refine lv_aload_n hx hb dL_law_631 rfl (lv_at hl 2 rfl) ?_
    refine lv_aload_n hx hb dL_law_632 rfl (lv_at hl 0 rfl) ?_
    refine lv_iload_n hx hb dL_law_633 rfl (lv_at hl 3 rfl) ?_
    refine lv_iconst (v := nI 1) hx hb dL_law_634 (by decide) ?_
    refine n_iadd hx hb dL_law_635 ?_
    refine r_sld E Z SC (by omega) hL dL_law_636 ?_
    refine lv_aload_n hx hb dL_law_637 rfl (lv_at hl 0 rfl) ?_
    refine lv_iload_n hx hb dL_law_638 rfl (lv_at hl 3 rfl) ?_
    refine lv_iconst (v := nI 2) hx hb dL_law_639 (by decide) ?_
    refine n_iadd hx hb dL_law_640 ?_
    refine r_sld E Z SC (by omega) hL dL_law_641 ?_
    refine c_Vi (As := [.int (xs (i + 1)), .int (xs (i + 2))]) (rest := [.int y9]) (w2 := fun _ => [oX q mc bn bl tr, oP (q 1) (q 2) (q 3) size ch, aN cA (q 2) 16 sets, aN cA (q 3) 8 amts, oG (q 4) (q 5) mc num, aN cA (q 5) 4 (mF num mc), oG (q 6) (q 7) tmc tn, aN cA (q 7) 4 tmem, oT (q 8) (q 9) tm t, aN cA (q 9) 7 hp, oR (q 10) (q 11) (q 12), aN cA (q 11) 16 tp, aN cA (q 12) 4 pl, oY (q 13) (q 14) (q 15) (q 16) ny cg, aN cA (q 14) 6 wt, aN cA (q 15) 4 co, aN cA (q 16) 4 nc, aN cA (q 17) 7 bo, aN cA (q 18) 7 pr, aN cA (q 19) 4 sh, aN cA (q 20) 4 sw, aN cA (q 21) 201 sv, oM q2 0 tr mc size num ny cg, aN cA (q2 1) 16 sets, aN cA (q2 2) 8 (bt ch), aN cA (q2 3) 8 amts, aN cA (q2 4) 7 bo, aN cA (q2 5) 7 pr, aN cA (q2 6) 4 sh, aN cA (q2 7) 6 wt, aN cA (q2 8) 7 hp, aR cA (q2 9) 4 (tel t), aN cA (q2 10) 201 mo, aN cA (q2 11) 4 pl2, aR cA (q2 12) 5 be, aN cA (q2 13) 4 co2, aN cA (q2 14) 4 nx]) E Z (k_X6_price_bad l D cA q2 tr mc size num ny cg (xs (i + 1)) (xs (i + 2)) (by first | assumption | omega) (by first | assumption | omega)) wv_L_80 ⟨rfl, rfl, Nat.le_of_ble_eq_true rfl, Nat.le_of_ble_eq_true rfl⟩ [22] rfl rfl rfl rfl (q0 := 0) rfl (fun _ => rfl) (fun _ => rfl) rfl hl.1 rfl (Nat.le_of_ble_eq_true rfl) dL_law_642 ⟨(Nat.le_of_ble_eq_true rfl), (Nat.le_of_ble_eq_true rfl)⟩ (fun r642 _ H locs hp642 Z => ?_)
    subst hp642
    refine lv_icmp_eq (tgt := 901) hx hb dL_law_645 (by decide) (fun c645 => ?_) (fun c645 => absurd ey9 c645)
    exact N901 _ _ _ _ _ _ _ _ _ _ _ _ _ _ _ _ _ _ _ _ _ _ _ _ _ _ _ _ _ _ _ _ ⟨hm1, hM, hp1, hP, hc2, hs, ha10, hnum, ht, hh, hny, hcg, hwt, hb100, hpr, hsh, hmo⟩ _ _ Z _ hl
set_option maxHeartbeats 4000000 in
set_option maxRecDepth 100000 in
theorem lc_load {p : Program} {l : Launch} {e : Env} {s : State} {m : MethodId} {below : List Frame} {meth : Method} {c : Code} {D : va_G} {cA : ClassId} {A : Nat → Prop} {b L : Nat} {xs : Nat → Int32} {Q : State → Prop} {q q2 : Nat → Nat} {i : Nat} (E : Ev p s m #[Value.ref b] c cL_law 4 RL D cA A) (hXs : XZ A s s.heap) (SC : va_X b L xs s s.heap ∧ b < s.heap.size ∧ ¬ A b) (hi : i + 5 ≤ L) (hL : L ≤ 2560) (N901 : LN p l e s m below meth c D cA A b Q q q2 i) {mc size ch num ny cg bn bl tmc tn tm : Nat} {sets amts hp wt bo pr sh tmem tp pl co nc sw sv mo pl2 co2 nx : Nat → Nat} {t : TS} {tr : Int64} {be : Nat → Int32} (hI : LInv mc size ch num ny cg sets amts hp wt bo pr sh mo t) {H : Heap} {locs : List Loc} (Z : Wd D A s (LW cA q q2 mc size ch num ny cg bn bl tmc tn tm sets amts hp wt bo pr sh tmem tp pl co nc sw sv mo pl2 co2 nx t tr be) H locs) {ls : Array Slot} (hl : lv_has ls 4 [(0, .ref b), (1, .ref (q 0)), (2, .ref (q2 0)), (3, .int (nI i))]) : W p l e room_1 s m #[Value.ref b] below meth c H locs 37 640 Q (F0 m 571 ls []) := by
  have hx := E.1.1
  have hb := E.1.2.1
  unfold LN LW at N901
  unfold LW at Z
  obtain ⟨hm1, hM, hp1, hP, hc2, hs, ha10, hnum, ht, hh, hny, hcg, hwt, hb100, hpr, hsh, hmo⟩ := hI
  have hch := ch256 hc2 hP
  have h20 := Nat.two_pow_pos mc
  have h202 := Nat.two_pow_pos (2 * mc)
  have h27 : 2 ^ mc ≤ 2 ^ 7 := Nat.pow_le_pow_right (by decide) hM
  have h14 : 2 ^ (2 * mc) ≤ 2 ^ 14 := Nat.pow_le_pow_right (by decide) (by omega)
  by_cases hC : (nI 0 ≤ xs (i + 1) ∧ xs (i + 1) ≤ nI (mc - 1))
  · obtain ⟨k1, hk10, hk11, ek1⟩ := in_nat (by omega) hC (by decide)
    refine lv_aload_n hx hb dL_law_571 rfl (lv_at hl 1 rfl) ?_
    refine lv_aload_n hx hb dL_law_572 rfl (lv_at hl 0 rfl) ?_
    refine lv_iload_n hx hb dL_law_573 rfl (lv_at hl 3 rfl) ?_
    refine lv_iconst (v := nI 1) hx hb dL_law_574 (by decide) ?_
    refine n_iadd hx hb dL_law_575 ?_
    refine r_sld E Z SC (by omega) hL dL_law_576 ?_
    refine r_top (y := nI k1) ek1 ?_
    refine c_Vi (As := [.int (nI k1)]) (rest := []) (w2 := fun _ => [oX q mc bn bl tr, oP (q 1) (q 2) (q 3) size ch, aN cA (q 2) 16 sets, aN cA (q 3) 8 amts, oG (q 4) (q 5) mc num, aN cA (q 5) 4 (mF num mc), oG (q 6) (q 7) tmc tn, aN cA (q 7) 4 tmem, oT (q 8) (q 9) tm t, aN cA (q 9) 7 hp, oR (q 10) (q 11) (q 12), aN cA (q 11) 16 tp, aN cA (q 12) 4 pl, oY (q 13) (q 14) (q 15) (q 16) ny cg, aN cA (q 14) 6 wt, aN cA (q 15) 4 co, aN cA (q 16) 4 nc, aN cA (q 17) 7 bo, aN cA (q 18) 7 pr, aN cA (q 19) 4 sh, aN cA (q 20) 4 sw, aN cA (q 21) 201 sv, oM q2 0 tr mc size num ny cg, aN cA (q2 1) 16 sets, aN cA (q2 2) 8 (bt ch), aN cA (q2 3) 8 amts, aN cA (q2 4) 7 bo, aN cA (q2 5) 7 pr, aN cA (q2 6) 4 sh, aN cA (q2 7) 6 wt, aN cA (q2 8) 7 hp, aR cA (q2 9) 4 (tel t), aN cA (q2 10) 201 mo, aN cA (q2 11) 4 pl2, aR cA (q2 12) 5 be, aN cA (q2 13) 4 co2, aN cA (q2 14) 4 nx]) E Z (k_X5_load l D cA q mc bn bl tr size ch sets amts k1 (by first | assumption | omega) (by first | assumption | omega) (by first | assumption | omega) (by first | assumption | omega) (by first | assumption | omega) (by first | assumption | omega)) wv_L_69 ⟨rfl, rfl, Nat.le_of_ble_eq_true rfl, Nat.le_of_ble_eq_true rfl⟩ [0, 1, 2, 3] rfl rfl rfl rfl (q0 := 0) rfl (fun _ => rfl) (fun _ => rfl) rfl hl.1 rfl (Nat.le_of_ble_eq_true rfl) dL_law_577 ⟨(Nat.le_of_ble_eq_true rfl), (Nat.le_of_ble_eq_true rfl)⟩ (fun r577 _ H locs hp577 Z => ?_)
    subst hp577
    refine lv_topi (fun y9 ey9 => ?_)
    refine lv_aload_n hx hb dL_law_580 rfl (lv_at hl 2 rfl) ?_
    refine lv_aload_n hx hb dL_law_581 rfl (lv_at hl 0 rfl) ?_
    refine lv_iload_n hx hb dL_law_582 rfl (lv_at hl 3 rfl) ?_
    refine lv_iconst (v := nI 1) hx hb dL_law_583 (by decide) ?_
    refine n_iadd hx hb dL_law_584 ?_
    refine r_sld E Z SC (by omega) hL dL_law_585 ?_
    refine r_top (y := nI k1) ek1 ?_
    refine c_Vi (As := [.int (nI k1)]) (rest := [.int y9]) (w2 := fun _ => [oX q mc bn bl tr, oP (q 1) (q 2) (q 3) size ch, aN cA (q 2) 16 sets, aN cA (q 3) 8 amts, oG (q 4) (q 5) mc num, aN cA (q 5) 4 (mF num mc), oG (q 6) (q 7) tmc tn, aN cA (q 7) 4 tmem, oT (q 8) (q 9) tm t, aN cA (q 9) 7 hp, oR (q 10) (q 11) (q 12), aN cA (q 11) 16 tp, aN cA (q 12) 4 pl, oY (q 13) (q 14) (q 15) (q 16) ny cg, aN cA (q 14) 6 wt, aN cA (q 15) 4 co, aN cA (q 16) 4 nc, aN cA (q 17) 7 bo, aN cA (q 18) 7 pr, aN cA (q 19) 4 sh, aN cA (q 20) 4 sw, aN cA (q 21) 201 sv, oM q2 0 tr mc size num ny cg, aN cA (q2 1) 16 sets, aN cA (q2 2) 8 (bt ch), aN cA (q2 3) 8 amts, aN cA (q2 4) 7 bo, aN cA (q2 5) 7 pr, aN cA (q2 6) 4 sh, aN cA (q2 7) 6 wt, aN cA (q2 8) 7 hp, aR cA (q2 9) 4 (tel t), aN cA (q2 10) 201 mo, aN cA (q2 11) 4 pl2, aR cA (q2 12) 5 be, aN cA (q2 13) 4 co2, aN cA (q2 14) 4 nx]) E Z (k_X6_load l D cA q2 tr mc size num ny cg sets ch amts k1 (by first | assumption | omega) (by first | assumption | omega) (by first | assumption | omega) (by first | assumption | omega) (by first | assumption | omega) (by first | assumption | omega) (by first | assumption | omega)) wv_L_72 ⟨rfl, rfl, Nat.le_of_ble_eq_true rfl, Nat.le_of_ble_eq_true rfl⟩ [22, 23, 24, 25] rfl rfl rfl rfl (q0 := 0) rfl (fun _ => rfl) (fun _ => rfl) rfl hl.1 rfl (Nat.le_of_ble_eq_true rfl) dL_law_586 ⟨(Nat.le_of_ble_eq_true rfl), (Nat.le_of_ble_eq_true rfl)⟩ (fun r586 _ H locs hp586 Z => ?_)
    subst hp586
    refine lv_icmp_eq (tgt := 901) hx hb dL_law_589 (by decide) (fun c589 => ?_) (fun c589 => absurd ey9 c589)
    exact N901 _ _ _ _ _ _ _ _ _ _ _ _ _ _ _ _ _ _ _ _ _ _ _ _ _ _ _ _ _ _ _ _ ⟨hm1, hM, hp1, hP, hc2, hs, ha10, hnum, ht, hh, hny, hcg, hwt, hb100, hpr, hsh, hmo⟩ _ _ Z _ hl
  · have hC2 := hC
    refine lv_aload_n hx hb dL_law_571 rfl (lv_at hl 1 rfl) ?_
    refine lv_aload_n hx hb dL_law_572 rfl (lv_at hl 0 rfl) ?_
    refine lv_iload_n hx hb dL_law_573 rfl (lv_at hl 3 rfl) ?_
    refine lv_iconst (v := nI 1) hx hb dL_law_574 (by decide) ?_
    refine n_iadd hx hb dL_law_575 ?_
    refine r_sld E Z SC (by omega) hL dL_law_576 ?_
    refine c_Vi (As := [.int (xs (i + 1))]) (rest := []) (w2 := fun _ => [oX q mc bn bl tr, oP (q 1) (q 2) (q 3) size ch, aN cA (q 2) 16 sets, aN cA (q 3) 8 amts, oG (q 4) (q 5) mc num, aN cA (q 5) 4 (mF num mc), oG (q 6) (q 7) tmc tn, aN cA (q 7) 4 tmem, oT (q 8) (q 9) tm t, aN cA (q 9) 7 hp, oR (q 10) (q 11) (q 12), aN cA (q 11) 16 tp, aN cA (q 12) 4 pl, oY (q 13) (q 14) (q 15) (q 16) ny cg, aN cA (q 14) 6 wt, aN cA (q 15) 4 co, aN cA (q 16) 4 nc, aN cA (q 17) 7 bo, aN cA (q 18) 7 pr, aN cA (q 19) 4 sh, aN cA (q 20) 4 sw, aN cA (q 21) 201 sv, oM q2 0 tr mc size num ny cg, aN cA (q2 1) 16 sets, aN cA (q2 2) 8 (bt ch), aN cA (q2 3) 8 amts, aN cA (q2 4) 7 bo, aN cA (q2 5) 7 pr, aN cA (q2 6) 4 sh, aN cA (q2 7) 6 wt, aN cA (q2 8) 7 hp, aR cA (q2 9) 4 (tel t), aN cA (q2 10) 201 mo, aN cA (q2 11) 4 pl2, aR cA (q2 12) 5 be, aN cA (q2 13) 4 co2, aN cA (q2 14) 4 nx]) E Z (k_X5_load_bad l D cA q mc bn bl tr (xs (i + 1)) (by first | assumption | omega) (by first | assumption | omega)) wv_L_69 ⟨rfl, rfl, Nat.le_of_ble_eq_true rfl, Nat.le_of_ble_eq_true rfl⟩ [0] rfl rfl rfl rfl (q0 := 0) rfl (fun _ => rfl) (fun _ => rfl) rfl hl.1 rfl (Nat.le_of_ble_eq_true rfl) dL_law_577 ⟨(Nat.le_of_ble_eq_true rfl), (Nat.le_of_ble_eq_true rfl)⟩ (fun r577 _ H locs hp577 Z => ?_)
    subst hp577
    refine lv_topi (fun y9 ey9 => ?_)
    refine lv_aload_n hx hb dL_law_580 rfl (lv_at hl 2 rfl) ?_
    refine lv_aload_n hx hb dL_law_581 rfl (lv_at hl 0 rfl) ?_
    refine lv_iload_n hx hb dL_law_582 rfl (lv_at hl 3 rfl) ?_
    refine lv_iconst (v := nI 1) hx hb dL_law_583 (by decide) ?_
    refine n_iadd hx hb dL_law_584 ?_
    refine r_sld E Z SC (by omega) hL dL_law_585 ?_
    refine c_Vi (As := [.int (xs (i + 1))]) (rest := [.int y9]) (w2 := fun _ => [oX q mc bn bl tr, oP (q 1) (q 2) (q 3) size ch, aN cA (q 2) 16 sets, aN cA (q 3) 8 amts, oG (q 4) (q 5) mc num, aN cA (q 5) 4 (mF num mc), oG (q 6) (q 7) tmc tn, aN cA (q 7) 4 tmem, oT (q 8) (q 9) tm t, aN cA (q 9) 7 hp, oR (q 10) (q 11) (q 12), aN cA (q 11) 16 tp, aN cA (q 12) 4 pl, oY (q 13) (q 14) (q 15) (q 16) ny cg, aN cA (q 14) 6 wt, aN cA (q 15) 4 co, aN cA (q 16) 4 nc, aN cA (q 17) 7 bo, aN cA (q 18) 7 pr, aN cA (q 19) 4 sh, aN cA (q 20) 4 sw, aN cA (q 21) 201 sv, oM q2 0 tr mc size num ny cg, aN cA (q2 1) 16 sets, aN cA (q2 2) 8 (bt ch), aN cA (q2 3) 8 amts, aN cA (q2 4) 7 bo, aN cA (q2 5) 7 pr, aN cA (q2 6) 4 sh, aN cA (q2 7) 6 wt, aN cA (q2 8) 7 hp, aR cA (q2 9) 4 (tel t), aN cA (q2 10) 201 mo, aN cA (q2 11) 4 pl2, aR cA (q2 12) 5 be, aN cA (q2 13) 4 co2, aN cA (q2 14) 4 nx]) E Z (k_X6_load_bad l D cA q2 tr mc size num ny cg (xs (i + 1)) (by first | assumption | omega) (by first | assumption | omega)) wv_L_72 ⟨rfl, rfl, Nat.le_of_ble_eq_true rfl, Nat.le_of_ble_eq_true rfl⟩ [22] rfl rfl rfl rfl (q0 := 0) rfl (fun _ => rfl) (fun _ => rfl) rfl hl.1 rfl (Nat.le_of_ble_eq_true rfl) dL_law_586 ⟨(Nat.le_of_ble_eq_true rfl), (Nat.le_of_ble_eq_true rfl)⟩ (fun r586 _ H locs hp586 Z => ?_)
    subst hp586
    refine lv_icmp_eq (tgt := 901) hx hb dL_law_589 (by decide) (fun c589 => ?_) (fun c589 => absurd ey9 c589)
    exact N901 _ _ _ _ _ _ _ _ _ _ _ _ _ _ _ _ _ _ _ _ _ _ _ _ _ _ _ _ _ _ _ _ ⟨hm1, hM, hp1, hP, hc2, hs, ha10, hnum, ht, hh, hny, hcg, hwt, hb100, hpr, hsh, hmo⟩ _ _ Z _ hl
set_option maxHeartbeats 4000000 in
set_option maxRecDepth 100000 in
theorem lc_routes {p : Program} {l : Launch} {e : Env} {s : State} {m : MethodId} {below : List Frame} {meth : Method} {c : Code} {D : va_G} {cA : ClassId} {A : Nat → Prop} {b L : Nat} {xs : Nat → Int32} {Q : State → Prop} {q q2 : Nat → Nat} {i : Nat} (E : Ev p s m #[Value.ref b] c cL_law 4 RL D cA A) (hXs : XZ A s s.heap) (SC : va_X b L xs s s.heap ∧ b < s.heap.size ∧ ¬ A b) (hi : i + 5 ≤ L) (hL : L ≤ 2560) (N901 : LN p l e s m below meth c D cA A b Q q q2 i) {mc size ch num ny cg bn bl tmc tn tm : Nat} {sets amts hp wt bo pr sh tmem tp pl co nc sw sv mo pl2 co2 nx : Nat → Nat} {t : TS} {tr : Int64} {be : Nat → Int32} (hI : LInv mc size ch num ny cg sets amts hp wt bo pr sh mo t) {H : Heap} {locs : List Loc} (Z : Wd D A s (LW cA q q2 mc size ch num ny cg bn bl tmc tn tm sets amts hp wt bo pr sh tmem tp pl co nc sw sv mo pl2 co2 nx t tr be) H locs) {ls : Array Slot} (hl : lv_has ls 4 [(0, .ref b), (1, .ref (q 0)), (2, .ref (q2 0)), (3, .int (nI i))]) : W p l e room_1 s m #[Value.ref b] below meth c H locs 37 640 Q (F0 m 594 ls []) := by
  have hx := E.1.1
  have hb := E.1.2.1
  unfold LN LW at N901
  unfold LW at Z
  obtain ⟨hm1, hM, hp1, hP, hc2, hs, ha10, hnum, ht, hh, hny, hcg, hwt, hb100, hpr, hsh, hmo⟩ := hI
  have hch := ch256 hc2 hP
  have h20 := Nat.two_pow_pos mc
  have h202 := Nat.two_pow_pos (2 * mc)
  have h27 : 2 ^ mc ≤ 2 ^ 7 := Nat.pow_le_pow_right (by decide) hM
  have h14 : 2 ^ (2 * mc) ≤ 2 ^ 14 := Nat.pow_le_pow_right (by decide) (by omega)
  by_cases hC : nI 0 ≤ xs (i + 1) ∧ xs (i + 1) ≤ nI 1
  · obtain ⟨k1, hk10, hk11, ek1⟩ := in_nat (by decide) hC (by decide)
    rcases E_routes (g := num) (sets := sets) (bo := bo) hM hP ha10 with ⟨h9, hmod⟩ | ⟨j, hj, ej, hmod⟩
    · refine lv_aload_n hx hb dL_law_594 rfl (lv_at hl 1 rfl) ?_
      refine lv_aload_n hx hb dL_law_595 rfl (lv_at hl 0 rfl) ?_
      refine lv_iload_n hx hb dL_law_596 rfl (lv_at hl 3 rfl) ?_
      refine lv_iconst (v := nI 1) hx hb dL_law_597 (by decide) ?_
      refine n_iadd hx hb dL_law_598 ?_
      refine r_sld E Z SC (by omega) hL dL_law_599 ?_
      refine r_top (y := nI k1) ek1 ?_
      refine c_Vi (As := [.int (nI k1)]) (rest := []) (w2 := fun _ => [oX q mc bn bl tr, oP (q 1) (q 2) (q 3) size ch, aN cA (q 2) 16 sets, aN cA (q 3) 8 amts, oG (q 4) (q 5) mc num, aN cA (q 5) 4 (mF num mc), oG (q 6) (q 7) tmc tn, aN cA (q 7) 4 tmem, oT (q 8) (q 9) tm t, aN cA (q 9) 7 hp, oR (q 10) (q 11) (q 12), aN cA (q 11) 16 tp, aN cA (q 12) 4 pl, oY (q 13) (q 14) (q 15) (q 16) ny cg, aN cA (q 14) 6 wt, aN cA (q 15) 4 co, aN cA (q 16) 4 nc, aN cA (q 17) 7 bo, aN cA (q 18) 7 pr, aN cA (q 19) 4 sh, aN cA (q 20) 4 sw, aN cA (q 21) 201 sv, oM q2 0 tr mc size num ny cg, aN cA (q2 1) 16 sets, aN cA (q2 2) 8 (bt ch), aN cA (q2 3) 8 amts, aN cA (q2 4) 7 bo, aN cA (q2 5) 7 pr, aN cA (q2 6) 4 sh, aN cA (q2 7) 6 wt, aN cA (q2 8) 7 hp, aR cA (q2 9) 4 (tel t), aN cA (q2 10) 201 mo, aN cA (q2 11) 4 pl2, aR cA (q2 12) 5 be, aN cA (q2 13) 4 co2, aN cA (q2 14) 4 nx]) E Z (k_X5_routes_none l D cA q mc bn bl tr size ch sets amts num bo k1 (by first | assumption | omega) (by first | assumption | omega) (by first | assumption | omega) (by first | assumption | omega) (by first | assumption | omega) (by first | assumption | omega) (by first | assumption | omega)) wv_L_73 ⟨rfl, rfl, Nat.le_of_ble_eq_true rfl, Nat.le_of_ble_eq_true rfl⟩ [0, 1, 2, 3, 4, 5, 17] rfl rfl rfl rfl (q0 := 0) rfl (fun _ => rfl) (fun _ => rfl) rfl hl.1 rfl (Nat.le_of_ble_eq_true rfl) dL_law_600 ⟨(Nat.le_of_ble_eq_true rfl), (Nat.le_of_ble_eq_true rfl)⟩ (fun r600 _ H locs hp600 Z => ?_)
      subst hp600
      refine lv_topi (fun y9 ey9 => ?_)
      refine lv_aload_n hx hb dL_law_603 rfl (lv_at hl 2 rfl) ?_
      refine lv_aload_n hx hb dL_law_604 rfl (lv_at hl 0 rfl) ?_
      refine lv_iload_n hx hb dL_law_605 rfl (lv_at hl 3 rfl) ?_
      refine lv_iconst (v := nI 1) hx hb dL_law_606 (by decide) ?_
      refine n_iadd hx hb dL_law_607 ?_
      refine r_sld E Z SC (by omega) hL dL_law_608 ?_
      refine r_top (y := nI k1) ek1 ?_
      refine c_Vi (As := [.int (nI k1)]) (rest := [.int y9]) (w2 := fun _ => [oX q mc bn bl tr, oP (q 1) (q 2) (q 3) size ch, aN cA (q 2) 16 sets, aN cA (q 3) 8 amts, oG (q 4) (q 5) mc num, aN cA (q 5) 4 (mF num mc), oG (q 6) (q 7) tmc tn, aN cA (q 7) 4 tmem, oT (q 8) (q 9) tm t, aN cA (q 9) 7 hp, oR (q 10) (q 11) (q 12), aN cA (q 11) 16 tp, aN cA (q 12) 4 pl, oY (q 13) (q 14) (q 15) (q 16) ny cg, aN cA (q 14) 6 wt, aN cA (q 15) 4 co, aN cA (q 16) 4 nc, aN cA (q 17) 7 bo, aN cA (q 18) 7 pr, aN cA (q 19) 4 sh, aN cA (q 20) 4 sw, aN cA (q 21) 201 sv, oM q2 0 tr mc size num ny cg, aN cA (q2 1) 16 sets, aN cA (q2 2) 8 (bt ch), aN cA (q2 3) 8 amts, aN cA (q2 4) 7 bo, aN cA (q2 5) 7 pr, aN cA (q2 6) 4 sh, aN cA (q2 7) 6 wt, aN cA (q2 8) 7 hp, aR cA (q2 9) 4 (tel t), aN cA (q2 10) 201 mo, aN cA (q2 11) 4 pl2, aR cA (q2 12) 5 be, aN cA (q2 13) 4 co2, aN cA (q2 14) 4 nx]) E Z (k_X6_routes l D cA q2 tr mc size num ny cg sets amts bo k1 (by first | assumption | omega) (by first | assumption | omega) (by first | assumption | omega) (by first | assumption | omega) (by first | assumption | omega) (by first | assumption | omega) (by first | assumption | omega)) wv_L_76 ⟨rfl, rfl, Nat.le_of_ble_eq_true rfl, Nat.le_of_ble_eq_true rfl⟩ [22, 23, 25, 26] rfl rfl rfl rfl (q0 := 0) rfl (fun _ => rfl) (fun _ => rfl) rfl hl.1 rfl (Nat.le_of_ble_eq_true rfl) dL_law_609 ⟨(Nat.le_of_ble_eq_true rfl), (Nat.le_of_ble_eq_true rfl)⟩ (fun r609 _ H locs hp609 Z => ?_)
      subst hp609
      refine lv_icmp_eq (tgt := 901) hx hb dL_law_612 (by decide) (fun c612 => ?_) (fun c612 => absurd (ey9.trans (hmod k1).symm) c612)
      exact N901 _ _ _ _ _ _ _ _ _ _ _ _ _ _ _ _ _ _ _ _ _ _ _ _ _ _ _ _ _ _ _ _ ⟨hm1, hM, hp1, hP, hc2, hs, ha10, hnum, ht, hh, hny, hcg, hwt, hb100, hpr, hsh, hmo⟩ _ _ Z _ hl
    · refine lv_aload_n hx hb dL_law_594 rfl (lv_at hl 1 rfl) ?_
      refine lv_aload_n hx hb dL_law_595 rfl (lv_at hl 0 rfl) ?_
      refine lv_iload_n hx hb dL_law_596 rfl (lv_at hl 3 rfl) ?_
      refine lv_iconst (v := nI 1) hx hb dL_law_597 (by decide) ?_
      refine n_iadd hx hb dL_law_598 ?_
      refine r_sld E Z SC (by omega) hL dL_law_599 ?_
      refine r_top (y := nI k1) ek1 ?_
      refine c_Vi (As := [.int (nI k1)]) (rest := []) (w2 := fun _ => [oX q mc bn bl tr, oP (q 1) (q 2) (q 3) size ch, aN cA (q 2) 16 sets, aN cA (q 3) 8 amts, oG (q 4) (q 5) mc num, aN cA (q 5) 4 (mF num mc), oG (q 6) (q 7) tmc tn, aN cA (q 7) 4 tmem, oT (q 8) (q 9) tm t, aN cA (q 9) 7 hp, oR (q 10) (q 11) (q 12), aN cA (q 11) 16 tp, aN cA (q 12) 4 pl, oY (q 13) (q 14) (q 15) (q 16) ny cg, aN cA (q 14) 6 wt, aN cA (q 15) 4 co, aN cA (q 16) 4 nc, aN cA (q 17) 7 bo, aN cA (q 18) 7 pr, aN cA (q 19) 4 sh, aN cA (q 20) 4 sw, aN cA (q 21) 201 sv, oM q2 0 tr mc size num ny cg, aN cA (q2 1) 16 sets, aN cA (q2 2) 8 (bt ch), aN cA (q2 3) 8 amts, aN cA (q2 4) 7 bo, aN cA (q2 5) 7 pr, aN cA (q2 6) 4 sh, aN cA (q2 7) 6 wt, aN cA (q2 8) 7 hp, aR cA (q2 9) 4 (tel t), aN cA (q2 10) 201 mo, aN cA (q2 11) 4 pl2, aR cA (q2 12) 5 be, aN cA (q2 13) 4 co2, aN cA (q2 14) 4 nx]) E Z (k_X5_routes l D cA q mc bn bl tr size ch sets amts num bo k1 j (by first | assumption | omega) (by first | assumption | omega) (by first | assumption | omega) (by first | assumption | omega) (by first | assumption | omega) (by first | assumption | omega) (by first | assumption | omega) (by first | assumption | omega)) wv_L_73 ⟨rfl, rfl, Nat.le_of_ble_eq_true rfl, Nat.le_of_ble_eq_true rfl⟩ [0, 1, 2, 3, 4, 5, 17] rfl rfl rfl rfl (q0 := 0) rfl (fun _ => rfl) (fun _ => rfl) rfl hl.1 rfl (Nat.le_of_ble_eq_true rfl) dL_law_600 ⟨(Nat.le_of_ble_eq_true rfl), (Nat.le_of_ble_eq_true rfl)⟩ (fun r600 _ H locs hp600 Z => ?_)
      subst hp600
      refine lv_topi (fun y9 ey9 => ?_)
      refine lv_aload_n hx hb dL_law_603 rfl (lv_at hl 2 rfl) ?_
      refine lv_aload_n hx hb dL_law_604 rfl (lv_at hl 0 rfl) ?_
      refine lv_iload_n hx hb dL_law_605 rfl (lv_at hl 3 rfl) ?_
      refine lv_iconst (v := nI 1) hx hb dL_law_606 (by decide) ?_
      refine n_iadd hx hb dL_law_607 ?_
      refine r_sld E Z SC (by omega) hL dL_law_608 ?_
      refine r_top (y := nI k1) ek1 ?_
      refine c_Vi (As := [.int (nI k1)]) (rest := [.int y9]) (w2 := fun _ => [oX q mc bn bl tr, oP (q 1) (q 2) (q 3) size ch, aN cA (q 2) 16 sets, aN cA (q 3) 8 amts, oG (q 4) (q 5) mc num, aN cA (q 5) 4 (mF num mc), oG (q 6) (q 7) tmc tn, aN cA (q 7) 4 tmem, oT (q 8) (q 9) tm t, aN cA (q 9) 7 hp, oR (q 10) (q 11) (q 12), aN cA (q 11) 16 tp, aN cA (q 12) 4 pl, oY (q 13) (q 14) (q 15) (q 16) ny cg, aN cA (q 14) 6 wt, aN cA (q 15) 4 co, aN cA (q 16) 4 nc, aN cA (q 17) 7 bo, aN cA (q 18) 7 pr, aN cA (q 19) 4 sh, aN cA (q 20) 4 sw, aN cA (q 21) 201 sv, oM q2 0 tr mc size num ny cg, aN cA (q2 1) 16 sets, aN cA (q2 2) 8 (bt ch), aN cA (q2 3) 8 amts, aN cA (q2 4) 7 bo, aN cA (q2 5) 7 pr, aN cA (q2 6) 4 sh, aN cA (q2 7) 6 wt, aN cA (q2 8) 7 hp, aR cA (q2 9) 4 (tel t), aN cA (q2 10) 201 mo, aN cA (q2 11) 4 pl2, aR cA (q2 12) 5 be, aN cA (q2 13) 4 co2, aN cA (q2 14) 4 nx]) E Z (k_X6_routes l D cA q2 tr mc size num ny cg sets amts bo k1 (by first | assumption | omega) (by first | assumption | omega) (by first | assumption | omega) (by first | assumption | omega) (by first | assumption | omega) (by first | assumption | omega) (by first | assumption | omega)) wv_L_76 ⟨rfl, rfl, Nat.le_of_ble_eq_true rfl, Nat.le_of_ble_eq_true rfl⟩ [22, 23, 25, 26] rfl rfl rfl rfl (q0 := 0) rfl (fun _ => rfl) (fun _ => rfl) rfl hl.1 rfl (Nat.le_of_ble_eq_true rfl) dL_law_609 ⟨(Nat.le_of_ble_eq_true rfl), (Nat.le_of_ble_eq_true rfl)⟩ (fun r609 _ H locs hp609 Z => ?_)
      subst hp609
      refine lv_icmp_eq (tgt := 901) hx hb dL_law_612 (by decide) (fun c612 => ?_) (fun c612 => absurd (ey9.trans (hmod k1).symm) c612)
      exact N901 _ _ _ _ _ _ _ _ _ _ _ _ _ _ _ _ _ _ _ _ _ _ _ _ _ _ _ _ _ _ _ _ ⟨hm1, hM, hp1, hP, hc2, hs, ha10, hnum, ht, hh, hny, hcg, hwt, hb100, hpr, hsh, hmo⟩ _ _ Z _ hl
  · have hC2 := hC
    refine lv_aload_n hx hb dL_law_594 rfl (lv_at hl 1 rfl) ?_
    refine lv_aload_n hx hb dL_law_595 rfl (lv_at hl 0 rfl) ?_
    refine lv_iload_n hx hb dL_law_596 rfl (lv_at hl 3 rfl) ?_
    refine lv_iconst (v := nI 1) hx hb dL_law_597 (by decide) ?_
    refine n_iadd hx hb dL_law_598 ?_
    refine r_sld E Z SC (by omega) hL dL_law_599 ?_
    refine c_Vi (As := [.int (xs (i + 1))]) (rest := []) (w2 := fun _ => [oX q mc bn bl tr, oP (q 1) (q 2) (q 3) size ch, aN cA (q 2) 16 sets, aN cA (q 3) 8 amts, oG (q 4) (q 5) mc num, aN cA (q 5) 4 (mF num mc), oG (q 6) (q 7) tmc tn, aN cA (q 7) 4 tmem, oT (q 8) (q 9) tm t, aN cA (q 9) 7 hp, oR (q 10) (q 11) (q 12), aN cA (q 11) 16 tp, aN cA (q 12) 4 pl, oY (q 13) (q 14) (q 15) (q 16) ny cg, aN cA (q 14) 6 wt, aN cA (q 15) 4 co, aN cA (q 16) 4 nc, aN cA (q 17) 7 bo, aN cA (q 18) 7 pr, aN cA (q 19) 4 sh, aN cA (q 20) 4 sw, aN cA (q 21) 201 sv, oM q2 0 tr mc size num ny cg, aN cA (q2 1) 16 sets, aN cA (q2 2) 8 (bt ch), aN cA (q2 3) 8 amts, aN cA (q2 4) 7 bo, aN cA (q2 5) 7 pr, aN cA (q2 6) 4 sh, aN cA (q2 7) 6 wt, aN cA (q2 8) 7 hp, aR cA (q2 9) 4 (tel t), aN cA (q2 10) 201 mo, aN cA (q2 11) 4 pl2, aR cA (q2 12) 5 be, aN cA (q2 13) 4 co2, aN cA (q2 14) 4 nx]) E Z (k_X5_routes_bad l D cA q mc bn bl tr (xs (i + 1)) (by first | assumption | omega)) wv_L_73 ⟨rfl, rfl, Nat.le_of_ble_eq_true rfl, Nat.le_of_ble_eq_true rfl⟩ [0] rfl rfl rfl rfl (q0 := 0) rfl (fun _ => rfl) (fun _ => rfl) rfl hl.1 rfl (Nat.le_of_ble_eq_true rfl) dL_law_600 ⟨(Nat.le_of_ble_eq_true rfl), (Nat.le_of_ble_eq_true rfl)⟩ (fun r600 _ H locs hp600 Z => ?_)
    subst hp600
    refine lv_topi (fun y9 ey9 => ?_)
    refine lv_aload_n hx hb dL_law_603 rfl (lv_at hl 2 rfl) ?_
    refine lv_aload_n hx hb dL_law_604 rfl (lv_at hl 0 rfl) ?_
    refine lv_iload_n hx hb dL_law_605 rfl (lv_at hl 3 rfl) ?_
    refine lv_iconst (v := nI 1) hx hb dL_law_606 (by decide) ?_
    refine n_iadd hx hb dL_law_607 ?_
    refine r_sld E Z SC (by omega) hL dL_law_608 ?_
    refine c_Vi (As := [.int (xs (i + 1))]) (rest := [.int y9]) (w2 := fun _ => [oX q mc bn bl tr, oP (q 1) (q 2) (q 3) size ch, aN cA (q 2) 16 sets, aN cA (q 3) 8 amts, oG (q 4) (q 5) mc num, aN cA (q 5) 4 (mF num mc), oG (q 6) (q 7) tmc tn, aN cA (q 7) 4 tmem, oT (q 8) (q 9) tm t, aN cA (q 9) 7 hp, oR (q 10) (q 11) (q 12), aN cA (q 11) 16 tp, aN cA (q 12) 4 pl, oY (q 13) (q 14) (q 15) (q 16) ny cg, aN cA (q 14) 6 wt, aN cA (q 15) 4 co, aN cA (q 16) 4 nc, aN cA (q 17) 7 bo, aN cA (q 18) 7 pr, aN cA (q 19) 4 sh, aN cA (q 20) 4 sw, aN cA (q 21) 201 sv, oM q2 0 tr mc size num ny cg, aN cA (q2 1) 16 sets, aN cA (q2 2) 8 (bt ch), aN cA (q2 3) 8 amts, aN cA (q2 4) 7 bo, aN cA (q2 5) 7 pr, aN cA (q2 6) 4 sh, aN cA (q2 7) 6 wt, aN cA (q2 8) 7 hp, aR cA (q2 9) 4 (tel t), aN cA (q2 10) 201 mo, aN cA (q2 11) 4 pl2, aR cA (q2 12) 5 be, aN cA (q2 13) 4 co2, aN cA (q2 14) 4 nx]) E Z (k_X6_routes_bad l D cA q2 tr mc size num ny cg (xs (i + 1)) (by first | assumption | omega)) wv_L_76 ⟨rfl, rfl, Nat.le_of_ble_eq_true rfl, Nat.le_of_ble_eq_true rfl⟩ [22] rfl rfl rfl rfl (q0 := 0) rfl (fun _ => rfl) (fun _ => rfl) rfl hl.1 rfl (Nat.le_of_ble_eq_true rfl) dL_law_609 ⟨(Nat.le_of_ble_eq_true rfl), (Nat.le_of_ble_eq_true rfl)⟩ (fun r609 _ H locs hp609 Z => ?_)
    subst hp609
    refine lv_icmp_eq (tgt := 901) hx hb dL_law_612 (by decide) (fun c612 => ?_) (fun c612 => absurd ey9 c612)
    exact N901 _ _ _ _ _ _ _ _ _ _ _ _ _ _ _ _ _ _ _ _ _ _ _ _ _ _ _ _ _ _ _ _ ⟨hm1, hM, hp1, hP, hc2, hs, ha10, hnum, ht, hh, hny, hcg, hwt, hb100, hpr, hsh, hmo⟩ _ _ Z _ hl
set_option maxHeartbeats 4000000 in
set_option maxRecDepth 100000 in
theorem lc_copy {p : Program} {l : Launch} {e : Env} {s : State} {m : MethodId} {below : List Frame} {meth : Method} {c : Code} {D : va_G} {cA : ClassId} {A : Nat → Prop} {b L : Nat} {xs : Nat → Int32} {Q : State → Prop} {q q2 : Nat → Nat} {i : Nat} (E : Ev p s m #[Value.ref b] c cL_law 4 RL D cA A) (hXs : XZ A s s.heap) (SC : va_X b L xs s s.heap ∧ b < s.heap.size ∧ ¬ A b) (hi : i + 5 ≤ L) (hL : L ≤ 2560) (N901 : LN p l e s m below meth c D cA A b Q q q2 i) {mc size ch num ny cg bn bl tmc tn tm : Nat} {sets amts hp wt bo pr sh tmem tp pl co nc sw sv mo pl2 co2 nx : Nat → Nat} {t : TS} {tr : Int64} {be : Nat → Int32} (hI : LInv mc size ch num ny cg sets amts hp wt bo pr sh mo t) {H : Heap} {locs : List Loc} (Z : Wd D A s (LW cA q q2 mc size ch num ny cg bn bl tmc tn tm sets amts hp wt bo pr sh tmem tp pl co nc sw sv mo pl2 co2 nx t tr be) H locs) {ls : Array Slot} (hl : lv_has ls 4 [(0, .ref b), (1, .ref (q 0)), (2, .ref (q2 0)), (3, .int (nI i))]) : W p l e room_1 s m #[Value.ref b] below meth c H locs 37 640 Q (F0 m 650 ls []) := by
  have hx := E.1.1
  have hb := E.1.2.1
  unfold LN LW at N901
  unfold LW at Z
  obtain ⟨hm1, hM, hp1, hP, hc2, hs, ha10, hnum, ht, hh, hny, hcg, hwt, hb100, hpr, hsh, hmo⟩ := hI
  have hch := ch256 hc2 hP
  have h20 := Nat.two_pow_pos mc
  have h202 := Nat.two_pow_pos (2 * mc)
  have h27 : 2 ^ mc ≤ 2 ^ 7 := Nat.pow_le_pow_right (by decide) hM
  have h14 : 2 ^ (2 * mc) ≤ 2 ^ 14 := Nat.pow_le_pow_right (by decide) (by omega)
  by_cases hC : ∃ j d : Nat, j < mc ∧ d < 4 ∧ xs (i + 1) = nI j ∧ xs (i + 2) = nI d ∧ cl num j ≠ d
  · obtain ⟨k1, k2, hk11, hk21, ek1, ek2, hne⟩ := hC
    refine lv_aload_n hx hb dL_law_650 rfl (lv_at hl 1 rfl) ?_
    refine lv_aload_n hx hb dL_law_651 rfl (lv_at hl 0 rfl) ?_
    refine lv_iload_n hx hb dL_law_652 rfl (lv_at hl 3 rfl) ?_
    refine lv_iconst (v := nI 1) hx hb dL_law_653 (by decide) ?_
    refine n_iadd hx hb dL_law_654 ?_
    refine r_sld E Z SC (by omega) hL dL_law_655 ?_
    refine r_top (y := nI k1) ek1 ?_
    refine lv_aload_n hx hb dL_law_656 rfl (lv_at hl 0 rfl) ?_
    refine lv_iload_n hx hb dL_law_657 rfl (lv_at hl 3 rfl) ?_
    refine lv_iconst (v := nI 2) hx hb dL_law_658 (by decide) ?_
    refine n_iadd hx hb dL_law_659 ?_
    refine r_sld E Z SC (by omega) hL dL_law_660 ?_
    refine r_top (y := nI k2) ek2 ?_
    refine c_Vi (As := [.int (nI k1), .int (nI k2)]) (rest := []) (w2 := fun _ => [oX q mc bn bl tr, oP (q 1) (q 2) (q 3) size ch, aN cA (q 2) 16 sets, aN cA (q 3) 8 amts, oG (q 4) (q 5) mc num, aN cA (q 5) 4 (mF num mc), oG (q 6) (q 7) tmc tn, aN cA (q 7) 4 tmem, oT (q 8) (q 9) tm t, aN cA (q 9) 7 hp, oR (q 10) (q 11) (q 12), aN cA (q 11) 16 tp, aN cA (q 12) 4 pl, oY (q 13) (q 14) (q 15) (q 16) ny cg, aN cA (q 14) 6 wt, aN cA (q 15) 4 co, aN cA (q 16) 4 nc, aN cA (q 17) 7 bo, aN cA (q 18) 7 pr, aN cA (q 19) 4 sh, aN cA (q 20) 4 sw, aN cA (q 21) 201 sv, oM q2 0 tr mc size num ny cg, aN cA (q2 1) 16 sets, aN cA (q2 2) 8 (bt ch), aN cA (q2 3) 8 amts, aN cA (q2 4) 7 bo, aN cA (q2 5) 7 pr, aN cA (q2 6) 4 sh, aN cA (q2 7) 6 wt, aN cA (q2 8) 7 hp, aR cA (q2 9) 4 (tel t), aN cA (q2 10) 201 mo, aN cA (q2 11) 4 pl2, aR cA (q2 12) 5 be, aN cA (q2 13) 4 co2, aN cA (q2 14) 4 nx]) E Z (k_X5_copy l D cA q mc bn bl tr size ch sets amts num k1 k2 (by first | assumption | omega) (by first | assumption | omega) (by first | assumption | omega) (by first | assumption | omega) (by first | assumption | omega) (by first | assumption | omega) (by first | assumption | omega) (by first | assumption | omega) (by first | assumption | omega)) wv_L_81 ⟨rfl, rfl, Nat.le_of_ble_eq_true rfl, Nat.le_of_ble_eq_true rfl⟩ [0, 1, 2, 3, 4, 5] rfl rfl rfl rfl (q0 := 0) rfl (fun _ => rfl) (fun _ => rfl) rfl hl.1 rfl (Nat.le_of_ble_eq_true rfl) dL_law_661 ⟨(Nat.le_of_ble_eq_true rfl), (Nat.le_of_ble_eq_true rfl)⟩ (fun r661 _ H locs hp661 Z => ?_)
    subst hp661
    refine lv_topi (fun y9 ey9 => ?_)
    refine lv_aload_n hx hb dL_law_664 rfl (lv_at hl 2 rfl) ?_
    refine lv_aload_n hx hb dL_law_665 rfl (lv_at hl 0 rfl) ?_
    refine lv_iload_n hx hb dL_law_666 rfl (lv_at hl 3 rfl) ?_
    refine lv_iconst (v := nI 1) hx hb dL_law_667 (by decide) ?_
    refine n_iadd hx hb dL_law_668 ?_
    refine r_sld E Z SC (by omega) hL dL_law_669 ?_
    refine r_top (y := nI k1) ek1 ?_
    refine lv_aload_n hx hb dL_law_670 rfl (lv_at hl 0 rfl) ?_
    refine lv_iload_n hx hb dL_law_671 rfl (lv_at hl 3 rfl) ?_
    refine lv_iconst (v := nI 2) hx hb dL_law_672 (by decide) ?_
    refine n_iadd hx hb dL_law_673 ?_
    refine r_sld E Z SC (by omega) hL dL_law_674 ?_
    refine r_top (y := nI k2) ek2 ?_
    refine c_Vi (As := [.int (nI k1), .int (nI k2)]) (rest := [.int y9]) (w2 := fun _ => [oX q mc bn bl tr, oP (q 1) (q 2) (q 3) size ch, aN cA (q 2) 16 sets, aN cA (q 3) 8 amts, oG (q 4) (q 5) mc num, aN cA (q 5) 4 (mF num mc), oG (q 6) (q 7) tmc tn, aN cA (q 7) 4 tmem, oT (q 8) (q 9) tm t, aN cA (q 9) 7 hp, oR (q 10) (q 11) (q 12), aN cA (q 11) 16 tp, aN cA (q 12) 4 pl, oY (q 13) (q 14) (q 15) (q 16) ny cg, aN cA (q 14) 6 wt, aN cA (q 15) 4 co, aN cA (q 16) 4 nc, aN cA (q 17) 7 bo, aN cA (q 18) 7 pr, aN cA (q 19) 4 sh, aN cA (q 20) 4 sw, aN cA (q 21) 201 sv, oM q2 0 tr mc size num ny cg, aN cA (q2 1) 16 sets, aN cA (q2 2) 8 (bt ch), aN cA (q2 3) 8 amts, aN cA (q2 4) 7 bo, aN cA (q2 5) 7 pr, aN cA (q2 6) 4 sh, aN cA (q2 7) 6 wt, aN cA (q2 8) 7 hp, aR cA (q2 9) 4 (tel t), aN cA (q2 10) 201 mo, aN cA (q2 11) 4 pl2, aR cA (q2 12) 5 be, aN cA (q2 13) 4 co2, aN cA (q2 14) 4 nx]) E Z (k_X6_copy l D cA q2 tr mc size num ny cg sets ch amts k1 k2 (by first | assumption | omega) (by first | assumption | omega) (by first | assumption | omega) (by first | assumption | omega) (by first | assumption | omega) (by first | assumption | omega) (by first | assumption | omega) (by first | assumption | omega)) wv_L_84 ⟨rfl, rfl, Nat.le_of_ble_eq_true rfl, Nat.le_of_ble_eq_true rfl⟩ [22, 23, 24, 25] rfl rfl rfl rfl (q0 := 0) rfl (fun _ => rfl) (fun _ => rfl) rfl hl.1 rfl (Nat.le_of_ble_eq_true rfl) dL_law_675 ⟨(Nat.le_of_ble_eq_true rfl), (Nat.le_of_ble_eq_true rfl)⟩ (fun r675 _ H locs hp675 Z => ?_)
    subst hp675
    refine lv_icmp_eq (tgt := 901) hx hb dL_law_678 (by decide) (fun c678 => ?_) (fun c678 => absurd ey9 c678)
    exact N901 _ _ _ _ _ _ _ _ _ _ _ _ _ _ _ _ _ _ _ _ _ _ _ _ _ _ _ _ _ _ _ _ ⟨hm1, hM, hp1, hP, hc2, hs, ha10, hnum, ht, hh, hny, hcg, hwt, hb100, hpr, hsh, hmo⟩ _ _ Z _ hl
  · have hbad : ∀ j d, j < mc → d < 4 → xs (i + 1) = nI j → xs (i + 2) = nI d → cl num j = d := fun j d h1 h2 h3 h4 => Classical.byContradiction fun h5 => hC ⟨j, d, h1, h2, h3, h4, h5⟩
    refine lv_aload_n hx hb dL_law_650 rfl (lv_at hl 1 rfl) ?_
    refine lv_aload_n hx hb dL_law_651 rfl (lv_at hl 0 rfl) ?_
    refine lv_iload_n hx hb dL_law_652 rfl (lv_at hl 3 rfl) ?_
    refine lv_iconst (v := nI 1) hx hb dL_law_653 (by decide) ?_
    refine n_iadd hx hb dL_law_654 ?_
    refine r_sld E Z SC (by omega) hL dL_law_655 ?_
    refine lv_aload_n hx hb dL_law_656 rfl (lv_at hl 0 rfl) ?_
    refine lv_iload_n hx hb dL_law_657 rfl (lv_at hl 3 rfl) ?_
    refine lv_iconst (v := nI 2) hx hb dL_law_658 (by decide) ?_
    refine n_iadd hx hb dL_law_659 ?_
    refine r_sld E Z SC (by omega) hL dL_law_660 ?_
    refine c_Vi (As := [.int (xs (i + 1)), .int (xs (i + 2))]) (rest := []) (w2 := fun _ => [oX q mc bn bl tr, oP (q 1) (q 2) (q 3) size ch, aN cA (q 2) 16 sets, aN cA (q 3) 8 amts, oG (q 4) (q 5) mc num, aN cA (q 5) 4 (mF num mc), oG (q 6) (q 7) tmc tn, aN cA (q 7) 4 tmem, oT (q 8) (q 9) tm t, aN cA (q 9) 7 hp, oR (q 10) (q 11) (q 12), aN cA (q 11) 16 tp, aN cA (q 12) 4 pl, oY (q 13) (q 14) (q 15) (q 16) ny cg, aN cA (q 14) 6 wt, aN cA (q 15) 4 co, aN cA (q 16) 4 nc, aN cA (q 17) 7 bo, aN cA (q 18) 7 pr, aN cA (q 19) 4 sh, aN cA (q 20) 4 sw, aN cA (q 21) 201 sv, oM q2 0 tr mc size num ny cg, aN cA (q2 1) 16 sets, aN cA (q2 2) 8 (bt ch), aN cA (q2 3) 8 amts, aN cA (q2 4) 7 bo, aN cA (q2 5) 7 pr, aN cA (q2 6) 4 sh, aN cA (q2 7) 6 wt, aN cA (q2 8) 7 hp, aR cA (q2 9) 4 (tel t), aN cA (q2 10) 201 mo, aN cA (q2 11) 4 pl2, aR cA (q2 12) 5 be, aN cA (q2 13) 4 co2, aN cA (q2 14) 4 nx]) E Z (k_X5_copy_bad l D cA q mc bn bl tr num (xs (i + 1)) (xs (i + 2)) (by first | assumption | omega) (by first | assumption | omega) (by first | assumption | omega) (by first | assumption | omega)) wv_L_81 ⟨rfl, rfl, Nat.le_of_ble_eq_true rfl, Nat.le_of_ble_eq_true rfl⟩ [0, 4] rfl rfl rfl rfl (q0 := 0) rfl (fun _ => rfl) (fun _ => rfl) rfl hl.1 rfl (Nat.le_of_ble_eq_true rfl) dL_law_661 ⟨(Nat.le_of_ble_eq_true rfl), (Nat.le_of_ble_eq_true rfl)⟩ (fun r661 _ H locs hp661 Z => ?_)
    subst hp661
    refine lv_topi (fun y9 ey9 => ?_)
    refine lv_aload_n hx hb dL_law_664 rfl (lv_at hl 2 rfl) ?_
    refine lv_aload_n hx hb dL_law_665 rfl (lv_at hl 0 rfl) ?_
    refine lv_iload_n hx hb dL_law_666 rfl (lv_at hl 3 rfl) ?_
    refine lv_iconst (v := nI 1) hx hb dL_law_667 (by decide) ?_
    refine n_iadd hx hb dL_law_668 ?_
    refine r_sld E Z SC (by omega) hL dL_law_669 ?_
    refine lv_aload_n hx hb dL_law_670 rfl (lv_at hl 0 rfl) ?_
    refine lv_iload_n hx hb dL_law_671 rfl (lv_at hl 3 rfl) ?_
    refine lv_iconst (v := nI 2) hx hb dL_law_672 (by decide) ?_
    refine n_iadd hx hb dL_law_673 ?_
    refine r_sld E Z SC (by omega) hL dL_law_674 ?_
    refine c_Vi (As := [.int (xs (i + 1)), .int (xs (i + 2))]) (rest := [.int y9]) (w2 := fun _ => [oX q mc bn bl tr, oP (q 1) (q 2) (q 3) size ch, aN cA (q 2) 16 sets, aN cA (q 3) 8 amts, oG (q 4) (q 5) mc num, aN cA (q 5) 4 (mF num mc), oG (q 6) (q 7) tmc tn, aN cA (q 7) 4 tmem, oT (q 8) (q 9) tm t, aN cA (q 9) 7 hp, oR (q 10) (q 11) (q 12), aN cA (q 11) 16 tp, aN cA (q 12) 4 pl, oY (q 13) (q 14) (q 15) (q 16) ny cg, aN cA (q 14) 6 wt, aN cA (q 15) 4 co, aN cA (q 16) 4 nc, aN cA (q 17) 7 bo, aN cA (q 18) 7 pr, aN cA (q 19) 4 sh, aN cA (q 20) 4 sw, aN cA (q 21) 201 sv, oM q2 0 tr mc size num ny cg, aN cA (q2 1) 16 sets, aN cA (q2 2) 8 (bt ch), aN cA (q2 3) 8 amts, aN cA (q2 4) 7 bo, aN cA (q2 5) 7 pr, aN cA (q2 6) 4 sh, aN cA (q2 7) 6 wt, aN cA (q2 8) 7 hp, aR cA (q2 9) 4 (tel t), aN cA (q2 10) 201 mo, aN cA (q2 11) 4 pl2, aR cA (q2 12) 5 be, aN cA (q2 13) 4 co2, aN cA (q2 14) 4 nx]) E Z (k_X6_copy_bad l D cA q2 tr mc size num ny cg (xs (i + 1)) (xs (i + 2)) (by first | assumption | omega) (by first | assumption | omega) (by first | assumption | omega) (by first | assumption | omega)) wv_L_84 ⟨rfl, rfl, Nat.le_of_ble_eq_true rfl, Nat.le_of_ble_eq_true rfl⟩ [22] rfl rfl rfl rfl (q0 := 0) rfl (fun _ => rfl) (fun _ => rfl) rfl hl.1 rfl (Nat.le_of_ble_eq_true rfl) dL_law_675 ⟨(Nat.le_of_ble_eq_true rfl), (Nat.le_of_ble_eq_true rfl)⟩ (fun r675 _ H locs hp675 Z => ?_)
    subst hp675
    refine lv_icmp_eq (tgt := 901) hx hb dL_law_678 (by decide) (fun c678 => ?_) (fun c678 => absurd ey9 c678)
    exact N901 _ _ _ _ _ _ _ _ _ _ _ _ _ _ _ _ _ _ _ _ _ _ _ _ _ _ _ _ _ _ _ _ ⟨hm1, hM, hp1, hP, hc2, hs, ha10, hnum, ht, hh, hny, hcg, hwt, hb100, hpr, hsh, hmo⟩ _ _ Z _ hl
set_option maxHeartbeats 4000000 in
set_option maxRecDepth 100000 in
theorem lc_saved {p : Program} {l : Launch} {e : Env} {s : State} {m : MethodId} {below : List Frame} {meth : Method} {c : Code} {D : va_G} {cA : ClassId} {A : Nat → Prop} {b L : Nat} {xs : Nat → Int32} {Q : State → Prop} {q q2 : Nat → Nat} {i : Nat} (E : Ev p s m #[Value.ref b] c cL_law 4 RL D cA A) (hXs : XZ A s s.heap) (SC : va_X b L xs s s.heap ∧ b < s.heap.size ∧ ¬ A b) (hi : i + 5 ≤ L) (hL : L ≤ 2560) (N901 : LN p l e s m below meth c D cA A b Q q q2 i) {mc size ch num ny cg bn bl tmc tn tm : Nat} {sets amts hp wt bo pr sh tmem tp pl co nc sw sv mo pl2 co2 nx : Nat → Nat} {t : TS} {tr : Int64} {be : Nat → Int32} (hI : LInv mc size ch num ny cg sets amts hp wt bo pr sh mo t) {H : Heap} {locs : List Loc} (Z : Wd D A s (LW cA q q2 mc size ch num ny cg bn bl tmc tn tm sets amts hp wt bo pr sh tmem tp pl co nc sw sv mo pl2 co2 nx t tr be) H locs) {ls : Array Slot} (hl : lv_has ls 4 [(0, .ref b), (1, .ref (q 0)), (2, .ref (q2 0)), (3, .int (nI i))]) : W p l e room_1 s m #[Value.ref b] below meth c H locs 37 640 Q (F0 m 683 ls []) := by
  have hx := E.1.1
  have hb := E.1.2.1
  unfold LN LW at N901
  unfold LW at Z
  obtain ⟨hm1, hM, hp1, hP, hc2, hs, ha10, hnum, ht, hh, hny, hcg, hwt, hb100, hpr, hsh, hmo⟩ := hI
  have hch := ch256 hc2 hP
  have h20 := Nat.two_pow_pos mc
  have h202 := Nat.two_pow_pos (2 * mc)
  have h27 : 2 ^ mc ≤ 2 ^ 7 := Nat.pow_le_pow_right (by decide) hM
  have h14 : 2 ^ (2 * mc) ≤ 2 ^ 14 := Nat.pow_le_pow_right (by decide) (by omega)
  by_cases hC : (nI 0 ≤ xs (i + 1) ∧ xs (i + 1) ≤ nI 200)
  · obtain ⟨k1, hk10, hk11, ek1⟩ := in_nat (by decide) hC (by decide)
    refine lv_aload_n hx hb dL_law_683 rfl (lv_at hl 1 rfl) ?_
    refine lv_aload_n hx hb dL_law_684 rfl (lv_at hl 0 rfl) ?_
    refine lv_iload_n hx hb dL_law_685 rfl (lv_at hl 3 rfl) ?_
    refine lv_iconst (v := nI 1) hx hb dL_law_686 (by decide) ?_
    refine n_iadd hx hb dL_law_687 ?_
    refine r_sld E Z SC (by omega) hL dL_law_688 ?_
    refine r_top (y := nI k1) ek1 ?_
    refine c_Vi (As := [.int (nI k1)]) (rest := []) (w2 := fun _ => [oX q mc bn bl tr, oP (q 1) (q 2) (q 3) size ch, aN cA (q 2) 16 sets, aN cA (q 3) 8 amts, oG (q 4) (q 5) mc num, aN cA (q 5) 4 (mF num mc), oG (q 6) (q 7) tmc tn, aN cA (q 7) 4 tmem, oT (q 8) (q 9) tm t, aN cA (q 9) 7 hp, oR (q 10) (q 11) (q 12), aN cA (q 11) 16 tp, aN cA (q 12) 4 pl, oY (q 13) (q 14) (q 15) (q 16) ny cg, aN cA (q 14) 6 wt, aN cA (q 15) 4 co, aN cA (q 16) 4 nc, aN cA (q 17) 7 bo, aN cA (q 18) 7 pr, aN cA (q 19) 4 sh, aN cA (q 20) 4 sw, aN cA (q 21) 201 (svF mc num size sets amts pr ch k1 mc), oM q2 0 tr mc size num ny cg, aN cA (q2 1) 16 sets, aN cA (q2 2) 8 (bt ch), aN cA (q2 3) 8 amts, aN cA (q2 4) 7 bo, aN cA (q2 5) 7 pr, aN cA (q2 6) 4 sh, aN cA (q2 7) 6 wt, aN cA (q2 8) 7 hp, aR cA (q2 9) 4 (tel t), aN cA (q2 10) 201 mo, aN cA (q2 11) 4 pl2, aR cA (q2 12) 5 be, aN cA (q2 13) 4 co2, aN cA (q2 14) 4 nx]) E Z (k_X5_saved l D cA q mc bn bl tr size ch sets amts num pr sv k1 (by first | assumption | omega) (by first | assumption | omega) (by first | assumption | omega) (by first | assumption | omega) (by first | assumption | omega) (by first | assumption | omega) (by first | assumption | omega) (by first | assumption | omega)) wv_L_85 ⟨rfl, rfl, Nat.le_of_ble_eq_true rfl, Nat.le_of_ble_eq_true rfl⟩ [0, 1, 2, 3, 4, 5, 18, 21] rfl rfl rfl rfl (q0 := 0) rfl (fun _ => rfl) (fun _ => rfl) rfl hl.1 rfl (Nat.le_of_ble_eq_true rfl) dL_law_689 ⟨(Nat.le_of_ble_eq_true rfl), (Nat.le_of_ble_eq_true rfl)⟩ (fun r689 _ H locs hp689 Z => ?_)
    subst hp689
    refine lv_topi (fun y9 ey9 => ?_)
    refine lv_aload_n hx hb dL_law_692 rfl (lv_at hl 2 rfl) ?_
    refine lv_aload_n hx hb dL_law_693 rfl (lv_at hl 0 rfl) ?_
    refine lv_iload_n hx hb dL_law_694 rfl (lv_at hl 3 rfl) ?_
    refine lv_iconst (v := nI 1) hx hb dL_law_695 (by decide) ?_
    refine n_iadd hx hb dL_law_696 ?_
    refine r_sld E Z SC (by omega) hL dL_law_697 ?_
    refine r_top (y := nI k1) ek1 ?_
    refine c_Vi (As := [.int (nI k1)]) (rest := [.int y9]) (w2 := fun _ => [oX q mc bn bl tr, oP (q 1) (q 2) (q 3) size ch, aN cA (q 2) 16 sets, aN cA (q 3) 8 amts, oG (q 4) (q 5) mc num, aN cA (q 5) 4 (mF num mc), oG (q 6) (q 7) tmc tn, aN cA (q 7) 4 tmem, oT (q 8) (q 9) tm t, aN cA (q 9) 7 hp, oR (q 10) (q 11) (q 12), aN cA (q 11) 16 tp, aN cA (q 12) 4 pl, oY (q 13) (q 14) (q 15) (q 16) ny cg, aN cA (q 14) 6 wt, aN cA (q 15) 4 co, aN cA (q 16) 4 nc, aN cA (q 17) 7 bo, aN cA (q 18) 7 pr, aN cA (q 19) 4 sh, aN cA (q 20) 4 sw, aN cA (q 21) 201 (svF mc num size sets amts pr ch k1 mc), oM q2 0 tr mc size num ny cg, aN cA (q2 1) 16 sets, aN cA (q2 2) 8 (bt ch), aN cA (q2 3) 8 amts, aN cA (q2 4) 7 bo, aN cA (q2 5) 7 pr, aN cA (q2 6) 4 sh, aN cA (q2 7) 6 wt, aN cA (q2 8) 7 hp, aR cA (q2 9) 4 (tel t), aN cA (q2 10) 201 (svG mc num size sets amts pr ch k1 (fillF mo 0 (k1 + 1)) mc), aN cA (q2 11) 4 pl2, aR cA (q2 12) 5 be, aN cA (q2 13) 4 co2, aN cA (q2 14) 4 nx]) E Z (k_X6_saved l D cA q2 tr mc size num ny cg sets ch amts pr mo k1 (by first | assumption | omega) (by first | assumption | omega) (by first | assumption | omega) (by first | assumption | omega) (by first | assumption | omega) (by first | assumption | omega) (by first | assumption | omega) (by first | assumption | omega)) wv_L_88 ⟨rfl, rfl, Nat.le_of_ble_eq_true rfl, Nat.le_of_ble_eq_true rfl⟩ [22, 23, 24, 25, 27, 32] rfl rfl rfl rfl (q0 := 0) rfl (fun _ => rfl) (fun _ => rfl) rfl hl.1 rfl (Nat.le_of_ble_eq_true rfl) dL_law_698 ⟨(Nat.le_of_ble_eq_true rfl), (Nat.le_of_ble_eq_true rfl)⟩ (fun r698 _ H locs hp698 Z => ?_)
    subst hp698
    refine lv_icmp_eq (tgt := 901) hx hb dL_law_701 (by decide) (fun c701 => ?_) (fun c701 => absurd (ey9.trans (congrArg nI (E_saved mo))) c701)
    exact N901 _ _ _ _ _ _ _ _ _ _ _ _ _ _ _ _ _ _ _ _ _ _ _ _ _ _ _ _ _ _ _ _ ⟨hm1, hM, hp1, hP, hc2, hs, ha10, hnum, ht, hh, hny, hcg, hwt, hb100, hpr, hsh, mo_keep hM hP ha10 (by omega) hmo⟩ _ _ Z _ hl
  · have hC2 := hC
    refine lv_aload_n hx hb dL_law_683 rfl (lv_at hl 1 rfl) ?_
    refine lv_aload_n hx hb dL_law_684 rfl (lv_at hl 0 rfl) ?_
    refine lv_iload_n hx hb dL_law_685 rfl (lv_at hl 3 rfl) ?_
    refine lv_iconst (v := nI 1) hx hb dL_law_686 (by decide) ?_
    refine n_iadd hx hb dL_law_687 ?_
    refine r_sld E Z SC (by omega) hL dL_law_688 ?_
    refine c_Vi (As := [.int (xs (i + 1))]) (rest := []) (w2 := fun _ => [oX q mc bn bl tr, oP (q 1) (q 2) (q 3) size ch, aN cA (q 2) 16 sets, aN cA (q 3) 8 amts, oG (q 4) (q 5) mc num, aN cA (q 5) 4 (mF num mc), oG (q 6) (q 7) tmc tn, aN cA (q 7) 4 tmem, oT (q 8) (q 9) tm t, aN cA (q 9) 7 hp, oR (q 10) (q 11) (q 12), aN cA (q 11) 16 tp, aN cA (q 12) 4 pl, oY (q 13) (q 14) (q 15) (q 16) ny cg, aN cA (q 14) 6 wt, aN cA (q 15) 4 co, aN cA (q 16) 4 nc, aN cA (q 17) 7 bo, aN cA (q 18) 7 pr, aN cA (q 19) 4 sh, aN cA (q 20) 4 sw, aN cA (q 21) 201 sv, oM q2 0 tr mc size num ny cg, aN cA (q2 1) 16 sets, aN cA (q2 2) 8 (bt ch), aN cA (q2 3) 8 amts, aN cA (q2 4) 7 bo, aN cA (q2 5) 7 pr, aN cA (q2 6) 4 sh, aN cA (q2 7) 6 wt, aN cA (q2 8) 7 hp, aR cA (q2 9) 4 (tel t), aN cA (q2 10) 201 mo, aN cA (q2 11) 4 pl2, aR cA (q2 12) 5 be, aN cA (q2 13) 4 co2, aN cA (q2 14) 4 nx]) E Z (k_X5_saved_bad l D cA q mc bn bl tr (xs (i + 1)) (by first | assumption | omega)) wv_L_85 ⟨rfl, rfl, Nat.le_of_ble_eq_true rfl, Nat.le_of_ble_eq_true rfl⟩ [0] rfl rfl rfl rfl (q0 := 0) rfl (fun _ => rfl) (fun _ => rfl) rfl hl.1 rfl (Nat.le_of_ble_eq_true rfl) dL_law_689 ⟨(Nat.le_of_ble_eq_true rfl), (Nat.le_of_ble_eq_true rfl)⟩ (fun r689 _ H locs hp689 Z => ?_)
    subst hp689
    refine lv_topi (fun y9 ey9 => ?_)
    refine lv_aload_n hx hb dL_law_692 rfl (lv_at hl 2 rfl) ?_
    refine lv_aload_n hx hb dL_law_693 rfl (lv_at hl 0 rfl) ?_
    refine lv_iload_n hx hb dL_law_694 rfl (lv_at hl 3 rfl) ?_
    refine lv_iconst (v := nI 1) hx hb dL_law_695 (by decide) ?_
    refine n_iadd hx hb dL_law_696 ?_
    refine r_sld E Z SC (by omega) hL dL_law_697 ?_
    refine c_Vi (As := [.int (xs (i + 1))]) (rest := [.int y9]) (w2 := fun _ => [oX q mc bn bl tr, oP (q 1) (q 2) (q 3) size ch, aN cA (q 2) 16 sets, aN cA (q 3) 8 amts, oG (q 4) (q 5) mc num, aN cA (q 5) 4 (mF num mc), oG (q 6) (q 7) tmc tn, aN cA (q 7) 4 tmem, oT (q 8) (q 9) tm t, aN cA (q 9) 7 hp, oR (q 10) (q 11) (q 12), aN cA (q 11) 16 tp, aN cA (q 12) 4 pl, oY (q 13) (q 14) (q 15) (q 16) ny cg, aN cA (q 14) 6 wt, aN cA (q 15) 4 co, aN cA (q 16) 4 nc, aN cA (q 17) 7 bo, aN cA (q 18) 7 pr, aN cA (q 19) 4 sh, aN cA (q 20) 4 sw, aN cA (q 21) 201 sv, oM q2 0 tr mc size num ny cg, aN cA (q2 1) 16 sets, aN cA (q2 2) 8 (bt ch), aN cA (q2 3) 8 amts, aN cA (q2 4) 7 bo, aN cA (q2 5) 7 pr, aN cA (q2 6) 4 sh, aN cA (q2 7) 6 wt, aN cA (q2 8) 7 hp, aR cA (q2 9) 4 (tel t), aN cA (q2 10) 201 mo, aN cA (q2 11) 4 pl2, aR cA (q2 12) 5 be, aN cA (q2 13) 4 co2, aN cA (q2 14) 4 nx]) E Z (k_X6_saved_bad l D cA q2 tr mc size num ny cg (xs (i + 1)) (by first | assumption | omega)) wv_L_88 ⟨rfl, rfl, Nat.le_of_ble_eq_true rfl, Nat.le_of_ble_eq_true rfl⟩ [22] rfl rfl rfl rfl (q0 := 0) rfl (fun _ => rfl) (fun _ => rfl) rfl hl.1 rfl (Nat.le_of_ble_eq_true rfl) dL_law_698 ⟨(Nat.le_of_ble_eq_true rfl), (Nat.le_of_ble_eq_true rfl)⟩ (fun r698 _ H locs hp698 Z => ?_)
    subst hp698
    refine lv_icmp_eq (tgt := 901) hx hb dL_law_701 (by decide) (fun c701 => ?_) (fun c701 => absurd ey9 c701)
    exact N901 _ _ _ _ _ _ _ _ _ _ _ _ _ _ _ _ _ _ _ _ _ _ _ _ _ _ _ _ _ _ _ _ ⟨hm1, hM, hp1, hP, hc2, hs, ha10, hnum, ht, hh, hny, hcg, hwt, hb100, hpr, hsh, hmo⟩ _ _ Z _ hl
set_option maxHeartbeats 4000000 in
set_option maxRecDepth 100000 in
theorem lc_way {p : Program} {l : Launch} {e : Env} {s : State} {m : MethodId} {below : List Frame} {meth : Method} {c : Code} {D : va_G} {cA : ClassId} {A : Nat → Prop} {b L : Nat} {xs : Nat → Int32} {Q : State → Prop} {q q2 : Nat → Nat} {i : Nat} (E : Ev p s m #[Value.ref b] c cL_law 4 RL D cA A) (hXs : XZ A s s.heap) (SC : va_X b L xs s s.heap ∧ b < s.heap.size ∧ ¬ A b) (hi : i + 5 ≤ L) (hL : L ≤ 2560) (N901 : LN p l e s m below meth c D cA A b Q q q2 i) {mc size ch num ny cg bn bl tmc tn tm : Nat} {sets amts hp wt bo pr sh tmem tp pl co nc sw sv mo pl2 co2 nx : Nat → Nat} {t : TS} {tr : Int64} {be : Nat → Int32} (hI : LInv mc size ch num ny cg sets amts hp wt bo pr sh mo t) {H : Heap} {locs : List Loc} (Z : Wd D A s (LW cA q q2 mc size ch num ny cg bn bl tmc tn tm sets amts hp wt bo pr sh tmem tp pl co nc sw sv mo pl2 co2 nx t tr be) H locs) {ls : Array Slot} (hl : lv_has ls 4 [(0, .ref b), (1, .ref (q 0)), (2, .ref (q2 0)), (3, .int (nI i))]) : W p l e room_1 s m #[Value.ref b] below meth c H locs 37 640 Q (F0 m 706 ls []) := by
  have hx := E.1.1
  have hb := E.1.2.1
  unfold LN LW at N901
  unfold LW at Z
  obtain ⟨hm1, hM, hp1, hP, hc2, hs, ha10, hnum, ht, hh, hny, hcg, hwt, hb100, hpr, hsh, hmo⟩ := hI
  have hch := ch256 hc2 hP
  have h20 := Nat.two_pow_pos mc
  have h202 := Nat.two_pow_pos (2 * mc)
  have h27 : 2 ^ mc ≤ 2 ^ 7 := Nat.pow_le_pow_right (by decide) hM
  have h14 : 2 ^ (2 * mc) ≤ 2 ^ 14 := Nat.pow_le_pow_right (by decide) (by omega)
  by_cases hC : ∃ a b d f : Nat, a < 4 ∧ b < 4 ∧ d < 4 ∧ f < 4 ∧ xs (i + 1) = nI a ∧ xs (i + 2) = nI b ∧ xs (i + 3) = nI d ∧ xs (i + 4) = nI f ∧ eo (ord a b d f)
  · obtain ⟨k1, k2, k3, k4, hk1, hk2, hk3, hk4, ek1, ek2, ek3, ek4, he⟩ := hC
    refine lv_aload_n hx hb dL_law_706 rfl (lv_at hl 1 rfl) ?_
    refine lv_aload_n hx hb dL_law_707 rfl (lv_at hl 0 rfl) ?_
    refine lv_iload_n hx hb dL_law_708 rfl (lv_at hl 3 rfl) ?_
    refine lv_iconst (v := nI 1) hx hb dL_law_709 (by decide) ?_
    refine n_iadd hx hb dL_law_710 ?_
    refine r_sld E Z SC (by omega) hL dL_law_711 ?_
    refine r_top (y := nI k1) ek1 ?_
    refine lv_aload_n hx hb dL_law_712 rfl (lv_at hl 0 rfl) ?_
    refine lv_iload_n hx hb dL_law_713 rfl (lv_at hl 3 rfl) ?_
    refine lv_iconst (v := nI 2) hx hb dL_law_714 (by decide) ?_
    refine n_iadd hx hb dL_law_715 ?_
    refine r_sld E Z SC (by omega) hL dL_law_716 ?_
    refine r_top (y := nI k2) ek2 ?_
    refine lv_aload_n hx hb dL_law_717 rfl (lv_at hl 0 rfl) ?_
    refine lv_iload_n hx hb dL_law_718 rfl (lv_at hl 3 rfl) ?_
    refine lv_iconst (v := nI 3) hx hb dL_law_719 (by decide) ?_
    refine n_iadd hx hb dL_law_720 ?_
    refine r_sld E Z SC (by omega) hL dL_law_721 ?_
    refine r_top (y := nI k3) ek3 ?_
    refine lv_aload_n hx hb dL_law_722 rfl (lv_at hl 0 rfl) ?_
    refine lv_iload_n hx hb dL_law_723 rfl (lv_at hl 3 rfl) ?_
    refine lv_iconst (v := nI 4) hx hb dL_law_724 (by decide) ?_
    refine n_iadd hx hb dL_law_725 ?_
    refine r_sld E Z SC (by omega) hL dL_law_726 ?_
    refine r_top (y := nI k4) ek4 ?_
    refine c_Vi (As := [.int (nI k1), .int (nI k2), .int (nI k3), .int (nI k4)]) (rest := []) (w2 := fun _ => [oX q mc bn bl tr, oP (q 1) (q 2) (q 3) size ch, aN cA (q 2) 16 sets, aN cA (q 3) 8 amts, oG (q 4) (q 5) mc num, aN cA (q 5) 4 (mF num mc), oG (q 6) (q 7) tmc tn, aN cA (q 7) 4 tmem, oT (q 8) (q 9) tm t, aN cA (q 9) 7 hp, oR (q 10) (q 11) (q 12), aN cA (q 11) 16 (ob mc num sets amts ch size), aN cA (q 12) 4 (plc (ord k1 k2 k3 k4)), oY (q 13) (q 14) (q 15) (q 16) ny cg, aN cA (q 14) 6 wt, aN cA (q 15) 4 co, aN cA (q 16) 4 nc, aN cA (q 17) 7 bo, aN cA (q 18) 7 pr, aN cA (q 19) 4 sh, aN cA (q 20) 4 sw, aN cA (q 21) 201 sv, oM q2 0 tr mc size num ny cg, aN cA (q2 1) 16 sets, aN cA (q2 2) 8 (bt ch), aN cA (q2 3) 8 amts, aN cA (q2 4) 7 bo, aN cA (q2 5) 7 pr, aN cA (q2 6) 4 sh, aN cA (q2 7) 6 wt, aN cA (q2 8) 7 hp, aR cA (q2 9) 4 (tel t), aN cA (q2 10) 201 mo, aN cA (q2 11) 4 pl2, aR cA (q2 12) 5 be, aN cA (q2 13) 4 co2, aN cA (q2 14) 4 nx]) E Z (k_X5_way l D cA q mc bn bl tr size ch sets amts num tp pl k1 k2 k3 k4 (by first | assumption | omega) (by first | assumption | omega) (by first | assumption | omega) (by first | assumption | omega) (by first | assumption | omega) (by first | assumption | omega) (by first | assumption | omega) (by first | assumption | omega) (by first | assumption | omega) (by first | assumption | omega)) wv_L_89 ⟨rfl, rfl, Nat.le_of_ble_eq_true rfl, Nat.le_of_ble_eq_true rfl⟩ [0, 1, 2, 3, 4, 5, 10, 11, 12] rfl rfl rfl rfl (q0 := 0) rfl (fun _ => rfl) (fun _ => rfl) rfl hl.1 rfl (Nat.le_of_ble_eq_true rfl) dL_law_727 ⟨(Nat.le_of_ble_eq_true rfl), (Nat.le_of_ble_eq_true rfl)⟩ (fun r727 _ H locs hp727 Z => ?_)
    subst hp727
    refine lv_topi (fun y9 ey9 => ?_)
    refine lv_aload_n hx hb dL_law_730 rfl (lv_at hl 2 rfl) ?_
    refine lv_aload_n hx hb dL_law_731 rfl (lv_at hl 0 rfl) ?_
    refine lv_iload_n hx hb dL_law_732 rfl (lv_at hl 3 rfl) ?_
    refine lv_iconst (v := nI 1) hx hb dL_law_733 (by decide) ?_
    refine n_iadd hx hb dL_law_734 ?_
    refine r_sld E Z SC (by omega) hL dL_law_735 ?_
    refine r_top (y := nI k1) ek1 ?_
    refine lv_aload_n hx hb dL_law_736 rfl (lv_at hl 0 rfl) ?_
    refine lv_iload_n hx hb dL_law_737 rfl (lv_at hl 3 rfl) ?_
    refine lv_iconst (v := nI 2) hx hb dL_law_738 (by decide) ?_
    refine n_iadd hx hb dL_law_739 ?_
    refine r_sld E Z SC (by omega) hL dL_law_740 ?_
    refine r_top (y := nI k2) ek2 ?_
    refine lv_aload_n hx hb dL_law_741 rfl (lv_at hl 0 rfl) ?_
    refine lv_iload_n hx hb dL_law_742 rfl (lv_at hl 3 rfl) ?_
    refine lv_iconst (v := nI 3) hx hb dL_law_743 (by decide) ?_
    refine n_iadd hx hb dL_law_744 ?_
    refine r_sld E Z SC (by omega) hL dL_law_745 ?_
    refine r_top (y := nI k3) ek3 ?_
    refine lv_aload_n hx hb dL_law_746 rfl (lv_at hl 0 rfl) ?_
    refine lv_iload_n hx hb dL_law_747 rfl (lv_at hl 3 rfl) ?_
    refine lv_iconst (v := nI 4) hx hb dL_law_748 (by decide) ?_
    refine n_iadd hx hb dL_law_749 ?_
    refine r_sld E Z SC (by omega) hL dL_law_750 ?_
    refine r_top (y := nI k4) ek4 ?_
    refine c_Vi (As := [.int (nI k1), .int (nI k2), .int (nI k3), .int (nI k4)]) (rest := [.int y9]) (w2 := fun _ => [oX q mc bn bl tr, oP (q 1) (q 2) (q 3) size ch, aN cA (q 2) 16 sets, aN cA (q 3) 8 amts, oG (q 4) (q 5) mc num, aN cA (q 5) 4 (mF num mc), oG (q 6) (q 7) tmc tn, aN cA (q 7) 4 tmem, oT (q 8) (q 9) tm t, aN cA (q 9) 7 hp, oR (q 10) (q 11) (q 12), aN cA (q 11) 16 (ob mc num sets amts ch size), aN cA (q 12) 4 (plc (ord k1 k2 k3 k4)), oY (q 13) (q 14) (q 15) (q 16) ny cg, aN cA (q 14) 6 wt, aN cA (q 15) 4 co, aN cA (q 16) 4 nc, aN cA (q 17) 7 bo, aN cA (q 18) 7 pr, aN cA (q 19) 4 sh, aN cA (q 20) 4 sw, aN cA (q 21) 201 sv, oM q2 0 tr mc size num ny cg, aN cA (q2 1) 16 sets, aN cA (q2 2) 8 (bt ch), aN cA (q2 3) 8 amts, aN cA (q2 4) 7 bo, aN cA (q2 5) 7 pr, aN cA (q2 6) 4 sh, aN cA (q2 7) 6 wt, aN cA (q2 8) 7 hp, aR cA (q2 9) 4 (tel t), aN cA (q2 10) 201 mo, aN cA (q2 11) 4 (plc (ord k1 k2 k3 k4)), aR cA (q2 12) 5 be, aN cA (q2 13) 4 co2, aN cA (q2 14) 4 nx]) E Z (k_X6_way l D cA q2 tr mc size num ny cg sets ch amts pl2 k1 k2 k3 k4 (by first | assumption | omega) (by first | assumption | omega) (by first | assumption | omega) (by first | assumption | omega) (by first | assumption | omega) (by first | assumption | omega) (by first | assumption | omega) (by first | assumption | omega) (by first | assumption | omega)) wv_L_93 ⟨rfl, rfl, Nat.le_of_ble_eq_true rfl, Nat.le_of_ble_eq_true rfl⟩ [22, 23, 24, 25, 33] rfl rfl rfl rfl (q0 := 0) rfl (fun _ => rfl) (fun _ => rfl) rfl hl.1 rfl (Nat.le_of_ble_eq_true rfl) dL_law_751 ⟨(Nat.le_of_ble_eq_true rfl), (Nat.le_of_ble_eq_true rfl)⟩ (fun r751 _ H locs hp751 Z => ?_)
    subst hp751
    refine lv_icmp_eq (tgt := 901) hx hb dL_law_754 (by decide) (fun c754 => ?_) (fun c754 => absurd (ey9.trans (congrArg nI (E_way (plc (ord k1 k2 k3 k4)) size))) c754)
    exact N901 _ _ _ _ _ _ _ _ _ _ _ _ _ _ _ _ _ _ _ _ _ _ _ _ _ _ _ _ _ _ _ _ ⟨hm1, hM, hp1, hP, hc2, hs, ha10, hnum, ht, hh, hny, hcg, hwt, hb100, hpr, hsh, hmo⟩ _ _ Z _ hl
  · have hbad : ∀ a b d f, a < 4 → b < 4 → d < 4 → f < 4 → xs (i + 1) = nI a → xs (i + 2) = nI b → xs (i + 3) = nI d → xs (i + 4) = nI f → ¬ eo (ord a b d f) := fun a b d f h1 h2 h3 h4 h5 h6 h7 h8 h9 => hC ⟨a, b, d, f, h1, h2, h3, h4, h5, h6, h7, h8, h9⟩
    refine lv_aload_n hx hb dL_law_706 rfl (lv_at hl 1 rfl) ?_
    refine lv_aload_n hx hb dL_law_707 rfl (lv_at hl 0 rfl) ?_
    refine lv_iload_n hx hb dL_law_708 rfl (lv_at hl 3 rfl) ?_
    refine lv_iconst (v := nI 1) hx hb dL_law_709 (by decide) ?_
    refine n_iadd hx hb dL_law_710 ?_
    refine r_sld E Z SC (by omega) hL dL_law_711 ?_
    refine lv_aload_n hx hb dL_law_712 rfl (lv_at hl 0 rfl) ?_
    refine lv_iload_n hx hb dL_law_713 rfl (lv_at hl 3 rfl) ?_
    refine lv_iconst (v := nI 2) hx hb dL_law_714 (by decide) ?_
    refine n_iadd hx hb dL_law_715 ?_
    refine r_sld E Z SC (by omega) hL dL_law_716 ?_
    refine lv_aload_n hx hb dL_law_717 rfl (lv_at hl 0 rfl) ?_
    refine lv_iload_n hx hb dL_law_718 rfl (lv_at hl 3 rfl) ?_
    refine lv_iconst (v := nI 3) hx hb dL_law_719 (by decide) ?_
    refine n_iadd hx hb dL_law_720 ?_
    refine r_sld E Z SC (by omega) hL dL_law_721 ?_
    refine lv_aload_n hx hb dL_law_722 rfl (lv_at hl 0 rfl) ?_
    refine lv_iload_n hx hb dL_law_723 rfl (lv_at hl 3 rfl) ?_
    refine lv_iconst (v := nI 4) hx hb dL_law_724 (by decide) ?_
    refine n_iadd hx hb dL_law_725 ?_
    refine r_sld E Z SC (by omega) hL dL_law_726 ?_
    refine c_Vi (As := [.int (xs (i + 1)), .int (xs (i + 2)), .int (xs (i + 3)), .int (xs (i + 4))]) (rest := []) (w2 := fun _ => [oX q mc bn bl tr, oP (q 1) (q 2) (q 3) size ch, aN cA (q 2) 16 sets, aN cA (q 3) 8 amts, oG (q 4) (q 5) mc num, aN cA (q 5) 4 (mF num mc), oG (q 6) (q 7) tmc tn, aN cA (q 7) 4 tmem, oT (q 8) (q 9) tm t, aN cA (q 9) 7 hp, oR (q 10) (q 11) (q 12), aN cA (q 11) 16 tp, aN cA (q 12) 4 pl, oY (q 13) (q 14) (q 15) (q 16) ny cg, aN cA (q 14) 6 wt, aN cA (q 15) 4 co, aN cA (q 16) 4 nc, aN cA (q 17) 7 bo, aN cA (q 18) 7 pr, aN cA (q 19) 4 sh, aN cA (q 20) 4 sw, aN cA (q 21) 201 sv, oM q2 0 tr mc size num ny cg, aN cA (q2 1) 16 sets, aN cA (q2 2) 8 (bt ch), aN cA (q2 3) 8 amts, aN cA (q2 4) 7 bo, aN cA (q2 5) 7 pr, aN cA (q2 6) 4 sh, aN cA (q2 7) 6 wt, aN cA (q2 8) 7 hp, aR cA (q2 9) 4 (tel t), aN cA (q2 10) 201 mo, aN cA (q2 11) 4 pl2, aR cA (q2 12) 5 be, aN cA (q2 13) 4 co2, aN cA (q2 14) 4 nx]) E Z (k_X5_way_bad l D cA q mc bn bl tr (xs (i + 1)) (xs (i + 2)) (xs (i + 3)) (xs (i + 4)) (by first | assumption | omega)) wv_L_89 ⟨rfl, rfl, Nat.le_of_ble_eq_true rfl, Nat.le_of_ble_eq_true rfl⟩ [0] rfl rfl rfl rfl (q0 := 0) rfl (fun _ => rfl) (fun _ => rfl) rfl hl.1 rfl (Nat.le_of_ble_eq_true rfl) dL_law_727 ⟨(Nat.le_of_ble_eq_true rfl), (Nat.le_of_ble_eq_true rfl)⟩ (fun r727 _ H locs hp727 Z => ?_)
    subst hp727
    refine lv_topi (fun y9 ey9 => ?_)
    refine lv_aload_n hx hb dL_law_730 rfl (lv_at hl 2 rfl) ?_
    refine lv_aload_n hx hb dL_law_731 rfl (lv_at hl 0 rfl) ?_
    refine lv_iload_n hx hb dL_law_732 rfl (lv_at hl 3 rfl) ?_
    refine lv_iconst (v := nI 1) hx hb dL_law_733 (by decide) ?_
    refine n_iadd hx hb dL_law_734 ?_
    refine r_sld E Z SC (by omega) hL dL_law_735 ?_
    refine lv_aload_n hx hb dL_law_736 rfl (lv_at hl 0 rfl) ?_
    refine lv_iload_n hx hb dL_law_737 rfl (lv_at hl 3 rfl) ?_
    refine lv_iconst (v := nI 2) hx hb dL_law_738 (by decide) ?_
    refine n_iadd hx hb dL_law_739 ?_
    refine r_sld E Z SC (by omega) hL dL_law_740 ?_
    refine lv_aload_n hx hb dL_law_741 rfl (lv_at hl 0 rfl) ?_
    refine lv_iload_n hx hb dL_law_742 rfl (lv_at hl 3 rfl) ?_
    refine lv_iconst (v := nI 3) hx hb dL_law_743 (by decide) ?_
    refine n_iadd hx hb dL_law_744 ?_
    refine r_sld E Z SC (by omega) hL dL_law_745 ?_
    refine lv_aload_n hx hb dL_law_746 rfl (lv_at hl 0 rfl) ?_
    refine lv_iload_n hx hb dL_law_747 rfl (lv_at hl 3 rfl) ?_
    refine lv_iconst (v := nI 4) hx hb dL_law_748 (by decide) ?_
    refine n_iadd hx hb dL_law_749 ?_
    refine r_sld E Z SC (by omega) hL dL_law_750 ?_
    refine c_Vi (As := [.int (xs (i + 1)), .int (xs (i + 2)), .int (xs (i + 3)), .int (xs (i + 4))]) (rest := [.int y9]) (w2 := fun _ => [oX q mc bn bl tr, oP (q 1) (q 2) (q 3) size ch, aN cA (q 2) 16 sets, aN cA (q 3) 8 amts, oG (q 4) (q 5) mc num, aN cA (q 5) 4 (mF num mc), oG (q 6) (q 7) tmc tn, aN cA (q 7) 4 tmem, oT (q 8) (q 9) tm t, aN cA (q 9) 7 hp, oR (q 10) (q 11) (q 12), aN cA (q 11) 16 tp, aN cA (q 12) 4 pl, oY (q 13) (q 14) (q 15) (q 16) ny cg, aN cA (q 14) 6 wt, aN cA (q 15) 4 co, aN cA (q 16) 4 nc, aN cA (q 17) 7 bo, aN cA (q 18) 7 pr, aN cA (q 19) 4 sh, aN cA (q 20) 4 sw, aN cA (q 21) 201 sv, oM q2 0 tr mc size num ny cg, aN cA (q2 1) 16 sets, aN cA (q2 2) 8 (bt ch), aN cA (q2 3) 8 amts, aN cA (q2 4) 7 bo, aN cA (q2 5) 7 pr, aN cA (q2 6) 4 sh, aN cA (q2 7) 6 wt, aN cA (q2 8) 7 hp, aR cA (q2 9) 4 (tel t), aN cA (q2 10) 201 mo, aN cA (q2 11) 4 pl2, aR cA (q2 12) 5 be, aN cA (q2 13) 4 co2, aN cA (q2 14) 4 nx]) E Z (k_X6_way_bad l D cA q2 tr mc size num ny cg pl2 (xs (i + 1)) (xs (i + 2)) (xs (i + 3)) (xs (i + 4)) (by first | assumption | omega)) wv_L_93 ⟨rfl, rfl, Nat.le_of_ble_eq_true rfl, Nat.le_of_ble_eq_true rfl⟩ [22, 33] rfl rfl rfl rfl (q0 := 0) rfl (fun _ => rfl) (fun _ => rfl) rfl hl.1 rfl (Nat.le_of_ble_eq_true rfl) dL_law_751 ⟨(Nat.le_of_ble_eq_true rfl), (Nat.le_of_ble_eq_true rfl)⟩ (fun r751 _ H locs hp751 Z => ?_)
    subst hp751
    refine lv_icmp_eq (tgt := 901) hx hb dL_law_754 (by decide) (fun c754 => ?_) (fun c754 => absurd ey9 c754)
    exact N901 _ _ _ _ _ _ _ _ _ _ _ _ _ _ _ _ _ _ _ _ _ _ _ _ _ _ _ _ _ _ _ _ ⟨hm1, hM, hp1, hP, hc2, hs, ha10, hnum, ht, hh, hny, hcg, hwt, hb100, hpr, hsh, hmo⟩ _ _ Z _ hl

set_option maxHeartbeats 4000000 in
set_option maxRecDepth 100000 in
theorem lc_floor {p : Program} {l : Launch} {e : Env} {s : State} {m : MethodId} {below : List Frame} {meth : Method} {c : Code} {D : va_G} {cA : ClassId} {A : Nat → Prop} {b L : Nat} {xs : Nat → Int32} {Q : State → Prop} {q q2 : Nat → Nat} {i : Nat} (E : Ev p s m #[Value.ref b] c cL_law 4 RL D cA A) (hXs : XZ A s s.heap) (SC : va_X b L xs s s.heap ∧ b < s.heap.size ∧ ¬ A b) (hi : i + 5 ≤ L) (hL : L ≤ 2560) (N901 : LN p l e s m below meth c D cA A b Q q q2 i) {mc size ch num ny cg bn bl tmc tn tm : Nat} {sets amts hp wt bo pr sh tmem tp pl co nc sw sv mo pl2 co2 nx : Nat → Nat} {t : TS} {tr : Int64} {be : Nat → Int32} (hI : LInv mc size ch num ny cg sets amts hp wt bo pr sh mo t) {H : Heap} {locs : List Loc} (Z : Wd D A s (LW cA q q2 mc size ch num ny cg bn bl tmc tn tm sets amts hp wt bo pr sh tmem tp pl co nc sw sv mo pl2 co2 nx t tr be) H locs) {ls : Array Slot} (hl : lv_has ls 4 [(0, .ref b), (1, .ref (q 0)), (2, .ref (q2 0)), (3, .int (nI i))]) : W p l e room_1 s m #[Value.ref b] below meth c H locs 37 640 Q (F0 m 759 ls []) := by
  have hx := E.1.1
  have hb := E.1.2.1
  unfold LN LW at N901
  unfold LW at Z
  obtain ⟨hm1, hM, hp1, hP, hc2, hs, ha10, hnum, ht, hh, hny, hcg, hwt, hb100, hpr, hsh, hmo⟩ := hI
  have hch := ch256 hc2 hP
  have h20 := Nat.two_pow_pos mc
  have h202 := Nat.two_pow_pos (2 * mc)
  have h27 : 2 ^ mc ≤ 2 ^ 7 := Nat.pow_le_pow_right (by decide) hM
  have h14 : 2 ^ (2 * mc) ≤ 2 ^ 14 := Nat.pow_le_pow_right (by decide) (by omega)
  by_cases hC : (nI 0 ≤ xs (i + 1) ∧ xs (i + 1) ≤ nI 4)
  · obtain ⟨k1, hk10, hk11, ek1⟩ := in_nat (by decide) hC (by decide)
    refine lv_aload_n hx hb dL_law_759 rfl (lv_at hl 1 rfl) ?_
    refine lv_aload_n hx hb dL_law_760 rfl (lv_at hl 0 rfl) ?_
    refine lv_iload_n hx hb dL_law_761 rfl (lv_at hl 3 rfl) ?_
    refine lv_iconst (v := nI 1) hx hb dL_law_762 (by decide) ?_
    refine n_iadd hx hb dL_law_763 ?_
    refine r_sld E Z SC (by omega) hL dL_law_764 ?_
    refine r_top (y := nI k1) ek1 ?_
    refine c_Vi (As := [.int (nI k1)]) (rest := []) (w2 := fun u765 => [oX q mc bn bl tr, oP (q 1) (q 2) (q 3) size ch, aN cA (q 2) 16 sets, aN cA (q 3) 8 amts, oG (q 4) (q 5) mc num, aN cA (q 5) 4 (mF num mc), oG (q 6) (q 7) tmc tn, aN cA (q 7) 4 tmem, oT (q 8) (q 9) tm t, aN cA (q 9) 7 hp, oR (q 10) (q 11) (q 12), aN cA (q 11) 16 (ob mc num sets amts ch size), aN cA (q 12) 4 u765, oY (q 13) (q 14) (q 15) (q 16) ny cg, aN cA (q 14) 6 wt, aN cA (q 15) 4 co, aN cA (q 16) 4 nc, aN cA (q 17) 7 bo, aN cA (q 18) 7 pr, aN cA (q 19) 4 sh, aN cA (q 20) 4 sw, aN cA (q 21) 201 sv, oM q2 0 tr mc size num ny cg, aN cA (q2 1) 16 sets, aN cA (q2 2) 8 (bt ch), aN cA (q2 3) 8 amts, aN cA (q2 4) 7 bo, aN cA (q2 5) 7 pr, aN cA (q2 6) 4 sh, aN cA (q2 7) 6 wt, aN cA (q2 8) 7 hp, aR cA (q2 9) 4 (tel t), aN cA (q2 10) 201 mo, aN cA (q2 11) 4 pl2, aR cA (q2 12) 5 be, aN cA (q2 13) 4 co2, aN cA (q2 14) 4 nx]) E Z (k_X5_floor l D cA q mc bn bl tr size ch sets amts num tp pl k1 (by first | assumption | omega) (by first | assumption | omega) (by first | assumption | omega) (by first | assumption | omega) (by first | assumption | omega) (by first | assumption | omega) (way_lt hM hP ha10)) wv_L_94 ⟨rfl, rfl, Nat.le_of_ble_eq_true rfl, Nat.le_of_ble_eq_true rfl⟩ [0, 1, 2, 3, 4, 5, 10, 11, 12] rfl rfl rfl rfl (q0 := 0) rfl (fun _ => rfl) (fun _ => rfl) rfl hl.1 rfl (Nat.le_of_ble_eq_true rfl) dL_law_765 ⟨(Nat.le_of_ble_eq_true rfl), (Nat.le_of_ble_eq_true rfl)⟩ (fun r765 u765 H locs hp765 Z => ?_)
    subst hp765
    refine lv_topi (fun y9 ey9 => ?_)
    refine lv_aload_n hx hb dL_law_768 rfl (lv_at hl 2 rfl) ?_
    refine lv_aload_n hx hb dL_law_769 rfl (lv_at hl 0 rfl) ?_
    refine lv_iload_n hx hb dL_law_770 rfl (lv_at hl 3 rfl) ?_
    refine lv_iconst (v := nI 1) hx hb dL_law_771 (by decide) ?_
    refine n_iadd hx hb dL_law_772 ?_
    refine r_sld E Z SC (by omega) hL dL_law_773 ?_
    refine r_top (y := nI k1) ek1 ?_
    refine c_Vi (As := [.int (nI k1)]) (rest := [.int y9]) (w2 := fun u774 => [oX q mc bn bl tr, oP (q 1) (q 2) (q 3) size ch, aN cA (q 2) 16 sets, aN cA (q 3) 8 amts, oG (q 4) (q 5) mc num, aN cA (q 5) 4 (mF num mc), oG (q 6) (q 7) tmc tn, aN cA (q 7) 4 tmem, oT (q 8) (q 9) tm t, aN cA (q 9) 7 hp, oR (q 10) (q 11) (q 12), aN cA (q 11) 16 (ob mc num sets amts ch size), aN cA (q 12) 4 u765, oY (q 13) (q 14) (q 15) (q 16) ny cg, aN cA (q 14) 6 wt, aN cA (q 15) 4 co, aN cA (q 16) 4 nc, aN cA (q 17) 7 bo, aN cA (q 18) 7 pr, aN cA (q 19) 4 sh, aN cA (q 20) 4 sw, aN cA (q 21) 201 sv, oM q2 0 tr mc size num ny cg, aN cA (q2 1) 16 sets, aN cA (q2 2) 8 (bt ch), aN cA (q2 3) 8 amts, aN cA (q2 4) 7 bo, aN cA (q2 5) 7 pr, aN cA (q2 6) 4 sh, aN cA (q2 7) 6 wt, aN cA (q2 8) 7 hp, aR cA (q2 9) 4 (tel t), aN cA (q2 10) 201 mo, aN cA (q2 11) 4 u774, aR cA (q2 12) 5 (bsr (fun z => sm (wym mc num sets amts ch (plc z)) size) be 256), aN cA (q2 13) 4 co2, aN cA (q2 14) 4 nx]) E Z (k_X6_floor l D cA q2 tr mc size num ny cg sets ch amts pl2 be k1 (by first | assumption | omega) (by first | assumption | omega) (by first | assumption | omega) (by first | assumption | omega) (by first | assumption | omega)) wv_L_97 ⟨rfl, rfl, Nat.le_of_ble_eq_true rfl, Nat.le_of_ble_eq_true rfl⟩ [22, 23, 24, 25, 33, 34] rfl rfl rfl rfl (q0 := 0) rfl (fun _ => rfl) (fun _ => rfl) rfl hl.1 rfl (Nat.le_of_ble_eq_true rfl) dL_law_774 ⟨(Nat.le_of_ble_eq_true rfl), (Nat.le_of_ble_eq_true rfl)⟩ (fun r774 u774 H locs hp774 Z => ?_)
    subst hp774
    refine lv_icmp_eq (tgt := 901) hx hb dL_law_777 (by decide) (fun c777 => ?_) (fun c777 => absurd (ey9.trans (E_floor hM hP ha10 be (by omega))) c777)
    exact N901 _ _ _ _ _ _ _ _ _ _ _ _ _ _ _ _ _ _ _ _ _ _ _ _ _ _ _ _ _ _ _ _ ⟨hm1, hM, hp1, hP, hc2, hs, ha10, hnum, ht, hh, hny, hcg, hwt, hb100, hpr, hsh, hmo⟩ _ _ Z _ hl
  · have hC2 := hC
    refine lv_aload_n hx hb dL_law_759 rfl (lv_at hl 1 rfl) ?_
    refine lv_aload_n hx hb dL_law_760 rfl (lv_at hl 0 rfl) ?_
    refine lv_iload_n hx hb dL_law_761 rfl (lv_at hl 3 rfl) ?_
    refine lv_iconst (v := nI 1) hx hb dL_law_762 (by decide) ?_
    refine n_iadd hx hb dL_law_763 ?_
    refine r_sld E Z SC (by omega) hL dL_law_764 ?_
    refine c_Vi (As := [.int (xs (i + 1))]) (rest := []) (w2 := fun _ => [oX q mc bn bl tr, oP (q 1) (q 2) (q 3) size ch, aN cA (q 2) 16 sets, aN cA (q 3) 8 amts, oG (q 4) (q 5) mc num, aN cA (q 5) 4 (mF num mc), oG (q 6) (q 7) tmc tn, aN cA (q 7) 4 tmem, oT (q 8) (q 9) tm t, aN cA (q 9) 7 hp, oR (q 10) (q 11) (q 12), aN cA (q 11) 16 tp, aN cA (q 12) 4 pl, oY (q 13) (q 14) (q 15) (q 16) ny cg, aN cA (q 14) 6 wt, aN cA (q 15) 4 co, aN cA (q 16) 4 nc, aN cA (q 17) 7 bo, aN cA (q 18) 7 pr, aN cA (q 19) 4 sh, aN cA (q 20) 4 sw, aN cA (q 21) 201 sv, oM q2 0 tr mc size num ny cg, aN cA (q2 1) 16 sets, aN cA (q2 2) 8 (bt ch), aN cA (q2 3) 8 amts, aN cA (q2 4) 7 bo, aN cA (q2 5) 7 pr, aN cA (q2 6) 4 sh, aN cA (q2 7) 6 wt, aN cA (q2 8) 7 hp, aR cA (q2 9) 4 (tel t), aN cA (q2 10) 201 mo, aN cA (q2 11) 4 pl2, aR cA (q2 12) 5 be, aN cA (q2 13) 4 co2, aN cA (q2 14) 4 nx]) E Z (k_X5_floor_bad l D cA q mc bn bl tr (xs (i + 1)) (by first | assumption | omega)) wv_L_94 ⟨rfl, rfl, Nat.le_of_ble_eq_true rfl, Nat.le_of_ble_eq_true rfl⟩ [0] rfl rfl rfl rfl (q0 := 0) rfl (fun _ => rfl) (fun _ => rfl) rfl hl.1 rfl (Nat.le_of_ble_eq_true rfl) dL_law_765 ⟨(Nat.le_of_ble_eq_true rfl), (Nat.le_of_ble_eq_true rfl)⟩ (fun r765 _ H locs hp765 Z => ?_)
    subst hp765
    refine lv_topi (fun y9 ey9 => ?_)
    refine lv_aload_n hx hb dL_law_768 rfl (lv_at hl 2 rfl) ?_
    refine lv_aload_n hx hb dL_law_769 rfl (lv_at hl 0 rfl) ?_
    refine lv_iload_n hx hb dL_law_770 rfl (lv_at hl 3 rfl) ?_
    refine lv_iconst (v := nI 1) hx hb dL_law_771 (by decide) ?_
    refine n_iadd hx hb dL_law_772 ?_
    refine r_sld E Z SC (by omega) hL dL_law_773 ?_
    refine c_Vi (As := [.int (xs (i + 1))]) (rest := [.int y9]) (w2 := fun _ => [oX q mc bn bl tr, oP (q 1) (q 2) (q 3) size ch, aN cA (q 2) 16 sets, aN cA (q 3) 8 amts, oG (q 4) (q 5) mc num, aN cA (q 5) 4 (mF num mc), oG (q 6) (q 7) tmc tn, aN cA (q 7) 4 tmem, oT (q 8) (q 9) tm t, aN cA (q 9) 7 hp, oR (q 10) (q 11) (q 12), aN cA (q 11) 16 tp, aN cA (q 12) 4 pl, oY (q 13) (q 14) (q 15) (q 16) ny cg, aN cA (q 14) 6 wt, aN cA (q 15) 4 co, aN cA (q 16) 4 nc, aN cA (q 17) 7 bo, aN cA (q 18) 7 pr, aN cA (q 19) 4 sh, aN cA (q 20) 4 sw, aN cA (q 21) 201 sv, oM q2 0 tr mc size num ny cg, aN cA (q2 1) 16 sets, aN cA (q2 2) 8 (bt ch), aN cA (q2 3) 8 amts, aN cA (q2 4) 7 bo, aN cA (q2 5) 7 pr, aN cA (q2 6) 4 sh, aN cA (q2 7) 6 wt, aN cA (q2 8) 7 hp, aR cA (q2 9) 4 (tel t), aN cA (q2 10) 201 mo, aN cA (q2 11) 4 pl2, aR cA (q2 12) 5 be, aN cA (q2 13) 4 co2, aN cA (q2 14) 4 nx]) E Z (k_X6_floor_bad l D cA q2 tr mc size num ny cg (xs (i + 1)) (by first | assumption | omega)) wv_L_97 ⟨rfl, rfl, Nat.le_of_ble_eq_true rfl, Nat.le_of_ble_eq_true rfl⟩ [22] rfl rfl rfl rfl (q0 := 0) rfl (fun _ => rfl) (fun _ => rfl) rfl hl.1 rfl (Nat.le_of_ble_eq_true rfl) dL_law_774 ⟨(Nat.le_of_ble_eq_true rfl), (Nat.le_of_ble_eq_true rfl)⟩ (fun r774 _ H locs hp774 Z => ?_)
    subst hp774
    refine lv_icmp_eq (tgt := 901) hx hb dL_law_777 (by decide) (fun c777 => ?_) (fun c777 => absurd ey9 c777)
    exact N901 _ _ _ _ _ _ _ _ _ _ _ _ _ _ _ _ _ _ _ _ _ _ _ _ _ _ _ _ _ _ _ _ ⟨hm1, hM, hp1, hP, hc2, hs, ha10, hnum, ht, hh, hny, hcg, hwt, hb100, hpr, hsh, hmo⟩ _ _ Z _ hl
set_option maxHeartbeats 4000000 in
set_option maxRecDepth 100000 in
theorem lc_keep {p : Program} {l : Launch} {e : Env} {s : State} {m : MethodId} {below : List Frame} {meth : Method} {c : Code} {D : va_G} {cA : ClassId} {A : Nat → Prop} {b L : Nat} {xs : Nat → Int32} {Q : State → Prop} {q q2 : Nat → Nat} {i : Nat} (E : Ev p s m #[Value.ref b] c cL_law 4 RL D cA A) (hXs : XZ A s s.heap) (SC : va_X b L xs s s.heap ∧ b < s.heap.size ∧ ¬ A b) (hi : i + 5 ≤ L) (hL : L ≤ 2560) (N901 : LN p l e s m below meth c D cA A b Q q q2 i) {mc size ch num ny cg bn bl tmc tn tm : Nat} {sets amts hp wt bo pr sh tmem tp pl co nc sw sv mo pl2 co2 nx : Nat → Nat} {t : TS} {tr : Int64} {be : Nat → Int32} (hI : LInv mc size ch num ny cg sets amts hp wt bo pr sh mo t) {H : Heap} {locs : List Loc} (Z : Wd D A s (LW cA q q2 mc size ch num ny cg bn bl tmc tn tm sets amts hp wt bo pr sh tmem tp pl co nc sw sv mo pl2 co2 nx t tr be) H locs) {ls : Array Slot} (hl : lv_has ls 4 [(0, .ref b), (1, .ref (q 0)), (2, .ref (q2 0)), (3, .int (nI i))]) : W p l e room_1 s m #[Value.ref b] below meth c H locs 37 640 Q (F0 m 782 ls []) := by
  have hx := E.1.1
  have hb := E.1.2.1
  unfold LN LW at N901
  unfold LW at Z
  obtain ⟨hm1, hM, hp1, hP, hc2, hs, ha10, hnum, ht, hh, hny, hcg, hwt, hb100, hpr, hsh, hmo⟩ := hI
  have hch := ch256 hc2 hP
  have h20 := Nat.two_pow_pos mc
  have h202 := Nat.two_pow_pos (2 * mc)
  have h27 : 2 ^ mc ≤ 2 ^ 7 := Nat.pow_le_pow_right (by decide) hM
  have h14 : 2 ^ (2 * mc) ≤ 2 ^ 14 := Nat.pow_le_pow_right (by decide) (by omega)
  by_cases hC : (nI 0 ≤ xs (i + 1) ∧ xs (i + 1) ≤ nI 3)
  · obtain ⟨k1, hk10, hk11, ek1⟩ := in_nat (by decide) hC (by decide)
    refine lv_aload_n hx hb dL_law_782 rfl (lv_at hl 1 rfl) ?_
    refine lv_aload_n hx hb dL_law_783 rfl (lv_at hl 0 rfl) ?_
    refine lv_iload_n hx hb dL_law_784 rfl (lv_at hl 3 rfl) ?_
    refine lv_iconst (v := nI 1) hx hb dL_law_785 (by decide) ?_
    refine n_iadd hx hb dL_law_786 ?_
    refine r_sld E Z SC (by omega) hL dL_law_787 ?_
    refine r_top (y := nI k1) ek1 ?_
    refine c_Vi (As := [.int (nI k1)]) (rest := []) (w2 := fun _ => [oX q mc bn bl tr, oP (q 1) (q 2) (q 3) size ch, aN cA (q 2) 16 sets, aN cA (q 3) 8 amts, oG (q 4) (q 5) mc num, aN cA (q 5) 4 (mF num mc), oG (q 6) (q 7) tmc tn, aN cA (q 7) 4 tmem, oT (q 8) (q 9) tm t, aN cA (q 9) 7 hp, oR (q 10) (q 11) (q 12), aN cA (q 11) 16 tp, aN cA (q 12) 4 pl, oY (q 13) (q 14) (q 15) (q 16) ny cg, aN cA (q 14) 6 wt, aN cA (q 15) 4 co, aN cA (q 16) 4 nc, aN cA (q 17) 7 bo, aN cA (q 18) 7 pr, aN cA (q 19) 4 (up sh k1 num), aN cA (q 20) 4 sw, aN cA (q 21) 201 sv, oM q2 0 tr mc size num ny cg, aN cA (q2 1) 16 sets, aN cA (q2 2) 8 (bt ch), aN cA (q2 3) 8 amts, aN cA (q2 4) 7 bo, aN cA (q2 5) 7 pr, aN cA (q2 6) 4 sh, aN cA (q2 7) 6 wt, aN cA (q2 8) 7 hp, aR cA (q2 9) 4 (tel t), aN cA (q2 10) 201 mo, aN cA (q2 11) 4 pl2, aR cA (q2 12) 5 be, aN cA (q2 13) 4 co2, aN cA (q2 14) 4 nx]) E Z (k_X5_keep l D cA q mc bn bl tr num sh k1 (by first | assumption | omega)) wv_L_98 ⟨rfl, rfl, Nat.le_of_ble_eq_true rfl, Nat.le_of_ble_eq_true rfl⟩ [0, 4, 19] rfl rfl rfl rfl (q0 := 0) rfl (fun _ => rfl) (fun _ => rfl) rfl hl.1 rfl (Nat.le_of_ble_eq_true rfl) dL_law_788 ⟨(Nat.le_of_ble_eq_true rfl), (Nat.le_of_ble_eq_true rfl)⟩ (fun r788 _ H locs hp788 Z => ?_)
    subst hp788
    refine lv_topi (fun y9 ey9 => ?_)
    refine lv_aload_n hx hb dL_law_791 rfl (lv_at hl 2 rfl) ?_
    refine lv_aload_n hx hb dL_law_792 rfl (lv_at hl 0 rfl) ?_
    refine lv_iload_n hx hb dL_law_793 rfl (lv_at hl 3 rfl) ?_
    refine lv_iconst (v := nI 1) hx hb dL_law_794 (by decide) ?_
    refine n_iadd hx hb dL_law_795 ?_
    refine r_sld E Z SC (by omega) hL dL_law_796 ?_
    refine r_top (y := nI k1) ek1 ?_
    refine c_Vi (As := [.int (nI k1)]) (rest := [.int y9]) (w2 := fun _ => [oX q mc bn bl tr, oP (q 1) (q 2) (q 3) size ch, aN cA (q 2) 16 sets, aN cA (q 3) 8 amts, oG (q 4) (q 5) mc num, aN cA (q 5) 4 (mF num mc), oG (q 6) (q 7) tmc tn, aN cA (q 7) 4 tmem, oT (q 8) (q 9) tm t, aN cA (q 9) 7 hp, oR (q 10) (q 11) (q 12), aN cA (q 11) 16 tp, aN cA (q 12) 4 pl, oY (q 13) (q 14) (q 15) (q 16) ny cg, aN cA (q 14) 6 wt, aN cA (q 15) 4 co, aN cA (q 16) 4 nc, aN cA (q 17) 7 bo, aN cA (q 18) 7 pr, aN cA (q 19) 4 (up sh k1 num), aN cA (q 20) 4 sw, aN cA (q 21) 201 sv, oM q2 0 tr mc size num ny cg, aN cA (q2 1) 16 sets, aN cA (q2 2) 8 (bt ch), aN cA (q2 3) 8 amts, aN cA (q2 4) 7 bo, aN cA (q2 5) 7 pr, aN cA (q2 6) 4 (up sh k1 num), aN cA (q2 7) 6 wt, aN cA (q2 8) 7 hp, aR cA (q2 9) 4 (tel t), aN cA (q2 10) 201 mo, aN cA (q2 11) 4 pl2, aR cA (q2 12) 5 be, aN cA (q2 13) 4 co2, aN cA (q2 14) 4 nx]) E Z (k_X6_keep l D cA q2 tr mc size num ny cg sh k1 (by first | assumption | omega)) wv_L_101 ⟨rfl, rfl, Nat.le_of_ble_eq_true rfl, Nat.le_of_ble_eq_true rfl⟩ [22, 28] rfl rfl rfl rfl (q0 := 0) rfl (fun _ => rfl) (fun _ => rfl) rfl hl.1 rfl (Nat.le_of_ble_eq_true rfl) dL_law_797 ⟨(Nat.le_of_ble_eq_true rfl), (Nat.le_of_ble_eq_true rfl)⟩ (fun r797 _ H locs hp797 Z => ?_)
    subst hp797
    refine lv_icmp_eq (tgt := 901) hx hb dL_law_800 (by decide) (fun c800 => ?_) (fun c800 => absurd ey9 c800)
    exact N901 _ _ _ _ _ _ _ _ _ _ _ _ _ _ _ _ _ _ _ _ _ _ _ _ _ _ _ _ _ _ _ _ ⟨hm1, hM, hp1, hP, hc2, hs, ha10, hnum, ht, hh, hny, hcg, hwt, hb100, hpr, up_all (P := fun z => z < 2 ^ (2 * mc)) hsh hnum, hmo⟩ _ _ Z _ hl
  · have hC2 := hC
    refine lv_aload_n hx hb dL_law_782 rfl (lv_at hl 1 rfl) ?_
    refine lv_aload_n hx hb dL_law_783 rfl (lv_at hl 0 rfl) ?_
    refine lv_iload_n hx hb dL_law_784 rfl (lv_at hl 3 rfl) ?_
    refine lv_iconst (v := nI 1) hx hb dL_law_785 (by decide) ?_
    refine n_iadd hx hb dL_law_786 ?_
    refine r_sld E Z SC (by omega) hL dL_law_787 ?_
    refine c_Vi (As := [.int (xs (i + 1))]) (rest := []) (w2 := fun _ => [oX q mc bn bl tr, oP (q 1) (q 2) (q 3) size ch, aN cA (q 2) 16 sets, aN cA (q 3) 8 amts, oG (q 4) (q 5) mc num, aN cA (q 5) 4 (mF num mc), oG (q 6) (q 7) tmc tn, aN cA (q 7) 4 tmem, oT (q 8) (q 9) tm t, aN cA (q 9) 7 hp, oR (q 10) (q 11) (q 12), aN cA (q 11) 16 tp, aN cA (q 12) 4 pl, oY (q 13) (q 14) (q 15) (q 16) ny cg, aN cA (q 14) 6 wt, aN cA (q 15) 4 co, aN cA (q 16) 4 nc, aN cA (q 17) 7 bo, aN cA (q 18) 7 pr, aN cA (q 19) 4 sh, aN cA (q 20) 4 sw, aN cA (q 21) 201 sv, oM q2 0 tr mc size num ny cg, aN cA (q2 1) 16 sets, aN cA (q2 2) 8 (bt ch), aN cA (q2 3) 8 amts, aN cA (q2 4) 7 bo, aN cA (q2 5) 7 pr, aN cA (q2 6) 4 sh, aN cA (q2 7) 6 wt, aN cA (q2 8) 7 hp, aR cA (q2 9) 4 (tel t), aN cA (q2 10) 201 mo, aN cA (q2 11) 4 pl2, aR cA (q2 12) 5 be, aN cA (q2 13) 4 co2, aN cA (q2 14) 4 nx]) E Z (k_X5_keep_bad l D cA q mc bn bl tr (xs (i + 1)) (by first | assumption | omega)) wv_L_98 ⟨rfl, rfl, Nat.le_of_ble_eq_true rfl, Nat.le_of_ble_eq_true rfl⟩ [0] rfl rfl rfl rfl (q0 := 0) rfl (fun _ => rfl) (fun _ => rfl) rfl hl.1 rfl (Nat.le_of_ble_eq_true rfl) dL_law_788 ⟨(Nat.le_of_ble_eq_true rfl), (Nat.le_of_ble_eq_true rfl)⟩ (fun r788 _ H locs hp788 Z => ?_)
    subst hp788
    refine lv_topi (fun y9 ey9 => ?_)
    refine lv_aload_n hx hb dL_law_791 rfl (lv_at hl 2 rfl) ?_
    refine lv_aload_n hx hb dL_law_792 rfl (lv_at hl 0 rfl) ?_
    refine lv_iload_n hx hb dL_law_793 rfl (lv_at hl 3 rfl) ?_
    refine lv_iconst (v := nI 1) hx hb dL_law_794 (by decide) ?_
    refine n_iadd hx hb dL_law_795 ?_
    refine r_sld E Z SC (by omega) hL dL_law_796 ?_
    refine c_Vi (As := [.int (xs (i + 1))]) (rest := [.int y9]) (w2 := fun _ => [oX q mc bn bl tr, oP (q 1) (q 2) (q 3) size ch, aN cA (q 2) 16 sets, aN cA (q 3) 8 amts, oG (q 4) (q 5) mc num, aN cA (q 5) 4 (mF num mc), oG (q 6) (q 7) tmc tn, aN cA (q 7) 4 tmem, oT (q 8) (q 9) tm t, aN cA (q 9) 7 hp, oR (q 10) (q 11) (q 12), aN cA (q 11) 16 tp, aN cA (q 12) 4 pl, oY (q 13) (q 14) (q 15) (q 16) ny cg, aN cA (q 14) 6 wt, aN cA (q 15) 4 co, aN cA (q 16) 4 nc, aN cA (q 17) 7 bo, aN cA (q 18) 7 pr, aN cA (q 19) 4 sh, aN cA (q 20) 4 sw, aN cA (q 21) 201 sv, oM q2 0 tr mc size num ny cg, aN cA (q2 1) 16 sets, aN cA (q2 2) 8 (bt ch), aN cA (q2 3) 8 amts, aN cA (q2 4) 7 bo, aN cA (q2 5) 7 pr, aN cA (q2 6) 4 sh, aN cA (q2 7) 6 wt, aN cA (q2 8) 7 hp, aR cA (q2 9) 4 (tel t), aN cA (q2 10) 201 mo, aN cA (q2 11) 4 pl2, aR cA (q2 12) 5 be, aN cA (q2 13) 4 co2, aN cA (q2 14) 4 nx]) E Z (k_X6_keep_bad l D cA q2 tr mc size num ny cg (xs (i + 1)) (by first | assumption | omega)) wv_L_101 ⟨rfl, rfl, Nat.le_of_ble_eq_true rfl, Nat.le_of_ble_eq_true rfl⟩ [22] rfl rfl rfl rfl (q0 := 0) rfl (fun _ => rfl) (fun _ => rfl) rfl hl.1 rfl (Nat.le_of_ble_eq_true rfl) dL_law_797 ⟨(Nat.le_of_ble_eq_true rfl), (Nat.le_of_ble_eq_true rfl)⟩ (fun r797 _ H locs hp797 Z => ?_)
    subst hp797
    refine lv_icmp_eq (tgt := 901) hx hb dL_law_800 (by decide) (fun c800 => ?_) (fun c800 => absurd ey9 c800)
    exact N901 _ _ _ _ _ _ _ _ _ _ _ _ _ _ _ _ _ _ _ _ _ _ _ _ _ _ _ _ _ _ _ _ ⟨hm1, hM, hp1, hP, hc2, hs, ha10, hnum, ht, hh, hny, hcg, hwt, hb100, hpr, hsh, hmo⟩ _ _ Z _ hl
set_option maxHeartbeats 4000000 in
set_option maxRecDepth 100000 in
theorem lc_year {p : Program} {l : Launch} {e : Env} {s : State} {m : MethodId} {below : List Frame} {meth : Method} {c : Code} {D : va_G} {cA : ClassId} {A : Nat → Prop} {b L : Nat} {xs : Nat → Int32} {Q : State → Prop} {q q2 : Nat → Nat} {i : Nat} (E : Ev p s m #[Value.ref b] c cL_law 4 RL D cA A) (hXs : XZ A s s.heap) (SC : va_X b L xs s s.heap ∧ b < s.heap.size ∧ ¬ A b) (hi : i + 5 ≤ L) (hL : L ≤ 2560) (N901 : LN p l e s m below meth c D cA A b Q q q2 i) {mc size ch num ny cg bn bl tmc tn tm : Nat} {sets amts hp wt bo pr sh tmem tp pl co nc sw sv mo pl2 co2 nx : Nat → Nat} {t : TS} {tr : Int64} {be : Nat → Int32} (hI : LInv mc size ch num ny cg sets amts hp wt bo pr sh mo t) {H : Heap} {locs : List Loc} (Z : Wd D A s (LW cA q q2 mc size ch num ny cg bn bl tmc tn tm sets amts hp wt bo pr sh tmem tp pl co nc sw sv mo pl2 co2 nx t tr be) H locs) {ls : Array Slot} (hl : lv_has ls 4 [(0, .ref b), (1, .ref (q 0)), (2, .ref (q2 0)), (3, .int (nI i))]) : W p l e room_1 s m #[Value.ref b] below meth c H locs 37 640 Q (F0 m 805 ls []) := by
  have hx := E.1.1
  have hb := E.1.2.1
  unfold LN LW at N901
  unfold LW at Z
  obtain ⟨hm1, hM, hp1, hP, hc2, hs, ha10, hnum, ht, hh, hny, hcg, hwt, hb100, hpr, hsh, hmo⟩ := hI
  have hch := ch256 hc2 hP
  have h20 := Nat.two_pow_pos mc
  have h202 := Nat.two_pow_pos (2 * mc)
  have h27 : 2 ^ mc ≤ 2 ^ 7 := Nat.pow_le_pow_right (by decide) hM
  have h14 : 2 ^ (2 * mc) ≤ 2 ^ 14 := Nat.pow_le_pow_right (by decide) (by omega)
  by_cases hC : nI 0 ≤ xs (i + 1) ∧ xs (i + 1) ≤ nI 9
  · obtain ⟨k1, hk10, hk11, ek1⟩ := in_nat (by decide) hC (by decide)
    by_cases hy6 : ny = 6
    · refine lv_aload_n hx hb dL_law_805 rfl (lv_at hl 1 rfl) ?_
      refine lv_aload_n hx hb dL_law_806 rfl (lv_at hl 0 rfl) ?_
      refine lv_iload_n hx hb dL_law_807 rfl (lv_at hl 3 rfl) ?_
      refine lv_iconst (v := nI 1) hx hb dL_law_808 (by decide) ?_
      refine n_iadd hx hb dL_law_809 ?_
      refine r_sld E Z SC (by omega) hL dL_law_810 ?_
      refine r_top (y := nI k1) ek1 ?_
      refine c_Vi (As := [.int (nI k1)]) (rest := []) (w2 := fun _ => [oX q mc bn bl tr, oP (q 1) (q 2) (q 3) size ch, aN cA (q 2) 16 sets, aN cA (q 3) 8 amts, oG (q 4) (q 5) mc num, aN cA (q 5) 4 (mF num mc), oG (q 6) (q 7) tmc tn, aN cA (q 7) 4 tmem, oT (q 8) (q 9) tm t, aN cA (q 9) 7 hp, oR (q 10) (q 11) (q 12), aN cA (q 11) 16 tp, aN cA (q 12) 4 pl, oY (q 13) (q 14) (q 15) (q 16) ny cg, aN cA (q 14) 6 wt, aN cA (q 15) 4 co, aN cA (q 16) 4 nc, aN cA (q 17) 7 bo, aN cA (q 18) 7 pr, aN cA (q 19) 4 sh, aN cA (q 20) 4 sw, aN cA (q 21) 201 sv, oM q2 0 tr mc size num ny cg, aN cA (q2 1) 16 sets, aN cA (q2 2) 8 (bt ch), aN cA (q2 3) 8 amts, aN cA (q2 4) 7 bo, aN cA (q2 5) 7 pr, aN cA (q2 6) 4 sh, aN cA (q2 7) 6 wt, aN cA (q2 8) 7 hp, aR cA (q2 9) 4 (tel t), aN cA (q2 10) 201 mo, aN cA (q2 11) 4 pl2, aR cA (q2 12) 5 be, aN cA (q2 13) 4 co2, aN cA (q2 14) 4 nx]) E Z (k_X5_year_full l D cA q mc bn bl tr ny cg k1 (by first | assumption | omega) (by first | assumption | omega)) wv_L_102 ⟨rfl, rfl, Nat.le_of_ble_eq_true rfl, Nat.le_of_ble_eq_true rfl⟩ [0, 13] rfl rfl rfl rfl (q0 := 0) rfl (fun _ => rfl) (fun _ => rfl) rfl hl.1 rfl (Nat.le_of_ble_eq_true rfl) dL_law_811 ⟨(Nat.le_of_ble_eq_true rfl), (Nat.le_of_ble_eq_true rfl)⟩ (fun r811 _ H locs hp811 Z => ?_)
      subst hp811
      refine lv_topi (fun y9 ey9 => ?_)
      refine lv_aload_n hx hb dL_law_814 rfl (lv_at hl 2 rfl) ?_
      refine lv_aload_n hx hb dL_law_815 rfl (lv_at hl 0 rfl) ?_
      refine lv_iload_n hx hb dL_law_816 rfl (lv_at hl 3 rfl) ?_
      refine lv_iconst (v := nI 1) hx hb dL_law_817 (by decide) ?_
      refine n_iadd hx hb dL_law_818 ?_
      refine r_sld E Z SC (by omega) hL dL_law_819 ?_
      refine r_top (y := nI k1) ek1 ?_
      refine c_Vi (As := [.int (nI k1)]) (rest := [.int y9]) (w2 := fun _ => [oX q mc bn bl tr, oP (q 1) (q 2) (q 3) size ch, aN cA (q 2) 16 sets, aN cA (q 3) 8 amts, oG (q 4) (q 5) mc num, aN cA (q 5) 4 (mF num mc), oG (q 6) (q 7) tmc tn, aN cA (q 7) 4 tmem, oT (q 8) (q 9) tm t, aN cA (q 9) 7 hp, oR (q 10) (q 11) (q 12), aN cA (q 11) 16 tp, aN cA (q 12) 4 pl, oY (q 13) (q 14) (q 15) (q 16) ny cg, aN cA (q 14) 6 wt, aN cA (q 15) 4 co, aN cA (q 16) 4 nc, aN cA (q 17) 7 bo, aN cA (q 18) 7 pr, aN cA (q 19) 4 sh, aN cA (q 20) 4 sw, aN cA (q 21) 201 sv, oM q2 0 tr mc size num ny cg, aN cA (q2 1) 16 sets, aN cA (q2 2) 8 (bt ch), aN cA (q2 3) 8 amts, aN cA (q2 4) 7 bo, aN cA (q2 5) 7 pr, aN cA (q2 6) 4 sh, aN cA (q2 7) 6 wt, aN cA (q2 8) 7 hp, aR cA (q2 9) 4 (tel t), aN cA (q2 10) 201 mo, aN cA (q2 11) 4 pl2, aR cA (q2 12) 5 be, aN cA (q2 13) 4 co2, aN cA (q2 14) 4 nx]) E Z (k_X6_year_full l D cA q2 tr mc size num ny cg k1 (by first | assumption | omega) (by first | assumption | omega)) wv_L_105 ⟨rfl, rfl, Nat.le_of_ble_eq_true rfl, Nat.le_of_ble_eq_true rfl⟩ [22] rfl rfl rfl rfl (q0 := 0) rfl (fun _ => rfl) (fun _ => rfl) rfl hl.1 rfl (Nat.le_of_ble_eq_true rfl) dL_law_820 ⟨(Nat.le_of_ble_eq_true rfl), (Nat.le_of_ble_eq_true rfl)⟩ (fun r820 _ H locs hp820 Z => ?_)
      subst hp820
      refine lv_icmp_eq (tgt := 901) hx hb dL_law_823 (by decide) (fun c823 => ?_) (fun c823 => absurd ey9 c823)
      exact N901 _ _ _ _ _ _ _ _ _ _ _ _ _ _ _ _ _ _ _ _ _ _ _ _ _ _ _ _ _ _ _ _ ⟨hm1, hM, hp1, hP, hc2, hs, ha10, hnum, ht, hh, hny, hcg, hwt, hb100, hpr, hsh, hmo⟩ _ _ Z _ hl
    · have hy : ny < 6 := by omega
      refine lv_aload_n hx hb dL_law_805 rfl (lv_at hl 1 rfl) ?_
      refine lv_aload_n hx hb dL_law_806 rfl (lv_at hl 0 rfl) ?_
      refine lv_iload_n hx hb dL_law_807 rfl (lv_at hl 3 rfl) ?_
      refine lv_iconst (v := nI 1) hx hb dL_law_808 (by decide) ?_
      refine n_iadd hx hb dL_law_809 ?_
      refine r_sld E Z SC (by omega) hL dL_law_810 ?_
      refine r_top (y := nI k1) ek1 ?_
      refine c_Vi (As := [.int (nI k1)]) (rest := []) (w2 := fun _ => [oX q mc bn bl tr, oP (q 1) (q 2) (q 3) size ch, aN cA (q 2) 16 sets, aN cA (q 3) 8 amts, oG (q 4) (q 5) mc num, aN cA (q 5) 4 (mF num mc), oG (q 6) (q 7) tmc tn, aN cA (q 7) 4 tmem, oT (q 8) (q 9) tm t, aN cA (q 9) 7 hp, oR (q 10) (q 11) (q 12), aN cA (q 11) 16 tp, aN cA (q 12) 4 pl, oY (q 13) (q 14) (q 15) (q 16) (ny + 1) cg, aN cA (q 14) 6 (up wt ny k1), aN cA (q 15) 4 co, aN cA (q 16) 4 nc, aN cA (q 17) 7 bo, aN cA (q 18) 7 pr, aN cA (q 19) 4 sh, aN cA (q 20) 4 sw, aN cA (q 21) 201 sv, oM q2 0 tr mc size num ny cg, aN cA (q2 1) 16 sets, aN cA (q2 2) 8 (bt ch), aN cA (q2 3) 8 amts, aN cA (q2 4) 7 bo, aN cA (q2 5) 7 pr, aN cA (q2 6) 4 sh, aN cA (q2 7) 6 wt, aN cA (q2 8) 7 hp, aR cA (q2 9) 4 (tel t), aN cA (q2 10) 201 mo, aN cA (q2 11) 4 pl2, aR cA (q2 12) 5 be, aN cA (q2 13) 4 co2, aN cA (q2 14) 4 nx]) E Z (k_X5_year l D cA q mc bn bl tr ny cg wt k1 (by first | assumption | omega) (by first | assumption | omega)) wv_L_102 ⟨rfl, rfl, Nat.le_of_ble_eq_true rfl, Nat.le_of_ble_eq_true rfl⟩ [0, 13, 14] rfl rfl rfl rfl (q0 := 0) rfl (fun _ => rfl) (fun _ => rfl) rfl hl.1 rfl (Nat.le_of_ble_eq_true rfl) dL_law_811 ⟨(Nat.le_of_ble_eq_true rfl), (Nat.le_of_ble_eq_true rfl)⟩ (fun r811 _ H locs hp811 Z => ?_)
      subst hp811
      refine lv_topi (fun y9 ey9 => ?_)
      refine lv_aload_n hx hb dL_law_814 rfl (lv_at hl 2 rfl) ?_
      refine lv_aload_n hx hb dL_law_815 rfl (lv_at hl 0 rfl) ?_
      refine lv_iload_n hx hb dL_law_816 rfl (lv_at hl 3 rfl) ?_
      refine lv_iconst (v := nI 1) hx hb dL_law_817 (by decide) ?_
      refine n_iadd hx hb dL_law_818 ?_
      refine r_sld E Z SC (by omega) hL dL_law_819 ?_
      refine r_top (y := nI k1) ek1 ?_
      refine c_Vi (As := [.int (nI k1)]) (rest := [.int y9]) (w2 := fun _ => [oX q mc bn bl tr, oP (q 1) (q 2) (q 3) size ch, aN cA (q 2) 16 sets, aN cA (q 3) 8 amts, oG (q 4) (q 5) mc num, aN cA (q 5) 4 (mF num mc), oG (q 6) (q 7) tmc tn, aN cA (q 7) 4 tmem, oT (q 8) (q 9) tm t, aN cA (q 9) 7 hp, oR (q 10) (q 11) (q 12), aN cA (q 11) 16 tp, aN cA (q 12) 4 pl, oY (q 13) (q 14) (q 15) (q 16) (ny + 1) cg, aN cA (q 14) 6 (up wt ny k1), aN cA (q 15) 4 co, aN cA (q 16) 4 nc, aN cA (q 17) 7 bo, aN cA (q 18) 7 pr, aN cA (q 19) 4 sh, aN cA (q 20) 4 sw, aN cA (q 21) 201 sv, oM q2 0 tr mc size num (ny + 1) cg, aN cA (q2 1) 16 sets, aN cA (q2 2) 8 (bt ch), aN cA (q2 3) 8 amts, aN cA (q2 4) 7 bo, aN cA (q2 5) 7 pr, aN cA (q2 6) 4 sh, aN cA (q2 7) 6 (up wt ny k1), aN cA (q2 8) 7 hp, aR cA (q2 9) 4 (tel t), aN cA (q2 10) 201 mo, aN cA (q2 11) 4 pl2, aR cA (q2 12) 5 be, aN cA (q2 13) 4 co2, aN cA (q2 14) 4 nx]) E Z (k_X6_year l D cA q2 tr mc size num ny cg wt k1 (by first | assumption | omega) (by first | assumption | omega)) wv_L_105 ⟨rfl, rfl, Nat.le_of_ble_eq_true rfl, Nat.le_of_ble_eq_true rfl⟩ [22, 29] rfl rfl rfl rfl (q0 := 0) rfl (fun _ => rfl) (fun _ => rfl) rfl hl.1 rfl (Nat.le_of_ble_eq_true rfl) dL_law_820 ⟨(Nat.le_of_ble_eq_true rfl), (Nat.le_of_ble_eq_true rfl)⟩ (fun r820 _ H locs hp820 Z => ?_)
      subst hp820
      refine lv_icmp_eq (tgt := 901) hx hb dL_law_823 (by decide) (fun c823 => ?_) (fun c823 => absurd ey9 c823)
      exact N901 _ _ _ _ _ _ _ _ _ _ _ _ _ _ _ _ _ _ _ _ _ _ _ _ _ _ _ _ _ _ _ _ ⟨hm1, hM, hp1, hP, hc2, hs, ha10, hnum, ht, hh, (by omega), hcg, up_all (P := fun z => z < 10) hwt (by omega), hb100, hpr, hsh, hmo⟩ _ _ Z _ hl
  · have hC2 := hC
    refine lv_aload_n hx hb dL_law_805 rfl (lv_at hl 1 rfl) ?_
    refine lv_aload_n hx hb dL_law_806 rfl (lv_at hl 0 rfl) ?_
    refine lv_iload_n hx hb dL_law_807 rfl (lv_at hl 3 rfl) ?_
    refine lv_iconst (v := nI 1) hx hb dL_law_808 (by decide) ?_
    refine n_iadd hx hb dL_law_809 ?_
    refine r_sld E Z SC (by omega) hL dL_law_810 ?_
    refine c_Vi (As := [.int (xs (i + 1))]) (rest := []) (w2 := fun _ => [oX q mc bn bl tr, oP (q 1) (q 2) (q 3) size ch, aN cA (q 2) 16 sets, aN cA (q 3) 8 amts, oG (q 4) (q 5) mc num, aN cA (q 5) 4 (mF num mc), oG (q 6) (q 7) tmc tn, aN cA (q 7) 4 tmem, oT (q 8) (q 9) tm t, aN cA (q 9) 7 hp, oR (q 10) (q 11) (q 12), aN cA (q 11) 16 tp, aN cA (q 12) 4 pl, oY (q 13) (q 14) (q 15) (q 16) ny cg, aN cA (q 14) 6 wt, aN cA (q 15) 4 co, aN cA (q 16) 4 nc, aN cA (q 17) 7 bo, aN cA (q 18) 7 pr, aN cA (q 19) 4 sh, aN cA (q 20) 4 sw, aN cA (q 21) 201 sv, oM q2 0 tr mc size num ny cg, aN cA (q2 1) 16 sets, aN cA (q2 2) 8 (bt ch), aN cA (q2 3) 8 amts, aN cA (q2 4) 7 bo, aN cA (q2 5) 7 pr, aN cA (q2 6) 4 sh, aN cA (q2 7) 6 wt, aN cA (q2 8) 7 hp, aR cA (q2 9) 4 (tel t), aN cA (q2 10) 201 mo, aN cA (q2 11) 4 pl2, aR cA (q2 12) 5 be, aN cA (q2 13) 4 co2, aN cA (q2 14) 4 nx]) E Z (k_X5_year_bad l D cA q mc bn bl tr (xs (i + 1)) (by first | assumption | omega)) wv_L_102 ⟨rfl, rfl, Nat.le_of_ble_eq_true rfl, Nat.le_of_ble_eq_true rfl⟩ [0] rfl rfl rfl rfl (q0 := 0) rfl (fun _ => rfl) (fun _ => rfl) rfl hl.1 rfl (Nat.le_of_ble_eq_true rfl) dL_law_811 ⟨(Nat.le_of_ble_eq_true rfl), (Nat.le_of_ble_eq_true rfl)⟩ (fun r811 _ H locs hp811 Z => ?_)
    subst hp811
    refine lv_topi (fun y9 ey9 => ?_)
    refine lv_aload_n hx hb dL_law_814 rfl (lv_at hl 2 rfl) ?_
    refine lv_aload_n hx hb dL_law_815 rfl (lv_at hl 0 rfl) ?_
    refine lv_iload_n hx hb dL_law_816 rfl (lv_at hl 3 rfl) ?_
    refine lv_iconst (v := nI 1) hx hb dL_law_817 (by decide) ?_
    refine n_iadd hx hb dL_law_818 ?_
    refine r_sld E Z SC (by omega) hL dL_law_819 ?_
    refine c_Vi (As := [.int (xs (i + 1))]) (rest := [.int y9]) (w2 := fun _ => [oX q mc bn bl tr, oP (q 1) (q 2) (q 3) size ch, aN cA (q 2) 16 sets, aN cA (q 3) 8 amts, oG (q 4) (q 5) mc num, aN cA (q 5) 4 (mF num mc), oG (q 6) (q 7) tmc tn, aN cA (q 7) 4 tmem, oT (q 8) (q 9) tm t, aN cA (q 9) 7 hp, oR (q 10) (q 11) (q 12), aN cA (q 11) 16 tp, aN cA (q 12) 4 pl, oY (q 13) (q 14) (q 15) (q 16) ny cg, aN cA (q 14) 6 wt, aN cA (q 15) 4 co, aN cA (q 16) 4 nc, aN cA (q 17) 7 bo, aN cA (q 18) 7 pr, aN cA (q 19) 4 sh, aN cA (q 20) 4 sw, aN cA (q 21) 201 sv, oM q2 0 tr mc size num ny cg, aN cA (q2 1) 16 sets, aN cA (q2 2) 8 (bt ch), aN cA (q2 3) 8 amts, aN cA (q2 4) 7 bo, aN cA (q2 5) 7 pr, aN cA (q2 6) 4 sh, aN cA (q2 7) 6 wt, aN cA (q2 8) 7 hp, aR cA (q2 9) 4 (tel t), aN cA (q2 10) 201 mo, aN cA (q2 11) 4 pl2, aR cA (q2 12) 5 be, aN cA (q2 13) 4 co2, aN cA (q2 14) 4 nx]) E Z (k_X6_year_bad l D cA q2 tr mc size num ny cg (xs (i + 1)) (by first | assumption | omega)) wv_L_105 ⟨rfl, rfl, Nat.le_of_ble_eq_true rfl, Nat.le_of_ble_eq_true rfl⟩ [22] rfl rfl rfl rfl (q0 := 0) rfl (fun _ => rfl) (fun _ => rfl) rfl hl.1 rfl (Nat.le_of_ble_eq_true rfl) dL_law_820 ⟨(Nat.le_of_ble_eq_true rfl), (Nat.le_of_ble_eq_true rfl)⟩ (fun r820 _ H locs hp820 Z => ?_)
    subst hp820
    refine lv_icmp_eq (tgt := 901) hx hb dL_law_823 (by decide) (fun c823 => ?_) (fun c823 => absurd ey9 c823)
    exact N901 _ _ _ _ _ _ _ _ _ _ _ _ _ _ _ _ _ _ _ _ _ _ _ _ _ _ _ _ _ _ _ _ ⟨hm1, hM, hp1, hP, hc2, hs, ha10, hnum, ht, hh, hny, hcg, hwt, hb100, hpr, hsh, hmo⟩ _ _ Z _ hl
set_option maxHeartbeats 4000000 in
set_option maxRecDepth 100000 in
theorem lc_change {p : Program} {l : Launch} {e : Env} {s : State} {m : MethodId} {below : List Frame} {meth : Method} {c : Code} {D : va_G} {cA : ClassId} {A : Nat → Prop} {b L : Nat} {xs : Nat → Int32} {Q : State → Prop} {q q2 : Nat → Nat} {i : Nat} (E : Ev p s m #[Value.ref b] c cL_law 4 RL D cA A) (hXs : XZ A s s.heap) (SC : va_X b L xs s s.heap ∧ b < s.heap.size ∧ ¬ A b) (hi : i + 5 ≤ L) (hL : L ≤ 2560) (N901 : LN p l e s m below meth c D cA A b Q q q2 i) {mc size ch num ny cg bn bl tmc tn tm : Nat} {sets amts hp wt bo pr sh tmem tp pl co nc sw sv mo pl2 co2 nx : Nat → Nat} {t : TS} {tr : Int64} {be : Nat → Int32} (hI : LInv mc size ch num ny cg sets amts hp wt bo pr sh mo t) {H : Heap} {locs : List Loc} (Z : Wd D A s (LW cA q q2 mc size ch num ny cg bn bl tmc tn tm sets amts hp wt bo pr sh tmem tp pl co nc sw sv mo pl2 co2 nx t tr be) H locs) {ls : Array Slot} (hl : lv_has ls 4 [(0, .ref b), (1, .ref (q 0)), (2, .ref (q2 0)), (3, .int (nI i))]) : W p l e room_1 s m #[Value.ref b] below meth c H locs 37 640 Q (F0 m 828 ls []) := by
  have hx := E.1.1
  have hb := E.1.2.1
  unfold LN LW at N901
  unfold LW at Z
  obtain ⟨hm1, hM, hp1, hP, hc2, hs, ha10, hnum, ht, hh, hny, hcg, hwt, hb100, hpr, hsh, hmo⟩ := hI
  have hch := ch256 hc2 hP
  have h20 := Nat.two_pow_pos mc
  have h202 := Nat.two_pow_pos (2 * mc)
  have h27 : 2 ^ mc ≤ 2 ^ 7 := Nat.pow_le_pow_right (by decide) hM
  have h14 : 2 ^ (2 * mc) ≤ 2 ^ 14 := Nat.pow_le_pow_right (by decide) (by omega)
  by_cases hC : (nI 0 ≤ xs (i + 1) ∧ xs (i + 1) ≤ nI 50)
  · obtain ⟨k1, hk10, hk11, ek1⟩ := in_nat (by decide) hC (by decide)
    refine lv_aload_n hx hb dL_law_828 rfl (lv_at hl 1 rfl) ?_
    refine lv_aload_n hx hb dL_law_829 rfl (lv_at hl 0 rfl) ?_
    refine lv_iload_n hx hb dL_law_830 rfl (lv_at hl 3 rfl) ?_
    refine lv_iconst (v := nI 1) hx hb dL_law_831 (by decide) ?_
    refine n_iadd hx hb dL_law_832 ?_
    refine r_sld E Z SC (by omega) hL dL_law_833 ?_
    refine r_top (y := nI k1) ek1 ?_
    refine c_Vi (As := [.int (nI k1)]) (rest := []) (w2 := fun _ => [oX q mc bn bl tr, oP (q 1) (q 2) (q 3) size ch, aN cA (q 2) 16 sets, aN cA (q 3) 8 amts, oG (q 4) (q 5) mc num, aN cA (q 5) 4 (mF num mc), oG (q 6) (q 7) tmc tn, aN cA (q 7) 4 tmem, oT (q 8) (q 9) tm t, aN cA (q 9) 7 hp, oR (q 10) (q 11) (q 12), aN cA (q 11) 16 tp, aN cA (q 12) 4 pl, oY (q 13) (q 14) (q 15) (q 16) ny k1, aN cA (q 14) 6 wt, aN cA (q 15) 4 co, aN cA (q 16) 4 nc, aN cA (q 17) 7 bo, aN cA (q 18) 7 pr, aN cA (q 19) 4 sh, aN cA (q 20) 4 sw, aN cA (q 21) 201 sv, oM q2 0 tr mc size num ny cg, aN cA (q2 1) 16 sets, aN cA (q2 2) 8 (bt ch), aN cA (q2 3) 8 amts, aN cA (q2 4) 7 bo, aN cA (q2 5) 7 pr, aN cA (q2 6) 4 sh, aN cA (q2 7) 6 wt, aN cA (q2 8) 7 hp, aR cA (q2 9) 4 (tel t), aN cA (q2 10) 201 mo, aN cA (q2 11) 4 pl2, aR cA (q2 12) 5 be, aN cA (q2 13) 4 co2, aN cA (q2 14) 4 nx]) E Z (k_X5_change l D cA q mc bn bl tr ny cg k1 (by first | assumption | omega)) wv_L_106 ⟨rfl, rfl, Nat.le_of_ble_eq_true rfl, Nat.le_of_ble_eq_true rfl⟩ [0, 13] rfl rfl rfl rfl (q0 := 0) rfl (fun _ => rfl) (fun _ => rfl) rfl hl.1 rfl (Nat.le_of_ble_eq_true rfl) dL_law_834 ⟨(Nat.le_of_ble_eq_true rfl), (Nat.le_of_ble_eq_true rfl)⟩ (fun r834 _ H locs hp834 Z => ?_)
    subst hp834
    refine lv_topi (fun y9 ey9 => ?_)
    refine lv_aload_n hx hb dL_law_837 rfl (lv_at hl 2 rfl) ?_
    refine lv_aload_n hx hb dL_law_838 rfl (lv_at hl 0 rfl) ?_
    refine lv_iload_n hx hb dL_law_839 rfl (lv_at hl 3 rfl) ?_
    refine lv_iconst (v := nI 1) hx hb dL_law_840 (by decide) ?_
    refine n_iadd hx hb dL_law_841 ?_
    refine r_sld E Z SC (by omega) hL dL_law_842 ?_
    refine r_top (y := nI k1) ek1 ?_
    refine c_Vi (As := [.int (nI k1)]) (rest := [.int y9]) (w2 := fun _ => [oX q mc bn bl tr, oP (q 1) (q 2) (q 3) size ch, aN cA (q 2) 16 sets, aN cA (q 3) 8 amts, oG (q 4) (q 5) mc num, aN cA (q 5) 4 (mF num mc), oG (q 6) (q 7) tmc tn, aN cA (q 7) 4 tmem, oT (q 8) (q 9) tm t, aN cA (q 9) 7 hp, oR (q 10) (q 11) (q 12), aN cA (q 11) 16 tp, aN cA (q 12) 4 pl, oY (q 13) (q 14) (q 15) (q 16) ny k1, aN cA (q 14) 6 wt, aN cA (q 15) 4 co, aN cA (q 16) 4 nc, aN cA (q 17) 7 bo, aN cA (q 18) 7 pr, aN cA (q 19) 4 sh, aN cA (q 20) 4 sw, aN cA (q 21) 201 sv, oM q2 0 tr mc size num ny k1, aN cA (q2 1) 16 sets, aN cA (q2 2) 8 (bt ch), aN cA (q2 3) 8 amts, aN cA (q2 4) 7 bo, aN cA (q2 5) 7 pr, aN cA (q2 6) 4 sh, aN cA (q2 7) 6 wt, aN cA (q2 8) 7 hp, aR cA (q2 9) 4 (tel t), aN cA (q2 10) 201 mo, aN cA (q2 11) 4 pl2, aR cA (q2 12) 5 be, aN cA (q2 13) 4 co2, aN cA (q2 14) 4 nx]) E Z (k_X6_change l D cA q2 tr mc size num ny cg k1 (by first | assumption | omega)) wv_L_109 ⟨rfl, rfl, Nat.le_of_ble_eq_true rfl, Nat.le_of_ble_eq_true rfl⟩ [22] rfl rfl rfl rfl (q0 := 0) rfl (fun _ => rfl) (fun _ => rfl) rfl hl.1 rfl (Nat.le_of_ble_eq_true rfl) dL_law_843 ⟨(Nat.le_of_ble_eq_true rfl), (Nat.le_of_ble_eq_true rfl)⟩ (fun r843 _ H locs hp843 Z => ?_)
    subst hp843
    refine lv_icmp_eq (tgt := 901) hx hb dL_law_846 (by decide) (fun c846 => ?_) (fun c846 => absurd ey9 c846)
    exact N901 _ _ _ _ _ _ _ _ _ _ _ _ _ _ _ _ _ _ _ _ _ _ _ _ _ _ _ _ _ _ _ _ ⟨hm1, hM, hp1, hP, hc2, hs, ha10, hnum, ht, hh, hny, hk11, hwt, hb100, hpr, hsh, hmo⟩ _ _ Z _ hl
  · have hC2 := hC
    refine lv_aload_n hx hb dL_law_828 rfl (lv_at hl 1 rfl) ?_
    refine lv_aload_n hx hb dL_law_829 rfl (lv_at hl 0 rfl) ?_
    refine lv_iload_n hx hb dL_law_830 rfl (lv_at hl 3 rfl) ?_
    refine lv_iconst (v := nI 1) hx hb dL_law_831 (by decide) ?_
    refine n_iadd hx hb dL_law_832 ?_
    refine r_sld E Z SC (by omega) hL dL_law_833 ?_
    refine c_Vi (As := [.int (xs (i + 1))]) (rest := []) (w2 := fun _ => [oX q mc bn bl tr, oP (q 1) (q 2) (q 3) size ch, aN cA (q 2) 16 sets, aN cA (q 3) 8 amts, oG (q 4) (q 5) mc num, aN cA (q 5) 4 (mF num mc), oG (q 6) (q 7) tmc tn, aN cA (q 7) 4 tmem, oT (q 8) (q 9) tm t, aN cA (q 9) 7 hp, oR (q 10) (q 11) (q 12), aN cA (q 11) 16 tp, aN cA (q 12) 4 pl, oY (q 13) (q 14) (q 15) (q 16) ny cg, aN cA (q 14) 6 wt, aN cA (q 15) 4 co, aN cA (q 16) 4 nc, aN cA (q 17) 7 bo, aN cA (q 18) 7 pr, aN cA (q 19) 4 sh, aN cA (q 20) 4 sw, aN cA (q 21) 201 sv, oM q2 0 tr mc size num ny cg, aN cA (q2 1) 16 sets, aN cA (q2 2) 8 (bt ch), aN cA (q2 3) 8 amts, aN cA (q2 4) 7 bo, aN cA (q2 5) 7 pr, aN cA (q2 6) 4 sh, aN cA (q2 7) 6 wt, aN cA (q2 8) 7 hp, aR cA (q2 9) 4 (tel t), aN cA (q2 10) 201 mo, aN cA (q2 11) 4 pl2, aR cA (q2 12) 5 be, aN cA (q2 13) 4 co2, aN cA (q2 14) 4 nx]) E Z (k_X5_change_bad l D cA q mc bn bl tr (xs (i + 1)) (by first | assumption | omega)) wv_L_106 ⟨rfl, rfl, Nat.le_of_ble_eq_true rfl, Nat.le_of_ble_eq_true rfl⟩ [0] rfl rfl rfl rfl (q0 := 0) rfl (fun _ => rfl) (fun _ => rfl) rfl hl.1 rfl (Nat.le_of_ble_eq_true rfl) dL_law_834 ⟨(Nat.le_of_ble_eq_true rfl), (Nat.le_of_ble_eq_true rfl)⟩ (fun r834 _ H locs hp834 Z => ?_)
    subst hp834
    refine lv_topi (fun y9 ey9 => ?_)
    refine lv_aload_n hx hb dL_law_837 rfl (lv_at hl 2 rfl) ?_
    refine lv_aload_n hx hb dL_law_838 rfl (lv_at hl 0 rfl) ?_
    refine lv_iload_n hx hb dL_law_839 rfl (lv_at hl 3 rfl) ?_
    refine lv_iconst (v := nI 1) hx hb dL_law_840 (by decide) ?_
    refine n_iadd hx hb dL_law_841 ?_
    refine r_sld E Z SC (by omega) hL dL_law_842 ?_
    refine c_Vi (As := [.int (xs (i + 1))]) (rest := [.int y9]) (w2 := fun _ => [oX q mc bn bl tr, oP (q 1) (q 2) (q 3) size ch, aN cA (q 2) 16 sets, aN cA (q 3) 8 amts, oG (q 4) (q 5) mc num, aN cA (q 5) 4 (mF num mc), oG (q 6) (q 7) tmc tn, aN cA (q 7) 4 tmem, oT (q 8) (q 9) tm t, aN cA (q 9) 7 hp, oR (q 10) (q 11) (q 12), aN cA (q 11) 16 tp, aN cA (q 12) 4 pl, oY (q 13) (q 14) (q 15) (q 16) ny cg, aN cA (q 14) 6 wt, aN cA (q 15) 4 co, aN cA (q 16) 4 nc, aN cA (q 17) 7 bo, aN cA (q 18) 7 pr, aN cA (q 19) 4 sh, aN cA (q 20) 4 sw, aN cA (q 21) 201 sv, oM q2 0 tr mc size num ny cg, aN cA (q2 1) 16 sets, aN cA (q2 2) 8 (bt ch), aN cA (q2 3) 8 amts, aN cA (q2 4) 7 bo, aN cA (q2 5) 7 pr, aN cA (q2 6) 4 sh, aN cA (q2 7) 6 wt, aN cA (q2 8) 7 hp, aR cA (q2 9) 4 (tel t), aN cA (q2 10) 201 mo, aN cA (q2 11) 4 pl2, aR cA (q2 12) 5 be, aN cA (q2 13) 4 co2, aN cA (q2 14) 4 nx]) E Z (k_X6_change_bad l D cA q2 tr mc size num ny cg (xs (i + 1)) (by first | assumption | omega)) wv_L_109 ⟨rfl, rfl, Nat.le_of_ble_eq_true rfl, Nat.le_of_ble_eq_true rfl⟩ [22] rfl rfl rfl rfl (q0 := 0) rfl (fun _ => rfl) (fun _ => rfl) rfl hl.1 rfl (Nat.le_of_ble_eq_true rfl) dL_law_843 ⟨(Nat.le_of_ble_eq_true rfl), (Nat.le_of_ble_eq_true rfl)⟩ (fun r843 _ H locs hp843 Z => ?_)
    subst hp843
    refine lv_icmp_eq (tgt := 901) hx hb dL_law_846 (by decide) (fun c846 => ?_) (fun c846 => absurd ey9 c846)
    exact N901 _ _ _ _ _ _ _ _ _ _ _ _ _ _ _ _ _ _ _ _ _ _ _ _ _ _ _ _ _ _ _ _ ⟨hm1, hM, hp1, hP, hc2, hs, ha10, hnum, ht, hh, hny, hcg, hwt, hb100, hpr, hsh, hmo⟩ _ _ Z _ hl
set_option maxHeartbeats 4000000 in
set_option maxRecDepth 100000 in
theorem lc_plan {p : Program} {l : Launch} {e : Env} {s : State} {m : MethodId} {below : List Frame} {meth : Method} {c : Code} {D : va_G} {cA : ClassId} {A : Nat → Prop} {b L : Nat} {xs : Nat → Int32} {Q : State → Prop} {q q2 : Nat → Nat} {i : Nat} (E : Ev p s m #[Value.ref b] c cL_law 4 RL D cA A) (hXs : XZ A s s.heap) (SC : va_X b L xs s s.heap ∧ b < s.heap.size ∧ ¬ A b) (hi : i + 5 ≤ L) (hL : L ≤ 2560) (N901 : LN p l e s m below meth c D cA A b Q q q2 i) {mc size ch num ny cg bn bl tmc tn tm : Nat} {sets amts hp wt bo pr sh tmem tp pl co nc sw sv mo pl2 co2 nx : Nat → Nat} {t : TS} {tr : Int64} {be : Nat → Int32} (hI : LInv mc size ch num ny cg sets amts hp wt bo pr sh mo t) {H : Heap} {locs : List Loc} (Z : Wd D A s (LW cA q q2 mc size ch num ny cg bn bl tmc tn tm sets amts hp wt bo pr sh tmem tp pl co nc sw sv mo pl2 co2 nx t tr be) H locs) {ls : Array Slot} (hl : lv_has ls 4 [(0, .ref b), (1, .ref (q 0)), (2, .ref (q2 0)), (3, .int (nI i))]) : W p l e room_1 s m #[Value.ref b] below meth c H locs 37 640 Q (F0 m 851 ls []) := by
  have hx := E.1.1
  have hb := E.1.2.1
  unfold LN LW at N901
  unfold LW at Z
  obtain ⟨hm1, hM, hp1, hP, hc2, hs, ha10, hnum, ht, hh, hny, hcg, hwt, hb100, hpr, hsh, hmo⟩ := hI
  have hch := ch256 hc2 hP
  have h20 := Nat.two_pow_pos mc
  have h202 := Nat.two_pow_pos (2 * mc)
  have h27 : 2 ^ mc ≤ 2 ^ 7 := Nat.pow_le_pow_right (by decide) hM
  have h14 : 2 ^ (2 * mc) ≤ 2 ^ 14 := Nat.pow_le_pow_right (by decide) (by omega)
  by_cases hC : ny = 0
  · have hy := hC
    refine lv_aload_n hx hb dL_law_851 rfl (lv_at hl 1 rfl) ?_
    refine c_Vi (As := []) (rest := []) (w2 := fun _ => [oX q mc bn bl tr, oP (q 1) (q 2) (q 3) size ch, aN cA (q 2) 16 sets, aN cA (q 3) 8 amts, oG (q 4) (q 5) mc num, aN cA (q 5) 4 (mF num mc), oG (q 6) (q 7) tmc tn, aN cA (q 7) 4 tmem, oT (q 8) (q 9) tm t, aN cA (q 9) 7 hp, oR (q 10) (q 11) (q 12), aN cA (q 11) 16 tp, aN cA (q 12) 4 pl, oY (q 13) (q 14) (q 15) (q 16) ny cg, aN cA (q 14) 6 wt, aN cA (q 15) 4 co, aN cA (q 16) 4 nc, aN cA (q 17) 7 bo, aN cA (q 18) 7 pr, aN cA (q 19) 4 sh, aN cA (q 20) 4 sw, aN cA (q 21) 201 sv, oM q2 0 tr mc size num ny cg, aN cA (q2 1) 16 sets, aN cA (q2 2) 8 (bt ch), aN cA (q2 3) 8 amts, aN cA (q2 4) 7 bo, aN cA (q2 5) 7 pr, aN cA (q2 6) 4 sh, aN cA (q2 7) 6 wt, aN cA (q2 8) 7 hp, aR cA (q2 9) 4 (tel t), aN cA (q2 10) 201 mo, aN cA (q2 11) 4 pl2, aR cA (q2 12) 5 be, aN cA (q2 13) 4 co2, aN cA (q2 14) 4 nx]) E Z (k_X5_plan_none l D cA q mc bn bl tr ny cg (by first | assumption | omega)) wv_L_110 ⟨rfl, rfl, Nat.le_of_ble_eq_true rfl, Nat.le_of_ble_eq_true rfl⟩ [0, 13] rfl rfl rfl rfl (q0 := 0) rfl (fun _ => rfl) (fun _ => rfl) rfl hl.1 rfl (Nat.le_of_ble_eq_true rfl) dL_law_852 ⟨(Nat.le_of_ble_eq_true rfl), (Nat.le_of_ble_eq_true rfl)⟩ (fun r852 _ H locs hp852 Z => ?_)
    subst hp852
    refine lv_topi (fun y9 ey9 => ?_)
    refine lv_aload_n hx hb dL_law_855 rfl (lv_at hl 2 rfl) ?_
    refine c_Vi (As := []) (rest := [.int y9]) (w2 := fun _ => [oX q mc bn bl tr, oP (q 1) (q 2) (q 3) size ch, aN cA (q 2) 16 sets, aN cA (q 3) 8 amts, oG (q 4) (q 5) mc num, aN cA (q 5) 4 (mF num mc), oG (q 6) (q 7) tmc tn, aN cA (q 7) 4 tmem, oT (q 8) (q 9) tm t, aN cA (q 9) 7 hp, oR (q 10) (q 11) (q 12), aN cA (q 11) 16 tp, aN cA (q 12) 4 pl, oY (q 13) (q 14) (q 15) (q 16) ny cg, aN cA (q 14) 6 wt, aN cA (q 15) 4 co, aN cA (q 16) 4 nc, aN cA (q 17) 7 bo, aN cA (q 18) 7 pr, aN cA (q 19) 4 sh, aN cA (q 20) 4 sw, aN cA (q 21) 201 sv, oM q2 0 tr mc size num ny cg, aN cA (q2 1) 16 sets, aN cA (q2 2) 8 (bt ch), aN cA (q2 3) 8 amts, aN cA (q2 4) 7 bo, aN cA (q2 5) 7 pr, aN cA (q2 6) 4 sh, aN cA (q2 7) 6 wt, aN cA (q2 8) 7 hp, aR cA (q2 9) 4 (tel t), aN cA (q2 10) 201 mo, aN cA (q2 11) 4 pl2, aR cA (q2 12) 5 be, aN cA (q2 13) 4 co2, aN cA (q2 14) 4 nx]) E Z (k_X6_plan_none l D cA q2 tr mc size num ny cg (by first | assumption | omega)) wv_L_113 ⟨rfl, rfl, Nat.le_of_ble_eq_true rfl, Nat.le_of_ble_eq_true rfl⟩ [22] rfl rfl rfl rfl (q0 := 0) rfl (fun _ => rfl) (fun _ => rfl) rfl hl.1 rfl (Nat.le_of_ble_eq_true rfl) dL_law_856 ⟨(Nat.le_of_ble_eq_true rfl), (Nat.le_of_ble_eq_true rfl)⟩ (fun r856 _ H locs hp856 Z => ?_)
    subst hp856
    refine lv_icmp_eq (tgt := 901) hx hb dL_law_859 (by decide) (fun c859 => ?_) (fun c859 => absurd ey9 c859)
    exact N901 _ _ _ _ _ _ _ _ _ _ _ _ _ _ _ _ _ _ _ _ _ _ _ _ _ _ _ _ _ _ _ _ ⟨hm1, hM, hp1, hP, hc2, hs, ha10, hnum, ht, hh, hny, hcg, hwt, hb100, hpr, hsh, hmo⟩ _ _ Z _ hl
  · have hy : 1 ≤ ny ∧ ny ≤ 6 := ⟨Nat.pos_of_ne_zero hC, hny⟩
    refine lv_aload_n hx hb dL_law_851 rfl (lv_at hl 1 rfl) ?_
    refine c_Vi (As := []) (rest := []) (w2 := fun u852 => [oX q mc bn bl tr, oP (q 1) (q 2) (q 3) size ch, aN cA (q 2) 16 sets, aN cA (q 3) 8 amts, oG (q 4) (q 5) mc num, aN cA (q 5) 4 (mF num mc), oG (q 6) (q 7) u852.1.1 u852.1.2.1, aN cA (q 7) 4 u852.1.2.2, oT (q 8) (q 9) tm t, aN cA (q 9) 7 hp, oR (q 10) (q 11) (q 12), aN cA (q 11) 16 tp, aN cA (q 12) 4 pl, oY (q 13) (q 14) (q 15) (q 16) ny cg, aN cA (q 14) 6 wt, aN cA (q 15) 4 u852.2.1, aN cA (q 16) 4 u852.2.2, aN cA (q 17) 7 bo, aN cA (q 18) 7 pr, aN cA (q 19) 4 sh, aN cA (q 20) 4 (fun z => sm (wdp mc (sh z) sets amts ch) size), aN cA (q 21) 201 sv, oM q2 0 tr mc size num ny cg, aN cA (q2 1) 16 sets, aN cA (q2 2) 8 (bt ch), aN cA (q2 3) 8 amts, aN cA (q2 4) 7 bo, aN cA (q2 5) 7 pr, aN cA (q2 6) 4 sh, aN cA (q2 7) 6 wt, aN cA (q2 8) 7 hp, aR cA (q2 9) 4 (tel t), aN cA (q2 10) 201 mo, aN cA (q2 11) 4 pl2, aR cA (q2 12) 5 be, aN cA (q2 13) 4 co2, aN cA (q2 14) 4 nx]) E Z (k_X5_plan l D cA q mc bn bl tr size ch sets amts tmc tn tmem ny cg wt co nc sh sw (by first | assumption | omega) (by first | assumption | omega) (by first | assumption | omega) (by first | assumption | omega) (by first | assumption | omega) (by first | assumption | omega) (by first | assumption | omega) (by first | assumption | omega) (by first | assumption | omega)) wv_L_110 ⟨rfl, rfl, Nat.le_of_ble_eq_true rfl, Nat.le_of_ble_eq_true rfl⟩ [0, 1, 2, 3, 6, 7, 13, 14, 15, 16, 19, 20] rfl rfl rfl rfl (q0 := 0) rfl (fun _ => rfl) (fun _ => rfl) rfl hl.1 rfl (Nat.le_of_ble_eq_true rfl) dL_law_852 ⟨(Nat.le_of_ble_eq_true rfl), (Nat.le_of_ble_eq_true rfl)⟩ (fun r852 u852 H locs hp852 Z => ?_)
    subst hp852
    refine lv_topi (fun y9 ey9 => ?_)
    refine lv_aload_n hx hb dL_law_855 rfl (lv_at hl 2 rfl) ?_
    refine c_Vi (As := []) (rest := [.int y9]) (w2 := fun u856 => [oX q mc bn bl tr, oP (q 1) (q 2) (q 3) size ch, aN cA (q 2) 16 sets, aN cA (q 3) 8 amts, oG (q 4) (q 5) mc num, aN cA (q 5) 4 (mF num mc), oG (q 6) (q 7) u852.1.1 u852.1.2.1, aN cA (q 7) 4 u852.1.2.2, oT (q 8) (q 9) tm t, aN cA (q 9) 7 hp, oR (q 10) (q 11) (q 12), aN cA (q 11) 16 tp, aN cA (q 12) 4 pl, oY (q 13) (q 14) (q 15) (q 16) ny cg, aN cA (q 14) 6 wt, aN cA (q 15) 4 u852.2.1, aN cA (q 16) 4 u852.2.2, aN cA (q 17) 7 bo, aN cA (q 18) 7 pr, aN cA (q 19) 4 sh, aN cA (q 20) 4 (fun z => sm (wdp mc (sh z) sets amts ch) size), aN cA (q 21) 201 sv, oM q2 0 tr mc size num ny cg, aN cA (q2 1) 16 sets, aN cA (q2 2) 8 (bt ch), aN cA (q2 3) 8 amts, aN cA (q2 4) 7 bo, aN cA (q2 5) 7 pr, aN cA (q2 6) 4 sh, aN cA (q2 7) 6 wt, aN cA (q2 8) 7 hp, aR cA (q2 9) 4 (tel t), aN cA (q2 10) 201 mo, aN cA (q2 11) 4 pl2, aR cA (q2 12) 5 be, aN cA (q2 13) 4 u856.1, aN cA (q2 14) 4 u856.2]) E Z (k_X6_plan l D cA q2 tr mc size num ny cg sets ch amts sh wt co2 nx (by first | assumption | omega) (by first | assumption | omega) (by first | assumption | omega) (by first | assumption | omega) (by first | assumption | omega) (by first | assumption | omega) (by first | assumption | omega) (by first | assumption | omega)) wv_L_113 ⟨rfl, rfl, Nat.le_of_ble_eq_true rfl, Nat.le_of_ble_eq_true rfl⟩ [22, 23, 24, 25, 28, 29, 35, 36] rfl rfl rfl rfl (q0 := 0) rfl (fun _ => rfl) (fun _ => rfl) rfl hl.1 rfl (Nat.le_of_ble_eq_true rfl) dL_law_856 ⟨(Nat.le_of_ble_eq_true rfl), (Nat.le_of_ble_eq_true rfl)⟩ (fun r856 u856 H locs hp856 Z => ?_)
    subst hp856
    refine lv_icmp_eq (tgt := 901) hx hb dL_law_859 (by decide) (fun c859 => ?_) (fun c859 => absurd (ey9.trans (congrArg nI (E_plan hM hsh))) c859)
    exact N901 _ _ _ _ _ _ _ _ _ _ _ _ _ _ _ _ _ _ _ _ _ _ _ _ _ _ _ _ _ _ _ _ ⟨hm1, hM, hp1, hP, hc2, hs, ha10, hnum, ht, hh, hny, hcg, hwt, hb100, hpr, hsh, hmo⟩ _ _ Z _ hl
set_option maxHeartbeats 4000000 in
set_option maxRecDepth 100000 in
theorem lc_count {p : Program} {l : Launch} {e : Env} {s : State} {m : MethodId} {below : List Frame} {meth : Method} {c : Code} {D : va_G} {cA : ClassId} {A : Nat → Prop} {b L : Nat} {xs : Nat → Int32} {Q : State → Prop} {q q2 : Nat → Nat} {i : Nat} (E : Ev p s m #[Value.ref b] c cL_law 4 RL D cA A) (hXs : XZ A s s.heap) (SC : va_X b L xs s s.heap ∧ b < s.heap.size ∧ ¬ A b) (hi : i + 5 ≤ L) (hL : L ≤ 2560) (N901 : LN p l e s m below meth c D cA A b Q q q2 i) {mc size ch num ny cg bn bl tmc tn tm : Nat} {sets amts hp wt bo pr sh tmem tp pl co nc sw sv mo pl2 co2 nx : Nat → Nat} {t : TS} {tr : Int64} {be : Nat → Int32} (hI : LInv mc size ch num ny cg sets amts hp wt bo pr sh mo t) {H : Heap} {locs : List Loc} (Z : Wd D A s (LW cA q q2 mc size ch num ny cg bn bl tmc tn tm sets amts hp wt bo pr sh tmem tp pl co nc sw sv mo pl2 co2 nx t tr be) H locs) {ls : Array Slot} (hl : lv_has ls 4 [(0, .ref b), (1, .ref (q 0)), (2, .ref (q2 0)), (3, .int (nI i))]) : W p l e room_1 s m #[Value.ref b] below meth c H locs 37 640 Q (F0 m 864 ls []) := by
  have hx := E.1.1
  have hb := E.1.2.1
  unfold LN LW at N901
  unfold LW at Z
  obtain ⟨hm1, hM, hp1, hP, hc2, hs, ha10, hnum, ht, hh, hny, hcg, hwt, hb100, hpr, hsh, hmo⟩ := hI
  have hch := ch256 hc2 hP
  have h20 := Nat.two_pow_pos mc
  have h202 := Nat.two_pow_pos (2 * mc)
  have h27 : 2 ^ mc ≤ 2 ^ 7 := Nat.pow_le_pow_right (by decide) hM
  have h14 : 2 ^ (2 * mc) ≤ 2 ^ 14 := Nat.pow_le_pow_right (by decide) (by omega)
  refine lv_aload_n hx hb dL_law_864 rfl (lv_at hl 1 rfl) ?_
  refine lv_aload_n hx hb dL_law_865 rfl (lv_at hl 0 rfl) ?_
  refine lv_iload_n hx hb dL_law_866 rfl (lv_at hl 3 rfl) ?_
  refine lv_iconst (v := nI 1) hx hb dL_law_867 (by decide) ?_
  refine n_iadd hx hb dL_law_868 ?_
  refine r_sld E Z SC (by omega) hL dL_law_869 ?_
  refine c_Vi (As := [.int (xs (i + 1))]) (rest := []) (w2 := fun _ => [oX q mc bn bl tr, oP (q 1) (q 2) (q 3) size ch, aN cA (q 2) 16 sets, aN cA (q 3) 8 amts, oG (q 4) (q 5) mc num, aN cA (q 5) 4 (mF num mc), oG (q 6) (q 7) tmc tn, aN cA (q 7) 4 tmem, oT (q 8) (q 9) tm t, aN cA (q 9) 7 hp, oR (q 10) (q 11) (q 12), aN cA (q 11) 16 tp, aN cA (q 12) 4 pl, oY (q 13) (q 14) (q 15) (q 16) ny cg, aN cA (q 14) 6 wt, aN cA (q 15) 4 co, aN cA (q 16) 4 nc, aN cA (q 17) 7 bo, aN cA (q 18) 7 pr, aN cA (q 19) 4 sh, aN cA (q 20) 4 sw, aN cA (q 21) 201 sv, oM q2 0 tr mc size num ny cg, aN cA (q2 1) 16 sets, aN cA (q2 2) 8 (bt ch), aN cA (q2 3) 8 amts, aN cA (q2 4) 7 bo, aN cA (q2 5) 7 pr, aN cA (q2 6) 4 sh, aN cA (q2 7) 6 wt, aN cA (q2 8) 7 hp, aR cA (q2 9) 4 (tel t), aN cA (q2 10) 201 mo, aN cA (q2 11) 4 pl2, aR cA (q2 12) 5 be, aN cA (q2 13) 4 co2, aN cA (q2 14) 4 nx]) E Z (k_X5_count l D cA q mc bn bl tr size ch num ny cg sh (xs (i + 1)) ) wv_L_114 ⟨rfl, rfl, Nat.le_of_ble_eq_true rfl, Nat.le_of_ble_eq_true rfl⟩ [0, 1, 4, 13, 19] rfl rfl rfl rfl (q0 := 0) rfl (fun _ => rfl) (fun _ => rfl) rfl hl.1 rfl (Nat.le_of_ble_eq_true rfl) dL_law_870 ⟨(Nat.le_of_ble_eq_true rfl), (Nat.le_of_ble_eq_true rfl)⟩ (fun r870 _ H locs hp870 Z => ?_)
  subst hp870
  refine lv_topi (fun y9 ey9 => ?_)
  refine lv_aload_n hx hb dL_law_873 rfl (lv_at hl 2 rfl) ?_
  refine lv_aload_n hx hb dL_law_874 rfl (lv_at hl 0 rfl) ?_
  refine lv_iload_n hx hb dL_law_875 rfl (lv_at hl 3 rfl) ?_
  refine lv_iconst (v := nI 1) hx hb dL_law_876 (by decide) ?_
  refine n_iadd hx hb dL_law_877 ?_
  refine r_sld E Z SC (by omega) hL dL_law_878 ?_
  refine c_Vi (As := [.int (xs (i + 1))]) (rest := [.int y9]) (w2 := fun _ => [oX q mc bn bl tr, oP (q 1) (q 2) (q 3) size ch, aN cA (q 2) 16 sets, aN cA (q 3) 8 amts, oG (q 4) (q 5) mc num, aN cA (q 5) 4 (mF num mc), oG (q 6) (q 7) tmc tn, aN cA (q 7) 4 tmem, oT (q 8) (q 9) tm t, aN cA (q 9) 7 hp, oR (q 10) (q 11) (q 12), aN cA (q 11) 16 tp, aN cA (q 12) 4 pl, oY (q 13) (q 14) (q 15) (q 16) ny cg, aN cA (q 14) 6 wt, aN cA (q 15) 4 co, aN cA (q 16) 4 nc, aN cA (q 17) 7 bo, aN cA (q 18) 7 pr, aN cA (q 19) 4 sh, aN cA (q 20) 4 sw, aN cA (q 21) 201 sv, oM q2 0 tr mc size num ny cg, aN cA (q2 1) 16 sets, aN cA (q2 2) 8 (bt ch), aN cA (q2 3) 8 amts, aN cA (q2 4) 7 bo, aN cA (q2 5) 7 pr, aN cA (q2 6) 4 sh, aN cA (q2 7) 6 wt, aN cA (q2 8) 7 hp, aR cA (q2 9) 4 (tel t), aN cA (q2 10) 201 mo, aN cA (q2 11) 4 pl2, aR cA (q2 12) 5 be, aN cA (q2 13) 4 co2, aN cA (q2 14) 4 nx]) E Z (k_X6_count l D cA q2 tr mc size num ny cg sh (xs (i + 1)) ) wv_L_117 ⟨rfl, rfl, Nat.le_of_ble_eq_true rfl, Nat.le_of_ble_eq_true rfl⟩ [22, 28] rfl rfl rfl rfl (q0 := 0) rfl (fun _ => rfl) (fun _ => rfl) rfl hl.1 rfl (Nat.le_of_ble_eq_true rfl) dL_law_879 ⟨(Nat.le_of_ble_eq_true rfl), (Nat.le_of_ble_eq_true rfl)⟩ (fun r879 _ H locs hp879 Z => ?_)
  subst hp879
  refine lv_icmp_eq (tgt := 901) hx hb dL_law_882 (by decide) (fun c882 => ?_) (fun c882 => absurd ey9 c882)
  exact N901 _ _ _ _ _ _ _ _ _ _ _ _ _ _ _ _ _ _ _ _ _ _ _ _ _ _ _ _ _ _ _ _ ⟨hm1, hM, hp1, hP, hc2, hs, ha10, hnum, ht, hh, hny, hcg, hwt, hb100, hpr, hsh, hmo⟩ _ _ Z _ hl
set_option maxHeartbeats 4000000 in
set_option maxRecDepth 100000 in
theorem lc_trace {p : Program} {l : Launch} {e : Env} {s : State} {m : MethodId} {below : List Frame} {meth : Method} {c : Code} {D : va_G} {cA : ClassId} {A : Nat → Prop} {b L : Nat} {xs : Nat → Int32} {Q : State → Prop} {q q2 : Nat → Nat} {i : Nat} (E : Ev p s m #[Value.ref b] c cL_law 4 RL D cA A) (hXs : XZ A s s.heap) (SC : va_X b L xs s s.heap ∧ b < s.heap.size ∧ ¬ A b) (hi : i + 5 ≤ L) (hL : L ≤ 2560) (N901 : LN p l e s m below meth c D cA A b Q q q2 i) {mc size ch num ny cg bn bl tmc tn tm : Nat} {sets amts hp wt bo pr sh tmem tp pl co nc sw sv mo pl2 co2 nx : Nat → Nat} {t : TS} {tr : Int64} {be : Nat → Int32} (hI : LInv mc size ch num ny cg sets amts hp wt bo pr sh mo t) {H : Heap} {locs : List Loc} (Z : Wd D A s (LW cA q q2 mc size ch num ny cg bn bl tmc tn tm sets amts hp wt bo pr sh tmem tp pl co nc sw sv mo pl2 co2 nx t tr be) H locs) {ls : Array Slot} (hl : lv_has ls 4 [(0, .ref b), (1, .ref (q 0)), (2, .ref (q2 0)), (3, .int (nI i))]) : W p l e room_1 s m #[Value.ref b] below meth c H locs 37 640 Q (F0 m 887 ls []) := by
  have hx := E.1.1
  have hb := E.1.2.1
  unfold LN LW at N901
  unfold LW at Z
  obtain ⟨hm1, hM, hp1, hP, hc2, hs, ha10, hnum, ht, hh, hny, hcg, hwt, hb100, hpr, hsh, hmo⟩ := hI
  have hch := ch256 hc2 hP
  have h20 := Nat.two_pow_pos mc
  have h202 := Nat.two_pow_pos (2 * mc)
  have h27 : 2 ^ mc ≤ 2 ^ 7 := Nat.pow_le_pow_right (by decide) hM
  have h14 : 2 ^ (2 * mc) ≤ 2 ^ 14 := Nat.pow_le_pow_right (by decide) (by omega)
  refine lv_aload_n hx hb dL_law_887 rfl (lv_at hl 1 rfl) ?_
  refine c_Vl (As := []) (rest := []) (w2 := fun _ => [oX q mc bn bl tr, oP (q 1) (q 2) (q 3) size ch, aN cA (q 2) 16 sets, aN cA (q 3) 8 amts, oG (q 4) (q 5) mc num, aN cA (q 5) 4 (mF num mc), oG (q 6) (q 7) tmc tn, aN cA (q 7) 4 tmem, oT (q 8) (q 9) tm t, aN cA (q 9) 7 hp, oR (q 10) (q 11) (q 12), aN cA (q 11) 16 tp, aN cA (q 12) 4 pl, oY (q 13) (q 14) (q 15) (q 16) ny cg, aN cA (q 14) 6 wt, aN cA (q 15) 4 co, aN cA (q 16) 4 nc, aN cA (q 17) 7 bo, aN cA (q 18) 7 pr, aN cA (q 19) 4 sh, aN cA (q 20) 4 sw, aN cA (q 21) 201 sv, oM q2 0 tr mc size num ny cg, aN cA (q2 1) 16 sets, aN cA (q2 2) 8 (bt ch), aN cA (q2 3) 8 amts, aN cA (q2 4) 7 bo, aN cA (q2 5) 7 pr, aN cA (q2 6) 4 sh, aN cA (q2 7) 6 wt, aN cA (q2 8) 7 hp, aR cA (q2 9) 4 (tel t), aN cA (q2 10) 201 mo, aN cA (q2 11) 4 pl2, aR cA (q2 12) 5 be, aN cA (q2 13) 4 co2, aN cA (q2 14) 4 nx]) E Z (k_X5_trace l D cA q mc bn bl tr ) wv_L_118 ⟨rfl, rfl, Nat.le_of_ble_eq_true rfl, Nat.le_of_ble_eq_true rfl⟩ [0] rfl rfl rfl rfl (q0 := 0) rfl (fun _ => rfl) (fun _ => rfl) rfl hl.1 rfl (Nat.le_of_ble_eq_true rfl) dL_law_888 ⟨(Nat.le_of_ble_eq_true rfl), (Nat.le_of_ble_eq_true rfl)⟩ (fun r888 _ H locs hp888 Z => ?_)
  rw [hp888]
  refine lv_topl (fun y9 ey9 => ?_)
  refine lv_aload_n hx hb dL_law_891 rfl (lv_at hl 2 rfl) ?_
  refine c_Vl (As := []) (rest := [.long y9]) (w2 := fun _ => [oX q mc bn bl tr, oP (q 1) (q 2) (q 3) size ch, aN cA (q 2) 16 sets, aN cA (q 3) 8 amts, oG (q 4) (q 5) mc num, aN cA (q 5) 4 (mF num mc), oG (q 6) (q 7) tmc tn, aN cA (q 7) 4 tmem, oT (q 8) (q 9) tm t, aN cA (q 9) 7 hp, oR (q 10) (q 11) (q 12), aN cA (q 11) 16 tp, aN cA (q 12) 4 pl, oY (q 13) (q 14) (q 15) (q 16) ny cg, aN cA (q 14) 6 wt, aN cA (q 15) 4 co, aN cA (q 16) 4 nc, aN cA (q 17) 7 bo, aN cA (q 18) 7 pr, aN cA (q 19) 4 sh, aN cA (q 20) 4 sw, aN cA (q 21) 201 sv, oM q2 0 tr mc size num ny cg, aN cA (q2 1) 16 sets, aN cA (q2 2) 8 (bt ch), aN cA (q2 3) 8 amts, aN cA (q2 4) 7 bo, aN cA (q2 5) 7 pr, aN cA (q2 6) 4 sh, aN cA (q2 7) 6 wt, aN cA (q2 8) 7 hp, aR cA (q2 9) 4 (tel t), aN cA (q2 10) 201 mo, aN cA (q2 11) 4 pl2, aR cA (q2 12) 5 be, aN cA (q2 13) 4 co2, aN cA (q2 14) 4 nx]) E Z (k_X6_trace l D cA q2 tr mc size num ny cg ) wv_L_122 ⟨rfl, rfl, Nat.le_of_ble_eq_true rfl, Nat.le_of_ble_eq_true rfl⟩ [22] rfl rfl rfl rfl (q0 := 0) rfl (fun _ => rfl) (fun _ => rfl) rfl hl.1 rfl (Nat.le_of_ble_eq_true rfl) dL_law_892 ⟨(Nat.le_of_ble_eq_true rfl), (Nat.le_of_ble_eq_true rfl)⟩ (fun r892 _ H locs hp892 Z => ?_)
  rw [hp892]
  refine W.lcmp hx hb dL_law_895 ?_
  refine lv_if_eq (tgt := 901) hx hb dL_law_896 (by decide) (fun c896 => ?_) (fun c896 => absurd (by rw [ey9]; exact lgc tr) c896)
  exact N901 _ _ _ _ _ _ _ _ _ _ _ _ _ _ _ _ _ _ _ _ _ _ _ _ _ _ _ _ _ _ _ _ ⟨hm1, hM, hp1, hP, hc2, hs, ha10, hnum, ht, hh, hny, hcg, hwt, hb100, hpr, hsh, hmo⟩ _ _ Z _ hl

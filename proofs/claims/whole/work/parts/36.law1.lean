set_option maxHeartbeats 4000000 in
set_option maxRecDepth 100000 in
theorem lc_works {p : Program} {l : Launch} {e : Env} {s : State} {m : MethodId} {below : List Frame} {meth : Method} {c : Code} {D : va_G} {cA : ClassId} {A : Nat → Prop} {b L : Nat} {xs : Nat → Int32} {Q : State → Prop} {q q2 : Nat → Nat} {i : Nat} (E : Ev p s m #[Value.ref b] c cL_law 4 RL D cA A) (hXs : XZ A s s.heap) (SC : va_X b L xs s s.heap ∧ b < s.heap.size ∧ ¬ A b) (hi : i + 5 ≤ L) (hL : L ≤ 2560) (N901 : LN p l e s m below meth c D cA A b Q q q2 i) {mc size ch num ny cg bn bl tmc tn tm : Nat} {sets amts hp wt bo pr sh tmem tp pl co nc sw sv mo pl2 co2 nx : Nat → Nat} {t : TS} {tr : Int64} {be : Nat → Int32} (hI : LInv mc size ch num ny cg sets amts hp wt bo pr sh mo t) {H : Heap} {locs : List Loc} (Z : Wd D A s (LW cA q q2 mc size ch num ny cg bn bl tmc tn tm sets amts hp wt bo pr sh tmem tp pl co nc sw sv mo pl2 co2 nx t tr be) H locs) {ls : Array Slot} (hl : lv_has ls 4 [(0, .ref b), (1, .ref (q 0)), (2, .ref (q2 0)), (3, .int (nI i))]) : W p l e room_1 s m #[Value.ref b] below meth c H locs 37 640 Q (F0 m 152 ls []) := by
  have hx := E.1.1
  have hb := E.1.2.1
  unfold LN LW at N901
  unfold LW at Z
  obtain ⟨hm1, hM, hp1, hP, hc2, hs, ha10, hnum, ht, hh, hny, hcg, hwt, hb100, hpr, hsh, hmo⟩ := hI
  have hch := ch256 hc2 hP
  have h20 := Nat.two_pow_pos mc
  have h202 := Nat.two_pow_pos (2 * mc)
  have h27 : 2 ^ mc ≤ 2 ^ 7 := Nat.pow_le_pow_right (by decide) hM
  have h14 : 2 ^ (2 * mc) ≤ 2 ^ 14 := Nat.pow_le_pow_right (by decide) (by omega)
  by_cases hC : (nI 1 ≤ xs (i + 1) ∧ xs (i + 1) ≤ nI 7) ∧ (nI 1 ≤ xs (i + 2) ∧ xs (i + 2) ≤ nI 8)
  · obtain ⟨k1, hk10, hk11, ek1⟩ := in_nat (by decide) hC.1 (by decide)
    obtain ⟨k2, hk20, hk21, ek2⟩ := in_nat (by decide) hC.2 (by decide)
    refine lv_aload_n hx hb dL_law_152 rfl (lv_at hl 1 rfl) ?_
    refine lv_aload_n hx hb dL_law_153 rfl (lv_at hl 0 rfl) ?_
    refine lv_iload_n hx hb dL_law_154 rfl (lv_at hl 3 rfl) ?_
    refine lv_iconst (v := nI 1) hx hb dL_law_155 (by decide) ?_
    refine n_iadd hx hb dL_law_156 ?_
    refine r_sld E Z SC (by omega) hL dL_law_157 ?_
    refine r_top (y := nI k1) ek1 ?_
    refine lv_aload_n hx hb dL_law_158 rfl (lv_at hl 0 rfl) ?_
    refine lv_iload_n hx hb dL_law_159 rfl (lv_at hl 3 rfl) ?_
    refine lv_iconst (v := nI 2) hx hb dL_law_160 (by decide) ?_
    refine n_iadd hx hb dL_law_161 ?_
    refine r_sld E Z SC (by omega) hL dL_law_162 ?_
    refine r_top (y := nI k2) ek2 ?_
    refine c_Vi (As := [.int (nI k1), .int (nI k2)]) (rest := []) (w2 := fun _ => [oX q k1 bn bl tr, oP (q 1) (q 2) (q 3) k2 0, aN cA (q 2) 16 (fun _ => 0), aN cA (q 3) 8 (fun _ => 1), oG (q 4) (q 5) k1 0, aN cA (q 5) 4 (mF 0 k1), oG (q 6) (q 7) tmc tn, aN cA (q 7) 4 tmem, oT (q 8) (q 9) tm t, aN cA (q 9) 7 hp, oR (q 10) (q 11) (q 12), aN cA (q 11) 16 tp, aN cA (q 12) 4 pl, oY (q 13) (q 14) (q 15) (q 16) ny cg, aN cA (q 14) 6 wt, aN cA (q 15) 4 co, aN cA (q 16) 4 nc, aN cA (q 17) 7 (fun _ => 99), aN cA (q 18) 7 (fun _ => 10), aN cA (q 19) 4 (fun _ => 0), aN cA (q 20) 4 sw, aN cA (q 21) 201 sv, oM q2 0 tr mc size num ny cg, aN cA (q2 1) 16 sets, aN cA (q2 2) 8 (bt ch), aN cA (q2 3) 8 amts, aN cA (q2 4) 7 bo, aN cA (q2 5) 7 pr, aN cA (q2 6) 4 sh, aN cA (q2 7) 6 wt, aN cA (q2 8) 7 hp, aR cA (q2 9) 4 (tel t), aN cA (q2 10) 201 mo, aN cA (q2 11) 4 pl2, aR cA (q2 12) 5 be, aN cA (q2 13) 4 co2, aN cA (q2 14) 4 nx]) E Z (k_X5_works l D cA q mc bn bl tr size ch sets amts num bo pr sh k1 k2 (by first | assumption | omega) (by first | assumption | omega) (by first | assumption | omega)) wv_L_13 ⟨rfl, rfl, Nat.le_of_ble_eq_true rfl, Nat.le_of_ble_eq_true rfl⟩ [0, 1, 2, 3, 4, 5, 17, 18, 19] rfl rfl rfl rfl (q0 := 0) rfl (fun _ => rfl) (fun _ => rfl) rfl hl.1 rfl (Nat.le_of_ble_eq_true rfl) dL_law_163 ⟨(Nat.le_of_ble_eq_true rfl), (Nat.le_of_ble_eq_true rfl)⟩ (fun r163 _ H locs hp163 Z => ?_)
    subst hp163
    refine lv_topi (fun y9 ey9 => ?_)
    refine lv_aload_n hx hb dL_law_166 rfl (lv_at hl 2 rfl) ?_
    refine lv_aload_n hx hb dL_law_167 rfl (lv_at hl 0 rfl) ?_
    refine lv_iload_n hx hb dL_law_168 rfl (lv_at hl 3 rfl) ?_
    refine lv_iconst (v := nI 1) hx hb dL_law_169 (by decide) ?_
    refine n_iadd hx hb dL_law_170 ?_
    refine r_sld E Z SC (by omega) hL dL_law_171 ?_
    refine r_top (y := nI k1) ek1 ?_
    refine lv_aload_n hx hb dL_law_172 rfl (lv_at hl 0 rfl) ?_
    refine lv_iload_n hx hb dL_law_173 rfl (lv_at hl 3 rfl) ?_
    refine lv_iconst (v := nI 2) hx hb dL_law_174 (by decide) ?_
    refine n_iadd hx hb dL_law_175 ?_
    refine r_sld E Z SC (by omega) hL dL_law_176 ?_
    refine r_top (y := nI k2) ek2 ?_
    refine c_Vi (As := [.int (nI k1), .int (nI k2)]) (rest := [.int y9]) (w2 := fun _ => [oX q k1 bn bl tr, oP (q 1) (q 2) (q 3) k2 0, aN cA (q 2) 16 (fun _ => 0), aN cA (q 3) 8 (fun _ => 1), oG (q 4) (q 5) k1 0, aN cA (q 5) 4 (mF 0 k1), oG (q 6) (q 7) tmc tn, aN cA (q 7) 4 tmem, oT (q 8) (q 9) tm t, aN cA (q 9) 7 hp, oR (q 10) (q 11) (q 12), aN cA (q 11) 16 tp, aN cA (q 12) 4 pl, oY (q 13) (q 14) (q 15) (q 16) ny cg, aN cA (q 14) 6 wt, aN cA (q 15) 4 co, aN cA (q 16) 4 nc, aN cA (q 17) 7 (fun _ => 99), aN cA (q 18) 7 (fun _ => 10), aN cA (q 19) 4 (fun _ => 0), aN cA (q 20) 4 sw, aN cA (q 21) 201 sv, oM q2 0 tr k1 k2 0 ny cg, aN cA (q2 1) 16 (fun _ => 0), aN cA (q2 2) 8 (bt 0), aN cA (q2 3) 8 (fun _ => 1), aN cA (q2 4) 7 (fun _ => 99), aN cA (q2 5) 7 (fun _ => 10), aN cA (q2 6) 4 (fun _ => 0), aN cA (q2 7) 6 wt, aN cA (q2 8) 7 hp, aR cA (q2 9) 4 (tel t), aN cA (q2 10) 201 mo, aN cA (q2 11) 4 pl2, aR cA (q2 12) 5 be, aN cA (q2 13) 4 co2, aN cA (q2 14) 4 nx]) E Z (k_X6_works l D cA q2 tr mc size num ny cg sets ch amts bo pr sh k1 k2 (by first | assumption | omega) (by first | assumption | omega)) wv_L_17 ⟨rfl, rfl, Nat.le_of_ble_eq_true rfl, Nat.le_of_ble_eq_true rfl⟩ [22, 23, 24, 25, 26, 27, 28] rfl rfl rfl rfl (q0 := 0) rfl (fun _ => rfl) (fun _ => rfl) rfl hl.1 rfl (Nat.le_of_ble_eq_true rfl) dL_law_177 ⟨(Nat.le_of_ble_eq_true rfl), (Nat.le_of_ble_eq_true rfl)⟩ (fun r177 _ H locs hp177 Z => ?_)
    subst hp177
    refine lv_icmp_eq (tgt := 901) hx hb dL_law_180 (by decide) (fun c180 => ?_) (fun c180 => absurd ey9 c180)
    exact N901 _ _ _ _ _ _ _ _ _ _ _ _ _ _ _ _ _ _ _ _ _ _ _ _ _ _ _ _ _ _ _ _ ⟨hk10, hk11, hk20, hk21, Nat.two_pow_pos _, fun _ => Nat.two_pow_pos _, fun _ => (by decide), Nat.two_pow_pos _, ht, hh, hny, hcg, hwt, fun _ => (by decide), fun _ => (by decide), fun _ => Nat.two_pow_pos _, hmo⟩ _ _ Z _ hl
  · have hC2 := hC
    refine lv_aload_n hx hb dL_law_152 rfl (lv_at hl 1 rfl) ?_
    refine lv_aload_n hx hb dL_law_153 rfl (lv_at hl 0 rfl) ?_
    refine lv_iload_n hx hb dL_law_154 rfl (lv_at hl 3 rfl) ?_
    refine lv_iconst (v := nI 1) hx hb dL_law_155 (by decide) ?_
    refine n_iadd hx hb dL_law_156 ?_
    refine r_sld E Z SC (by omega) hL dL_law_157 ?_
    refine lv_aload_n hx hb dL_law_158 rfl (lv_at hl 0 rfl) ?_
    refine lv_iload_n hx hb dL_law_159 rfl (lv_at hl 3 rfl) ?_
    refine lv_iconst (v := nI 2) hx hb dL_law_160 (by decide) ?_
    refine n_iadd hx hb dL_law_161 ?_
    refine r_sld E Z SC (by omega) hL dL_law_162 ?_
    refine c_Vi (As := [.int (xs (i + 1)), .int (xs (i + 2))]) (rest := []) (w2 := fun _ => [oX q mc bn bl tr, oP (q 1) (q 2) (q 3) size ch, aN cA (q 2) 16 sets, aN cA (q 3) 8 amts, oG (q 4) (q 5) mc num, aN cA (q 5) 4 (mF num mc), oG (q 6) (q 7) tmc tn, aN cA (q 7) 4 tmem, oT (q 8) (q 9) tm t, aN cA (q 9) 7 hp, oR (q 10) (q 11) (q 12), aN cA (q 11) 16 tp, aN cA (q 12) 4 pl, oY (q 13) (q 14) (q 15) (q 16) ny cg, aN cA (q 14) 6 wt, aN cA (q 15) 4 co, aN cA (q 16) 4 nc, aN cA (q 17) 7 bo, aN cA (q 18) 7 pr, aN cA (q 19) 4 sh, aN cA (q 20) 4 sw, aN cA (q 21) 201 sv, oM q2 0 tr mc size num ny cg, aN cA (q2 1) 16 sets, aN cA (q2 2) 8 (bt ch), aN cA (q2 3) 8 amts, aN cA (q2 4) 7 bo, aN cA (q2 5) 7 pr, aN cA (q2 6) 4 sh, aN cA (q2 7) 6 wt, aN cA (q2 8) 7 hp, aR cA (q2 9) 4 (tel t), aN cA (q2 10) 201 mo, aN cA (q2 11) 4 pl2, aR cA (q2 12) 5 be, aN cA (q2 13) 4 co2, aN cA (q2 14) 4 nx]) E Z (k_X5_works_bad l D cA q mc bn bl tr (xs (i + 1)) (xs (i + 2)) (by first | assumption | omega)) wv_L_13 ⟨rfl, rfl, Nat.le_of_ble_eq_true rfl, Nat.le_of_ble_eq_true rfl⟩ [0] rfl rfl rfl rfl (q0 := 0) rfl (fun _ => rfl) (fun _ => rfl) rfl hl.1 rfl (Nat.le_of_ble_eq_true rfl) dL_law_163 ⟨(Nat.le_of_ble_eq_true rfl), (Nat.le_of_ble_eq_true rfl)⟩ (fun r163 _ H locs hp163 Z => ?_)
    subst hp163
    refine lv_topi (fun y9 ey9 => ?_)
    refine lv_aload_n hx hb dL_law_166 rfl (lv_at hl 2 rfl) ?_
    refine lv_aload_n hx hb dL_law_167 rfl (lv_at hl 0 rfl) ?_
    refine lv_iload_n hx hb dL_law_168 rfl (lv_at hl 3 rfl) ?_
    refine lv_iconst (v := nI 1) hx hb dL_law_169 (by decide) ?_
    refine n_iadd hx hb dL_law_170 ?_
    refine r_sld E Z SC (by omega) hL dL_law_171 ?_
    refine lv_aload_n hx hb dL_law_172 rfl (lv_at hl 0 rfl) ?_
    refine lv_iload_n hx hb dL_law_173 rfl (lv_at hl 3 rfl) ?_
    refine lv_iconst (v := nI 2) hx hb dL_law_174 (by decide) ?_
    refine n_iadd hx hb dL_law_175 ?_
    refine r_sld E Z SC (by omega) hL dL_law_176 ?_
    refine c_Vi (As := [.int (xs (i + 1)), .int (xs (i + 2))]) (rest := [.int y9]) (w2 := fun _ => [oX q mc bn bl tr, oP (q 1) (q 2) (q 3) size ch, aN cA (q 2) 16 sets, aN cA (q 3) 8 amts, oG (q 4) (q 5) mc num, aN cA (q 5) 4 (mF num mc), oG (q 6) (q 7) tmc tn, aN cA (q 7) 4 tmem, oT (q 8) (q 9) tm t, aN cA (q 9) 7 hp, oR (q 10) (q 11) (q 12), aN cA (q 11) 16 tp, aN cA (q 12) 4 pl, oY (q 13) (q 14) (q 15) (q 16) ny cg, aN cA (q 14) 6 wt, aN cA (q 15) 4 co, aN cA (q 16) 4 nc, aN cA (q 17) 7 bo, aN cA (q 18) 7 pr, aN cA (q 19) 4 sh, aN cA (q 20) 4 sw, aN cA (q 21) 201 sv, oM q2 0 tr mc size num ny cg, aN cA (q2 1) 16 sets, aN cA (q2 2) 8 (bt ch), aN cA (q2 3) 8 amts, aN cA (q2 4) 7 bo, aN cA (q2 5) 7 pr, aN cA (q2 6) 4 sh, aN cA (q2 7) 6 wt, aN cA (q2 8) 7 hp, aR cA (q2 9) 4 (tel t), aN cA (q2 10) 201 mo, aN cA (q2 11) 4 pl2, aR cA (q2 12) 5 be, aN cA (q2 13) 4 co2, aN cA (q2 14) 4 nx]) E Z (k_X6_works_bad l D cA q2 tr mc size num ny cg (xs (i + 1)) (xs (i + 2)) (by first | assumption | omega)) wv_L_17 ⟨rfl, rfl, Nat.le_of_ble_eq_true rfl, Nat.le_of_ble_eq_true rfl⟩ [22] rfl rfl rfl rfl (q0 := 0) rfl (fun _ => rfl) (fun _ => rfl) rfl hl.1 rfl (Nat.le_of_ble_eq_true rfl) dL_law_177 ⟨(Nat.le_of_ble_eq_true rfl), (Nat.le_of_ble_eq_true rfl)⟩ (fun r177 _ H locs hp177 Z => ?_)
    subst hp177
    refine lv_icmp_eq (tgt := 901) hx hb dL_law_180 (by decide) (fun c180 => ?_) (fun c180 => absurd ey9 c180)
    exact N901 _ _ _ _ _ _ _ _ _ _ _ _ _ _ _ _ _ _ _ _ _ _ _ _ _ _ _ _ _ _ _ _ ⟨hm1, hM, hp1, hP, hc2, hs, ha10, hnum, ht, hh, hny, hcg, hwt, hb100, hpr, hsh, hmo⟩ _ _ Z _ hl
set_option maxHeartbeats 4000000 in
set_option maxRecDepth 100000 in
theorem lc_route {p : Program} {l : Launch} {e : Env} {s : State} {m : MethodId} {below : List Frame} {meth : Method} {c : Code} {D : va_G} {cA : ClassId} {A : Nat → Prop} {b L : Nat} {xs : Nat → Int32} {Q : State → Prop} {q q2 : Nat → Nat} {i : Nat} (E : Ev p s m #[Value.ref b] c cL_law 4 RL D cA A) (hXs : XZ A s s.heap) (SC : va_X b L xs s s.heap ∧ b < s.heap.size ∧ ¬ A b) (hi : i + 5 ≤ L) (hL : L ≤ 2560) (N901 : LN p l e s m below meth c D cA A b Q q q2 i) {mc size ch num ny cg bn bl tmc tn tm : Nat} {sets amts hp wt bo pr sh tmem tp pl co nc sw sv mo pl2 co2 nx : Nat → Nat} {t : TS} {tr : Int64} {be : Nat → Int32} (hI : LInv mc size ch num ny cg sets amts hp wt bo pr sh mo t) {H : Heap} {locs : List Loc} (Z : Wd D A s (LW cA q q2 mc size ch num ny cg bn bl tmc tn tm sets amts hp wt bo pr sh tmem tp pl co nc sw sv mo pl2 co2 nx t tr be) H locs) {ls : Array Slot} (hl : lv_has ls 4 [(0, .ref b), (1, .ref (q 0)), (2, .ref (q2 0)), (3, .int (nI i))]) : W p l e room_1 s m #[Value.ref b] below meth c H locs 37 640 Q (F0 m 185 ls []) := by
  have hx := E.1.1
  have hb := E.1.2.1
  unfold LN LW at N901
  unfold LW at Z
  obtain ⟨hm1, hM, hp1, hP, hc2, hs, ha10, hnum, ht, hh, hny, hcg, hwt, hb100, hpr, hsh, hmo⟩ := hI
  have hch := ch256 hc2 hP
  have h20 := Nat.two_pow_pos mc
  have h202 := Nat.two_pow_pos (2 * mc)
  have h27 : 2 ^ mc ≤ 2 ^ 7 := Nat.pow_le_pow_right (by decide) hM
  have h14 : 2 ^ (2 * mc) ≤ 2 ^ 14 := Nat.pow_le_pow_right (by decide) (by omega)
  by_cases hC : (nI 0 ≤ xs (i + 1) ∧ xs (i + 1) ≤ nI (size - 1)) ∧ (nI 0 ≤ xs (i + 2) ∧ xs (i + 2) ≤ nI 1) ∧ (nI 0 ≤ xs (i + 3) ∧ xs (i + 3) ≤ nI (2 ^ mc - 1))
  · obtain ⟨k1, hk10, hk11, ek1⟩ := in_nat (by omega) hC.1 (by decide)
    obtain ⟨k2, hk20, hk21, ek2⟩ := in_nat (by decide) hC.2.1 (by decide)
    obtain ⟨k3, hk30, hk31, ek3⟩ := in_nat (by omega) hC.2.2 (by decide)
    refine lv_aload_n hx hb dL_law_185 rfl (lv_at hl 1 rfl) ?_
    refine lv_aload_n hx hb dL_law_186 rfl (lv_at hl 0 rfl) ?_
    refine lv_iload_n hx hb dL_law_187 rfl (lv_at hl 3 rfl) ?_
    refine lv_iconst (v := nI 1) hx hb dL_law_188 (by decide) ?_
    refine n_iadd hx hb dL_law_189 ?_
    refine r_sld E Z SC (by omega) hL dL_law_190 ?_
    refine r_top (y := nI k1) ek1 ?_
    refine lv_aload_n hx hb dL_law_191 rfl (lv_at hl 0 rfl) ?_
    refine lv_iload_n hx hb dL_law_192 rfl (lv_at hl 3 rfl) ?_
    refine lv_iconst (v := nI 2) hx hb dL_law_193 (by decide) ?_
    refine n_iadd hx hb dL_law_194 ?_
    refine r_sld E Z SC (by omega) hL dL_law_195 ?_
    refine r_top (y := nI k2) ek2 ?_
    refine lv_aload_n hx hb dL_law_196 rfl (lv_at hl 0 rfl) ?_
    refine lv_iload_n hx hb dL_law_197 rfl (lv_at hl 3 rfl) ?_
    refine lv_iconst (v := nI 3) hx hb dL_law_198 (by decide) ?_
    refine n_iadd hx hb dL_law_199 ?_
    refine r_sld E Z SC (by omega) hL dL_law_200 ?_
    refine r_top (y := nI k3) ek3 ?_
    refine c_Vi (As := [.int (nI k1), .int (nI k2), .int (nI k3)]) (rest := []) (w2 := fun _ => [oX q mc bn bl tr, oP (q 1) (q 2) (q 3) size ch, aN cA (q 2) 16 (up sets (2 * k1 + k2) k3), aN cA (q 3) 8 amts, oG (q 4) (q 5) mc num, aN cA (q 5) 4 (mF num mc), oG (q 6) (q 7) tmc tn, aN cA (q 7) 4 tmem, oT (q 8) (q 9) tm t, aN cA (q 9) 7 hp, oR (q 10) (q 11) (q 12), aN cA (q 11) 16 tp, aN cA (q 12) 4 pl, oY (q 13) (q 14) (q 15) (q 16) ny cg, aN cA (q 14) 6 wt, aN cA (q 15) 4 co, aN cA (q 16) 4 nc, aN cA (q 17) 7 bo, aN cA (q 18) 7 pr, aN cA (q 19) 4 sh, aN cA (q 20) 4 sw, aN cA (q 21) 201 sv, oM q2 0 tr mc size num ny cg, aN cA (q2 1) 16 sets, aN cA (q2 2) 8 (bt ch), aN cA (q2 3) 8 amts, aN cA (q2 4) 7 bo, aN cA (q2 5) 7 pr, aN cA (q2 6) 4 sh, aN cA (q2 7) 6 wt, aN cA (q2 8) 7 hp, aR cA (q2 9) 4 (tel t), aN cA (q2 10) 201 mo, aN cA (q2 11) 4 pl2, aR cA (q2 12) 5 be, aN cA (q2 13) 4 co2, aN cA (q2 14) 4 nx]) E Z (k_X5_route l D cA q mc bn bl tr size ch sets k1 k2 k3 (by first | assumption | omega) (by first | assumption | omega) (by first | assumption | omega) (by first | assumption | omega) (by first | assumption | omega) (by first | assumption | omega)) wv_L_18 ⟨rfl, rfl, Nat.le_of_ble_eq_true rfl, Nat.le_of_ble_eq_true rfl⟩ [0, 1, 2] rfl rfl rfl rfl (q0 := 0) rfl (fun _ => rfl) (fun _ => rfl) rfl hl.1 rfl (Nat.le_of_ble_eq_true rfl) dL_law_201 ⟨(Nat.le_of_ble_eq_true rfl), (Nat.le_of_ble_eq_true rfl)⟩ (fun r201 _ H locs hp201 Z => ?_)
    subst hp201
    refine lv_topi (fun y9 ey9 => ?_)
    refine lv_aload_n hx hb dL_law_204 rfl (lv_at hl 2 rfl) ?_
    refine lv_aload_n hx hb dL_law_205 rfl (lv_at hl 0 rfl) ?_
    refine lv_iload_n hx hb dL_law_206 rfl (lv_at hl 3 rfl) ?_
    refine lv_iconst (v := nI 1) hx hb dL_law_207 (by decide) ?_
    refine n_iadd hx hb dL_law_208 ?_
    refine r_sld E Z SC (by omega) hL dL_law_209 ?_
    refine r_top (y := nI k1) ek1 ?_
    refine lv_aload_n hx hb dL_law_210 rfl (lv_at hl 0 rfl) ?_
    refine lv_iload_n hx hb dL_law_211 rfl (lv_at hl 3 rfl) ?_
    refine lv_iconst (v := nI 2) hx hb dL_law_212 (by decide) ?_
    refine n_iadd hx hb dL_law_213 ?_
    refine r_sld E Z SC (by omega) hL dL_law_214 ?_
    refine r_top (y := nI k2) ek2 ?_
    refine lv_aload_n hx hb dL_law_215 rfl (lv_at hl 0 rfl) ?_
    refine lv_iload_n hx hb dL_law_216 rfl (lv_at hl 3 rfl) ?_
    refine lv_iconst (v := nI 3) hx hb dL_law_217 (by decide) ?_
    refine n_iadd hx hb dL_law_218 ?_
    refine r_sld E Z SC (by omega) hL dL_law_219 ?_
    refine r_top (y := nI k3) ek3 ?_
    refine c_Vi (As := [.int (nI k1), .int (nI k2), .int (nI k3)]) (rest := [.int y9]) (w2 := fun _ => [oX q mc bn bl tr, oP (q 1) (q 2) (q 3) size ch, aN cA (q 2) 16 (up sets (2 * k1 + k2) k3), aN cA (q 3) 8 amts, oG (q 4) (q 5) mc num, aN cA (q 5) 4 (mF num mc), oG (q 6) (q 7) tmc tn, aN cA (q 7) 4 tmem, oT (q 8) (q 9) tm t, aN cA (q 9) 7 hp, oR (q 10) (q 11) (q 12), aN cA (q 11) 16 tp, aN cA (q 12) 4 pl, oY (q 13) (q 14) (q 15) (q 16) ny cg, aN cA (q 14) 6 wt, aN cA (q 15) 4 co, aN cA (q 16) 4 nc, aN cA (q 17) 7 bo, aN cA (q 18) 7 pr, aN cA (q 19) 4 sh, aN cA (q 20) 4 sw, aN cA (q 21) 201 sv, oM q2 0 tr mc size num ny cg, aN cA (q2 1) 16 (up sets (2 * k1 + k2) k3), aN cA (q2 2) 8 (bt ch), aN cA (q2 3) 8 amts, aN cA (q2 4) 7 bo, aN cA (q2 5) 7 pr, aN cA (q2 6) 4 sh, aN cA (q2 7) 6 wt, aN cA (q2 8) 7 hp, aR cA (q2 9) 4 (tel t), aN cA (q2 10) 201 mo, aN cA (q2 11) 4 pl2, aR cA (q2 12) 5 be, aN cA (q2 13) 4 co2, aN cA (q2 14) 4 nx]) E Z (k_X6_route l D cA q2 tr mc size num ny cg sets k1 k2 k3 (by first | assumption | omega) (by first | assumption | omega) (by first | assumption | omega) (by first | assumption | omega) (by first | assumption | omega) (by first | assumption | omega)) wv_L_22 ⟨rfl, rfl, Nat.le_of_ble_eq_true rfl, Nat.le_of_ble_eq_true rfl⟩ [22, 23] rfl rfl rfl rfl (q0 := 0) rfl (fun _ => rfl) (fun _ => rfl) rfl hl.1 rfl (Nat.le_of_ble_eq_true rfl) dL_law_220 ⟨(Nat.le_of_ble_eq_true rfl), (Nat.le_of_ble_eq_true rfl)⟩ (fun r220 _ H locs hp220 Z => ?_)
    subst hp220
    refine lv_icmp_eq (tgt := 901) hx hb dL_law_223 (by decide) (fun c223 => ?_) (fun c223 => absurd ey9 c223)
    exact N901 _ _ _ _ _ _ _ _ _ _ _ _ _ _ _ _ _ _ _ _ _ _ _ _ _ _ _ _ _ _ _ _ ⟨hm1, hM, hp1, hP, hc2, up_all (P := fun z => z < 2 ^ mc) hs (by omega), ha10, hnum, ht, hh, hny, hcg, hwt, hb100, hpr, hsh, hmo⟩ _ _ Z _ hl
  · have hC2 := hC
    refine lv_aload_n hx hb dL_law_185 rfl (lv_at hl 1 rfl) ?_
    refine lv_aload_n hx hb dL_law_186 rfl (lv_at hl 0 rfl) ?_
    refine lv_iload_n hx hb dL_law_187 rfl (lv_at hl 3 rfl) ?_
    refine lv_iconst (v := nI 1) hx hb dL_law_188 (by decide) ?_
    refine n_iadd hx hb dL_law_189 ?_
    refine r_sld E Z SC (by omega) hL dL_law_190 ?_
    refine lv_aload_n hx hb dL_law_191 rfl (lv_at hl 0 rfl) ?_
    refine lv_iload_n hx hb dL_law_192 rfl (lv_at hl 3 rfl) ?_
    refine lv_iconst (v := nI 2) hx hb dL_law_193 (by decide) ?_
    refine n_iadd hx hb dL_law_194 ?_
    refine r_sld E Z SC (by omega) hL dL_law_195 ?_
    refine lv_aload_n hx hb dL_law_196 rfl (lv_at hl 0 rfl) ?_
    refine lv_iload_n hx hb dL_law_197 rfl (lv_at hl 3 rfl) ?_
    refine lv_iconst (v := nI 3) hx hb dL_law_198 (by decide) ?_
    refine n_iadd hx hb dL_law_199 ?_
    refine r_sld E Z SC (by omega) hL dL_law_200 ?_
    refine c_Vi (As := [.int (xs (i + 1)), .int (xs (i + 2)), .int (xs (i + 3))]) (rest := []) (w2 := fun _ => [oX q mc bn bl tr, oP (q 1) (q 2) (q 3) size ch, aN cA (q 2) 16 sets, aN cA (q 3) 8 amts, oG (q 4) (q 5) mc num, aN cA (q 5) 4 (mF num mc), oG (q 6) (q 7) tmc tn, aN cA (q 7) 4 tmem, oT (q 8) (q 9) tm t, aN cA (q 9) 7 hp, oR (q 10) (q 11) (q 12), aN cA (q 11) 16 tp, aN cA (q 12) 4 pl, oY (q 13) (q 14) (q 15) (q 16) ny cg, aN cA (q 14) 6 wt, aN cA (q 15) 4 co, aN cA (q 16) 4 nc, aN cA (q 17) 7 bo, aN cA (q 18) 7 pr, aN cA (q 19) 4 sh, aN cA (q 20) 4 sw, aN cA (q 21) 201 sv, oM q2 0 tr mc size num ny cg, aN cA (q2 1) 16 sets, aN cA (q2 2) 8 (bt ch), aN cA (q2 3) 8 amts, aN cA (q2 4) 7 bo, aN cA (q2 5) 7 pr, aN cA (q2 6) 4 sh, aN cA (q2 7) 6 wt, aN cA (q2 8) 7 hp, aR cA (q2 9) 4 (tel t), aN cA (q2 10) 201 mo, aN cA (q2 11) 4 pl2, aR cA (q2 12) 5 be, aN cA (q2 13) 4 co2, aN cA (q2 14) 4 nx]) E Z (k_X5_route_bad l D cA q mc bn bl tr size ch (xs (i + 1)) (xs (i + 2)) (xs (i + 3)) (by first | assumption | omega) (by first | assumption | omega) (by first | assumption | omega)) wv_L_18 ⟨rfl, rfl, Nat.le_of_ble_eq_true rfl, Nat.le_of_ble_eq_true rfl⟩ [0, 1] rfl rfl rfl rfl (q0 := 0) rfl (fun _ => rfl) (fun _ => rfl) rfl hl.1 rfl (Nat.le_of_ble_eq_true rfl) dL_law_201 ⟨(Nat.le_of_ble_eq_true rfl), (Nat.le_of_ble_eq_true rfl)⟩ (fun r201 _ H locs hp201 Z => ?_)
    subst hp201
    refine lv_topi (fun y9 ey9 => ?_)
    refine lv_aload_n hx hb dL_law_204 rfl (lv_at hl 2 rfl) ?_
    refine lv_aload_n hx hb dL_law_205 rfl (lv_at hl 0 rfl) ?_
    refine lv_iload_n hx hb dL_law_206 rfl (lv_at hl 3 rfl) ?_
    refine lv_iconst (v := nI 1) hx hb dL_law_207 (by decide) ?_
    refine n_iadd hx hb dL_law_208 ?_
    refine r_sld E Z SC (by omega) hL dL_law_209 ?_
    refine lv_aload_n hx hb dL_law_210 rfl (lv_at hl 0 rfl) ?_
    refine lv_iload_n hx hb dL_law_211 rfl (lv_at hl 3 rfl) ?_
    refine lv_iconst (v := nI 2) hx hb dL_law_212 (by decide) ?_
    refine n_iadd hx hb dL_law_213 ?_
    refine r_sld E Z SC (by omega) hL dL_law_214 ?_
    refine lv_aload_n hx hb dL_law_215 rfl (lv_at hl 0 rfl) ?_
    refine lv_iload_n hx hb dL_law_216 rfl (lv_at hl 3 rfl) ?_
    refine lv_iconst (v := nI 3) hx hb dL_law_217 (by decide) ?_
    refine n_iadd hx hb dL_law_218 ?_
    refine r_sld E Z SC (by omega) hL dL_law_219 ?_
    refine c_Vi (As := [.int (xs (i + 1)), .int (xs (i + 2)), .int (xs (i + 3))]) (rest := [.int y9]) (w2 := fun _ => [oX q mc bn bl tr, oP (q 1) (q 2) (q 3) size ch, aN cA (q 2) 16 sets, aN cA (q 3) 8 amts, oG (q 4) (q 5) mc num, aN cA (q 5) 4 (mF num mc), oG (q 6) (q 7) tmc tn, aN cA (q 7) 4 tmem, oT (q 8) (q 9) tm t, aN cA (q 9) 7 hp, oR (q 10) (q 11) (q 12), aN cA (q 11) 16 tp, aN cA (q 12) 4 pl, oY (q 13) (q 14) (q 15) (q 16) ny cg, aN cA (q 14) 6 wt, aN cA (q 15) 4 co, aN cA (q 16) 4 nc, aN cA (q 17) 7 bo, aN cA (q 18) 7 pr, aN cA (q 19) 4 sh, aN cA (q 20) 4 sw, aN cA (q 21) 201 sv, oM q2 0 tr mc size num ny cg, aN cA (q2 1) 16 sets, aN cA (q2 2) 8 (bt ch), aN cA (q2 3) 8 amts, aN cA (q2 4) 7 bo, aN cA (q2 5) 7 pr, aN cA (q2 6) 4 sh, aN cA (q2 7) 6 wt, aN cA (q2 8) 7 hp, aR cA (q2 9) 4 (tel t), aN cA (q2 10) 201 mo, aN cA (q2 11) 4 pl2, aR cA (q2 12) 5 be, aN cA (q2 13) 4 co2, aN cA (q2 14) 4 nx]) E Z (k_X6_route_bad l D cA q2 tr mc size num ny cg (xs (i + 1)) (xs (i + 2)) (xs (i + 3)) (by first | assumption | omega) (by first | assumption | omega) (by first | assumption | omega)) wv_L_22 ⟨rfl, rfl, Nat.le_of_ble_eq_true rfl, Nat.le_of_ble_eq_true rfl⟩ [22] rfl rfl rfl rfl (q0 := 0) rfl (fun _ => rfl) (fun _ => rfl) rfl hl.1 rfl (Nat.le_of_ble_eq_true rfl) dL_law_220 ⟨(Nat.le_of_ble_eq_true rfl), (Nat.le_of_ble_eq_true rfl)⟩ (fun r220 _ H locs hp220 Z => ?_)
    subst hp220
    refine lv_icmp_eq (tgt := 901) hx hb dL_law_223 (by decide) (fun c223 => ?_) (fun c223 => absurd ey9 c223)
    exact N901 _ _ _ _ _ _ _ _ _ _ _ _ _ _ _ _ _ _ _ _ _ _ _ _ _ _ _ _ _ _ _ _ ⟨hm1, hM, hp1, hP, hc2, hs, ha10, hnum, ht, hh, hny, hcg, hwt, hb100, hpr, hsh, hmo⟩ _ _ Z _ hl
set_option maxHeartbeats 4000000 in
set_option maxRecDepth 100000 in
theorem lc_goes {p : Program} {l : Launch} {e : Env} {s : State} {m : MethodId} {below : List Frame} {meth : Method} {c : Code} {D : va_G} {cA : ClassId} {A : Nat → Prop} {b L : Nat} {xs : Nat → Int32} {Q : State → Prop} {q q2 : Nat → Nat} {i : Nat} (E : Ev p s m #[Value.ref b] c cL_law 4 RL D cA A) (hXs : XZ A s s.heap) (SC : va_X b L xs s s.heap ∧ b < s.heap.size ∧ ¬ A b) (hi : i + 5 ≤ L) (hL : L ≤ 2560) (N901 : LN p l e s m below meth c D cA A b Q q q2 i) {mc size ch num ny cg bn bl tmc tn tm : Nat} {sets amts hp wt bo pr sh tmem tp pl co nc sw sv mo pl2 co2 nx : Nat → Nat} {t : TS} {tr : Int64} {be : Nat → Int32} (hI : LInv mc size ch num ny cg sets amts hp wt bo pr sh mo t) {H : Heap} {locs : List Loc} (Z : Wd D A s (LW cA q q2 mc size ch num ny cg bn bl tmc tn tm sets amts hp wt bo pr sh tmem tp pl co nc sw sv mo pl2 co2 nx t tr be) H locs) {ls : Array Slot} (hl : lv_has ls 4 [(0, .ref b), (1, .ref (q 0)), (2, .ref (q2 0)), (3, .int (nI i))]) : W p l e room_1 s m #[Value.ref b] below meth c H locs 37 640 Q (F0 m 228 ls []) := by
  have hx := E.1.1
  have hb := E.1.2.1
  unfold LN LW at N901
  unfold LW at Z
  obtain ⟨hm1, hM, hp1, hP, hc2, hs, ha10, hnum, ht, hh, hny, hcg, hwt, hb100, hpr, hsh, hmo⟩ := hI
  have hch := ch256 hc2 hP
  have h20 := Nat.two_pow_pos mc
  have h202 := Nat.two_pow_pos (2 * mc)
  have h27 : 2 ^ mc ≤ 2 ^ 7 := Nat.pow_le_pow_right (by decide) hM
  have h14 : 2 ^ (2 * mc) ≤ 2 ^ 14 := Nat.pow_le_pow_right (by decide) (by omega)
  by_cases hC : (nI 0 ≤ xs (i + 1) ∧ xs (i + 1) ≤ nI (size - 1)) ∧ (nI 0 ≤ xs (i + 2) ∧ xs (i + 2) ≤ nI 1)
  · obtain ⟨k1, hk10, hk11, ek1⟩ := in_nat (by omega) hC.1 (by decide)
    obtain ⟨k2, hk20, hk21, ek2⟩ := in_nat (by decide) hC.2 (by decide)
    refine lv_aload_n hx hb dL_law_228 rfl (lv_at hl 1 rfl) ?_
    refine lv_aload_n hx hb dL_law_229 rfl (lv_at hl 0 rfl) ?_
    refine lv_iload_n hx hb dL_law_230 rfl (lv_at hl 3 rfl) ?_
    refine lv_iconst (v := nI 1) hx hb dL_law_231 (by decide) ?_
    refine n_iadd hx hb dL_law_232 ?_
    refine r_sld E Z SC (by omega) hL dL_law_233 ?_
    refine r_top (y := nI k1) ek1 ?_
    refine lv_aload_n hx hb dL_law_234 rfl (lv_at hl 0 rfl) ?_
    refine lv_iload_n hx hb dL_law_235 rfl (lv_at hl 3 rfl) ?_
    refine lv_iconst (v := nI 2) hx hb dL_law_236 (by decide) ?_
    refine n_iadd hx hb dL_law_237 ?_
    refine r_sld E Z SC (by omega) hL dL_law_238 ?_
    refine r_top (y := nI k2) ek2 ?_
    refine c_Vi (As := [.int (nI k1), .int (nI k2)]) (rest := []) (w2 := fun _ => [oX q mc bn bl tr, oP (q 1) (q 2) (q 3) size (setb ch k1 k2), aN cA (q 2) 16 sets, aN cA (q 3) 8 amts, oG (q 4) (q 5) mc num, aN cA (q 5) 4 (mF num mc), oG (q 6) (q 7) tmc tn, aN cA (q 7) 4 tmem, oT (q 8) (q 9) tm t, aN cA (q 9) 7 hp, oR (q 10) (q 11) (q 12), aN cA (q 11) 16 tp, aN cA (q 12) 4 pl, oY (q 13) (q 14) (q 15) (q 16) ny cg, aN cA (q 14) 6 wt, aN cA (q 15) 4 co, aN cA (q 16) 4 nc, aN cA (q 17) 7 bo, aN cA (q 18) 7 pr, aN cA (q 19) 4 sh, aN cA (q 20) 4 sw, aN cA (q 21) 201 sv, oM q2 0 tr mc size num ny cg, aN cA (q2 1) 16 sets, aN cA (q2 2) 8 (bt ch), aN cA (q2 3) 8 amts, aN cA (q2 4) 7 bo, aN cA (q2 5) 7 pr, aN cA (q2 6) 4 sh, aN cA (q2 7) 6 wt, aN cA (q2 8) 7 hp, aR cA (q2 9) 4 (tel t), aN cA (q2 10) 201 mo, aN cA (q2 11) 4 pl2, aR cA (q2 12) 5 be, aN cA (q2 13) 4 co2, aN cA (q2 14) 4 nx]) E Z (k_X5_goes l D cA q mc bn bl tr size ch k1 k2 (by first | assumption | omega) (by first | assumption | omega) (by first | assumption | omega) (by first | assumption | omega) (by first | assumption | omega)) wv_L_23 ⟨rfl, rfl, Nat.le_of_ble_eq_true rfl, Nat.le_of_ble_eq_true rfl⟩ [0, 1] rfl rfl rfl rfl (q0 := 0) rfl (fun _ => rfl) (fun _ => rfl) rfl hl.1 rfl (Nat.le_of_ble_eq_true rfl) dL_law_239 ⟨(Nat.le_of_ble_eq_true rfl), (Nat.le_of_ble_eq_true rfl)⟩ (fun r239 _ H locs hp239 Z => ?_)
    subst hp239
    refine lv_topi (fun y9 ey9 => ?_)
    refine lv_aload_n hx hb dL_law_242 rfl (lv_at hl 2 rfl) ?_
    refine lv_aload_n hx hb dL_law_243 rfl (lv_at hl 0 rfl) ?_
    refine lv_iload_n hx hb dL_law_244 rfl (lv_at hl 3 rfl) ?_
    refine lv_iconst (v := nI 1) hx hb dL_law_245 (by decide) ?_
    refine n_iadd hx hb dL_law_246 ?_
    refine r_sld E Z SC (by omega) hL dL_law_247 ?_
    refine r_top (y := nI k1) ek1 ?_
    refine lv_aload_n hx hb dL_law_248 rfl (lv_at hl 0 rfl) ?_
    refine lv_iload_n hx hb dL_law_249 rfl (lv_at hl 3 rfl) ?_
    refine lv_iconst (v := nI 2) hx hb dL_law_250 (by decide) ?_
    refine n_iadd hx hb dL_law_251 ?_
    refine r_sld E Z SC (by omega) hL dL_law_252 ?_
    refine r_top (y := nI k2) ek2 ?_
    refine c_Vi (As := [.int (nI k1), .int (nI k2)]) (rest := [.int y9]) (w2 := fun _ => [oX q mc bn bl tr, oP (q 1) (q 2) (q 3) size (setb ch k1 k2), aN cA (q 2) 16 sets, aN cA (q 3) 8 amts, oG (q 4) (q 5) mc num, aN cA (q 5) 4 (mF num mc), oG (q 6) (q 7) tmc tn, aN cA (q 7) 4 tmem, oT (q 8) (q 9) tm t, aN cA (q 9) 7 hp, oR (q 10) (q 11) (q 12), aN cA (q 11) 16 tp, aN cA (q 12) 4 pl, oY (q 13) (q 14) (q 15) (q 16) ny cg, aN cA (q 14) 6 wt, aN cA (q 15) 4 co, aN cA (q 16) 4 nc, aN cA (q 17) 7 bo, aN cA (q 18) 7 pr, aN cA (q 19) 4 sh, aN cA (q 20) 4 sw, aN cA (q 21) 201 sv, oM q2 0 tr mc size num ny cg, aN cA (q2 1) 16 sets, aN cA (q2 2) 8 (bt (setb ch k1 k2)), aN cA (q2 3) 8 amts, aN cA (q2 4) 7 bo, aN cA (q2 5) 7 pr, aN cA (q2 6) 4 sh, aN cA (q2 7) 6 wt, aN cA (q2 8) 7 hp, aR cA (q2 9) 4 (tel t), aN cA (q2 10) 201 mo, aN cA (q2 11) 4 pl2, aR cA (q2 12) 5 be, aN cA (q2 13) 4 co2, aN cA (q2 14) 4 nx]) E Z (k_X6_goes l D cA q2 tr mc size num ny cg ch k1 k2 (by first | assumption | omega) (by first | assumption | omega) (by first | assumption | omega) (by first | assumption | omega) (by first | assumption | omega)) wv_L_26 ⟨rfl, rfl, Nat.le_of_ble_eq_true rfl, Nat.le_of_ble_eq_true rfl⟩ [22, 24] rfl rfl rfl rfl (q0 := 0) rfl (fun _ => rfl) (fun _ => rfl) rfl hl.1 rfl (Nat.le_of_ble_eq_true rfl) dL_law_253 ⟨(Nat.le_of_ble_eq_true rfl), (Nat.le_of_ble_eq_true rfl)⟩ (fun r253 _ H locs hp253 Z => ?_)
    subst hp253
    refine lv_icmp_eq (tgt := 901) hx hb dL_law_256 (by decide) (fun c256 => ?_) (fun c256 => absurd ey9 c256)
    exact N901 _ _ _ _ _ _ _ _ _ _ _ _ _ _ _ _ _ _ _ _ _ _ _ _ _ _ _ _ _ _ _ _ ⟨hm1, hM, hp1, hP, setb_big size hP ch hc2 k1 (by omega) k2 (by omega), hs, ha10, hnum, ht, hh, hny, hcg, hwt, hb100, hpr, hsh, hmo⟩ _ _ Z _ hl
  · have hC2 := hC
    refine lv_aload_n hx hb dL_law_228 rfl (lv_at hl 1 rfl) ?_
    refine lv_aload_n hx hb dL_law_229 rfl (lv_at hl 0 rfl) ?_
    refine lv_iload_n hx hb dL_law_230 rfl (lv_at hl 3 rfl) ?_
    refine lv_iconst (v := nI 1) hx hb dL_law_231 (by decide) ?_
    refine n_iadd hx hb dL_law_232 ?_
    refine r_sld E Z SC (by omega) hL dL_law_233 ?_
    refine lv_aload_n hx hb dL_law_234 rfl (lv_at hl 0 rfl) ?_
    refine lv_iload_n hx hb dL_law_235 rfl (lv_at hl 3 rfl) ?_
    refine lv_iconst (v := nI 2) hx hb dL_law_236 (by decide) ?_
    refine n_iadd hx hb dL_law_237 ?_
    refine r_sld E Z SC (by omega) hL dL_law_238 ?_
    refine c_Vi (As := [.int (xs (i + 1)), .int (xs (i + 2))]) (rest := []) (w2 := fun _ => [oX q mc bn bl tr, oP (q 1) (q 2) (q 3) size ch, aN cA (q 2) 16 sets, aN cA (q 3) 8 amts, oG (q 4) (q 5) mc num, aN cA (q 5) 4 (mF num mc), oG (q 6) (q 7) tmc tn, aN cA (q 7) 4 tmem, oT (q 8) (q 9) tm t, aN cA (q 9) 7 hp, oR (q 10) (q 11) (q 12), aN cA (q 11) 16 tp, aN cA (q 12) 4 pl, oY (q 13) (q 14) (q 15) (q 16) ny cg, aN cA (q 14) 6 wt, aN cA (q 15) 4 co, aN cA (q 16) 4 nc, aN cA (q 17) 7 bo, aN cA (q 18) 7 pr, aN cA (q 19) 4 sh, aN cA (q 20) 4 sw, aN cA (q 21) 201 sv, oM q2 0 tr mc size num ny cg, aN cA (q2 1) 16 sets, aN cA (q2 2) 8 (bt ch), aN cA (q2 3) 8 amts, aN cA (q2 4) 7 bo, aN cA (q2 5) 7 pr, aN cA (q2 6) 4 sh, aN cA (q2 7) 6 wt, aN cA (q2 8) 7 hp, aR cA (q2 9) 4 (tel t), aN cA (q2 10) 201 mo, aN cA (q2 11) 4 pl2, aR cA (q2 12) 5 be, aN cA (q2 13) 4 co2, aN cA (q2 14) 4 nx]) E Z (k_X5_goes_bad l D cA q mc bn bl tr size ch (xs (i + 1)) (xs (i + 2)) (by first | assumption | omega) (by first | assumption | omega)) wv_L_23 ⟨rfl, rfl, Nat.le_of_ble_eq_true rfl, Nat.le_of_ble_eq_true rfl⟩ [0, 1] rfl rfl rfl rfl (q0 := 0) rfl (fun _ => rfl) (fun _ => rfl) rfl hl.1 rfl (Nat.le_of_ble_eq_true rfl) dL_law_239 ⟨(Nat.le_of_ble_eq_true rfl), (Nat.le_of_ble_eq_true rfl)⟩ (fun r239 _ H locs hp239 Z => ?_)
    subst hp239
    refine lv_topi (fun y9 ey9 => ?_)
    refine lv_aload_n hx hb dL_law_242 rfl (lv_at hl 2 rfl) ?_
    refine lv_aload_n hx hb dL_law_243 rfl (lv_at hl 0 rfl) ?_
    refine lv_iload_n hx hb dL_law_244 rfl (lv_at hl 3 rfl) ?_
    refine lv_iconst (v := nI 1) hx hb dL_law_245 (by decide) ?_
    refine n_iadd hx hb dL_law_246 ?_
    refine r_sld E Z SC (by omega) hL dL_law_247 ?_
    refine lv_aload_n hx hb dL_law_248 rfl (lv_at hl 0 rfl) ?_
    refine lv_iload_n hx hb dL_law_249 rfl (lv_at hl 3 rfl) ?_
    refine lv_iconst (v := nI 2) hx hb dL_law_250 (by decide) ?_
    refine n_iadd hx hb dL_law_251 ?_
    refine r_sld E Z SC (by omega) hL dL_law_252 ?_
    refine c_Vi (As := [.int (xs (i + 1)), .int (xs (i + 2))]) (rest := [.int y9]) (w2 := fun _ => [oX q mc bn bl tr, oP (q 1) (q 2) (q 3) size ch, aN cA (q 2) 16 sets, aN cA (q 3) 8 amts, oG (q 4) (q 5) mc num, aN cA (q 5) 4 (mF num mc), oG (q 6) (q 7) tmc tn, aN cA (q 7) 4 tmem, oT (q 8) (q 9) tm t, aN cA (q 9) 7 hp, oR (q 10) (q 11) (q 12), aN cA (q 11) 16 tp, aN cA (q 12) 4 pl, oY (q 13) (q 14) (q 15) (q 16) ny cg, aN cA (q 14) 6 wt, aN cA (q 15) 4 co, aN cA (q 16) 4 nc, aN cA (q 17) 7 bo, aN cA (q 18) 7 pr, aN cA (q 19) 4 sh, aN cA (q 20) 4 sw, aN cA (q 21) 201 sv, oM q2 0 tr mc size num ny cg, aN cA (q2 1) 16 sets, aN cA (q2 2) 8 (bt ch), aN cA (q2 3) 8 amts, aN cA (q2 4) 7 bo, aN cA (q2 5) 7 pr, aN cA (q2 6) 4 sh, aN cA (q2 7) 6 wt, aN cA (q2 8) 7 hp, aR cA (q2 9) 4 (tel t), aN cA (q2 10) 201 mo, aN cA (q2 11) 4 pl2, aR cA (q2 12) 5 be, aN cA (q2 13) 4 co2, aN cA (q2 14) 4 nx]) E Z (k_X6_goes_bad l D cA q2 tr mc size num ny cg (xs (i + 1)) (xs (i + 2)) (by first | assumption | omega) (by first | assumption | omega)) wv_L_26 ⟨rfl, rfl, Nat.le_of_ble_eq_true rfl, Nat.le_of_ble_eq_true rfl⟩ [22] rfl rfl rfl rfl (q0 := 0) rfl (fun _ => rfl) (fun _ => rfl) rfl hl.1 rfl (Nat.le_of_ble_eq_true rfl) dL_law_253 ⟨(Nat.le_of_ble_eq_true rfl), (Nat.le_of_ble_eq_true rfl)⟩ (fun r253 _ H locs hp253 Z => ?_)
    subst hp253
    refine lv_icmp_eq (tgt := 901) hx hb dL_law_256 (by decide) (fun c256 => ?_) (fun c256 => absurd ey9 c256)
    exact N901 _ _ _ _ _ _ _ _ _ _ _ _ _ _ _ _ _ _ _ _ _ _ _ _ _ _ _ _ _ _ _ _ ⟨hm1, hM, hp1, hP, hc2, hs, ha10, hnum, ht, hh, hny, hcg, hwt, hb100, hpr, hsh, hmo⟩ _ _ Z _ hl
set_option maxHeartbeats 4000000 in
set_option maxRecDepth 100000 in
theorem lc_pieces {p : Program} {l : Launch} {e : Env} {s : State} {m : MethodId} {below : List Frame} {meth : Method} {c : Code} {D : va_G} {cA : ClassId} {A : Nat → Prop} {b L : Nat} {xs : Nat → Int32} {Q : State → Prop} {q q2 : Nat → Nat} {i : Nat} (E : Ev p s m #[Value.ref b] c cL_law 4 RL D cA A) (hXs : XZ A s s.heap) (SC : va_X b L xs s s.heap ∧ b < s.heap.size ∧ ¬ A b) (hi : i + 5 ≤ L) (hL : L ≤ 2560) (N901 : LN p l e s m below meth c D cA A b Q q q2 i) {mc size ch num ny cg bn bl tmc tn tm : Nat} {sets amts hp wt bo pr sh tmem tp pl co nc sw sv mo pl2 co2 nx : Nat → Nat} {t : TS} {tr : Int64} {be : Nat → Int32} (hI : LInv mc size ch num ny cg sets amts hp wt bo pr sh mo t) {H : Heap} {locs : List Loc} (Z : Wd D A s (LW cA q q2 mc size ch num ny cg bn bl tmc tn tm sets amts hp wt bo pr sh tmem tp pl co nc sw sv mo pl2 co2 nx t tr be) H locs) {ls : Array Slot} (hl : lv_has ls 4 [(0, .ref b), (1, .ref (q 0)), (2, .ref (q2 0)), (3, .int (nI i))]) : W p l e room_1 s m #[Value.ref b] below meth c H locs 37 640 Q (F0 m 261 ls []) := by
  have hx := E.1.1
  have hb := E.1.2.1
  unfold LN LW at N901
  unfold LW at Z
  obtain ⟨hm1, hM, hp1, hP, hc2, hs, ha10, hnum, ht, hh, hny, hcg, hwt, hb100, hpr, hsh, hmo⟩ := hI
  have hch := ch256 hc2 hP
  have h20 := Nat.two_pow_pos mc
  have h202 := Nat.two_pow_pos (2 * mc)
  have h27 : 2 ^ mc ≤ 2 ^ 7 := Nat.pow_le_pow_right (by decide) hM
  have h14 : 2 ^ (2 * mc) ≤ 2 ^ 14 := Nat.pow_le_pow_right (by decide) (by omega)
  by_cases hC : (nI 0 ≤ xs (i + 1) ∧ xs (i + 1) ≤ nI (size - 1)) ∧ (nI 1 ≤ xs (i + 2) ∧ xs (i + 2) ≤ nI 9)
  · obtain ⟨k1, hk10, hk11, ek1⟩ := in_nat (by omega) hC.1 (by decide)
    obtain ⟨k2, hk20, hk21, ek2⟩ := in_nat (by decide) hC.2 (by decide)
    refine lv_aload_n hx hb dL_law_261 rfl (lv_at hl 1 rfl) ?_
    refine lv_aload_n hx hb dL_law_262 rfl (lv_at hl 0 rfl) ?_
    refine lv_iload_n hx hb dL_law_263 rfl (lv_at hl 3 rfl) ?_
    refine lv_iconst (v := nI 1) hx hb dL_law_264 (by decide) ?_
    refine n_iadd hx hb dL_law_265 ?_
    refine r_sld E Z SC (by omega) hL dL_law_266 ?_
    refine r_top (y := nI k1) ek1 ?_
    refine lv_aload_n hx hb dL_law_267 rfl (lv_at hl 0 rfl) ?_
    refine lv_iload_n hx hb dL_law_268 rfl (lv_at hl 3 rfl) ?_
    refine lv_iconst (v := nI 2) hx hb dL_law_269 (by decide) ?_
    refine n_iadd hx hb dL_law_270 ?_
    refine r_sld E Z SC (by omega) hL dL_law_271 ?_
    refine r_top (y := nI k2) ek2 ?_
    refine c_Vi (As := [.int (nI k1), .int (nI k2)]) (rest := []) (w2 := fun _ => [oX q mc bn bl tr, oP (q 1) (q 2) (q 3) size ch, aN cA (q 2) 16 sets, aN cA (q 3) 8 (up amts k1 k2), oG (q 4) (q 5) mc num, aN cA (q 5) 4 (mF num mc), oG (q 6) (q 7) tmc tn, aN cA (q 7) 4 tmem, oT (q 8) (q 9) tm t, aN cA (q 9) 7 hp, oR (q 10) (q 11) (q 12), aN cA (q 11) 16 tp, aN cA (q 12) 4 pl, oY (q 13) (q 14) (q 15) (q 16) ny cg, aN cA (q 14) 6 wt, aN cA (q 15) 4 co, aN cA (q 16) 4 nc, aN cA (q 17) 7 bo, aN cA (q 18) 7 pr, aN cA (q 19) 4 sh, aN cA (q 20) 4 sw, aN cA (q 21) 201 sv, oM q2 0 tr mc size num ny cg, aN cA (q2 1) 16 sets, aN cA (q2 2) 8 (bt ch), aN cA (q2 3) 8 amts, aN cA (q2 4) 7 bo, aN cA (q2 5) 7 pr, aN cA (q2 6) 4 sh, aN cA (q2 7) 6 wt, aN cA (q2 8) 7 hp, aR cA (q2 9) 4 (tel t), aN cA (q2 10) 201 mo, aN cA (q2 11) 4 pl2, aR cA (q2 12) 5 be, aN cA (q2 13) 4 co2, aN cA (q2 14) 4 nx]) E Z (k_X5_pieces l D cA q mc bn bl tr size ch amts k1 k2 (by first | assumption | omega) (by first | assumption | omega) (by first | assumption | omega) (by first | assumption | omega)) wv_L_27 ⟨rfl, rfl, Nat.le_of_ble_eq_true rfl, Nat.le_of_ble_eq_true rfl⟩ [0, 1, 3] rfl rfl rfl rfl (q0 := 0) rfl (fun _ => rfl) (fun _ => rfl) rfl hl.1 rfl (Nat.le_of_ble_eq_true rfl) dL_law_272 ⟨(Nat.le_of_ble_eq_true rfl), (Nat.le_of_ble_eq_true rfl)⟩ (fun r272 _ H locs hp272 Z => ?_)
    subst hp272
    refine lv_topi (fun y9 ey9 => ?_)
    refine lv_aload_n hx hb dL_law_275 rfl (lv_at hl 2 rfl) ?_
    refine lv_aload_n hx hb dL_law_276 rfl (lv_at hl 0 rfl) ?_
    refine lv_iload_n hx hb dL_law_277 rfl (lv_at hl 3 rfl) ?_
    refine lv_iconst (v := nI 1) hx hb dL_law_278 (by decide) ?_
    refine n_iadd hx hb dL_law_279 ?_
    refine r_sld E Z SC (by omega) hL dL_law_280 ?_
    refine r_top (y := nI k1) ek1 ?_
    refine lv_aload_n hx hb dL_law_281 rfl (lv_at hl 0 rfl) ?_
    refine lv_iload_n hx hb dL_law_282 rfl (lv_at hl 3 rfl) ?_
    refine lv_iconst (v := nI 2) hx hb dL_law_283 (by decide) ?_
    refine n_iadd hx hb dL_law_284 ?_
    refine r_sld E Z SC (by omega) hL dL_law_285 ?_
    refine r_top (y := nI k2) ek2 ?_
    refine c_Vi (As := [.int (nI k1), .int (nI k2)]) (rest := [.int y9]) (w2 := fun _ => [oX q mc bn bl tr, oP (q 1) (q 2) (q 3) size ch, aN cA (q 2) 16 sets, aN cA (q 3) 8 (up amts k1 k2), oG (q 4) (q 5) mc num, aN cA (q 5) 4 (mF num mc), oG (q 6) (q 7) tmc tn, aN cA (q 7) 4 tmem, oT (q 8) (q 9) tm t, aN cA (q 9) 7 hp, oR (q 10) (q 11) (q 12), aN cA (q 11) 16 tp, aN cA (q 12) 4 pl, oY (q 13) (q 14) (q 15) (q 16) ny cg, aN cA (q 14) 6 wt, aN cA (q 15) 4 co, aN cA (q 16) 4 nc, aN cA (q 17) 7 bo, aN cA (q 18) 7 pr, aN cA (q 19) 4 sh, aN cA (q 20) 4 sw, aN cA (q 21) 201 sv, oM q2 0 tr mc size num ny cg, aN cA (q2 1) 16 sets, aN cA (q2 2) 8 (bt ch), aN cA (q2 3) 8 (up amts k1 k2), aN cA (q2 4) 7 bo, aN cA (q2 5) 7 pr, aN cA (q2 6) 4 sh, aN cA (q2 7) 6 wt, aN cA (q2 8) 7 hp, aR cA (q2 9) 4 (tel t), aN cA (q2 10) 201 mo, aN cA (q2 11) 4 pl2, aR cA (q2 12) 5 be, aN cA (q2 13) 4 co2, aN cA (q2 14) 4 nx]) E Z (k_X6_pieces l D cA q2 tr mc size num ny cg amts k1 k2 (by first | assumption | omega) (by first | assumption | omega) (by first | assumption | omega) (by first | assumption | omega)) wv_L_30 ⟨rfl, rfl, Nat.le_of_ble_eq_true rfl, Nat.le_of_ble_eq_true rfl⟩ [22, 25] rfl rfl rfl rfl (q0 := 0) rfl (fun _ => rfl) (fun _ => rfl) rfl hl.1 rfl (Nat.le_of_ble_eq_true rfl) dL_law_286 ⟨(Nat.le_of_ble_eq_true rfl), (Nat.le_of_ble_eq_true rfl)⟩ (fun r286 _ H locs hp286 Z => ?_)
    subst hp286
    refine lv_icmp_eq (tgt := 901) hx hb dL_law_289 (by decide) (fun c289 => ?_) (fun c289 => absurd ey9 c289)
    exact N901 _ _ _ _ _ _ _ _ _ _ _ _ _ _ _ _ _ _ _ _ _ _ _ _ _ _ _ _ _ _ _ _ ⟨hm1, hM, hp1, hP, hc2, hs, up_all (P := fun z => z < 10) ha10 (by omega), hnum, ht, hh, hny, hcg, hwt, hb100, hpr, hsh, hmo⟩ _ _ Z _ hl
  · have hC2 := hC
    refine lv_aload_n hx hb dL_law_261 rfl (lv_at hl 1 rfl) ?_
    refine lv_aload_n hx hb dL_law_262 rfl (lv_at hl 0 rfl) ?_
    refine lv_iload_n hx hb dL_law_263 rfl (lv_at hl 3 rfl) ?_
    refine lv_iconst (v := nI 1) hx hb dL_law_264 (by decide) ?_
    refine n_iadd hx hb dL_law_265 ?_
    refine r_sld E Z SC (by omega) hL dL_law_266 ?_
    refine lv_aload_n hx hb dL_law_267 rfl (lv_at hl 0 rfl) ?_
    refine lv_iload_n hx hb dL_law_268 rfl (lv_at hl 3 rfl) ?_
    refine lv_iconst (v := nI 2) hx hb dL_law_269 (by decide) ?_
    refine n_iadd hx hb dL_law_270 ?_
    refine r_sld E Z SC (by omega) hL dL_law_271 ?_
    refine c_Vi (As := [.int (xs (i + 1)), .int (xs (i + 2))]) (rest := []) (w2 := fun _ => [oX q mc bn bl tr, oP (q 1) (q 2) (q 3) size ch, aN cA (q 2) 16 sets, aN cA (q 3) 8 amts, oG (q 4) (q 5) mc num, aN cA (q 5) 4 (mF num mc), oG (q 6) (q 7) tmc tn, aN cA (q 7) 4 tmem, oT (q 8) (q 9) tm t, aN cA (q 9) 7 hp, oR (q 10) (q 11) (q 12), aN cA (q 11) 16 tp, aN cA (q 12) 4 pl, oY (q 13) (q 14) (q 15) (q 16) ny cg, aN cA (q 14) 6 wt, aN cA (q 15) 4 co, aN cA (q 16) 4 nc, aN cA (q 17) 7 bo, aN cA (q 18) 7 pr, aN cA (q 19) 4 sh, aN cA (q 20) 4 sw, aN cA (q 21) 201 sv, oM q2 0 tr mc size num ny cg, aN cA (q2 1) 16 sets, aN cA (q2 2) 8 (bt ch), aN cA (q2 3) 8 amts, aN cA (q2 4) 7 bo, aN cA (q2 5) 7 pr, aN cA (q2 6) 4 sh, aN cA (q2 7) 6 wt, aN cA (q2 8) 7 hp, aR cA (q2 9) 4 (tel t), aN cA (q2 10) 201 mo, aN cA (q2 11) 4 pl2, aR cA (q2 12) 5 be, aN cA (q2 13) 4 co2, aN cA (q2 14) 4 nx]) E Z (k_X5_pieces_bad l D cA q mc bn bl tr size ch (xs (i + 1)) (xs (i + 2)) (by first | assumption | omega) (by first | assumption | omega)) wv_L_27 ⟨rfl, rfl, Nat.le_of_ble_eq_true rfl, Nat.le_of_ble_eq_true rfl⟩ [0, 1] rfl rfl rfl rfl (q0 := 0) rfl (fun _ => rfl) (fun _ => rfl) rfl hl.1 rfl (Nat.le_of_ble_eq_true rfl) dL_law_272 ⟨(Nat.le_of_ble_eq_true rfl), (Nat.le_of_ble_eq_true rfl)⟩ (fun r272 _ H locs hp272 Z => ?_)
    subst hp272
    refine lv_topi (fun y9 ey9 => ?_)
    refine lv_aload_n hx hb dL_law_275 rfl (lv_at hl 2 rfl) ?_
    refine lv_aload_n hx hb dL_law_276 rfl (lv_at hl 0 rfl) ?_
    refine lv_iload_n hx hb dL_law_277 rfl (lv_at hl 3 rfl) ?_
    refine lv_iconst (v := nI 1) hx hb dL_law_278 (by decide) ?_
    refine n_iadd hx hb dL_law_279 ?_
    refine r_sld E Z SC (by omega) hL dL_law_280 ?_
    refine lv_aload_n hx hb dL_law_281 rfl (lv_at hl 0 rfl) ?_
    refine lv_iload_n hx hb dL_law_282 rfl (lv_at hl 3 rfl) ?_
    refine lv_iconst (v := nI 2) hx hb dL_law_283 (by decide) ?_
    refine n_iadd hx hb dL_law_284 ?_
    refine r_sld E Z SC (by omega) hL dL_law_285 ?_
    refine c_Vi (As := [.int (xs (i + 1)), .int (xs (i + 2))]) (rest := [.int y9]) (w2 := fun _ => [oX q mc bn bl tr, oP (q 1) (q 2) (q 3) size ch, aN cA (q 2) 16 sets, aN cA (q 3) 8 amts, oG (q 4) (q 5) mc num, aN cA (q 5) 4 (mF num mc), oG (q 6) (q 7) tmc tn, aN cA (q 7) 4 tmem, oT (q 8) (q 9) tm t, aN cA (q 9) 7 hp, oR (q 10) (q 11) (q 12), aN cA (q 11) 16 tp, aN cA (q 12) 4 pl, oY (q 13) (q 14) (q 15) (q 16) ny cg, aN cA (q 14) 6 wt, aN cA (q 15) 4 co, aN cA (q 16) 4 nc, aN cA (q 17) 7 bo, aN cA (q 18) 7 pr, aN cA (q 19) 4 sh, aN cA (q 20) 4 sw, aN cA (q 21) 201 sv, oM q2 0 tr mc size num ny cg, aN cA (q2 1) 16 sets, aN cA (q2 2) 8 (bt ch), aN cA (q2 3) 8 amts, aN cA (q2 4) 7 bo, aN cA (q2 5) 7 pr, aN cA (q2 6) 4 sh, aN cA (q2 7) 6 wt, aN cA (q2 8) 7 hp, aR cA (q2 9) 4 (tel t), aN cA (q2 10) 201 mo, aN cA (q2 11) 4 pl2, aR cA (q2 12) 5 be, aN cA (q2 13) 4 co2, aN cA (q2 14) 4 nx]) E Z (k_X6_pieces_bad l D cA q2 tr mc size num ny cg (xs (i + 1)) (xs (i + 2)) (by first | assumption | omega) (by first | assumption | omega)) wv_L_30 ⟨rfl, rfl, Nat.le_of_ble_eq_true rfl, Nat.le_of_ble_eq_true rfl⟩ [22] rfl rfl rfl rfl (q0 := 0) rfl (fun _ => rfl) (fun _ => rfl) rfl hl.1 rfl (Nat.le_of_ble_eq_true rfl) dL_law_286 ⟨(Nat.le_of_ble_eq_true rfl), (Nat.le_of_ble_eq_true rfl)⟩ (fun r286 _ H locs hp286 Z => ?_)
    subst hp286
    refine lv_icmp_eq (tgt := 901) hx hb dL_law_289 (by decide) (fun c289 => ?_) (fun c289 => absurd ey9 c289)
    exact N901 _ _ _ _ _ _ _ _ _ _ _ _ _ _ _ _ _ _ _ _ _ _ _ _ _ _ _ _ _ _ _ _ ⟨hm1, hM, hp1, hP, hc2, hs, ha10, hnum, ht, hh, hny, hcg, hwt, hb100, hpr, hsh, hmo⟩ _ _ Z _ hl
set_option maxHeartbeats 4000000 in
set_option maxRecDepth 100000 in
theorem lc_cell {p : Program} {l : Launch} {e : Env} {s : State} {m : MethodId} {below : List Frame} {meth : Method} {c : Code} {D : va_G} {cA : ClassId} {A : Nat → Prop} {b L : Nat} {xs : Nat → Int32} {Q : State → Prop} {q q2 : Nat → Nat} {i : Nat} (E : Ev p s m #[Value.ref b] c cL_law 4 RL D cA A) (hXs : XZ A s s.heap) (SC : va_X b L xs s s.heap ∧ b < s.heap.size ∧ ¬ A b) (hi : i + 5 ≤ L) (hL : L ≤ 2560) (N901 : LN p l e s m below meth c D cA A b Q q q2 i) {mc size ch num ny cg bn bl tmc tn tm : Nat} {sets amts hp wt bo pr sh tmem tp pl co nc sw sv mo pl2 co2 nx : Nat → Nat} {t : TS} {tr : Int64} {be : Nat → Int32} (hI : LInv mc size ch num ny cg sets amts hp wt bo pr sh mo t) {H : Heap} {locs : List Loc} (Z : Wd D A s (LW cA q q2 mc size ch num ny cg bn bl tmc tn tm sets amts hp wt bo pr sh tmem tp pl co nc sw sv mo pl2 co2 nx t tr be) H locs) {ls : Array Slot} (hl : lv_has ls 4 [(0, .ref b), (1, .ref (q 0)), (2, .ref (q2 0)), (3, .int (nI i))]) : W p l e room_1 s m #[Value.ref b] below meth c H locs 37 640 Q (F0 m 294 ls []) := by
  have hx := E.1.1
  have hb := E.1.2.1
  unfold LN LW at N901
  unfold LW at Z
  obtain ⟨hm1, hM, hp1, hP, hc2, hs, ha10, hnum, ht, hh, hny, hcg, hwt, hb100, hpr, hsh, hmo⟩ := hI
  have hch := ch256 hc2 hP
  have h20 := Nat.two_pow_pos mc
  have h202 := Nat.two_pow_pos (2 * mc)
  have h27 : 2 ^ mc ≤ 2 ^ 7 := Nat.pow_le_pow_right (by decide) hM
  have h14 : 2 ^ (2 * mc) ≤ 2 ^ 14 := Nat.pow_le_pow_right (by decide) (by omega)
  by_cases hC : (nI 0 ≤ xs (i + 1) ∧ xs (i + 1) ≤ nI (mc - 1)) ∧ (nI 0 ≤ xs (i + 2) ∧ xs (i + 2) ≤ nI 3)
  · obtain ⟨k1, hk10, hk11, ek1⟩ := in_nat (by omega) hC.1 (by decide)
    obtain ⟨k2, hk20, hk21, ek2⟩ := in_nat (by decide) hC.2 (by decide)
    refine lv_aload_n hx hb dL_law_294 rfl (lv_at hl 1 rfl) ?_
    refine lv_aload_n hx hb dL_law_295 rfl (lv_at hl 0 rfl) ?_
    refine lv_iload_n hx hb dL_law_296 rfl (lv_at hl 3 rfl) ?_
    refine lv_iconst (v := nI 1) hx hb dL_law_297 (by decide) ?_
    refine n_iadd hx hb dL_law_298 ?_
    refine r_sld E Z SC (by omega) hL dL_law_299 ?_
    refine r_top (y := nI k1) ek1 ?_
    refine lv_aload_n hx hb dL_law_300 rfl (lv_at hl 0 rfl) ?_
    refine lv_iload_n hx hb dL_law_301 rfl (lv_at hl 3 rfl) ?_
    refine lv_iconst (v := nI 2) hx hb dL_law_302 (by decide) ?_
    refine n_iadd hx hb dL_law_303 ?_
    refine r_sld E Z SC (by omega) hL dL_law_304 ?_
    refine r_top (y := nI k2) ek2 ?_
    refine c_Vi (As := [.int (nI k1), .int (nI k2)]) (rest := []) (w2 := fun _ => [oX q mc bn bl tr, oP (q 1) (q 2) (q 3) size ch, aN cA (q 2) 16 sets, aN cA (q 3) 8 amts, oG (q 4) (q 5) mc (pt num k1 k2), aN cA (q 5) 4 (mF (pt num k1 k2) mc), oG (q 6) (q 7) tmc tn, aN cA (q 7) 4 tmem, oT (q 8) (q 9) tm t, aN cA (q 9) 7 hp, oR (q 10) (q 11) (q 12), aN cA (q 11) 16 tp, aN cA (q 12) 4 pl, oY (q 13) (q 14) (q 15) (q 16) ny cg, aN cA (q 14) 6 wt, aN cA (q 15) 4 co, aN cA (q 16) 4 nc, aN cA (q 17) 7 bo, aN cA (q 18) 7 pr, aN cA (q 19) 4 sh, aN cA (q 20) 4 sw, aN cA (q 21) 201 sv, oM q2 0 tr mc size num ny cg, aN cA (q2 1) 16 sets, aN cA (q2 2) 8 (bt ch), aN cA (q2 3) 8 amts, aN cA (q2 4) 7 bo, aN cA (q2 5) 7 pr, aN cA (q2 6) 4 sh, aN cA (q2 7) 6 wt, aN cA (q2 8) 7 hp, aR cA (q2 9) 4 (tel t), aN cA (q2 10) 201 mo, aN cA (q2 11) 4 pl2, aR cA (q2 12) 5 be, aN cA (q2 13) 4 co2, aN cA (q2 14) 4 nx]) E Z (k_X5_cell l D cA q mc bn bl tr num k1 k2 (by first | assumption | omega) (by first | assumption | omega) (by first | assumption | omega) (by first | assumption | omega) (by first | assumption | omega)) wv_L_31 ⟨rfl, rfl, Nat.le_of_ble_eq_true rfl, Nat.le_of_ble_eq_true rfl⟩ [0, 4, 5] rfl rfl rfl rfl (q0 := 0) rfl (fun _ => rfl) (fun _ => rfl) rfl hl.1 rfl (Nat.le_of_ble_eq_true rfl) dL_law_305 ⟨(Nat.le_of_ble_eq_true rfl), (Nat.le_of_ble_eq_true rfl)⟩ (fun r305 _ H locs hp305 Z => ?_)
    subst hp305
    refine lv_topi (fun y9 ey9 => ?_)
    refine lv_aload_n hx hb dL_law_308 rfl (lv_at hl 2 rfl) ?_
    refine lv_aload_n hx hb dL_law_309 rfl (lv_at hl 0 rfl) ?_
    refine lv_iload_n hx hb dL_law_310 rfl (lv_at hl 3 rfl) ?_
    refine lv_iconst (v := nI 1) hx hb dL_law_311 (by decide) ?_
    refine n_iadd hx hb dL_law_312 ?_
    refine r_sld E Z SC (by omega) hL dL_law_313 ?_
    refine r_top (y := nI k1) ek1 ?_
    refine lv_aload_n hx hb dL_law_314 rfl (lv_at hl 0 rfl) ?_
    refine lv_iload_n hx hb dL_law_315 rfl (lv_at hl 3 rfl) ?_
    refine lv_iconst (v := nI 2) hx hb dL_law_316 (by decide) ?_
    refine n_iadd hx hb dL_law_317 ?_
    refine r_sld E Z SC (by omega) hL dL_law_318 ?_
    refine r_top (y := nI k2) ek2 ?_
    refine c_Vi (As := [.int (nI k1), .int (nI k2)]) (rest := [.int y9]) (w2 := fun _ => [oX q mc bn bl tr, oP (q 1) (q 2) (q 3) size ch, aN cA (q 2) 16 sets, aN cA (q 3) 8 amts, oG (q 4) (q 5) mc (pt num k1 k2), aN cA (q 5) 4 (mF (pt num k1 k2) mc), oG (q 6) (q 7) tmc tn, aN cA (q 7) 4 tmem, oT (q 8) (q 9) tm t, aN cA (q 9) 7 hp, oR (q 10) (q 11) (q 12), aN cA (q 11) 16 tp, aN cA (q 12) 4 pl, oY (q 13) (q 14) (q 15) (q 16) ny cg, aN cA (q 14) 6 wt, aN cA (q 15) 4 co, aN cA (q 16) 4 nc, aN cA (q 17) 7 bo, aN cA (q 18) 7 pr, aN cA (q 19) 4 sh, aN cA (q 20) 4 sw, aN cA (q 21) 201 sv, oM q2 0 tr mc size (pt num k1 k2) ny cg, aN cA (q2 1) 16 sets, aN cA (q2 2) 8 (bt ch), aN cA (q2 3) 8 amts, aN cA (q2 4) 7 bo, aN cA (q2 5) 7 pr, aN cA (q2 6) 4 sh, aN cA (q2 7) 6 wt, aN cA (q2 8) 7 hp, aR cA (q2 9) 4 (tel t), aN cA (q2 10) 201 mo, aN cA (q2 11) 4 pl2, aR cA (q2 12) 5 be, aN cA (q2 13) 4 co2, aN cA (q2 14) 4 nx]) E Z (k_X6_cell l D cA q2 tr mc size num ny cg k1 k2 (by first | assumption | omega) (by first | assumption | omega) (by first | assumption | omega) (by first | assumption | omega) (by first | assumption | omega)) wv_L_34 ⟨rfl, rfl, Nat.le_of_ble_eq_true rfl, Nat.le_of_ble_eq_true rfl⟩ [22] rfl rfl rfl rfl (q0 := 0) rfl (fun _ => rfl) (fun _ => rfl) rfl hl.1 rfl (Nat.le_of_ble_eq_true rfl) dL_law_319 ⟨(Nat.le_of_ble_eq_true rfl), (Nat.le_of_ble_eq_true rfl)⟩ (fun r319 _ H locs hp319 Z => ?_)
    subst hp319
    refine lv_icmp_eq (tgt := 901) hx hb dL_law_322 (by decide) (fun c322 => ?_) (fun c322 => absurd ey9 c322)
    exact N901 _ _ _ _ _ _ _ _ _ _ _ _ _ _ _ _ _ _ _ _ _ _ _ _ _ _ _ _ _ _ _ _ ⟨hm1, hM, hp1, hP, hc2, hs, ha10, pt_lt hnum (by omega) (by omega), ht, hh, hny, hcg, hwt, hb100, hpr, hsh, hmo⟩ _ _ Z _ hl
  · have hC2 := hC
    refine lv_aload_n hx hb dL_law_294 rfl (lv_at hl 1 rfl) ?_
    refine lv_aload_n hx hb dL_law_295 rfl (lv_at hl 0 rfl) ?_
    refine lv_iload_n hx hb dL_law_296 rfl (lv_at hl 3 rfl) ?_
    refine lv_iconst (v := nI 1) hx hb dL_law_297 (by decide) ?_
    refine n_iadd hx hb dL_law_298 ?_
    refine r_sld E Z SC (by omega) hL dL_law_299 ?_
    refine lv_aload_n hx hb dL_law_300 rfl (lv_at hl 0 rfl) ?_
    refine lv_iload_n hx hb dL_law_301 rfl (lv_at hl 3 rfl) ?_
    refine lv_iconst (v := nI 2) hx hb dL_law_302 (by decide) ?_
    refine n_iadd hx hb dL_law_303 ?_
    refine r_sld E Z SC (by omega) hL dL_law_304 ?_
    refine c_Vi (As := [.int (xs (i + 1)), .int (xs (i + 2))]) (rest := []) (w2 := fun _ => [oX q mc bn bl tr, oP (q 1) (q 2) (q 3) size ch, aN cA (q 2) 16 sets, aN cA (q 3) 8 amts, oG (q 4) (q 5) mc num, aN cA (q 5) 4 (mF num mc), oG (q 6) (q 7) tmc tn, aN cA (q 7) 4 tmem, oT (q 8) (q 9) tm t, aN cA (q 9) 7 hp, oR (q 10) (q 11) (q 12), aN cA (q 11) 16 tp, aN cA (q 12) 4 pl, oY (q 13) (q 14) (q 15) (q 16) ny cg, aN cA (q 14) 6 wt, aN cA (q 15) 4 co, aN cA (q 16) 4 nc, aN cA (q 17) 7 bo, aN cA (q 18) 7 pr, aN cA (q 19) 4 sh, aN cA (q 20) 4 sw, aN cA (q 21) 201 sv, oM q2 0 tr mc size num ny cg, aN cA (q2 1) 16 sets, aN cA (q2 2) 8 (bt ch), aN cA (q2 3) 8 amts, aN cA (q2 4) 7 bo, aN cA (q2 5) 7 pr, aN cA (q2 6) 4 sh, aN cA (q2 7) 6 wt, aN cA (q2 8) 7 hp, aR cA (q2 9) 4 (tel t), aN cA (q2 10) 201 mo, aN cA (q2 11) 4 pl2, aR cA (q2 12) 5 be, aN cA (q2 13) 4 co2, aN cA (q2 14) 4 nx]) E Z (k_X5_cell_bad l D cA q mc bn bl tr (xs (i + 1)) (xs (i + 2)) (by first | assumption | omega) (by first | assumption | omega)) wv_L_31 ⟨rfl, rfl, Nat.le_of_ble_eq_true rfl, Nat.le_of_ble_eq_true rfl⟩ [0] rfl rfl rfl rfl (q0 := 0) rfl (fun _ => rfl) (fun _ => rfl) rfl hl.1 rfl (Nat.le_of_ble_eq_true rfl) dL_law_305 ⟨(Nat.le_of_ble_eq_true rfl), (Nat.le_of_ble_eq_true rfl)⟩ (fun r305 _ H locs hp305 Z => ?_)
    subst hp305
    refine lv_topi (fun y9 ey9 => ?_)
    refine lv_aload_n hx hb dL_law_308 rfl (lv_at hl 2 rfl) ?_
    refine lv_aload_n hx hb dL_law_309 rfl (lv_at hl 0 rfl) ?_
    refine lv_iload_n hx hb dL_law_310 rfl (lv_at hl 3 rfl) ?_
    refine lv_iconst (v := nI 1) hx hb dL_law_311 (by decide) ?_
    refine n_iadd hx hb dL_law_312 ?_
    refine r_sld E Z SC (by omega) hL dL_law_313 ?_
    refine lv_aload_n hx hb dL_law_314 rfl (lv_at hl 0 rfl) ?_
    refine lv_iload_n hx hb dL_law_315 rfl (lv_at hl 3 rfl) ?_
    refine lv_iconst (v := nI 2) hx hb dL_law_316 (by decide) ?_
    refine n_iadd hx hb dL_law_317 ?_
    refine r_sld E Z SC (by omega) hL dL_law_318 ?_
    refine c_Vi (As := [.int (xs (i + 1)), .int (xs (i + 2))]) (rest := [.int y9]) (w2 := fun _ => [oX q mc bn bl tr, oP (q 1) (q 2) (q 3) size ch, aN cA (q 2) 16 sets, aN cA (q 3) 8 amts, oG (q 4) (q 5) mc num, aN cA (q 5) 4 (mF num mc), oG (q 6) (q 7) tmc tn, aN cA (q 7) 4 tmem, oT (q 8) (q 9) tm t, aN cA (q 9) 7 hp, oR (q 10) (q 11) (q 12), aN cA (q 11) 16 tp, aN cA (q 12) 4 pl, oY (q 13) (q 14) (q 15) (q 16) ny cg, aN cA (q 14) 6 wt, aN cA (q 15) 4 co, aN cA (q 16) 4 nc, aN cA (q 17) 7 bo, aN cA (q 18) 7 pr, aN cA (q 19) 4 sh, aN cA (q 20) 4 sw, aN cA (q 21) 201 sv, oM q2 0 tr mc size num ny cg, aN cA (q2 1) 16 sets, aN cA (q2 2) 8 (bt ch), aN cA (q2 3) 8 amts, aN cA (q2 4) 7 bo, aN cA (q2 5) 7 pr, aN cA (q2 6) 4 sh, aN cA (q2 7) 6 wt, aN cA (q2 8) 7 hp, aR cA (q2 9) 4 (tel t), aN cA (q2 10) 201 mo, aN cA (q2 11) 4 pl2, aR cA (q2 12) 5 be, aN cA (q2 13) 4 co2, aN cA (q2 14) 4 nx]) E Z (k_X6_cell_bad l D cA q2 tr mc size num ny cg (xs (i + 1)) (xs (i + 2)) (by first | assumption | omega) (by first | assumption | omega)) wv_L_34 ⟨rfl, rfl, Nat.le_of_ble_eq_true rfl, Nat.le_of_ble_eq_true rfl⟩ [22] rfl rfl rfl rfl (q0 := 0) rfl (fun _ => rfl) (fun _ => rfl) rfl hl.1 rfl (Nat.le_of_ble_eq_true rfl) dL_law_319 ⟨(Nat.le_of_ble_eq_true rfl), (Nat.le_of_ble_eq_true rfl)⟩ (fun r319 _ H locs hp319 Z => ?_)
    subst hp319
    refine lv_icmp_eq (tgt := 901) hx hb dL_law_322 (by decide) (fun c322 => ?_) (fun c322 => absurd ey9 c322)
    exact N901 _ _ _ _ _ _ _ _ _ _ _ _ _ _ _ _ _ _ _ _ _ _ _ _ _ _ _ _ _ _ _ _ ⟨hm1, hM, hp1, hP, hc2, hs, ha10, hnum, ht, hh, hny, hcg, hwt, hb100, hpr, hsh, hmo⟩ _ _ Z _ hl
set_option maxHeartbeats 4000000 in
set_option maxRecDepth 100000 in
theorem lc_group {p : Program} {l : Launch} {e : Env} {s : State} {m : MethodId} {below : List Frame} {meth : Method} {c : Code} {D : va_G} {cA : ClassId} {A : Nat → Prop} {b L : Nat} {xs : Nat → Int32} {Q : State → Prop} {q q2 : Nat → Nat} {i : Nat} (E : Ev p s m #[Value.ref b] c cL_law 4 RL D cA A) (hXs : XZ A s s.heap) (SC : va_X b L xs s s.heap ∧ b < s.heap.size ∧ ¬ A b) (hi : i + 5 ≤ L) (hL : L ≤ 2560) (N901 : LN p l e s m below meth c D cA A b Q q q2 i) {mc size ch num ny cg bn bl tmc tn tm : Nat} {sets amts hp wt bo pr sh tmem tp pl co nc sw sv mo pl2 co2 nx : Nat → Nat} {t : TS} {tr : Int64} {be : Nat → Int32} (hI : LInv mc size ch num ny cg sets amts hp wt bo pr sh mo t) {H : Heap} {locs : List Loc} (Z : Wd D A s (LW cA q q2 mc size ch num ny cg bn bl tmc tn tm sets amts hp wt bo pr sh tmem tp pl co nc sw sv mo pl2 co2 nx t tr be) H locs) {ls : Array Slot} (hl : lv_has ls 4 [(0, .ref b), (1, .ref (q 0)), (2, .ref (q2 0)), (3, .int (nI i))]) : W p l e room_1 s m #[Value.ref b] below meth c H locs 37 640 Q (F0 m 327 ls []) := by
  have hx := E.1.1
  have hb := E.1.2.1
  unfold LN LW at N901
  unfold LW at Z
  obtain ⟨hm1, hM, hp1, hP, hc2, hs, ha10, hnum, ht, hh, hny, hcg, hwt, hb100, hpr, hsh, hmo⟩ := hI
  have hch := ch256 hc2 hP
  have h20 := Nat.two_pow_pos mc
  have h202 := Nat.two_pow_pos (2 * mc)
  have h27 : 2 ^ mc ≤ 2 ^ 7 := Nat.pow_le_pow_right (by decide) hM
  have h14 : 2 ^ (2 * mc) ≤ 2 ^ 14 := Nat.pow_le_pow_right (by decide) (by omega)
  by_cases hC : (nI 0 ≤ xs (i + 1) ∧ xs (i + 1) ≤ nI (2 ^ (2 * mc) - 1))
  · obtain ⟨k1, hk10, hk11, ek1⟩ := in_nat (by omega) hC (by decide)
    refine lv_aload_n hx hb dL_law_327 rfl (lv_at hl 1 rfl) ?_
    refine lv_aload_n hx hb dL_law_328 rfl (lv_at hl 0 rfl) ?_
    refine lv_iload_n hx hb dL_law_329 rfl (lv_at hl 3 rfl) ?_
    refine lv_iconst (v := nI 1) hx hb dL_law_330 (by decide) ?_
    refine n_iadd hx hb dL_law_331 ?_
    refine r_sld E Z SC (by omega) hL dL_law_332 ?_
    refine r_top (y := nI k1) ek1 ?_
    refine c_Vi (As := [.int (nI k1)]) (rest := []) (w2 := fun _ => [oX q mc bn bl tr, oP (q 1) (q 2) (q 3) size ch, aN cA (q 2) 16 sets, aN cA (q 3) 8 amts, oG (q 4) (q 5) mc k1, aN cA (q 5) 4 (mF k1 mc), oG (q 6) (q 7) tmc tn, aN cA (q 7) 4 tmem, oT (q 8) (q 9) tm t, aN cA (q 9) 7 hp, oR (q 10) (q 11) (q 12), aN cA (q 11) 16 tp, aN cA (q 12) 4 pl, oY (q 13) (q 14) (q 15) (q 16) ny cg, aN cA (q 14) 6 wt, aN cA (q 15) 4 co, aN cA (q 16) 4 nc, aN cA (q 17) 7 bo, aN cA (q 18) 7 pr, aN cA (q 19) 4 sh, aN cA (q 20) 4 sw, aN cA (q 21) 201 sv, oM q2 0 tr mc size num ny cg, aN cA (q2 1) 16 sets, aN cA (q2 2) 8 (bt ch), aN cA (q2 3) 8 amts, aN cA (q2 4) 7 bo, aN cA (q2 5) 7 pr, aN cA (q2 6) 4 sh, aN cA (q2 7) 6 wt, aN cA (q2 8) 7 hp, aR cA (q2 9) 4 (tel t), aN cA (q2 10) 201 mo, aN cA (q2 11) 4 pl2, aR cA (q2 12) 5 be, aN cA (q2 13) 4 co2, aN cA (q2 14) 4 nx]) E Z (k_X5_group l D cA q mc bn bl tr num k1 (by first | assumption | omega) (by first | assumption | omega)) wv_L_35 ⟨rfl, rfl, Nat.le_of_ble_eq_true rfl, Nat.le_of_ble_eq_true rfl⟩ [0, 4, 5] rfl rfl rfl rfl (q0 := 0) rfl (fun _ => rfl) (fun _ => rfl) rfl hl.1 rfl (Nat.le_of_ble_eq_true rfl) dL_law_333 ⟨(Nat.le_of_ble_eq_true rfl), (Nat.le_of_ble_eq_true rfl)⟩ (fun r333 _ H locs hp333 Z => ?_)
    subst hp333
    refine lv_topi (fun y9 ey9 => ?_)
    refine lv_aload_n hx hb dL_law_336 rfl (lv_at hl 2 rfl) ?_
    refine lv_aload_n hx hb dL_law_337 rfl (lv_at hl 0 rfl) ?_
    refine lv_iload_n hx hb dL_law_338 rfl (lv_at hl 3 rfl) ?_
    refine lv_iconst (v := nI 1) hx hb dL_law_339 (by decide) ?_
    refine n_iadd hx hb dL_law_340 ?_
    refine r_sld E Z SC (by omega) hL dL_law_341 ?_
    refine r_top (y := nI k1) ek1 ?_
    refine c_Vi (As := [.int (nI k1)]) (rest := [.int y9]) (w2 := fun _ => [oX q mc bn bl tr, oP (q 1) (q 2) (q 3) size ch, aN cA (q 2) 16 sets, aN cA (q 3) 8 amts, oG (q 4) (q 5) mc k1, aN cA (q 5) 4 (mF k1 mc), oG (q 6) (q 7) tmc tn, aN cA (q 7) 4 tmem, oT (q 8) (q 9) tm t, aN cA (q 9) 7 hp, oR (q 10) (q 11) (q 12), aN cA (q 11) 16 tp, aN cA (q 12) 4 pl, oY (q 13) (q 14) (q 15) (q 16) ny cg, aN cA (q 14) 6 wt, aN cA (q 15) 4 co, aN cA (q 16) 4 nc, aN cA (q 17) 7 bo, aN cA (q 18) 7 pr, aN cA (q 19) 4 sh, aN cA (q 20) 4 sw, aN cA (q 21) 201 sv, oM q2 0 tr mc size k1 ny cg, aN cA (q2 1) 16 sets, aN cA (q2 2) 8 (bt ch), aN cA (q2 3) 8 amts, aN cA (q2 4) 7 bo, aN cA (q2 5) 7 pr, aN cA (q2 6) 4 sh, aN cA (q2 7) 6 wt, aN cA (q2 8) 7 hp, aR cA (q2 9) 4 (tel t), aN cA (q2 10) 201 mo, aN cA (q2 11) 4 pl2, aR cA (q2 12) 5 be, aN cA (q2 13) 4 co2, aN cA (q2 14) 4 nx]) E Z (k_X6_group l D cA q2 tr mc size num ny cg k1 (by first | assumption | omega) (by first | assumption | omega)) wv_L_39 ⟨rfl, rfl, Nat.le_of_ble_eq_true rfl, Nat.le_of_ble_eq_true rfl⟩ [22] rfl rfl rfl rfl (q0 := 0) rfl (fun _ => rfl) (fun _ => rfl) rfl hl.1 rfl (Nat.le_of_ble_eq_true rfl) dL_law_342 ⟨(Nat.le_of_ble_eq_true rfl), (Nat.le_of_ble_eq_true rfl)⟩ (fun r342 _ H locs hp342 Z => ?_)
    subst hp342
    refine lv_icmp_eq (tgt := 901) hx hb dL_law_345 (by decide) (fun c345 => ?_) (fun c345 => absurd ey9 c345)
    exact N901 _ _ _ _ _ _ _ _ _ _ _ _ _ _ _ _ _ _ _ _ _ _ _ _ _ _ _ _ _ _ _ _ ⟨hm1, hM, hp1, hP, hc2, hs, ha10, (by omega), ht, hh, hny, hcg, hwt, hb100, hpr, hsh, hmo⟩ _ _ Z _ hl
  · have hC2 := hC
    refine lv_aload_n hx hb dL_law_327 rfl (lv_at hl 1 rfl) ?_
    refine lv_aload_n hx hb dL_law_328 rfl (lv_at hl 0 rfl) ?_
    refine lv_iload_n hx hb dL_law_329 rfl (lv_at hl 3 rfl) ?_
    refine lv_iconst (v := nI 1) hx hb dL_law_330 (by decide) ?_
    refine n_iadd hx hb dL_law_331 ?_
    refine r_sld E Z SC (by omega) hL dL_law_332 ?_
    refine c_Vi (As := [.int (xs (i + 1))]) (rest := []) (w2 := fun _ => [oX q mc bn bl tr, oP (q 1) (q 2) (q 3) size ch, aN cA (q 2) 16 sets, aN cA (q 3) 8 amts, oG (q 4) (q 5) mc num, aN cA (q 5) 4 (mF num mc), oG (q 6) (q 7) tmc tn, aN cA (q 7) 4 tmem, oT (q 8) (q 9) tm t, aN cA (q 9) 7 hp, oR (q 10) (q 11) (q 12), aN cA (q 11) 16 tp, aN cA (q 12) 4 pl, oY (q 13) (q 14) (q 15) (q 16) ny cg, aN cA (q 14) 6 wt, aN cA (q 15) 4 co, aN cA (q 16) 4 nc, aN cA (q 17) 7 bo, aN cA (q 18) 7 pr, aN cA (q 19) 4 sh, aN cA (q 20) 4 sw, aN cA (q 21) 201 sv, oM q2 0 tr mc size num ny cg, aN cA (q2 1) 16 sets, aN cA (q2 2) 8 (bt ch), aN cA (q2 3) 8 amts, aN cA (q2 4) 7 bo, aN cA (q2 5) 7 pr, aN cA (q2 6) 4 sh, aN cA (q2 7) 6 wt, aN cA (q2 8) 7 hp, aR cA (q2 9) 4 (tel t), aN cA (q2 10) 201 mo, aN cA (q2 11) 4 pl2, aR cA (q2 12) 5 be, aN cA (q2 13) 4 co2, aN cA (q2 14) 4 nx]) E Z (k_X5_group_bad l D cA q mc bn bl tr (xs (i + 1)) (by first | assumption | omega) (by first | assumption | omega)) wv_L_35 ⟨rfl, rfl, Nat.le_of_ble_eq_true rfl, Nat.le_of_ble_eq_true rfl⟩ [0] rfl rfl rfl rfl (q0 := 0) rfl (fun _ => rfl) (fun _ => rfl) rfl hl.1 rfl (Nat.le_of_ble_eq_true rfl) dL_law_333 ⟨(Nat.le_of_ble_eq_true rfl), (Nat.le_of_ble_eq_true rfl)⟩ (fun r333 _ H locs hp333 Z => ?_)
    subst hp333
    refine lv_topi (fun y9 ey9 => ?_)
    refine lv_aload_n hx hb dL_law_336 rfl (lv_at hl 2 rfl) ?_
    refine lv_aload_n hx hb dL_law_337 rfl (lv_at hl 0 rfl) ?_
    refine lv_iload_n hx hb dL_law_338 rfl (lv_at hl 3 rfl) ?_
    refine lv_iconst (v := nI 1) hx hb dL_law_339 (by decide) ?_
    refine n_iadd hx hb dL_law_340 ?_
    refine r_sld E Z SC (by omega) hL dL_law_341 ?_
    refine c_Vi (As := [.int (xs (i + 1))]) (rest := [.int y9]) (w2 := fun _ => [oX q mc bn bl tr, oP (q 1) (q 2) (q 3) size ch, aN cA (q 2) 16 sets, aN cA (q 3) 8 amts, oG (q 4) (q 5) mc num, aN cA (q 5) 4 (mF num mc), oG (q 6) (q 7) tmc tn, aN cA (q 7) 4 tmem, oT (q 8) (q 9) tm t, aN cA (q 9) 7 hp, oR (q 10) (q 11) (q 12), aN cA (q 11) 16 tp, aN cA (q 12) 4 pl, oY (q 13) (q 14) (q 15) (q 16) ny cg, aN cA (q 14) 6 wt, aN cA (q 15) 4 co, aN cA (q 16) 4 nc, aN cA (q 17) 7 bo, aN cA (q 18) 7 pr, aN cA (q 19) 4 sh, aN cA (q 20) 4 sw, aN cA (q 21) 201 sv, oM q2 0 tr mc size num ny cg, aN cA (q2 1) 16 sets, aN cA (q2 2) 8 (bt ch), aN cA (q2 3) 8 amts, aN cA (q2 4) 7 bo, aN cA (q2 5) 7 pr, aN cA (q2 6) 4 sh, aN cA (q2 7) 6 wt, aN cA (q2 8) 7 hp, aR cA (q2 9) 4 (tel t), aN cA (q2 10) 201 mo, aN cA (q2 11) 4 pl2, aR cA (q2 12) 5 be, aN cA (q2 13) 4 co2, aN cA (q2 14) 4 nx]) E Z (k_X6_group_bad l D cA q2 tr mc size num ny cg (xs (i + 1)) (by first | assumption | omega) (by first | assumption | omega)) wv_L_39 ⟨rfl, rfl, Nat.le_of_ble_eq_true rfl, Nat.le_of_ble_eq_true rfl⟩ [22] rfl rfl rfl rfl (q0 := 0) rfl (fun _ => rfl) (fun _ => rfl) rfl hl.1 rfl (Nat.le_of_ble_eq_true rfl) dL_law_342 ⟨(Nat.le_of_ble_eq_true rfl), (Nat.le_of_ble_eq_true rfl)⟩ (fun r342 _ H locs hp342 Z => ?_)
    subst hp342
    refine lv_icmp_eq (tgt := 901) hx hb dL_law_345 (by decide) (fun c345 => ?_) (fun c345 => absurd ey9 c345)
    exact N901 _ _ _ _ _ _ _ _ _ _ _ _ _ _ _ _ _ _ _ _ _ _ _ _ _ _ _ _ _ _ _ _ ⟨hm1, hM, hp1, hP, hc2, hs, ha10, hnum, ht, hh, hny, hcg, hwt, hb100, hpr, hsh, hmo⟩ _ _ Z _ hl
set_option maxHeartbeats 4000000 in
set_option maxRecDepth 100000 in
theorem lc_about {p : Program} {l : Launch} {e : Env} {s : State} {m : MethodId} {below : List Frame} {meth : Method} {c : Code} {D : va_G} {cA : ClassId} {A : Nat → Prop} {b L : Nat} {xs : Nat → Int32} {Q : State → Prop} {q q2 : Nat → Nat} {i : Nat} (E : Ev p s m #[Value.ref b] c cL_law 4 RL D cA A) (hXs : XZ A s s.heap) (SC : va_X b L xs s s.heap ∧ b < s.heap.size ∧ ¬ A b) (hi : i + 5 ≤ L) (hL : L ≤ 2560) (N901 : LN p l e s m below meth c D cA A b Q q q2 i) {mc size ch num ny cg bn bl tmc tn tm : Nat} {sets amts hp wt bo pr sh tmem tp pl co nc sw sv mo pl2 co2 nx : Nat → Nat} {t : TS} {tr : Int64} {be : Nat → Int32} (hI : LInv mc size ch num ny cg sets amts hp wt bo pr sh mo t) {H : Heap} {locs : List Loc} (Z : Wd D A s (LW cA q q2 mc size ch num ny cg bn bl tmc tn tm sets amts hp wt bo pr sh tmem tp pl co nc sw sv mo pl2 co2 nx t tr be) H locs) {ls : Array Slot} (hl : lv_has ls 4 [(0, .ref b), (1, .ref (q 0)), (2, .ref (q2 0)), (3, .int (nI i))]) : W p l e room_1 s m #[Value.ref b] below meth c H locs 37 640 Q (F0 m 350 ls []) := by
  have hx := E.1.1
  have hb := E.1.2.1
  unfold LN LW at N901
  unfold LW at Z
  obtain ⟨hm1, hM, hp1, hP, hc2, hs, ha10, hnum, ht, hh, hny, hcg, hwt, hb100, hpr, hsh, hmo⟩ := hI
  have hch := ch256 hc2 hP
  have h20 := Nat.two_pow_pos mc
  have h202 := Nat.two_pow_pos (2 * mc)
  have h27 : 2 ^ mc ≤ 2 ^ 7 := Nat.pow_le_pow_right (by decide) hM
  have h14 : 2 ^ (2 * mc) ≤ 2 ^ 14 := Nat.pow_le_pow_right (by decide) (by omega)
  by_cases hC : (nI 0 ≤ xs (i + 1) ∧ xs (i + 1) ≤ nI (size - 1))
  · obtain ⟨k1, hk10, hk11, ek1⟩ := in_nat (by omega) hC (by decide)
    refine lv_aload_n hx hb dL_law_350 rfl (lv_at hl 1 rfl) ?_
    refine lv_aload_n hx hb dL_law_351 rfl (lv_at hl 0 rfl) ?_
    refine lv_iload_n hx hb dL_law_352 rfl (lv_at hl 3 rfl) ?_
    refine lv_iconst (v := nI 1) hx hb dL_law_353 (by decide) ?_
    refine n_iadd hx hb dL_law_354 ?_
    refine r_sld E Z SC (by omega) hL dL_law_355 ?_
    refine r_top (y := nI k1) ek1 ?_
    refine lv_aload_n hx hb dL_law_356 rfl (lv_at hl 0 rfl) ?_
    refine lv_iload_n hx hb dL_law_357 rfl (lv_at hl 3 rfl) ?_
    refine lv_iconst (v := nI 2) hx hb dL_law_358 (by decide) ?_
    refine n_iadd hx hb dL_law_359 ?_
    refine r_sld E Z SC (by omega) hL dL_law_360 ?_
    refine c_Vi (As := [.int (nI k1), .int (xs (i + 2))]) (rest := []) (w2 := fun _ => [oX q mc bn bl tr, oP (q 1) (q 2) (q 3) size ch, aN cA (q 2) 16 sets, aN cA (q 3) 8 amts, oG (q 4) (q 5) mc num, aN cA (q 5) 4 (mF num mc), oG (q 6) (q 7) tmc tn, aN cA (q 7) 4 tmem, oT (q 8) (q 9) tm t, aN cA (q 9) 7 hp, oR (q 10) (q 11) (q 12), aN cA (q 11) 16 tp, aN cA (q 12) 4 pl, oY (q 13) (q 14) (q 15) (q 16) ny cg, aN cA (q 14) 6 wt, aN cA (q 15) 4 co, aN cA (q 16) 4 nc, aN cA (q 17) 7 bo, aN cA (q 18) 7 pr, aN cA (q 19) 4 sh, aN cA (q 20) 4 sw, aN cA (q 21) 201 sv, oM q2 0 tr mc size num ny cg, aN cA (q2 1) 16 sets, aN cA (q2 2) 8 (bt ch), aN cA (q2 3) 8 amts, aN cA (q2 4) 7 bo, aN cA (q2 5) 7 pr, aN cA (q2 6) 4 sh, aN cA (q2 7) 6 wt, aN cA (q2 8) 7 hp, aR cA (q2 9) 4 (tel t), aN cA (q2 10) 201 mo, aN cA (q2 11) 4 pl2, aR cA (q2 12) 5 be, aN cA (q2 13) 4 co2, aN cA (q2 14) 4 nx]) E Z (k_X5_about l D cA q mc bn bl tr size ch sets amts num k1 (xs (i + 2)) (by first | assumption | omega) (by first | assumption | omega) (by first | assumption | omega) (by first | assumption | omega) (by first | assumption | omega) (by first | assumption | omega)) wv_L_40 ⟨rfl, rfl, Nat.le_of_ble_eq_true rfl, Nat.le_of_ble_eq_true rfl⟩ [0, 1, 2, 3, 4, 5] rfl rfl rfl rfl (q0 := 0) rfl (fun _ => rfl) (fun _ => rfl) rfl hl.1 rfl (Nat.le_of_ble_eq_true rfl) dL_law_361 ⟨(Nat.le_of_ble_eq_true rfl), (Nat.le_of_ble_eq_true rfl)⟩ (fun r361 _ H locs hp361 Z => ?_)
    subst hp361
    refine lv_topi (fun y9 ey9 => ?_)
    refine lv_aload_n hx hb dL_law_364 rfl (lv_at hl 2 rfl) ?_
    refine lv_aload_n hx hb dL_law_365 rfl (lv_at hl 0 rfl) ?_
    refine lv_iload_n hx hb dL_law_366 rfl (lv_at hl 3 rfl) ?_
    refine lv_iconst (v := nI 1) hx hb dL_law_367 (by decide) ?_
    refine n_iadd hx hb dL_law_368 ?_
    refine r_sld E Z SC (by omega) hL dL_law_369 ?_
    refine r_top (y := nI k1) ek1 ?_
    refine lv_aload_n hx hb dL_law_370 rfl (lv_at hl 0 rfl) ?_
    refine lv_iload_n hx hb dL_law_371 rfl (lv_at hl 3 rfl) ?_
    refine lv_iconst (v := nI 2) hx hb dL_law_372 (by decide) ?_
    refine n_iadd hx hb dL_law_373 ?_
    refine r_sld E Z SC (by omega) hL dL_law_374 ?_
    refine c_Vi (As := [.int (nI k1), .int (xs (i + 2))]) (rest := [.int y9]) (w2 := fun _ => [oX q mc bn bl tr, oP (q 1) (q 2) (q 3) size ch, aN cA (q 2) 16 sets, aN cA (q 3) 8 amts, oG (q 4) (q 5) mc num, aN cA (q 5) 4 (mF num mc), oG (q 6) (q 7) tmc tn, aN cA (q 7) 4 tmem, oT (q 8) (q 9) tm t, aN cA (q 9) 7 hp, oR (q 10) (q 11) (q 12), aN cA (q 11) 16 tp, aN cA (q 12) 4 pl, oY (q 13) (q 14) (q 15) (q 16) ny cg, aN cA (q 14) 6 wt, aN cA (q 15) 4 co, aN cA (q 16) 4 nc, aN cA (q 17) 7 bo, aN cA (q 18) 7 pr, aN cA (q 19) 4 sh, aN cA (q 20) 4 sw, aN cA (q 21) 201 sv, oM q2 0 tr mc size num ny cg, aN cA (q2 1) 16 sets, aN cA (q2 2) 8 (bt ch), aN cA (q2 3) 8 amts, aN cA (q2 4) 7 bo, aN cA (q2 5) 7 pr, aN cA (q2 6) 4 sh, aN cA (q2 7) 6 wt, aN cA (q2 8) 7 hp, aR cA (q2 9) 4 (tel t), aN cA (q2 10) 201 mo, aN cA (q2 11) 4 pl2, aR cA (q2 12) 5 be, aN cA (q2 13) 4 co2, aN cA (q2 14) 4 nx]) E Z (k_X6_about l D cA q2 tr mc size num ny cg sets ch amts k1 (xs (i + 2)) (by first | assumption | omega) (by first | assumption | omega) (by first | assumption | omega) (by first | assumption | omega) (by first | assumption | omega) (by first | assumption | omega)) wv_L_43 ⟨rfl, rfl, Nat.le_of_ble_eq_true rfl, Nat.le_of_ble_eq_true rfl⟩ [22, 23, 24, 25] rfl rfl rfl rfl (q0 := 0) rfl (fun _ => rfl) (fun _ => rfl) rfl hl.1 rfl (Nat.le_of_ble_eq_true rfl) dL_law_375 ⟨(Nat.le_of_ble_eq_true rfl), (Nat.le_of_ble_eq_true rfl)⟩ (fun r375 _ H locs hp375 Z => ?_)
    subst hp375
    refine lv_icmp_eq (tgt := 901) hx hb dL_law_378 (by decide) (fun c378 => ?_) (fun c378 => absurd ey9 c378)
    exact N901 _ _ _ _ _ _ _ _ _ _ _ _ _ _ _ _ _ _ _ _ _ _ _ _ _ _ _ _ _ _ _ _ ⟨hm1, hM, hp1, hP, hc2, hs, ha10, hnum, ht, hh, hny, hcg, hwt, hb100, hpr, hsh, hmo⟩ _ _ Z _ hl
  · have hC2 := hC
    refine lv_aload_n hx hb dL_law_350 rfl (lv_at hl 1 rfl) ?_
    refine lv_aload_n hx hb dL_law_351 rfl (lv_at hl 0 rfl) ?_
    refine lv_iload_n hx hb dL_law_352 rfl (lv_at hl 3 rfl) ?_
    refine lv_iconst (v := nI 1) hx hb dL_law_353 (by decide) ?_
    refine n_iadd hx hb dL_law_354 ?_
    refine r_sld E Z SC (by omega) hL dL_law_355 ?_
    refine lv_aload_n hx hb dL_law_356 rfl (lv_at hl 0 rfl) ?_
    refine lv_iload_n hx hb dL_law_357 rfl (lv_at hl 3 rfl) ?_
    refine lv_iconst (v := nI 2) hx hb dL_law_358 (by decide) ?_
    refine n_iadd hx hb dL_law_359 ?_
    refine r_sld E Z SC (by omega) hL dL_law_360 ?_
    refine c_Vi (As := [.int (xs (i + 1)), .int (xs (i + 2))]) (rest := []) (w2 := fun _ => [oX q mc bn bl tr, oP (q 1) (q 2) (q 3) size ch, aN cA (q 2) 16 sets, aN cA (q 3) 8 amts, oG (q 4) (q 5) mc num, aN cA (q 5) 4 (mF num mc), oG (q 6) (q 7) tmc tn, aN cA (q 7) 4 tmem, oT (q 8) (q 9) tm t, aN cA (q 9) 7 hp, oR (q 10) (q 11) (q 12), aN cA (q 11) 16 tp, aN cA (q 12) 4 pl, oY (q 13) (q 14) (q 15) (q 16) ny cg, aN cA (q 14) 6 wt, aN cA (q 15) 4 co, aN cA (q 16) 4 nc, aN cA (q 17) 7 bo, aN cA (q 18) 7 pr, aN cA (q 19) 4 sh, aN cA (q 20) 4 sw, aN cA (q 21) 201 sv, oM q2 0 tr mc size num ny cg, aN cA (q2 1) 16 sets, aN cA (q2 2) 8 (bt ch), aN cA (q2 3) 8 amts, aN cA (q2 4) 7 bo, aN cA (q2 5) 7 pr, aN cA (q2 6) 4 sh, aN cA (q2 7) 6 wt, aN cA (q2 8) 7 hp, aR cA (q2 9) 4 (tel t), aN cA (q2 10) 201 mo, aN cA (q2 11) 4 pl2, aR cA (q2 12) 5 be, aN cA (q2 13) 4 co2, aN cA (q2 14) 4 nx]) E Z (k_X5_about_bad l D cA q mc bn bl tr size ch (xs (i + 1)) (xs (i + 2)) (by first | assumption | omega) (by first | assumption | omega)) wv_L_40 ⟨rfl, rfl, Nat.le_of_ble_eq_true rfl, Nat.le_of_ble_eq_true rfl⟩ [0, 1] rfl rfl rfl rfl (q0 := 0) rfl (fun _ => rfl) (fun _ => rfl) rfl hl.1 rfl (Nat.le_of_ble_eq_true rfl) dL_law_361 ⟨(Nat.le_of_ble_eq_true rfl), (Nat.le_of_ble_eq_true rfl)⟩ (fun r361 _ H locs hp361 Z => ?_)
    subst hp361
    refine lv_topi (fun y9 ey9 => ?_)
    refine lv_aload_n hx hb dL_law_364 rfl (lv_at hl 2 rfl) ?_
    refine lv_aload_n hx hb dL_law_365 rfl (lv_at hl 0 rfl) ?_
    refine lv_iload_n hx hb dL_law_366 rfl (lv_at hl 3 rfl) ?_
    refine lv_iconst (v := nI 1) hx hb dL_law_367 (by decide) ?_
    refine n_iadd hx hb dL_law_368 ?_
    refine r_sld E Z SC (by omega) hL dL_law_369 ?_
    refine lv_aload_n hx hb dL_law_370 rfl (lv_at hl 0 rfl) ?_
    refine lv_iload_n hx hb dL_law_371 rfl (lv_at hl 3 rfl) ?_
    refine lv_iconst (v := nI 2) hx hb dL_law_372 (by decide) ?_
    refine n_iadd hx hb dL_law_373 ?_
    refine r_sld E Z SC (by omega) hL dL_law_374 ?_
    refine c_Vi (As := [.int (xs (i + 1)), .int (xs (i + 2))]) (rest := [.int y9]) (w2 := fun _ => [oX q mc bn bl tr, oP (q 1) (q 2) (q 3) size ch, aN cA (q 2) 16 sets, aN cA (q 3) 8 amts, oG (q 4) (q 5) mc num, aN cA (q 5) 4 (mF num mc), oG (q 6) (q 7) tmc tn, aN cA (q 7) 4 tmem, oT (q 8) (q 9) tm t, aN cA (q 9) 7 hp, oR (q 10) (q 11) (q 12), aN cA (q 11) 16 tp, aN cA (q 12) 4 pl, oY (q 13) (q 14) (q 15) (q 16) ny cg, aN cA (q 14) 6 wt, aN cA (q 15) 4 co, aN cA (q 16) 4 nc, aN cA (q 17) 7 bo, aN cA (q 18) 7 pr, aN cA (q 19) 4 sh, aN cA (q 20) 4 sw, aN cA (q 21) 201 sv, oM q2 0 tr mc size num ny cg, aN cA (q2 1) 16 sets, aN cA (q2 2) 8 (bt ch), aN cA (q2 3) 8 amts, aN cA (q2 4) 7 bo, aN cA (q2 5) 7 pr, aN cA (q2 6) 4 sh, aN cA (q2 7) 6 wt, aN cA (q2 8) 7 hp, aR cA (q2 9) 4 (tel t), aN cA (q2 10) 201 mo, aN cA (q2 11) 4 pl2, aR cA (q2 12) 5 be, aN cA (q2 13) 4 co2, aN cA (q2 14) 4 nx]) E Z (k_X6_about_bad l D cA q2 tr mc size num ny cg (xs (i + 1)) (xs (i + 2)) (by first | assumption | omega) (by first | assumption | omega)) wv_L_43 ⟨rfl, rfl, Nat.le_of_ble_eq_true rfl, Nat.le_of_ble_eq_true rfl⟩ [22] rfl rfl rfl rfl (q0 := 0) rfl (fun _ => rfl) (fun _ => rfl) rfl hl.1 rfl (Nat.le_of_ble_eq_true rfl) dL_law_375 ⟨(Nat.le_of_ble_eq_true rfl), (Nat.le_of_ble_eq_true rfl)⟩ (fun r375 _ H locs hp375 Z => ?_)
    subst hp375
    refine lv_icmp_eq (tgt := 901) hx hb dL_law_378 (by decide) (fun c378 => ?_) (fun c378 => absurd ey9 c378)
    exact N901 _ _ _ _ _ _ _ _ _ _ _ _ _ _ _ _ _ _ _ _ _ _ _ _ _ _ _ _ _ _ _ _ ⟨hm1, hM, hp1, hP, hc2, hs, ha10, hnum, ht, hh, hny, hcg, hwt, hb100, hpr, hsh, hmo⟩ _ _ Z _ hl

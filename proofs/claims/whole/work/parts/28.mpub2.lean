abbrev rm_k_X6_routes_bad : Room := { frames := 1, cells := 0, slots := 0, locals := 22 }
set_option maxHeartbeats 4000000 in
set_option maxRecDepth 100000 in
theorem k_X6_routes_bad (l : Launch) (D : va_G) (cA : ClassId) (q : Nat → Nat) (tr : Int64) (mc : Nat) (pp : Nat) (num : Nat) (yn : Nat) (cg : Nat) (x1 : Int32) (hbad : ¬ ((nI 0 ≤ x1 ∧ x1 ≤ nI 1))) : Cti l yX6_routes cX6_routes 8 (some .int) rm_k_X6_routes_bad D cA [.ref (q 0), .int x1] ([oM q 0 tr mc pp num yn cg]) (fun (r : Int32) (_ : Unit) => r = (-1)) (fun _ => [oM q 0 tr mc pp num yn cg]) := by
  refine st_i (by decide) (Nat.le_of_ble_eq_true rfl) ?_
  intro p e s m args below meth c A Q E ret Z ls hl
  have hx := E.1.1
  have hb := E.1.2.1
  have hl : lv_has ls 8 [(0, .ref (q 0)), (1, .int x1)] := hl
  refine lv_aload_n hx hb dX6_routes_0 rfl (lv_at hl 0 rfl) ?_
  refine lv_iconst (v := nI 0) hx hb dX6_routes_1 (by decide) ?_
  refine pF_X6_66 (w1 := [oM q 0 tr mc pp num yn cg]) E Z dX6_routes_2 0 rfl (Nat.le_of_ble_eq_true rfl) rfl (fun H locs Z => ?_)
  refine lv_iload_n hx hb dX6_routes_5 rfl (lv_at hl 1 rfl) ?_
  refine lv_iconst (v := nI 0) hx hb dX6_routes_6 (by decide) ?_
  refine lv_iconst (v := nI 1) hx hb dX6_routes_7 (by decide) ?_
  refine c_Si (As := [.int x1, .int (nI 0), .int (nI 1)]) (rest := []) (w2 := fun _ => [oM q 0 tr mc pp num yn cg]) E Z (k_X6_in l D cA x1 (nI 0) (nI 1) ) ws_X6_72 ⟨rfl, rfl, Nat.le_of_ble_eq_true rfl, Nat.le_of_ble_eq_true rfl⟩ [] rfl rfl (fun _ => rfl) (fun _ => rfl) rfl hl.1 rfl (Nat.le_of_ble_eq_true rfl) dX6_routes_8 ⟨Nat.zero_le _, Nat.zero_le _⟩ (fun r8 _ H locs hp8 Z => ?_)
  subst hp8
  refine b_if_ne (tgt := 16) hx hb dX6_routes_11 (by decide) (fun c11 => ?_) (fun c11 => ?_)
  · exact absurd c11 hbad
  · refine lv_iconst (v := (-1)) hx hb dX6_routes_14 (by decide) ?_
    exact ret () Z dX6_routes_15 rfl rfl
abbrev rm_k_X6_routes : Room := { frames := 4, cells := 0, slots := 0, locals := 95 }
set_option maxHeartbeats 4000000 in
set_option maxRecDepth 100000 in
theorem k_X6_routes (l : Launch) (D : va_G) (cA : ClassId) (q : Nat → Nat) (tr : Int64) (mc : Nat) (pp : Nat) (num : Nat) (yn : Nat) (cg : Nat) (sets : Nat → Nat) (amts : Nat → Nat) (bo : Nat → Nat) (wh : Nat) (hP : pp ≤ 8) (hs : ∀ j, sets j < 2 ^ mc) (hM : mc ≤ 7) (hnum : num < 2 ^ (2 * mc)) (ha10 : ∀ j, amts j < 10) (hb100 : ∀ j, bo j < 100) (hw : wh < 2) : Cti l yX6_routes cX6_routes 8 (some .int) rm_k_X6_routes D cA [.ref (q 0), .int (nI wh)] ([oM q 0 tr mc pp num yn cg, aN cA (q 1) 16 sets, aN cA (q 3) 8 amts, aN cA (q 4) 7 bo]) (fun (r : Int32) (_ : Unit) => r = (aRoutM mc num pp sets amts bo wh)) (fun _ => [oM q 0 tr mc pp num yn cg, aN cA (q 1) 16 sets, aN cA (q 3) 8 amts, aN cA (q 4) 7 bo]) := by
  refine st_i (by decide) (Nat.le_of_ble_eq_true rfl) ?_
  intro p e s m args below meth c A Q E ret Z ls hl
  have hx := E.1.1
  have hb := E.1.2.1
  have hl : lv_has ls 8 [(0, .ref (q 0)), (1, .int (nI wh))] := hl
  have h14 : 2 ^ (2 * mc) ≤ 2 ^ 14 := Nat.pow_le_pow_right (by decide) (by omega)
  have hs7 := hs7_of hs hM
  have h8 : 2 ^ pp ≤ 2 ^ 8 := Nat.pow_le_pow_right (by decide) hP
  obtain ⟨E2, hE⟩ : ∃ x, x = 2 ^ pp := ⟨_, rfl⟩
  rw [← hE] at h8
  refine lv_aload_n hx hb dX6_routes_0 rfl (lv_at hl 0 rfl) ?_
  refine lv_iconst (v := nI 0) hx hb dX6_routes_1 (by decide) ?_
  refine pF_X6_66 (w1 := [oM q 0 tr mc pp num yn cg, aN cA (q 1) 16 sets, aN cA (q 3) 8 amts, aN cA (q 4) 7 bo]) E Z dX6_routes_2 0 rfl (Nat.le_of_ble_eq_true rfl) rfl (fun H locs Z => ?_)
  refine lv_iload_n hx hb dX6_routes_5 rfl (lv_at hl 1 rfl) ?_
  refine lv_iconst (v := nI 0) hx hb dX6_routes_6 (by decide) ?_
  refine lv_iconst (v := nI 1) hx hb dX6_routes_7 (by decide) ?_
  refine c_Si (As := [.int (nI wh), .int (nI 0), .int (nI 1)]) (rest := []) (w2 := fun _ => [oM q 0 tr mc pp num yn cg, aN cA (q 1) 16 sets, aN cA (q 3) 8 amts, aN cA (q 4) 7 bo]) E Z (k_X6_in l D cA (nI wh) (nI 0) (nI 1) ) ws_X6_72 ⟨rfl, rfl, Nat.le_of_ble_eq_true rfl, Nat.le_of_ble_eq_true rfl⟩ [] rfl rfl (fun _ => rfl) (fun _ => rfl) rfl hl.1 rfl (Nat.le_of_ble_eq_true rfl) dX6_routes_8 ⟨Nat.zero_le _, Nat.zero_le _⟩ (fun r8 _ H locs hp8 Z => ?_)
  subst hp8
  refine b_if_ne (tgt := 16) hx hb dX6_routes_11 (by decide) (fun c11 => ?_) (fun c11 => ?_)
  · refine lv_bipush (v := (-9)) hx hb dX6_routes_16 (by decide) ?_
    refine lv_istore_n (lv' := [(2, .int (-9)), (0, .ref (q 0)), (1, .int (nI wh))]) hx hb dX6_routes_18 rfl hl (by decide) rfl (fun ls hl => ?_)
    refine lv_iconst (v := nI 0) hx hb dX6_routes_19 (by decide) ?_
    refine lv_istore_n (lv' := [(3, .int (nI 0)), (2, .int (-9)), (0, .ref (q 0)), (1, .int (nI wh))]) hx hb dX6_routes_20 rfl hl (by decide) rfl (fun ls hl => ?_)
    refine lv_iconst (v := nI 0) hx hb dX6_routes_21 (by decide) ?_
    refine lv_istore (lv' := [(4, .int (nI 0)), (3, .int (nI 0)), (2, .int (-9)), (0, .ref (q 0)), (1, .int (nI wh))]) hx hb dX6_routes_22 hl (by decide) rfl (fun ls hl => ?_)
    have L24 : ∀ (n24 b : Nat), E2 + 1 ≤ b + n24 → b ≤ E2 → ∀ (H : Heap) (locs : List Loc), Wd D A s ([oM q 0 tr mc pp num yn cg, aN cA (q 1) 16 sets, aN cA (q 3) 8 amts, aN cA (q 4) 7 bo]) H locs → ∀ (ls : Array Slot), lv_has ls 8 [(0, .ref (q 0)), (1, .int (nI wh)), (2, .int ((rmm mc num pp sets amts bo b).1)), (3, .int (nI ((rmm mc num pp sets amts bo b).2))), (4, .int (nI b))] → W p l e rm_k_X6_routes s m args below meth c H locs 0 0 Q (F0 m 24 ls []) := by
      intro n24
      induction n24 with
      | zero => exact fun b h1 h2 => absurd h1 (by omega)
      | succ n24 ih24 =>
        intro b hn24 hi24  H locs Z ls hl
        refine lv_iload hx hb dX6_routes_24 (lv_at hl 4 rfl) ?_
        refine lv_iconst (v := nI 1) hx hb dX6_routes_26 (by decide) ?_
        refine lv_aload_n hx hb dX6_routes_27 rfl (lv_at hl 0 rfl) ?_
        refine gF_X6_13 E Z dX6_routes_28 0 rfl rfl ?_
        refine n_ishl1 hx hb dX6_routes_31 (by omega) ?_
        refine r_top (y := nI E2) (congrArg nI hE.symm) ?_
        refine n_icmp_ge (tgt := 177) hx hb dX6_routes_32 (by decide) (by omega) (by omega) (fun c32 => ?_) (fun c32 => ?_)
        · obtain rfl : E2 = b := by omega
          refine lv_iload_n hx hb dX6_routes_177 rfl (lv_at hl 2 rfl) ?_
          refine lv_bipush (v := (-9)) hx hb dX6_routes_178 (by decide) ?_
          refine lv_icmp_ne (tgt := 188) hx hb dX6_routes_180 (by decide) (fun c180 => ?_) (fun c180 => ?_)
          · refine lv_iload_n hx hb dX6_routes_188 rfl (lv_at hl 1 rfl) ?_
            refine n_if_ne (tgt := 196) hx hb dX6_routes_189 (by decide) (by omega) (fun c189 => ?_) (fun c189 => ?_)
            · refine lv_iload_n hx hb dX6_routes_196 rfl (lv_at hl 3 rfl) ?_
              exact ret () Z dX6_routes_197 rfl (by unfold aRoutM; rw [← hE]; exact ((cnd_f c180).trans (if_neg c189)).symm)
            · refine lv_iload_n hx hb dX6_routes_192 rfl (lv_at hl 2 rfl) ?_
              refine lv_goto (tgt := 197) hx hb dX6_routes_193 (by decide) ?_
              exact ret () Z dX6_routes_197 rfl (by unfold aRoutM; rw [← hE]; exact ((cnd_f c180).trans (if_pos c189)).symm)
          · refine lv_bipush (v := (-2)) hx hb dX6_routes_183 (by decide) ?_
            refine lv_goto (tgt := 197) hx hb dX6_routes_185 (by decide) ?_
            exact ret () Z dX6_routes_197 rfl (by unfold aRoutM; rw [← hE]; exact (cnd_t c180).symm)
        · refine lv_iconst (v := nI 1) hx hb dX6_routes_35 (by decide) ?_
          refine r_top (y := bI (∀ j, j < 0 → sm (ldp sets amts b j) pp ≤ bo j)) (nI_one.trans (bI_t all_0).symm) ?_
          refine lv_istore (lv' := [(5, .int (bI (∀ j, j < 0 → sm (ldp sets amts b j) pp ≤ bo j))), (0, .ref (q 0)), (1, .int (nI wh)), (2, .int ((rmm mc num pp sets amts bo b).1)), (3, .int (nI ((rmm mc num pp sets amts bo b).2))), (4, .int (nI b))]) hx hb dX6_routes_36 hl (by decide) rfl (fun ls hl => ?_)
          refine lv_iconst (v := nI 0) hx hb dX6_routes_38 (by decide) ?_
          refine lv_istore (lv' := [(6, .int (nI 0)), (5, .int (bI (∀ j, j < 0 → sm (ldp sets amts b j) pp ≤ bo j))), (0, .ref (q 0)), (1, .int (nI wh)), (2, .int ((rmm mc num pp sets amts bo b).1)), (3, .int (nI ((rmm mc num pp sets amts bo b).2))), (4, .int (nI b))]) hx hb dX6_routes_39 hl (by decide) rfl (fun ls hl => ?_)
          have L41 : ∀ (n41 i : Nat), mc + 1 ≤ i + n41 → i ≤ mc → ∀ (H : Heap) (locs : List Loc), Wd D A s ([oM q 0 tr mc pp num yn cg, aN cA (q 1) 16 sets, aN cA (q 3) 8 amts, aN cA (q 4) 7 bo]) H locs → ∀ (ls : Array Slot), lv_has ls 8 [(0, .ref (q 0)), (1, .int (nI wh)), (2, .int ((rmm mc num pp sets amts bo b).1)), (3, .int (nI ((rmm mc num pp sets amts bo b).2))), (4, .int (nI b)), (5, .int (bI (∀ j, j < i → sm (ldp sets amts b j) pp ≤ bo j))), (6, .int (nI i))] → W p l e rm_k_X6_routes s m args below meth c H locs 0 0 Q (F0 m 41 ls []) := by
            intro n41
            induction n41 with
            | zero => exact fun i h1 h2 => absurd h1 (by omega)
            | succ n41 ih41 =>
              intro i hn41 hi41  H locs Z ls hl
              refine lv_iload hx hb dX6_routes_41 (lv_at hl 6 rfl) ?_
              refine lv_aload_n hx hb dX6_routes_43 rfl (lv_at hl 0 rfl) ?_
              refine gF_X6_7 E Z dX6_routes_44 0 rfl rfl ?_
              refine n_icmp_ge (tgt := 84) hx hb dX6_routes_47 (by decide) (by omega) (by omega) (fun c47 => ?_) (fun c47 => ?_)
              · obtain rfl : mc = i := by omega
                replace hl : lv_has ls 8 [(0, .ref (q 0)), (1, .int (nI wh)), (2, .int ((rmm mc num pp sets amts bo b).1)), (3, .int (nI ((rmm mc num pp sets amts bo b).2))), (4, .int (nI b)), (5, .int (bI (right mc pp sets amts bo b))), (6, .int (nI mc))] := hl
                refine lv_iconst (v := nI 0) hx hb dX6_routes_84 (by decide) ?_
                refine lv_istore (lv' := [(6, .int (nI 0)), (0, .ref (q 0)), (1, .int (nI wh)), (2, .int ((rmm mc num pp sets amts bo b).1)), (3, .int (nI ((rmm mc num pp sets amts bo b).2))), (4, .int (nI b)), (5, .int (bI (right mc pp sets amts bo b)))]) hx hb dX6_routes_85 hl (by decide) rfl (fun ls hl => ?_)
                refine lv_iconst (v := nI 0) hx hb dX6_routes_87 (by decide) ?_
                refine lv_istore (lv' := [(7, .int (nI 0)), (6, .int (nI 0)), (0, .ref (q 0)), (1, .int (nI wh)), (2, .int ((rmm mc num pp sets amts bo b).1)), (3, .int (nI ((rmm mc num pp sets amts bo b).2))), (4, .int (nI b)), (5, .int (bI (right mc pp sets amts bo b)))]) hx hb dX6_routes_88 hl (by decide) rfl (fun ls hl => ?_)
                have L90 : ∀ (n90 k : Nat), pp + 1 ≤ k + n90 → k ≤ pp → ∀ (H : Heap) (locs : List Loc), Wd D A s ([oM q 0 tr mc pp num yn cg, aN cA (q 1) 16 sets, aN cA (q 3) 8 amts, aN cA (q 4) 7 bo]) H locs → ∀ (ls : Array Slot), lv_has ls 8 [(0, .ref (q 0)), (1, .int (nI wh)), (2, .int ((rmm mc num pp sets amts bo b).1)), (3, .int (nI ((rmm mc num pp sets amts bo b).2))), (4, .int (nI b)), (5, .int (bI (right mc pp sets amts bo b))), (6, .int (nI (sm (wdm mc num sets amts b) k))), (7, .int (nI k))] → W p l e rm_k_X6_routes s m args below meth c H locs 0 0 Q (F0 m 90 ls []) := by
                  intro n90
                  induction n90 with
                  | zero => exact fun k h1 h2 => absurd h1 (by omega)
                  | succ n90 ih90 =>
                    intro k hn90 hi90  H locs Z ls hl
                    refine lv_iload hx hb dX6_routes_90 (lv_at hl 7 rfl) ?_
                    refine lv_aload_n hx hb dX6_routes_92 rfl (lv_at hl 0 rfl) ?_
                    refine gF_X6_13 E Z dX6_routes_93 0 rfl rfl ?_
                    refine n_icmp_ge (tgt := 148) hx hb dX6_routes_96 (by decide) (by omega) (by omega) (fun c96 => ?_) (fun c96 => ?_)
                    · obtain rfl : pp = k := by omega
                      refine lv_iload hx hb dX6_routes_148 (lv_at hl 5 rfl) ?_
                      refine b_if_eq (tgt := 171) hx hb dX6_routes_150 (by decide) (fun c150 => ?_) (fun c150 => ?_)
                      · replace hl : lv_has ls 8 [(0, .ref (q 0)), (1, .int (nI wh)), (2, .int ((rmm mc num pp sets amts bo (b + 1)).1)), (3, .int (nI ((rmm mc num pp sets amts bo b).2))), (4, .int (nI b)), (5, .int (bI (right mc pp sets amts bo b))), (6, .int (nI (sm (wdm mc num sets amts b) pp))), (7, .int (nI pp))] := by have e9 : rmm mc num pp sets amts bo (b + 1) = rmm mc num pp sets amts bo b := cnd_f (fun h => c150 h.1); rw [e9]; exact hl
                        replace hl : lv_has ls 8 [(0, .ref (q 0)), (1, .int (nI wh)), (2, .int ((rmm mc num pp sets amts bo (b + 1)).1)), (3, .int (nI ((rmm mc num pp sets amts bo (b + 1)).2))), (4, .int (nI b)), (5, .int (bI (right mc pp sets amts bo b))), (6, .int (nI (sm (wdm mc num sets amts b) pp))), (7, .int (nI pp))] := by have e9 : rmm mc num pp sets amts bo (b + 1) = rmm mc num pp sets amts bo b := cnd_f (fun h => c150 h.1); rw [e9]; rw [e9] at hl; exact hl
                        refine lv_iinc (v := nI (b + 1)) (lv' := [(4, .int (nI (b + 1))), (0, .ref (q 0)), (1, .int (nI wh)), (2, .int ((rmm mc num pp sets amts bo (b + 1)).1)), (3, .int (nI ((rmm mc num pp sets amts bo (b + 1)).2))), (5, .int (bI (right mc pp sets amts bo b))), (6, .int (nI (sm (wdm mc num sets amts b) pp))), (7, .int (nI pp))]) hx hb dX6_routes_171 hl (k := 4) rfl (n_inc _ _ (by decide)) (by decide) rfl (fun ls hl => ?_)
                        refine lv_goto (tgt := 24) hx hb dX6_routes_174 (by decide) ?_
                        exact ih24 (b + 1) (by omega) (by omega)   _ _ Z ls (lv_sub hl [1, 2, 3, 4, 0] rfl)
                      · refine lv_iload_n hx hb dX6_routes_153 rfl (lv_at hl 2 rfl) ?_
                        refine lv_bipush (v := (-9)) hx hb dX6_routes_154 (by decide) ?_
                        refine lv_icmp_eq (tgt := 165) hx hb dX6_routes_156 (by decide) (fun c156 => ?_) (fun c156 => ?_)
                        · refine lv_iload hx hb dX6_routes_165 (lv_at hl 4 rfl) ?_
                          refine lv_istore_n (lv' := [(2, .int (nI b)), (0, .ref (q 0)), (1, .int (nI wh)), (3, .int (nI ((rmm mc num pp sets amts bo b).2))), (4, .int (nI b)), (5, .int (bI (right mc pp sets amts bo b))), (6, .int (nI (sm (wdm mc num sets amts b) pp))), (7, .int (nI pp))]) hx hb dX6_routes_167 rfl hl (by decide) rfl (fun ls hl => ?_)
                          refine lv_iload hx hb dX6_routes_168 (lv_at hl 6 rfl) ?_
                          refine lv_istore_n (lv' := [(3, .int (nI (sm (wdm mc num sets amts b) pp))), (2, .int (nI b)), (0, .ref (q 0)), (1, .int (nI wh)), (4, .int (nI b)), (5, .int (bI (right mc pp sets amts bo b))), (6, .int (nI (sm (wdm mc num sets amts b) pp))), (7, .int (nI pp))]) hx hb dX6_routes_170 rfl hl (by decide) rfl (fun ls hl => ?_)
                          replace hl : lv_has ls 8 [(3, .int (nI (sm (wdm mc num sets amts b) pp))), (2, .int ((rmm mc num pp sets amts bo (b + 1)).1)), (0, .ref (q 0)), (1, .int (nI wh)), (4, .int (nI b)), (5, .int (bI (right mc pp sets amts bo b))), (6, .int (nI (sm (wdm mc num sets amts b) pp))), (7, .int (nI pp))] := by have e9 : rmm mc num pp sets amts bo (b + 1) = (nI b, sm (fun z => wn mc num (setB sets b z) * amts z) pp) := cnd_t ⟨c150, Or.inl c156⟩; rw [e9]; exact hl
                          replace hl : lv_has ls 8 [(3, .int (nI ((rmm mc num pp sets amts bo (b + 1)).2))), (2, .int ((rmm mc num pp sets amts bo (b + 1)).1)), (0, .ref (q 0)), (1, .int (nI wh)), (4, .int (nI b)), (5, .int (bI (right mc pp sets amts bo b))), (6, .int (nI (sm (wdm mc num sets amts b) pp))), (7, .int (nI pp))] := by have e9 : rmm mc num pp sets amts bo (b + 1) = (nI b, sm (fun z => wn mc num (setB sets b z) * amts z) pp) := cnd_t ⟨c150, Or.inl c156⟩; rw [e9]; rw [e9] at hl; exact hl
                          refine lv_iinc (v := nI (b + 1)) (lv' := [(4, .int (nI (b + 1))), (3, .int (nI ((rmm mc num pp sets amts bo (b + 1)).2))), (2, .int ((rmm mc num pp sets amts bo (b + 1)).1)), (0, .ref (q 0)), (1, .int (nI wh)), (5, .int (bI (right mc pp sets amts bo b))), (6, .int (nI (sm (wdm mc num sets amts b) pp))), (7, .int (nI pp))]) hx hb dX6_routes_171 hl (k := 4) rfl (n_inc _ _ (by decide)) (by decide) rfl (fun ls hl => ?_)
                          refine lv_goto (tgt := 24) hx hb dX6_routes_174 (by decide) ?_
                          exact ih24 (b + 1) (by omega) (by omega)   _ _ Z ls (lv_sub hl [3, 4, 2, 1, 0] rfl)
                        · refine lv_iload hx hb dX6_routes_159 (lv_at hl 6 rfl) ?_
                          refine lv_iload_n hx hb dX6_routes_161 rfl (lv_at hl 3 rfl) ?_
                          have hw1 := wdm_eq mc num sets amts b pp
                          have hw2 := wds_le (g := num) (sets := sets) (ch := b) hM hP ha10
                          have hg := rmm_le (g := num) (sets := sets) (bo := bo) hM hP ha10 b
                          refine n_icmp_ge (tgt := 171) hx hb dX6_routes_162 (by decide) (by omega) (by omega) (fun c162 => ?_) (fun c162 => ?_)
                          · replace hl : lv_has ls 8 [(0, .ref (q 0)), (1, .int (nI wh)), (2, .int ((rmm mc num pp sets amts bo (b + 1)).1)), (3, .int (nI ((rmm mc num pp sets amts bo b).2))), (4, .int (nI b)), (5, .int (bI (right mc pp sets amts bo b))), (6, .int (nI (sm (wdm mc num sets amts b) pp))), (7, .int (nI pp))] := by have e9 : rmm mc num pp sets amts bo (b + 1) = rmm mc num pp sets amts bo b := cnd_f (fun h => h.2.elim c156 (Nat.not_lt.mpr c162)); rw [e9]; exact hl
                            replace hl : lv_has ls 8 [(0, .ref (q 0)), (1, .int (nI wh)), (2, .int ((rmm mc num pp sets amts bo (b + 1)).1)), (3, .int (nI ((rmm mc num pp sets amts bo (b + 1)).2))), (4, .int (nI b)), (5, .int (bI (right mc pp sets amts bo b))), (6, .int (nI (sm (wdm mc num sets amts b) pp))), (7, .int (nI pp))] := by have e9 : rmm mc num pp sets amts bo (b + 1) = rmm mc num pp sets amts bo b := cnd_f (fun h => h.2.elim c156 (Nat.not_lt.mpr c162)); rw [e9]; rw [e9] at hl; exact hl
                            refine lv_iinc (v := nI (b + 1)) (lv' := [(4, .int (nI (b + 1))), (0, .ref (q 0)), (1, .int (nI wh)), (2, .int ((rmm mc num pp sets amts bo (b + 1)).1)), (3, .int (nI ((rmm mc num pp sets amts bo (b + 1)).2))), (5, .int (bI (right mc pp sets amts bo b))), (6, .int (nI (sm (wdm mc num sets amts b) pp))), (7, .int (nI pp))]) hx hb dX6_routes_171 hl (k := 4) rfl (n_inc _ _ (by decide)) (by decide) rfl (fun ls hl => ?_)
                            refine lv_goto (tgt := 24) hx hb dX6_routes_174 (by decide) ?_
                            exact ih24 (b + 1) (by omega) (by omega)   _ _ Z ls (lv_sub hl [1, 2, 3, 4, 0] rfl)
                          · refine lv_iload hx hb dX6_routes_165 (lv_at hl 4 rfl) ?_
                            refine lv_istore_n (lv' := [(2, .int (nI b)), (0, .ref (q 0)), (1, .int (nI wh)), (3, .int (nI ((rmm mc num pp sets amts bo b).2))), (4, .int (nI b)), (5, .int (bI (right mc pp sets amts bo b))), (6, .int (nI (sm (wdm mc num sets amts b) pp))), (7, .int (nI pp))]) hx hb dX6_routes_167 rfl hl (by decide) rfl (fun ls hl => ?_)
                            refine lv_iload hx hb dX6_routes_168 (lv_at hl 6 rfl) ?_
                            refine lv_istore_n (lv' := [(3, .int (nI (sm (wdm mc num sets amts b) pp))), (2, .int (nI b)), (0, .ref (q 0)), (1, .int (nI wh)), (4, .int (nI b)), (5, .int (bI (right mc pp sets amts bo b))), (6, .int (nI (sm (wdm mc num sets amts b) pp))), (7, .int (nI pp))]) hx hb dX6_routes_170 rfl hl (by decide) rfl (fun ls hl => ?_)
                            replace hl : lv_has ls 8 [(3, .int (nI (sm (wdm mc num sets amts b) pp))), (2, .int ((rmm mc num pp sets amts bo (b + 1)).1)), (0, .ref (q 0)), (1, .int (nI wh)), (4, .int (nI b)), (5, .int (bI (right mc pp sets amts bo b))), (6, .int (nI (sm (wdm mc num sets amts b) pp))), (7, .int (nI pp))] := by have e9 : rmm mc num pp sets amts bo (b + 1) = (nI b, sm (fun z => wn mc num (setB sets b z) * amts z) pp) := cnd_t ⟨c150, Or.inr c162⟩; rw [e9]; exact hl
                            replace hl : lv_has ls 8 [(3, .int (nI ((rmm mc num pp sets amts bo (b + 1)).2))), (2, .int ((rmm mc num pp sets amts bo (b + 1)).1)), (0, .ref (q 0)), (1, .int (nI wh)), (4, .int (nI b)), (5, .int (bI (right mc pp sets amts bo b))), (6, .int (nI (sm (wdm mc num sets amts b) pp))), (7, .int (nI pp))] := by have e9 : rmm mc num pp sets amts bo (b + 1) = (nI b, sm (fun z => wn mc num (setB sets b z) * amts z) pp) := cnd_t ⟨c150, Or.inr c162⟩; rw [e9]; rw [e9] at hl; exact hl
                            refine lv_iinc (v := nI (b + 1)) (lv' := [(4, .int (nI (b + 1))), (3, .int (nI ((rmm mc num pp sets amts bo (b + 1)).2))), (2, .int ((rmm mc num pp sets amts bo (b + 1)).1)), (0, .ref (q 0)), (1, .int (nI wh)), (5, .int (bI (right mc pp sets amts bo b))), (6, .int (nI (sm (wdm mc num sets amts b) pp))), (7, .int (nI pp))]) hx hb dX6_routes_171 hl (k := 4) rfl (n_inc _ _ (by decide)) (by decide) rfl (fun ls hl => ?_)
                            refine lv_goto (tgt := 24) hx hb dX6_routes_174 (by decide) ?_
                            exact ih24 (b + 1) (by omega) (by omega)   _ _ Z ls (lv_sub hl [3, 4, 2, 1, 0] rfl)
                    · refine lv_iload hx hb dX6_routes_99 (lv_at hl 5 rfl) ?_
                      refine b_if_eq (tgt := 148) hx hb dX6_routes_101 (by decide) (fun c101 => ?_) (fun c101 => ?_)
                      · refine lv_iload hx hb dX6_routes_148 (lv_at hl 5 rfl) ?_
                        refine b_if_eq (tgt := 171) hx hb dX6_routes_150 (by decide) (fun c150 => ?_) (fun c150 => ?_)
                        · replace hl : lv_has ls 8 [(0, .ref (q 0)), (1, .int (nI wh)), (2, .int ((rmm mc num pp sets amts bo (b + 1)).1)), (3, .int (nI ((rmm mc num pp sets amts bo b).2))), (4, .int (nI b)), (5, .int (bI (right mc pp sets amts bo b))), (6, .int (nI (sm (wdm mc num sets amts b) k))), (7, .int (nI k))] := by have e9 : rmm mc num pp sets amts bo (b + 1) = rmm mc num pp sets amts bo b := cnd_f (fun h => c150 h.1); rw [e9]; exact hl
                          replace hl : lv_has ls 8 [(0, .ref (q 0)), (1, .int (nI wh)), (2, .int ((rmm mc num pp sets amts bo (b + 1)).1)), (3, .int (nI ((rmm mc num pp sets amts bo (b + 1)).2))), (4, .int (nI b)), (5, .int (bI (right mc pp sets amts bo b))), (6, .int (nI (sm (wdm mc num sets amts b) k))), (7, .int (nI k))] := by have e9 : rmm mc num pp sets amts bo (b + 1) = rmm mc num pp sets amts bo b := cnd_f (fun h => c150 h.1); rw [e9]; rw [e9] at hl; exact hl
                          refine lv_iinc (v := nI (b + 1)) (lv' := [(4, .int (nI (b + 1))), (0, .ref (q 0)), (1, .int (nI wh)), (2, .int ((rmm mc num pp sets amts bo (b + 1)).1)), (3, .int (nI ((rmm mc num pp sets amts bo (b + 1)).2))), (5, .int (bI (right mc pp sets amts bo b))), (6, .int (nI (sm (wdm mc num sets amts b) k))), (7, .int (nI k))]) hx hb dX6_routes_171 hl (k := 4) rfl (n_inc _ _ (by decide)) (by decide) rfl (fun ls hl => ?_)
                          refine lv_goto (tgt := 24) hx hb dX6_routes_174 (by decide) ?_
                          exact ih24 (b + 1) (by omega) (by omega)   _ _ Z ls (lv_sub hl [1, 2, 3, 4, 0] rfl)
                        · exact absurd c150 c101
                      · refine lv_iload hx hb dX6_routes_104 (lv_at hl 6 rfl) ?_
                        refine lv_aload_n hx hb dX6_routes_106 rfl (lv_at hl 0 rfl) ?_
                        refine lv_aload_n hx hb dX6_routes_107 rfl (lv_at hl 0 rfl) ?_
                        refine gF_X6_69 E Z dX6_routes_108 0 rfl rfl ?_
                        refine lv_aload_n hx hb dX6_routes_111 rfl (lv_at hl 0 rfl) ?_
                        refine gF_X6_16 E Z dX6_routes_112 0 rfl rfl ?_
                        refine lv_iconst (v := nI 2) hx hb dX6_routes_115 (by decide) ?_
                        refine lv_iload hx hb dX6_routes_116 (lv_at hl 7 rfl) ?_
                        refine n_imul hx hb dX6_routes_118 ?_
                        refine lv_iload hx hb dX6_routes_119 (lv_at hl 4 rfl) ?_
                        refine lv_iload hx hb dX6_routes_121 (lv_at hl 7 rfl) ?_
                        refine n_ishr hx hb dX6_routes_123 (by omega) (by omega) ?_
                        refine lv_iconst (v := nI 1) hx hb dX6_routes_124 (by decide) ?_
                        refine n_iand1 hx hb dX6_routes_125 ?_
                        refine r_top (y := nI (bt b k)) rfl ?_
                        have hbt := bt_lt b k
                        refine n_iadd hx hb dX6_routes_126 ?_
                        refine r_ald E Z dX6_routes_127 1 rfl (by omega) (by decide) ?_
                        refine r_top (y := nI (setB sets b k)) rfl ?_
                        refine c_Vi (As := [.int (nI num), .int (nI (setB sets b k))]) (rest := [.int (nI (sm (wdm mc num sets amts b) k))]) (w2 := fun _ => [oM q 0 tr mc pp num yn cg, aN cA (q 1) 16 sets, aN cA (q 3) 8 amts, aN cA (q 4) 7 bo]) E Z (k_X6_wandersOf l D cA q tr mc pp num yn cg num (setB sets b k) (by first | assumption | omega) (by first | assumption | omega) (Nat.lt_trans (hs7 _) (by decide))) wv_X6_101 ⟨rfl, rfl, Nat.le_of_ble_eq_true rfl, Nat.le_of_ble_eq_true rfl⟩ [0] rfl rfl rfl rfl (q0 := 0) rfl (fun _ => rfl) (fun _ => rfl) rfl hl.1 rfl (Nat.le_of_ble_eq_true rfl) dX6_routes_128 ⟨Nat.zero_le _, Nat.zero_le _⟩ (fun r128 _ H locs hp128 Z => ?_)
                        subst hp128
                        refine lv_aload_n hx hb dX6_routes_131 rfl (lv_at hl 0 rfl) ?_
                        refine gF_X6_23 E Z dX6_routes_132 0 rfl rfl ?_
                        refine lv_iload hx hb dX6_routes_135 (lv_at hl 7 rfl) ?_
                        refine r_ald E Z dX6_routes_137 2 rfl (by omega) (by decide) ?_
                        refine n_imul hx hb dX6_routes_138 ?_
                        refine n_iadd hx hb dX6_routes_139 ?_
                        refine lv_istore (lv' := [(6, .int (nI (sm (wdm mc num sets amts b) k + ((wn mc num (setB sets b k)) * (amts k))))), (0, .ref (q 0)), (1, .int (nI wh)), (2, .int ((rmm mc num pp sets amts bo b).1)), (3, .int (nI ((rmm mc num pp sets amts bo b).2))), (4, .int (nI b)), (5, .int (bI (right mc pp sets amts bo b))), (7, .int (nI k))]) hx hb dX6_routes_140 hl (by decide) rfl (fun ls hl => ?_)
                        refine lv_iinc (v := nI (k + 1)) (lv' := [(7, .int (nI (k + 1))), (6, .int (nI (sm (wdm mc num sets amts b) k + ((wn mc num (setB sets b k)) * (amts k))))), (0, .ref (q 0)), (1, .int (nI wh)), (2, .int ((rmm mc num pp sets amts bo b).1)), (3, .int (nI ((rmm mc num pp sets amts bo b).2))), (4, .int (nI b)), (5, .int (bI (right mc pp sets amts bo b)))]) hx hb dX6_routes_142 hl (k := 7) rfl (n_inc _ _ (by decide)) (by decide) rfl (fun ls hl => ?_)
                        refine lv_goto (tgt := 90) hx hb dX6_routes_145 (by decide) ?_
                        exact ih90 (k + 1) (by omega) (by omega)   _ _ Z ls (lv_sub hl [2, 3, 4, 5, 6, 7, 1, 0] rfl)
                exact L90 (pp + 1) 0 (by omega) (by omega)   _ _ Z ls (lv_sub hl [2, 3, 4, 5, 6, 7, 1, 0] rfl)
              · refine lv_iload hx hb dX6_routes_50 (lv_at hl 5 rfl) ?_
                refine lv_aload_n hx hb dX6_routes_52 rfl (lv_at hl 0 rfl) ?_
                refine lv_iload hx hb dX6_routes_53 (lv_at hl 6 rfl) ?_
                refine lv_iload hx hb dX6_routes_55 (lv_at hl 4 rfl) ?_
                refine c_Vi (As := [.int (nI i), .int (nI b)]) (rest := [.int (bI (∀ j, j < i → sm (ldp sets amts b j) pp ≤ bo j))]) (w2 := fun _ => [oM q 0 tr mc pp num yn cg, aN cA (q 1) 16 sets, aN cA (q 3) 8 amts, aN cA (q 4) 7 bo]) E Z (k_X6_loadOf l D cA q tr mc pp num yn cg sets amts i b (by first | assumption | omega) hs7 (by first | assumption | omega) (by first | assumption | omega)) wv_X6_138 ⟨rfl, rfl, Nat.le_of_ble_eq_true rfl, Nat.le_of_ble_eq_true rfl⟩ [0, 1, 2] rfl rfl rfl rfl (q0 := 0) rfl (fun _ => rfl) (fun _ => rfl) rfl hl.1 rfl (Nat.le_of_ble_eq_true rfl) dX6_routes_57 ⟨Nat.zero_le _, Nat.zero_le _⟩ (fun r57 _ H locs hp57 Z => ?_)
                subst hp57
                refine lv_aload_n hx hb dX6_routes_60 rfl (lv_at hl 0 rfl) ?_
                refine gF_X6_26 E Z dX6_routes_61 0 rfl rfl ?_
                refine lv_iload hx hb dX6_routes_64 (lv_at hl 6 rfl) ?_
                refine r_ald E Z dX6_routes_66 3 rfl (by omega) (by decide) ?_
                have hv := lds_le (sets := sets) (sc := b) (m := i) hP ha10
                have hv2 := hb100 i
                refine n_icmp_gt (tgt := 74) hx hb dX6_routes_67 (by decide) (by omega) (by omega) (fun c67 => ?_) (fun c67 => ?_)
                · refine lv_iconst (v := nI 0) hx hb dX6_routes_74 (by decide) ?_
                  refine r_top (y := bI (sm (ldp sets amts b i) pp ≤ bo i)) (nI_0.trans (bI_f (Nat.not_le.mpr c67)).symm) ?_
                  refine n_band hx hb dX6_routes_75 ?_
                  refine r_top (y := bI (∀ j, j < (i + 1) → sm (ldp sets amts b j) pp ≤ bo j)) (bI_c all_succ) ?_
                  refine lv_istore (lv' := [(5, .int (bI (∀ j, j < (i + 1) → sm (ldp sets amts b j) pp ≤ bo j))), (0, .ref (q 0)), (1, .int (nI wh)), (2, .int ((rmm mc num pp sets amts bo b).1)), (3, .int (nI ((rmm mc num pp sets amts bo b).2))), (4, .int (nI b)), (6, .int (nI i))]) hx hb dX6_routes_76 hl (by decide) rfl (fun ls hl => ?_)
                  refine lv_iinc (v := nI (i + 1)) (lv' := [(6, .int (nI (i + 1))), (5, .int (bI (∀ j, j < (i + 1) → sm (ldp sets amts b j) pp ≤ bo j))), (0, .ref (q 0)), (1, .int (nI wh)), (2, .int ((rmm mc num pp sets amts bo b).1)), (3, .int (nI ((rmm mc num pp sets amts bo b).2))), (4, .int (nI b))]) hx hb dX6_routes_78 hl (k := 6) rfl (n_inc _ _ (by decide)) (by decide) rfl (fun ls hl => ?_)
                  refine lv_goto (tgt := 41) hx hb dX6_routes_81 (by decide) ?_
                  exact ih41 (i + 1) (by omega) (by omega)   _ _ Z ls (lv_sub hl [2, 3, 4, 5, 6, 1, 0] rfl)
                · refine lv_iconst (v := nI 1) hx hb dX6_routes_70 (by decide) ?_
                  refine lv_goto (tgt := 75) hx hb dX6_routes_71 (by decide) ?_
                  refine r_top (y := bI (sm (ldp sets amts b i) pp ≤ bo i)) (nI_one.trans (bI_t c67).symm) ?_
                  refine n_band hx hb dX6_routes_75 ?_
                  refine r_top (y := bI (∀ j, j < (i + 1) → sm (ldp sets amts b j) pp ≤ bo j)) (bI_c all_succ) ?_
                  refine lv_istore (lv' := [(5, .int (bI (∀ j, j < (i + 1) → sm (ldp sets amts b j) pp ≤ bo j))), (0, .ref (q 0)), (1, .int (nI wh)), (2, .int ((rmm mc num pp sets amts bo b).1)), (3, .int (nI ((rmm mc num pp sets amts bo b).2))), (4, .int (nI b)), (6, .int (nI i))]) hx hb dX6_routes_76 hl (by decide) rfl (fun ls hl => ?_)
                  refine lv_iinc (v := nI (i + 1)) (lv' := [(6, .int (nI (i + 1))), (5, .int (bI (∀ j, j < (i + 1) → sm (ldp sets amts b j) pp ≤ bo j))), (0, .ref (q 0)), (1, .int (nI wh)), (2, .int ((rmm mc num pp sets amts bo b).1)), (3, .int (nI ((rmm mc num pp sets amts bo b).2))), (4, .int (nI b))]) hx hb dX6_routes_78 hl (k := 6) rfl (n_inc _ _ (by decide)) (by decide) rfl (fun ls hl => ?_)
                  refine lv_goto (tgt := 41) hx hb dX6_routes_81 (by decide) ?_
                  exact ih41 (i + 1) (by omega) (by omega)   _ _ Z ls (lv_sub hl [2, 3, 4, 5, 6, 1, 0] rfl)
          exact L41 (mc + 1) 0 (by omega) (by omega)   _ _ Z ls (lv_sub hl [2, 3, 4, 5, 6, 1, 0] rfl)
    exact L24 (E2 + 1) 0 (by omega) (by omega)   _ _ Z ls (lv_sub hl [3, 4, 2, 1, 0] rfl)
  · exact absurd (inr_ok (by omega) (by omega) (by omega)) c11
abbrev rm_k_X6_copy_bad : Room := { frames := 2, cells := 0, slots := 0, locals := 43 }
set_option maxHeartbeats 4000000 in
set_option maxRecDepth 100000 in
theorem k_X6_copy_bad (l : Launch) (D : va_G) (cA : ClassId) (q : Nat → Nat) (tr : Int64) (mc : Nat) (pp : Nat) (num : Nat) (yn : Nat) (cg : Nat) (x1 : Int32) (x2 : Int32) (hm1 : 1 ≤ mc) (hM : mc ≤ 7) (hnum : num < 2 ^ (2 * mc)) (hbad : ∀ j d, j < mc → d < 4 → x1 = nI j → x2 = nI d → cl num j = d) : Cti l yX6_copy cX6_copy 3 (some .int) rm_k_X6_copy_bad D cA [.ref (q 0), .int x1, .int x2] ([oM q 0 tr mc pp num yn cg]) (fun (r : Int32) (_ : Unit) => r = (-1)) (fun _ => [oM q 0 tr mc pp num yn cg]) := by
  refine st_i (by decide) (Nat.le_of_ble_eq_true rfl) ?_
  intro p e s m args below meth c A Q E ret Z ls hl
  have hx := E.1.1
  have hb := E.1.2.1
  have hl : lv_has ls 3 [(0, .ref (q 0)), (1, .int x1), (2, .int x2)] := hl
  have h14 : 2 ^ (2 * mc) ≤ 2 ^ 14 := Nat.pow_le_pow_right (by decide) (by omega)
  refine lv_aload_n hx hb dX6_copy_0 rfl (lv_at hl 0 rfl) ?_
  refine lv_iconst (v := nI 0) hx hb dX6_copy_1 (by decide) ?_
  refine pF_X6_66 (w1 := [oM q 0 tr mc pp num yn cg]) E Z dX6_copy_2 0 rfl (Nat.le_of_ble_eq_true rfl) rfl (fun H locs Z => ?_)
  refine lv_aload_n hx hb dX6_copy_5 rfl (lv_at hl 0 rfl) ?_
  refine lv_iload_n hx hb dX6_copy_6 rfl (lv_at hl 1 rfl) ?_
  refine c_Vi (As := [.int x1]) (rest := []) (w2 := fun _ => [oM q 0 tr mc pp num yn cg]) E Z (k_X6_isMachine l D cA q tr mc pp num yn cg x1 (by first | assumption | omega)) wv_X6_80 ⟨rfl, rfl, Nat.le_of_ble_eq_true rfl, Nat.le_of_ble_eq_true rfl⟩ [0] rfl rfl rfl rfl (q0 := 0) rfl (fun _ => rfl) (fun _ => rfl) rfl hl.1 rfl (Nat.le_of_ble_eq_true rfl) dX6_copy_7 ⟨Nat.zero_le _, Nat.zero_le _⟩ (fun r7 _ H locs hp7 Z => ?_)
  subst hp7
  refine b_if_eq (tgt := 43) hx hb dX6_copy_10 (by decide) (fun c10 => ?_) (fun c10 => ?_)
  · refine lv_iconst (v := (-1)) hx hb dX6_copy_43 (by decide) ?_
    exact ret () Z dX6_copy_44 rfl rfl
  · obtain ⟨k, hk0, hk, rfl⟩ := in_nat (by omega) c10 (by decide)
    refine lv_iload_n hx hb dX6_copy_13 rfl (lv_at hl 2 rfl) ?_
    refine lv_iconst (v := nI 0) hx hb dX6_copy_14 (by decide) ?_
    refine lv_iconst (v := nI 3) hx hb dX6_copy_15 (by decide) ?_
    refine c_Si (As := [.int x2, .int (nI 0), .int (nI 3)]) (rest := []) (w2 := fun _ => [oM q 0 tr mc pp num yn cg]) E Z (k_X6_in l D cA x2 (nI 0) (nI 3) ) ws_X6_72 ⟨rfl, rfl, Nat.le_of_ble_eq_true rfl, Nat.le_of_ble_eq_true rfl⟩ [] rfl rfl (fun _ => rfl) (fun _ => rfl) rfl hl.1 rfl (Nat.le_of_ble_eq_true rfl) dX6_copy_16 ⟨Nat.zero_le _, Nat.zero_le _⟩ (fun r16 _ H locs hp16 Z => ?_)
    subst hp16
    refine b_if_eq (tgt := 43) hx hb dX6_copy_19 (by decide) (fun c19 => ?_) (fun c19 => ?_)
    · refine lv_iconst (v := (-1)) hx hb dX6_copy_43 (by decide) ?_
      exact ret () Z dX6_copy_44 rfl rfl
    · obtain ⟨d, hd0, hd, rfl⟩ := in_nat (by decide) c19 (by decide)
      have hcl := cl_lt num k
      refine lv_aload_n hx hb dX6_copy_22 rfl (lv_at hl 0 rfl) ?_
      refine gF_X6_69 E Z dX6_copy_23 0 rfl rfl ?_
      refine lv_iload_n hx hb dX6_copy_26 rfl (lv_at hl 1 rfl) ?_
      refine c_Si (As := [.int (nI num), .int (nI k)]) (rest := []) (w2 := fun _ => [oM q 0 tr mc pp num yn cg]) E Z (k_X6_cellOf l D cA num k (by first | assumption | omega) (by first | assumption | omega)) ws_X6_83 ⟨rfl, rfl, Nat.le_of_ble_eq_true rfl, Nat.le_of_ble_eq_true rfl⟩ [] rfl rfl (fun _ => rfl) (fun _ => rfl) rfl hl.1 rfl (Nat.le_of_ble_eq_true rfl) dX6_copy_27 ⟨Nat.zero_le _, Nat.zero_le _⟩ (fun r27 _ H locs hp27 Z => ?_)
      subst hp27
      refine lv_iload_n hx hb dX6_copy_30 rfl (lv_at hl 2 rfl) ?_
      refine n_icmp_eq (tgt := 43) hx hb dX6_copy_31 (by decide) (by omega) (by omega) (fun c31 => ?_) (fun c31 => ?_)
      · refine lv_iconst (v := (-1)) hx hb dX6_copy_43 (by decide) ?_
        exact ret () Z dX6_copy_44 rfl rfl
      · exact absurd (hbad k d (by omega) (by omega) rfl rfl) c31
abbrev rm_k_X6_copy : Room := { frames := 4, cells := 0, slots := 0, locals := 94 }
set_option maxHeartbeats 4000000 in
set_option maxRecDepth 100000 in
theorem k_X6_copy (l : Launch) (D : va_G) (cA : ClassId) (q : Nat → Nat) (tr : Int64) (mc : Nat) (pp : Nat) (num : Nat) (yn : Nat) (cg : Nat) (sets : Nat → Nat) (ch : Nat) (amts : Nat → Nat) (k : Nat) (d : Nat) (hP : pp ≤ 8) (hs : ∀ j, sets j < 2 ^ mc) (hm1 : 1 ≤ mc) (hM : mc ≤ 7) (hnum : num < 2 ^ (2 * mc)) (hk : k < mc) (hd : d < 4) (hne : cl num k ≠ d) : Cti l yX6_copy cX6_copy 3 (some .int) rm_k_X6_copy D cA [.ref (q 0), .int (nI k), .int (nI d)] ([oM q 0 tr mc pp num yn cg, aN cA (q 1) 16 sets, aN cA (q 2) 8 (bt ch), aN cA (q 3) 8 amts]) (fun (r : Int32) (_ : Unit) => r = nI (sm (kpp mc num sets amts ch k d) pp)) (fun _ => [oM q 0 tr mc pp num yn cg, aN cA (q 1) 16 sets, aN cA (q 2) 8 (bt ch), aN cA (q 3) 8 amts]) := by
  refine st_i (by decide) (Nat.le_of_ble_eq_true rfl) ?_
  intro p e s m args below meth c A Q E ret Z ls hl
  have hx := E.1.1
  have hb := E.1.2.1
  have hl : lv_has ls 3 [(0, .ref (q 0)), (1, .int (nI k)), (2, .int (nI d))] := hl
  have h14 : 2 ^ (2 * mc) ≤ 2 ^ 14 := Nat.pow_le_pow_right (by decide) (by omega)
  have hs7 := hs7_of hs hM
  have hcl := cl_lt num k
  refine lv_aload_n hx hb dX6_copy_0 rfl (lv_at hl 0 rfl) ?_
  refine lv_iconst (v := nI 0) hx hb dX6_copy_1 (by decide) ?_
  refine pF_X6_66 (w1 := [oM q 0 tr mc pp num yn cg, aN cA (q 1) 16 sets, aN cA (q 2) 8 (bt ch), aN cA (q 3) 8 amts]) E Z dX6_copy_2 0 rfl (Nat.le_of_ble_eq_true rfl) rfl (fun H locs Z => ?_)
  refine lv_aload_n hx hb dX6_copy_5 rfl (lv_at hl 0 rfl) ?_
  refine lv_iload_n hx hb dX6_copy_6 rfl (lv_at hl 1 rfl) ?_
  refine c_Vi (As := [.int (nI k)]) (rest := []) (w2 := fun _ => [oM q 0 tr mc pp num yn cg, aN cA (q 1) 16 sets, aN cA (q 2) 8 (bt ch), aN cA (q 3) 8 amts]) E Z (k_X6_isMachine l D cA q tr mc pp num yn cg (nI k) (by first | assumption | omega)) wv_X6_80 ⟨rfl, rfl, Nat.le_of_ble_eq_true rfl, Nat.le_of_ble_eq_true rfl⟩ [0] rfl rfl rfl rfl (q0 := 0) rfl (fun _ => rfl) (fun _ => rfl) rfl hl.1 rfl (Nat.le_of_ble_eq_true rfl) dX6_copy_7 ⟨Nat.zero_le _, Nat.zero_le _⟩ (fun r7 _ H locs hp7 Z => ?_)
  subst hp7
  refine b_if_eq (tgt := 43) hx hb dX6_copy_10 (by decide) (fun c10 => ?_) (fun c10 => ?_)
  · exact absurd (inr_ok (by omega) (by omega) (by omega)) c10
  · refine lv_iload_n hx hb dX6_copy_13 rfl (lv_at hl 2 rfl) ?_
    refine lv_iconst (v := nI 0) hx hb dX6_copy_14 (by decide) ?_
    refine lv_iconst (v := nI 3) hx hb dX6_copy_15 (by decide) ?_
    refine c_Si (As := [.int (nI d), .int (nI 0), .int (nI 3)]) (rest := []) (w2 := fun _ => [oM q 0 tr mc pp num yn cg, aN cA (q 1) 16 sets, aN cA (q 2) 8 (bt ch), aN cA (q 3) 8 amts]) E Z (k_X6_in l D cA (nI d) (nI 0) (nI 3) ) ws_X6_72 ⟨rfl, rfl, Nat.le_of_ble_eq_true rfl, Nat.le_of_ble_eq_true rfl⟩ [] rfl rfl (fun _ => rfl) (fun _ => rfl) rfl hl.1 rfl (Nat.le_of_ble_eq_true rfl) dX6_copy_16 ⟨Nat.zero_le _, Nat.zero_le _⟩ (fun r16 _ H locs hp16 Z => ?_)
    subst hp16
    refine b_if_eq (tgt := 43) hx hb dX6_copy_19 (by decide) (fun c19 => ?_) (fun c19 => ?_)
    · exact absurd (inr_ok (by omega) (by omega) (by omega)) c19
    · refine lv_aload_n hx hb dX6_copy_22 rfl (lv_at hl 0 rfl) ?_
      refine gF_X6_69 E Z dX6_copy_23 0 rfl rfl ?_
      refine lv_iload_n hx hb dX6_copy_26 rfl (lv_at hl 1 rfl) ?_
      refine c_Si (As := [.int (nI num), .int (nI k)]) (rest := []) (w2 := fun _ => [oM q 0 tr mc pp num yn cg, aN cA (q 1) 16 sets, aN cA (q 2) 8 (bt ch), aN cA (q 3) 8 amts]) E Z (k_X6_cellOf l D cA num k (by first | assumption | omega) (by first | assumption | omega)) ws_X6_83 ⟨rfl, rfl, Nat.le_of_ble_eq_true rfl, Nat.le_of_ble_eq_true rfl⟩ [] rfl rfl (fun _ => rfl) (fun _ => rfl) rfl hl.1 rfl (Nat.le_of_ble_eq_true rfl) dX6_copy_27 ⟨Nat.zero_le _, Nat.zero_le _⟩ (fun r27 _ H locs hp27 Z => ?_)
      subst hp27
      refine lv_iload_n hx hb dX6_copy_30 rfl (lv_at hl 2 rfl) ?_
      refine n_icmp_eq (tgt := 43) hx hb dX6_copy_31 (by decide) (by omega) (by omega) (fun c31 => ?_) (fun c31 => ?_)
      · exact absurd c31 hne
      · refine lv_aload_n hx hb dX6_copy_34 rfl (lv_at hl 0 rfl) ?_
        refine lv_iload_n hx hb dX6_copy_35 rfl (lv_at hl 1 rfl) ?_
        refine lv_iload_n hx hb dX6_copy_36 rfl (lv_at hl 2 rfl) ?_
        refine c_Vi (As := [.int (nI k), .int (nI d)]) (rest := []) (w2 := fun _ => [oM q 0 tr mc pp num yn cg, aN cA (q 1) 16 sets, aN cA (q 2) 8 (bt ch), aN cA (q 3) 8 amts]) E Z (k_X6_copyOf l D cA q tr mc pp num yn cg sets ch amts k d (by first | assumption | omega) (by first | assumption | omega) hs7 (by first | assumption | omega) (by first | assumption | omega) (by first | assumption | omega)) wv_X6_141 ⟨rfl, rfl, Nat.le_of_ble_eq_true rfl, Nat.le_of_ble_eq_true rfl⟩ [0, 1, 2, 3] rfl rfl rfl rfl (q0 := 0) rfl (fun _ => rfl) (fun _ => rfl) rfl hl.1 rfl (Nat.le_of_ble_eq_true rfl) dX6_copy_37 ⟨Nat.zero_le _, Nat.zero_le _⟩ (fun r37 _ H locs hp37 Z => ?_)
        subst hp37
        refine lv_goto (tgt := 44) hx hb dX6_copy_40 (by decide) ?_
        exact ret () Z dX6_copy_44 rfl rfl
abbrev rm_k_X6_saved_bad : Room := { frames := 1, cells := 0, slots := 0, locals := 22 }
set_option maxHeartbeats 4000000 in
set_option maxRecDepth 100000 in
theorem k_X6_saved_bad (l : Launch) (D : va_G) (cA : ClassId) (q : Nat → Nat) (tr : Int64) (mc : Nat) (pp : Nat) (num : Nat) (yn : Nat) (cg : Nat) (x1 : Int32) (hbad : ¬ ((nI 0 ≤ x1 ∧ x1 ≤ nI 200))) : Cti l yX6_saved cX6_saved 6 (some .int) rm_k_X6_saved_bad D cA [.ref (q 0), .int x1] ([oM q 0 tr mc pp num yn cg]) (fun (r : Int32) (_ : Unit) => r = (-1)) (fun _ => [oM q 0 tr mc pp num yn cg]) := by
  refine st_i (by decide) (Nat.le_of_ble_eq_true rfl) ?_
  intro p e s m args below meth c A Q E ret Z ls hl
  have hx := E.1.1
  have hb := E.1.2.1
  have hl : lv_has ls 6 [(0, .ref (q 0)), (1, .int x1)] := hl
  refine lv_aload_n hx hb dX6_saved_0 rfl (lv_at hl 0 rfl) ?_
  refine lv_iconst (v := nI 0) hx hb dX6_saved_1 (by decide) ?_
  refine pF_X6_66 (w1 := [oM q 0 tr mc pp num yn cg]) E Z dX6_saved_2 0 rfl (Nat.le_of_ble_eq_true rfl) rfl (fun H locs Z => ?_)
  refine lv_iload_n hx hb dX6_saved_5 rfl (lv_at hl 1 rfl) ?_
  refine lv_iconst (v := nI 0) hx hb dX6_saved_6 (by decide) ?_
  refine lv_sipush (v := nI 200) hx hb dX6_saved_7 (by decide) ?_
  refine c_Si (As := [.int x1, .int (nI 0), .int (nI 200)]) (rest := []) (w2 := fun _ => [oM q 0 tr mc pp num yn cg]) E Z (k_X6_in l D cA x1 (nI 0) (nI 200) ) ws_X6_72 ⟨rfl, rfl, Nat.le_of_ble_eq_true rfl, Nat.le_of_ble_eq_true rfl⟩ [] rfl rfl (fun _ => rfl) (fun _ => rfl) rfl hl.1 rfl (Nat.le_of_ble_eq_true rfl) dX6_saved_10 ⟨Nat.zero_le _, Nat.zero_le _⟩ (fun r10 _ H locs hp10 Z => ?_)
  subst hp10
  refine b_if_ne (tgt := 18) hx hb dX6_saved_13 (by decide) (fun c13 => ?_) (fun c13 => ?_)
  · exact absurd c13 hbad
  · refine lv_iconst (v := (-1)) hx hb dX6_saved_16 (by decide) ?_
    exact ret () Z dX6_saved_17 rfl rfl
abbrev rm_k_X6_saved : Room := { frames := 4, cells := 0, slots := 0, locals := 94 }
set_option maxHeartbeats 4000000 in
set_option maxRecDepth 100000 in
theorem k_X6_saved (l : Launch) (D : va_G) (cA : ClassId) (q : Nat → Nat) (tr : Int64) (mc : Nat) (pp : Nat) (num : Nat) (yn : Nat) (cg : Nat) (sets : Nat → Nat) (ch : Nat) (amts : Nat → Nat) (pr : Nat → Nat) (mo : Nat → Nat) (pu : Nat) (hP : pp ≤ 8) (hs : ∀ j, sets j < 2 ^ mc) (hM : mc ≤ 7) (hnum : num < 2 ^ (2 * mc)) (ha10 : ∀ j, amts j < 10) (hpu : pu ≤ 200) (hpr : ∀ j, 1 ≤ pr j ∧ pr j ≤ 50) (hmo : ∀ j, mo j ≤ 420000) : Cti l yX6_saved cX6_saved 6 (some .int) rm_k_X6_saved D cA [.ref (q 0), .int (nI pu)] ([oM q 0 tr mc pp num yn cg, aN cA (q 1) 16 sets, aN cA (q 2) 8 (bt ch), aN cA (q 3) 8 amts, aN cA (q 5) 7 pr, aN cA (q 10) 201 mo]) (fun (r : Int32) (_ : Unit) => r = nI (svG mc num pp sets amts pr ch pu (fillF mo 0 (pu + 1)) mc pu)) (fun _ => [oM q 0 tr mc pp num yn cg, aN cA (q 1) 16 sets, aN cA (q 2) 8 (bt ch), aN cA (q 3) 8 amts, aN cA (q 5) 7 pr, aN cA (q 10) 201 (svG mc num pp sets amts pr ch pu (fillF mo 0 (pu + 1)) mc)]) := by
  refine st_i (by decide) (Nat.le_of_ble_eq_true rfl) ?_
  intro p e s m args below meth c A Q E ret Z ls hl
  have hx := E.1.1
  have hb := E.1.2.1
  have hl : lv_has ls 6 [(0, .ref (q 0)), (1, .int (nI pu))] := hl
  have h14 : 2 ^ (2 * mc) ≤ 2 ^ 14 := Nat.pow_le_pow_right (by decide) (by omega)
  have hs7 := hs7_of hs hM
  refine lv_aload_n hx hb dX6_saved_0 rfl (lv_at hl 0 rfl) ?_
  refine lv_iconst (v := nI 0) hx hb dX6_saved_1 (by decide) ?_
  refine pF_X6_66 (w1 := [oM q 0 tr mc pp num yn cg, aN cA (q 1) 16 sets, aN cA (q 2) 8 (bt ch), aN cA (q 3) 8 amts, aN cA (q 5) 7 pr, aN cA (q 10) 201 mo]) E Z dX6_saved_2 0 rfl (Nat.le_of_ble_eq_true rfl) rfl (fun H locs Z => ?_)
  refine lv_iload_n hx hb dX6_saved_5 rfl (lv_at hl 1 rfl) ?_
  refine lv_iconst (v := nI 0) hx hb dX6_saved_6 (by decide) ?_
  refine lv_sipush (v := nI 200) hx hb dX6_saved_7 (by decide) ?_
  refine c_Si (As := [.int (nI pu), .int (nI 0), .int (nI 200)]) (rest := []) (w2 := fun _ => [oM q 0 tr mc pp num yn cg, aN cA (q 1) 16 sets, aN cA (q 2) 8 (bt ch), aN cA (q 3) 8 amts, aN cA (q 5) 7 pr, aN cA (q 10) 201 mo]) E Z (k_X6_in l D cA (nI pu) (nI 0) (nI 200) ) ws_X6_72 ⟨rfl, rfl, Nat.le_of_ble_eq_true rfl, Nat.le_of_ble_eq_true rfl⟩ [] rfl rfl (fun _ => rfl) (fun _ => rfl) rfl hl.1 rfl (Nat.le_of_ble_eq_true rfl) dX6_saved_10 ⟨Nat.zero_le _, Nat.zero_le _⟩ (fun r10 _ H locs hp10 Z => ?_)
  subst hp10
  refine b_if_ne (tgt := 18) hx hb dX6_saved_13 (by decide) (fun c13 => ?_) (fun c13 => ?_)
  · refine lv_iconst (v := nI 0) hx hb dX6_saved_18 (by decide) ?_
    refine lv_istore_n (lv' := [(2, .int (nI 0)), (0, .ref (q 0)), (1, .int (nI pu))]) hx hb dX6_saved_19 rfl hl (by decide) rfl (fun ls hl => ?_)
    have L20 : ∀ (n20 i : Nat), pu + 1 + 1 ≤ i + n20 → i ≤ pu + 1 → ∀ (H : Heap) (locs : List Loc), Wd D A s ([oM q 0 tr mc pp num yn cg, aN cA (q 1) 16 sets, aN cA (q 2) 8 (bt ch), aN cA (q 3) 8 amts, aN cA (q 5) 7 pr, aN cA (q 10) 201 (fillF mo 0 i)]) H locs → ∀ (ls : Array Slot), lv_has ls 6 [(0, .ref (q 0)), (1, .int (nI pu)), (2, .int (nI i))] → W p l e rm_k_X6_saved s m args below meth c H locs 0 0 Q (F0 m 20 ls []) := by
      intro n20
      induction n20 with
      | zero => exact fun i h1 h2 => absurd h1 (by omega)
      | succ n20 ih20 =>
        intro i hn20 hi20  H locs Z ls hl
        refine lv_iload_n hx hb dX6_saved_20 rfl (lv_at hl 2 rfl) ?_
        refine lv_iload_n hx hb dX6_saved_21 rfl (lv_at hl 1 rfl) ?_
        refine n_icmp_gt (tgt := 38) hx hb dX6_saved_22 (by decide) (by omega) (by omega) (fun c22 => ?_) (fun c22 => ?_)
        · obtain rfl : pu + 1 = i := by omega
          refine lv_iconst (v := nI 0) hx hb dX6_saved_38 (by decide) ?_
          refine lv_istore_n (lv' := [(2, .int (nI 0)), (0, .ref (q 0)), (1, .int (nI pu))]) hx hb dX6_saved_39 rfl hl (by decide) rfl (fun ls hl => ?_)
          have L40 : ∀ (n40 k : Nat), mc + 1 ≤ k + n40 → k ≤ mc → ∀ (H : Heap) (locs : List Loc), Wd D A s ([oM q 0 tr mc pp num yn cg, aN cA (q 1) 16 sets, aN cA (q 2) 8 (bt ch), aN cA (q 3) 8 amts, aN cA (q 5) 7 pr, aN cA (q 10) 201 (svG mc num pp sets amts pr ch pu (fillF mo 0 (pu + 1)) k)]) H locs → ∀ (ls : Array Slot), lv_has ls 6 [(0, .ref (q 0)), (1, .int (nI pu)), (2, .int (nI k))] → W p l e rm_k_X6_saved s m args below meth c H locs 0 0 Q (F0 m 40 ls []) := by
            intro n40
            induction n40 with
            | zero => exact fun k h1 h2 => absurd h1 (by omega)
            | succ n40 ih40 =>
              intro k hn40 hi40  H locs Z ls hl
              refine lv_iload_n hx hb dX6_saved_40 rfl (lv_at hl 2 rfl) ?_
              refine lv_aload_n hx hb dX6_saved_41 rfl (lv_at hl 0 rfl) ?_
              refine gF_X6_7 E Z dX6_saved_42 0 rfl rfl ?_
              refine n_icmp_ge (tgt := 168) hx hb dX6_saved_45 (by decide) (by omega) (by omega) (fun c45 => ?_) (fun c45 => ?_)
              · obtain rfl : mc = k := by omega
                refine lv_aload_n hx hb dX6_saved_168 rfl (lv_at hl 0 rfl) ?_
                refine gF_X6_47 E Z dX6_saved_169 0 rfl rfl ?_
                refine lv_iload_n hx hb dX6_saved_172 rfl (lv_at hl 1 rfl) ?_
                refine r_ald E Z dX6_saved_173 5 rfl (by omega) (by decide) ?_
                exact ret () Z dX6_saved_174 rfl rfl
              · refine lv_iconst (v := nI 0) hx hb dX6_saved_48 (by decide) ?_
                refine lv_istore_n (lv' := [(3, .int (nI 0)), (0, .ref (q 0)), (1, .int (nI pu)), (2, .int (nI k))]) hx hb dX6_saved_49 rfl hl (by decide) rfl (fun ls hl => ?_)
                have L50 : ∀ (n50 d : Nat), 4 + 1 ≤ d + n50 → d ≤ 4 → ∀ (H : Heap) (locs : List Loc), Wd D A s ([oM q 0 tr mc pp num yn cg, aN cA (q 1) 16 sets, aN cA (q 2) 8 (bt ch), aN cA (q 3) 8 amts, aN cA (q 5) 7 pr, aN cA (q 10) 201 (oc mc num pp sets amts ch (pr k) pu k (svG mc num pp sets amts pr ch pu (fillF mo 0 (pu + 1)) k) d)]) H locs → ∀ (ls : Array Slot), lv_has ls 6 [(0, .ref (q 0)), (1, .int (nI pu)), (2, .int (nI k)), (3, .int (nI d))] → W p l e rm_k_X6_saved s m args below meth c H locs 0 0 Q (F0 m 50 ls []) := by
                  intro n50
                  induction n50 with
                  | zero => exact fun d h1 h2 => absurd h1 (by omega)
                  | succ n50 ih50 =>
                    intro d hn50 hi50  H locs Z ls hl
                    have hcl := cl_lt num k
                    have hprk := hpr k
                    refine lv_iload_n hx hb dX6_saved_50 rfl (lv_at hl 3 rfl) ?_
                    refine lv_iconst (v := nI 4) hx hb dX6_saved_51 (by decide) ?_
                    refine n_icmp_ge (tgt := 162) hx hb dX6_saved_52 (by decide) (by omega) (by omega) (fun c52 => ?_) (fun c52 => ?_)
                    · obtain rfl : 4 = d := by omega
                      refine lv_iinc (v := nI (k + 1)) (lv' := [(2, .int (nI (k + 1))), (0, .ref (q 0)), (1, .int (nI pu)), (3, .int (nI 4))]) hx hb dX6_saved_162 hl (k := 2) rfl (n_inc _ _ (by decide)) (by decide) rfl (fun ls hl => ?_)
                      refine lv_goto (tgt := 40) hx hb dX6_saved_165 (by decide) ?_
                      exact ih40 (k + 1) (by omega) (by omega)   _ _ Z ls (lv_sub hl [1, 2, 0] rfl)
                    · refine lv_aload_n hx hb dX6_saved_55 rfl (lv_at hl 0 rfl) ?_
                      refine gF_X6_69 E Z dX6_saved_56 0 rfl rfl ?_
                      refine lv_iload_n hx hb dX6_saved_59 rfl (lv_at hl 2 rfl) ?_
                      refine c_Si (As := [.int (nI num), .int (nI k)]) (rest := []) (w2 := fun _ => [oM q 0 tr mc pp num yn cg, aN cA (q 1) 16 sets, aN cA (q 2) 8 (bt ch), aN cA (q 3) 8 amts, aN cA (q 5) 7 pr, aN cA (q 10) 201 (oc mc num pp sets amts ch (pr k) pu k (svG mc num pp sets amts pr ch pu (fillF mo 0 (pu + 1)) k) d)]) E Z (k_X6_cellOf l D cA num k (by first | assumption | omega) (by first | assumption | omega)) ws_X6_83 ⟨rfl, rfl, Nat.le_of_ble_eq_true rfl, Nat.le_of_ble_eq_true rfl⟩ [] rfl rfl (fun _ => rfl) (fun _ => rfl) rfl hl.1 rfl (Nat.le_of_ble_eq_true rfl) dX6_saved_60 ⟨Nat.zero_le _, Nat.zero_le _⟩ (fun r60 _ H locs hp60 Z => ?_)
                      subst hp60
                      refine lv_iload_n hx hb dX6_saved_63 rfl (lv_at hl 3 rfl) ?_
                      refine n_icmp_eq (tgt := 156) hx hb dX6_saved_64 (by decide) (by omega) (by omega) (fun c64 => ?_) (fun c64 => ?_)
                      · replace Z : Wd D A s ([oM q 0 tr mc pp num yn cg, aN cA (q 1) 16 sets, aN cA (q 2) 8 (bt ch), aN cA (q 3) 8 amts, aN cA (q 5) 7 pr, aN cA (q 10) 201 (oc mc num pp sets amts ch (pr k) pu k (svG mc num pp sets amts pr ch pu (fillF mo 0 (pu + 1)) k) (d + 1))]) _ _ := Z.to (by rw [show oc mc num pp sets amts ch (pr k) pu k (svG mc num pp sets amts pr ch pu (fillF mo 0 (pu + 1)) k) (d + 1) = oc mc num pp sets amts ch (pr k) pu k (svG mc num pp sets amts pr ch pu (fillF mo 0 (pu + 1)) k) d from if_pos c64.symm])
                        refine lv_iinc (v := nI (d + 1)) (lv' := [(3, .int (nI (d + 1))), (0, .ref (q 0)), (1, .int (nI pu)), (2, .int (nI k))]) hx hb dX6_saved_156 hl (k := 3) rfl (n_inc _ _ (by decide)) (by decide) rfl (fun ls hl => ?_)
                        refine lv_goto (tgt := 50) hx hb dX6_saved_159 (by decide) ?_
                        exact ih50 (d + 1) (by omega) (by omega)   _ _ Z ls (lv_sub hl [1, 2, 3, 0] rfl)
                      · refine lv_aload_n hx hb dX6_saved_67 rfl (lv_at hl 0 rfl) ?_
                        refine lv_iload_n hx hb dX6_saved_68 rfl (lv_at hl 2 rfl) ?_
                        refine lv_iload_n hx hb dX6_saved_69 rfl (lv_at hl 3 rfl) ?_
                        refine c_Vi (As := [.int (nI k), .int (nI d)]) (rest := []) (w2 := fun _ => [oM q 0 tr mc pp num yn cg, aN cA (q 1) 16 sets, aN cA (q 2) 8 (bt ch), aN cA (q 3) 8 amts, aN cA (q 5) 7 pr, aN cA (q 10) 201 (oc mc num pp sets amts ch (pr k) pu k (svG mc num pp sets amts pr ch pu (fillF mo 0 (pu + 1)) k) d)]) E Z (k_X6_copyOf l D cA q tr mc pp num yn cg sets ch amts k d (by first | assumption | omega) (by first | assumption | omega) hs7 (by first | assumption | omega) (by first | assumption | omega) (by first | assumption | omega)) wv_X6_141 ⟨rfl, rfl, Nat.le_of_ble_eq_true rfl, Nat.le_of_ble_eq_true rfl⟩ [0, 1, 2, 3] rfl rfl rfl rfl (q0 := 0) rfl (fun _ => rfl) (fun _ => rfl) rfl hl.1 rfl (Nat.le_of_ble_eq_true rfl) dX6_saved_70 ⟨Nat.zero_le _, Nat.zero_le _⟩ (fun r70 _ H locs hp70 Z => ?_)
                        subst hp70
                        refine lv_istore (lv' := [(4, .int (nI (sm (kpp mc num sets amts ch k d) pp))), (0, .ref (q 0)), (1, .int (nI pu)), (2, .int (nI k)), (3, .int (nI d))]) hx hb dX6_saved_73 hl (by decide) rfl (fun ls hl => ?_)
                        refine lv_iload_n hx hb dX6_saved_75 rfl (lv_at hl 2 rfl) ?_
                        refine lv_istore (lv' := [(5, .int (nI pu)), (4, .int (nI (sm (kpp mc num sets amts ch k d) pp))), (0, .ref (q 0)), (1, .int (nI pu)), (2, .int (nI k)), (3, .int (nI d))]) hx hb dX6_saved_76 hl (by decide) rfl (fun ls hl => ?_)
                        have L78 : ∀ (n78 i : Nat), pu + 1 - pr k + 1 ≤ i + n78 → i ≤ pu + 1 - pr k → ∀ (H : Heap) (locs : List Loc), Wd D A s ([oM q 0 tr mc pp num yn cg, aN cA (q 1) 16 sets, aN cA (q 2) 8 (bt ch), aN cA (q 3) 8 amts, aN cA (q 5) 7 pr, aN cA (q 10) 201 (ofs (pr k) (sm (kpp mc num sets amts ch k d) pp) pu (oc mc num pp sets amts ch (pr k) pu k (svG mc num pp sets amts pr ch pu (fillF mo 0 (pu + 1)) k) d) i)]) H locs → ∀ (ls : Array Slot), lv_has ls 6 [(0, .ref (q 0)), (1, .int (nI pu)), (2, .int (nI k)), (3, .int (nI d)), (4, .int (nI (sm (kpp mc num sets amts ch k d) pp))), (5, .int (nI (pu - i)))] → W p l e rm_k_X6_saved s m args below meth c H locs 0 0 Q (F0 m 78 ls []) := by
                          intro n78
                          induction n78 with
                          | zero => exact fun i h1 h2 => absurd h1 (by omega)
                          | succ n78 ih78 =>
                            intro i hn78 hi78  H locs Z ls hl
                            have hgn := kps_le (M := mc) (g := num) (sets := sets) (ch := ch) (m := k) (d := d) hP ha10
                            have hsv := svG_le (M := mc) (g := num) (sets := sets) (pr := pr) (ch := ch) (fillF_le hmo (Nat.zero_le _) (pu + 1)) hP ha10 hpu k
                            have hoc := oc_le (M := mc) (g := num) (sets := sets) (ch := ch) (cost := pr k) (m := k) hP ha10 hpu hsv d
                            have hol := ofs_le (cost := pr k) (gain := sm (kpp mc num sets amts ch k d) pp) (pu := pu) (f := oc mc num pp sets amts ch (pr k) pu k (svG mc num pp sets amts pr ch pu (fillF mo 0 (pu + 1)) k) d) hoc i
                            have hig : i * sm (kpp mc num sets amts ch k d) pp ≤ 201 * 72 := Nat.mul_le_mul (by omega) hgn
                            refine lv_iload hx hb dX6_saved_78 (lv_at hl 5 rfl) ?_
                            refine lv_aload_n hx hb dX6_saved_80 rfl (lv_at hl 0 rfl) ?_
                            refine gF_X6_29 E Z dX6_saved_81 0 rfl rfl ?_
                            refine lv_iload_n hx hb dX6_saved_84 rfl (lv_at hl 2 rfl) ?_
                            refine r_ald E Z dX6_saved_85 4 rfl (by omega) (by decide) ?_
                            refine n_icmp_lt (tgt := 156) hx hb dX6_saved_86 (by decide) (by omega) (by omega) (fun c86 => ?_) (fun c86 => ?_)
                            · obtain rfl : pu + 1 - pr k = i := by omega
                              replace Z : Wd D A s ([oM q 0 tr mc pp num yn cg, aN cA (q 1) 16 sets, aN cA (q 2) 8 (bt ch), aN cA (q 3) 8 amts, aN cA (q 5) 7 pr, aN cA (q 10) 201 (oc mc num pp sets amts ch (pr k) pu k (svG mc num pp sets amts pr ch pu (fillF mo 0 (pu + 1)) k) (d + 1))]) _ _ := Z.to (by rw [show oc mc num pp sets amts ch (pr k) pu k (svG mc num pp sets amts pr ch pu (fillF mo 0 (pu + 1)) k) (d + 1) = ofs (pr k) (sm (kpp mc num sets amts ch k d) pp) pu (oc mc num pp sets amts ch (pr k) pu k (svG mc num pp sets amts pr ch pu (fillF mo 0 (pu + 1)) k) d) (pu + 1 - pr k) from if_neg (fun h => c64 h.symm)])
                              refine lv_iinc (v := nI (d + 1)) (lv' := [(3, .int (nI (d + 1))), (0, .ref (q 0)), (1, .int (nI pu)), (2, .int (nI k)), (4, .int (nI (sm (kpp mc num sets amts ch k d) pp))), (5, .int (nI (pu - (pu + 1 - pr k))))]) hx hb dX6_saved_156 hl (k := 3) rfl (n_inc _ _ (by decide)) (by decide) rfl (fun ls hl => ?_)
                              refine lv_goto (tgt := 50) hx hb dX6_saved_159 (by decide) ?_
                              exact ih50 (d + 1) (by omega) (by omega)   _ _ Z ls (lv_sub hl [1, 2, 3, 0] rfl)
                            · refine lv_aload_n hx hb dX6_saved_89 rfl (lv_at hl 0 rfl) ?_
                              refine gF_X6_47 E Z dX6_saved_90 0 rfl rfl ?_
                              refine lv_iload hx hb dX6_saved_93 (lv_at hl 5 rfl) ?_
                              refine lv_aload_n hx hb dX6_saved_95 rfl (lv_at hl 0 rfl) ?_
                              refine gF_X6_47 E Z dX6_saved_96 0 rfl rfl ?_
                              refine lv_iload hx hb dX6_saved_99 (lv_at hl 5 rfl) ?_
                              refine lv_aload_n hx hb dX6_saved_101 rfl (lv_at hl 0 rfl) ?_
                              refine gF_X6_29 E Z dX6_saved_102 0 rfl rfl ?_
                              refine lv_iload_n hx hb dX6_saved_105 rfl (lv_at hl 2 rfl) ?_
                              refine r_ald E Z dX6_saved_106 4 rfl (by omega) (by decide) ?_
                              refine n_isub hx hb dX6_saved_107 (by omega) ?_
                              refine r_ald E Z dX6_saved_108 5 rfl (by omega) (by decide) ?_
                              refine lv_iload hx hb dX6_saved_109 (lv_at hl 4 rfl) ?_
                              refine n_iadd hx hb dX6_saved_111 ?_
                              refine lv_aload_n hx hb dX6_saved_112 rfl (lv_at hl 0 rfl) ?_
                              refine gF_X6_47 E Z dX6_saved_113 0 rfl rfl ?_
                              refine lv_iload hx hb dX6_saved_116 (lv_at hl 5 rfl) ?_
                              refine r_ald E Z dX6_saved_118 5 rfl (by omega) (by decide) ?_
                              have ho1 := hol (pu - i)
                              have ho2 := hol (pu - i - pr k)
                              refine n_icmp_le (tgt := 142) hx hb dX6_saved_119 (by decide) (by omega) (by omega) (fun c119 => ?_) (fun c119 => ?_)
                              · refine lv_aload_n hx hb dX6_saved_142 rfl (lv_at hl 0 rfl) ?_
                                refine gF_X6_47 E Z dX6_saved_143 0 rfl rfl ?_
                                refine lv_iload hx hb dX6_saved_146 (lv_at hl 5 rfl) ?_
                                refine r_ald E Z dX6_saved_148 5 rfl (by omega) (by decide) ?_
                                refine r_top (y := nI (max (ofs (pr k) (sm (kpp mc num sets amts ch k d) pp) pu (oc mc num pp sets amts ch (pr k) pu k (svG mc num pp sets amts pr ch pu (fillF mo 0 (pu + 1)) k) d) i (pu - i)) (ofs (pr k) (sm (kpp mc num sets amts ch k d) pp) pu (oc mc num pp sets amts ch (pr k) pu k (svG mc num pp sets amts pr ch pu (fillF mo 0 (pu + 1)) k) d) i (pu - i - pr k) + sm (kpp mc num sets amts ch k d) pp))) (congrArg nI (Nat.max_eq_left c119).symm) ?_
                                refine r_ast (w1 := [oM q 0 tr mc pp num yn cg, aN cA (q 1) 16 sets, aN cA (q 2) 8 (bt ch), aN cA (q 3) 8 amts, aN cA (q 5) 7 pr, aN cA (q 10) 201 (up (ofs (pr k) (sm (kpp mc num sets amts ch k d) pp) pu (oc mc num pp sets amts ch (pr k) pu k (svG mc num pp sets amts pr ch pu (fillF mo 0 (pu + 1)) k) d) i) (pu - i) (max (ofs (pr k) (sm (kpp mc num sets amts ch k d) pp) pu (oc mc num pp sets amts ch (pr k) pu k (svG mc num pp sets amts pr ch pu (fillF mo 0 (pu + 1)) k) d) i (pu - i)) (ofs (pr k) (sm (kpp mc num sets amts ch k d) pp) pu (oc mc num pp sets amts ch (pr k) pu k (svG mc num pp sets amts pr ch pu (fillF mo 0 (pu + 1)) k) d) i (pu - i - pr k) + sm (kpp mc num sets amts ch k d) pp)))]) E Z dX6_saved_149 5 rfl (by omega) (by decide) rfl (fun H locs Z => ?_)
                                refine lv_iinc (v := nI (pu - i - 1)) (lv' := [(5, .int (nI (pu - i - 1))), (0, .ref (q 0)), (1, .int (nI pu)), (2, .int (nI k)), (3, .int (nI d)), (4, .int (nI (sm (kpp mc num sets amts ch k d) pp)))]) hx hb dX6_saved_150 hl (k := 5) rfl (n_dec (by omega) (by decide)) (by decide) rfl (fun ls hl => ?_)
                                refine lv_goto (tgt := 78) hx hb dX6_saved_153 (by decide) ?_
                                exact ih78 (i + 1) (by omega) (by omega)   _ _ Z ls (lv_sub hl [1, 2, 3, 4, 5, 0] rfl)
                              · refine lv_aload_n hx hb dX6_saved_122 rfl (lv_at hl 0 rfl) ?_
                                refine gF_X6_47 E Z dX6_saved_123 0 rfl rfl ?_
                                refine lv_iload hx hb dX6_saved_126 (lv_at hl 5 rfl) ?_
                                refine lv_aload_n hx hb dX6_saved_128 rfl (lv_at hl 0 rfl) ?_
                                refine gF_X6_29 E Z dX6_saved_129 0 rfl rfl ?_
                                refine lv_iload_n hx hb dX6_saved_132 rfl (lv_at hl 2 rfl) ?_
                                refine r_ald E Z dX6_saved_133 4 rfl (by omega) (by decide) ?_
                                refine n_isub hx hb dX6_saved_134 (by omega) ?_
                                refine r_ald E Z dX6_saved_135 5 rfl (by omega) (by decide) ?_
                                refine lv_iload hx hb dX6_saved_136 (lv_at hl 4 rfl) ?_
                                refine n_iadd hx hb dX6_saved_138 ?_
                                refine lv_goto (tgt := 149) hx hb dX6_saved_139 (by decide) ?_
                                refine r_top (y := nI (max (ofs (pr k) (sm (kpp mc num sets amts ch k d) pp) pu (oc mc num pp sets amts ch (pr k) pu k (svG mc num pp sets amts pr ch pu (fillF mo 0 (pu + 1)) k) d) i (pu - i)) (ofs (pr k) (sm (kpp mc num sets amts ch k d) pp) pu (oc mc num pp sets amts ch (pr k) pu k (svG mc num pp sets amts pr ch pu (fillF mo 0 (pu + 1)) k) d) i (pu - i - pr k) + sm (kpp mc num sets amts ch k d) pp))) (congrArg nI (Nat.max_eq_right (Nat.le_of_lt c119)).symm) ?_
                                refine r_ast (w1 := [oM q 0 tr mc pp num yn cg, aN cA (q 1) 16 sets, aN cA (q 2) 8 (bt ch), aN cA (q 3) 8 amts, aN cA (q 5) 7 pr, aN cA (q 10) 201 (up (ofs (pr k) (sm (kpp mc num sets amts ch k d) pp) pu (oc mc num pp sets amts ch (pr k) pu k (svG mc num pp sets amts pr ch pu (fillF mo 0 (pu + 1)) k) d) i) (pu - i) (max (ofs (pr k) (sm (kpp mc num sets amts ch k d) pp) pu (oc mc num pp sets amts ch (pr k) pu k (svG mc num pp sets amts pr ch pu (fillF mo 0 (pu + 1)) k) d) i (pu - i)) (ofs (pr k) (sm (kpp mc num sets amts ch k d) pp) pu (oc mc num pp sets amts ch (pr k) pu k (svG mc num pp sets amts pr ch pu (fillF mo 0 (pu + 1)) k) d) i (pu - i - pr k) + sm (kpp mc num sets amts ch k d) pp)))]) E Z dX6_saved_149 5 rfl (by omega) (by decide) rfl (fun H locs Z => ?_)
                                refine lv_iinc (v := nI (pu - i - 1)) (lv' := [(5, .int (nI (pu - i - 1))), (0, .ref (q 0)), (1, .int (nI pu)), (2, .int (nI k)), (3, .int (nI d)), (4, .int (nI (sm (kpp mc num sets amts ch k d) pp)))]) hx hb dX6_saved_150 hl (k := 5) rfl (n_dec (by omega) (by decide)) (by decide) rfl (fun ls hl => ?_)
                                refine lv_goto (tgt := 78) hx hb dX6_saved_153 (by decide) ?_
                                exact ih78 (i + 1) (by omega) (by omega)   _ _ Z ls (lv_sub hl [1, 2, 3, 4, 5, 0] rfl)
                        exact L78 ((pu + 1 - pr k) + 1) 0 (by omega) (by omega)   _ _ Z ls (lv_sub hl [2, 3, 4, 5, 1, 0] rfl)
                exact L50 (4 + 1) 0 (by omega) (by omega)   _ _ Z ls (lv_sub hl [1, 2, 3, 0] rfl)
          exact L40 (mc + 1) 0 (by omega) (by omega)   _ _ Z ls (lv_sub hl [1, 2, 0] rfl)
        · refine lv_aload_n hx hb dX6_saved_25 rfl (lv_at hl 0 rfl) ?_
          refine gF_X6_47 E Z dX6_saved_26 0 rfl rfl ?_
          refine lv_iload_n hx hb dX6_saved_29 rfl (lv_at hl 2 rfl) ?_
          refine lv_iconst (v := nI 0) hx hb dX6_saved_30 (by decide) ?_
          refine r_ast (w1 := [oM q 0 tr mc pp num yn cg, aN cA (q 1) 16 sets, aN cA (q 2) 8 (bt ch), aN cA (q 3) 8 amts, aN cA (q 5) 7 pr, aN cA (q 10) 201 (up (fillF mo 0 i) i 0)]) E Z dX6_saved_31 5 rfl (by omega) (by decide) rfl (fun H locs Z => ?_)
          refine lv_iinc (v := nI (i + 1)) (lv' := [(2, .int (nI (i + 1))), (0, .ref (q 0)), (1, .int (nI pu))]) hx hb dX6_saved_32 hl (k := 2) rfl (n_inc _ _ (by decide)) (by decide) rfl (fun ls hl => ?_)
          refine lv_goto (tgt := 20) hx hb dX6_saved_35 (by decide) ?_
          exact ih20 (i + 1) (by omega) (by omega)   _ _ Z ls (lv_sub hl [1, 2, 0] rfl)
    exact L20 ((pu + 1) + 1) 0 (by omega) (by omega)   _ _ Z ls (lv_sub hl [1, 2, 0] rfl)
  · exact absurd (inr_ok (by omega) (by omega) (by omega)) c13
abbrev rm_k_X6_way_bad : Room := { frames := 2, cells := 0, slots := 0, locals := 46 }
set_option maxHeartbeats 4000000 in
set_option maxRecDepth 100000 in
theorem k_X6_way_bad (l : Launch) (D : va_G) (cA : ClassId) (q : Nat → Nat) (tr : Int64) (mc : Nat) (pp : Nat) (num : Nat) (yn : Nat) (cg : Nat) (pl : Nat → Nat) (x1 : Int32) (x2 : Int32) (x3 : Int32) (x4 : Int32) (hbad : ∀ a b d f, a < 4 → b < 4 → d < 4 → f < 4 → x1 = nI a → x2 = nI b → x3 = nI d → x4 = nI f → ¬ eo (ord a b d f)) : Cti l yX6_way cX6_way 5 (some .int) rm_k_X6_way_bad D cA [.ref (q 0), .int x1, .int x2, .int x3, .int x4] ([oM q 0 tr mc pp num yn cg, aN cA (q 11) 4 pl]) (fun (r : Int32) (_ : Unit) => r = (-1)) (fun _ => [oM q 0 tr mc pp num yn cg, aN cA (q 11) 4 pl]) := by
  refine st_i (by decide) (Nat.le_of_ble_eq_true rfl) ?_
  intro p e s m args below meth c A Q E ret Z ls hl
  have hx := E.1.1
  have hb := E.1.2.1
  have hl : lv_has ls 5 [(0, .ref (q 0)), (1, .int x1), (2, .int x2), (3, .int x3), (4, .int x4)] := hl
  refine lv_aload_n hx hb dX6_way_0 rfl (lv_at hl 0 rfl) ?_
  refine lv_iconst (v := nI 0) hx hb dX6_way_1 (by decide) ?_
  refine pF_X6_66 (w1 := [oM q 0 tr mc pp num yn cg, aN cA (q 11) 4 pl]) E Z dX6_way_2 0 rfl (Nat.le_of_ble_eq_true rfl) rfl (fun H locs Z => ?_)
  refine lv_aload_n hx hb dX6_way_5 rfl (lv_at hl 0 rfl) ?_
  refine lv_iload_n hx hb dX6_way_6 rfl (lv_at hl 1 rfl) ?_
  refine lv_iload_n hx hb dX6_way_7 rfl (lv_at hl 2 rfl) ?_
  refine lv_iload_n hx hb dX6_way_8 rfl (lv_at hl 3 rfl) ?_
  refine lv_iload hx hb dX6_way_9 (lv_at hl 4 rfl) ?_
  refine c_Vi (As := [.int x1, .int x2, .int x3, .int x4]) (rest := []) (w2 := fun _ => [oM q 0 tr mc pp num yn cg, aN cA (q 11) 4 pl]) E Z (k_X6_lays_bad l D cA q tr mc pp num yn cg pl x1 x2 x3 x4 (by first | assumption | omega)) wv_X6_144 ⟨rfl, rfl, Nat.le_of_ble_eq_true rfl, Nat.le_of_ble_eq_true rfl⟩ [0, 1] rfl rfl rfl rfl (q0 := 0) rfl (fun _ => rfl) (fun _ => rfl) rfl hl.1 rfl (Nat.le_of_ble_eq_true rfl) dX6_way_11 ⟨Nat.zero_le _, Nat.zero_le _⟩ (fun r11 _ H locs hp11 Z => ?_)
  subst hp11
  refine b_if_eq (tgt := 24) hx hb dX6_way_14 (by decide) (fun c14 => ?_) (fun c14 => ?_)
  · refine lv_iconst (v := (-1)) hx hb dX6_way_24 (by decide) ?_
    exact ret () Z dX6_way_25 rfl rfl
  · exact absurd c14 id
abbrev rm_k_X6_way : Room := { frames := 4, cells := 0, slots := 0, locals := 95 }
set_option maxHeartbeats 4000000 in
set_option maxRecDepth 100000 in
theorem k_X6_way (l : Launch) (D : va_G) (cA : ClassId) (q : Nat → Nat) (tr : Int64) (mc : Nat) (pp : Nat) (num : Nat) (yn : Nat) (cg : Nat) (sets : Nat → Nat) (ch : Nat) (amts : Nat → Nat) (pl : Nat → Nat) (a : Nat) (b : Nat) (d : Nat) (f : Nat) (hP : pp ≤ 8) (hs : ∀ j, sets j < 2 ^ mc) (hM : mc ≤ 7) (hnum : num < 2 ^ (2 * mc)) (ha : a < 4) (hb0 : b < 4) (hd : d < 4) (hf : f < 4) (he : eo (ord a b d f)) : Cti l yX6_way cX6_way 5 (some .int) rm_k_X6_way D cA [.ref (q 0), .int (nI a), .int (nI b), .int (nI d), .int (nI f)] ([oM q 0 tr mc pp num yn cg, aN cA (q 1) 16 sets, aN cA (q 2) 8 (bt ch), aN cA (q 3) 8 amts, aN cA (q 11) 4 pl]) (fun (r : Int32) (_ : Unit) => r = nI (sm (wym mc num sets amts ch (plc (ord a b d f))) pp)) (fun _ => [oM q 0 tr mc pp num yn cg, aN cA (q 1) 16 sets, aN cA (q 2) 8 (bt ch), aN cA (q 3) 8 amts, aN cA (q 11) 4 (plc (ord a b d f))]) := by
  refine st_i (by decide) (Nat.le_of_ble_eq_true rfl) ?_
  intro p e s m args below meth c A Q E ret Z ls hl
  have hx := E.1.1
  have hb := E.1.2.1
  have hl : lv_has ls 5 [(0, .ref (q 0)), (1, .int (nI a)), (2, .int (nI b)), (3, .int (nI d)), (4, .int (nI f))] := hl
  have h14 : 2 ^ (2 * mc) ≤ 2 ^ 14 := Nat.pow_le_pow_right (by decide) (by omega)
  have hs7 := hs7_of hs hM
  refine lv_aload_n hx hb dX6_way_0 rfl (lv_at hl 0 rfl) ?_
  refine lv_iconst (v := nI 0) hx hb dX6_way_1 (by decide) ?_
  refine pF_X6_66 (w1 := [oM q 0 tr mc pp num yn cg, aN cA (q 1) 16 sets, aN cA (q 2) 8 (bt ch), aN cA (q 3) 8 amts, aN cA (q 11) 4 pl]) E Z dX6_way_2 0 rfl (Nat.le_of_ble_eq_true rfl) rfl (fun H locs Z => ?_)
  refine lv_aload_n hx hb dX6_way_5 rfl (lv_at hl 0 rfl) ?_
  refine lv_iload_n hx hb dX6_way_6 rfl (lv_at hl 1 rfl) ?_
  refine lv_iload_n hx hb dX6_way_7 rfl (lv_at hl 2 rfl) ?_
  refine lv_iload_n hx hb dX6_way_8 rfl (lv_at hl 3 rfl) ?_
  refine lv_iload hx hb dX6_way_9 (lv_at hl 4 rfl) ?_
  refine c_Vi (As := [.int (nI a), .int (nI b), .int (nI d), .int (nI f)]) (rest := []) (w2 := fun u11 => [oM q 0 tr mc pp num yn cg, aN cA (q 1) 16 sets, aN cA (q 2) 8 (bt ch), aN cA (q 3) 8 amts, aN cA (q 11) 4 u11]) E Z (k_X6_lays l D cA q tr mc pp num yn cg pl a b d f (by first | assumption | omega) (by first | assumption | omega) (by first | assumption | omega) (by first | assumption | omega)) wv_X6_144 ⟨rfl, rfl, Nat.le_of_ble_eq_true rfl, Nat.le_of_ble_eq_true rfl⟩ [0, 4] rfl rfl rfl rfl (q0 := 0) rfl (fun _ => rfl) (fun _ => rfl) rfl hl.1 rfl (Nat.le_of_ble_eq_true rfl) dX6_way_11 ⟨Nat.zero_le _, Nat.zero_le _⟩ (fun r11 u11 H locs hp11 Z => ?_)
  obtain ⟨rfl, hp11⟩ := hp11
  have hu := hp11 he
  refine b_if_eq (tgt := 24) hx hb dX6_way_14 (by decide) (fun c14 => ?_) (fun c14 => ?_)
  · exact absurd he c14
  · replace Z : Wd D A s ([oM q 0 tr mc pp num yn cg, aN cA (q 1) 16 sets, aN cA (q 2) 8 (bt ch), aN cA (q 3) 8 amts, aN cA (q 11) 4 (plc (ord a b d f))]) _ _ := Z.to (by rw [hu])
    refine lv_aload_n hx hb dX6_way_17 rfl (lv_at hl 0 rfl) ?_
    refine c_Vi (As := []) (rest := []) (w2 := fun _ => [oM q 0 tr mc pp num yn cg, aN cA (q 1) 16 sets, aN cA (q 2) 8 (bt ch), aN cA (q 3) 8 amts, aN cA (q 11) 4 (plc (ord a b d f))]) E Z (k_X6_wayOf l D cA q tr mc pp num yn cg sets ch amts (plc (ord a b d f)) (by first | assumption | omega) (by first | assumption | omega) hs7 (by first | assumption | omega) (plc_lt _)) wv_X6_148 ⟨rfl, rfl, Nat.le_of_ble_eq_true rfl, Nat.le_of_ble_eq_true rfl⟩ [0, 1, 2, 3, 4] rfl rfl rfl rfl (q0 := 0) rfl (fun _ => rfl) (fun _ => rfl) rfl hl.1 rfl (Nat.le_of_ble_eq_true rfl) dX6_way_18 ⟨Nat.zero_le _, Nat.zero_le _⟩ (fun r18 _ H locs hp18 Z => ?_)
    subst hp18
    refine lv_goto (tgt := 25) hx hb dX6_way_21 (by decide) ?_
    exact ret () Z dX6_way_25 rfl rfl
abbrev rm_k_X6_floor_bad : Room := { frames := 1, cells := 0, slots := 0, locals := 22 }
set_option maxHeartbeats 4000000 in
set_option maxRecDepth 100000 in
theorem k_X6_floor_bad (l : Launch) (D : va_G) (cA : ClassId) (q : Nat → Nat) (tr : Int64) (mc : Nat) (pp : Nat) (num : Nat) (yn : Nat) (cg : Nat) (x1 : Int32) (hbad : ¬ ((nI 0 ≤ x1 ∧ x1 ≤ nI 4))) : Cti l yX6_floor cX6_floor 4 (some .int) rm_k_X6_floor_bad D cA [.ref (q 0), .int x1] ([oM q 0 tr mc pp num yn cg]) (fun (r : Int32) (_ : Unit) => r = (-1)) (fun _ => [oM q 0 tr mc pp num yn cg]) := by
  refine st_i (by decide) (Nat.le_of_ble_eq_true rfl) ?_
  intro p e s m args below meth c A Q E ret Z ls hl
  have hx := E.1.1
  have hb := E.1.2.1
  have hl : lv_has ls 4 [(0, .ref (q 0)), (1, .int x1)] := hl
  refine lv_aload_n hx hb dX6_floor_0 rfl (lv_at hl 0 rfl) ?_
  refine lv_iconst (v := nI 0) hx hb dX6_floor_1 (by decide) ?_
  refine pF_X6_66 (w1 := [oM q 0 tr mc pp num yn cg]) E Z dX6_floor_2 0 rfl (Nat.le_of_ble_eq_true rfl) rfl (fun H locs Z => ?_)
  refine lv_iload_n hx hb dX6_floor_5 rfl (lv_at hl 1 rfl) ?_
  refine lv_iconst (v := nI 0) hx hb dX6_floor_6 (by decide) ?_
  refine lv_iconst (v := nI 4) hx hb dX6_floor_7 (by decide) ?_
  refine c_Si (As := [.int x1, .int (nI 0), .int (nI 4)]) (rest := []) (w2 := fun _ => [oM q 0 tr mc pp num yn cg]) E Z (k_X6_in l D cA x1 (nI 0) (nI 4) ) ws_X6_72 ⟨rfl, rfl, Nat.le_of_ble_eq_true rfl, Nat.le_of_ble_eq_true rfl⟩ [] rfl rfl (fun _ => rfl) (fun _ => rfl) rfl hl.1 rfl (Nat.le_of_ble_eq_true rfl) dX6_floor_8 ⟨Nat.zero_le _, Nat.zero_le _⟩ (fun r8 _ H locs hp8 Z => ?_)
  subst hp8
  refine b_if_ne (tgt := 16) hx hb dX6_floor_11 (by decide) (fun c11 => ?_) (fun c11 => ?_)
  · exact absurd c11 hbad
  · refine lv_iconst (v := (-1)) hx hb dX6_floor_14 (by decide) ?_
    exact ret () Z dX6_floor_15 rfl rfl
abbrev rm_k_X6_floor : Room := { frames := 4, cells := 0, slots := 0, locals := 95 }
set_option maxHeartbeats 4000000 in
set_option maxRecDepth 100000 in
theorem k_X6_floor (l : Launch) (D : va_G) (cA : ClassId) (q : Nat → Nat) (tr : Int64) (mc : Nat) (pp : Nat) (num : Nat) (yn : Nat) (cg : Nat) (sets : Nat → Nat) (ch : Nat) (amts : Nat → Nat) (pl : Nat → Nat) (be : Nat → Int32) (wh : Nat) (hP : pp ≤ 8) (hs : ∀ j, sets j < 2 ^ mc) (hM : mc ≤ 7) (hnum : num < 2 ^ (2 * mc)) (hw : wh ≤ 4) : Cti l yX6_floor cX6_floor 4 (some .int) rm_k_X6_floor D cA [.ref (q 0), .int (nI wh)] ([oM q 0 tr mc pp num yn cg, aN cA (q 1) 16 sets, aN cA (q 2) 8 (bt ch), aN cA (q 3) 8 amts, aN cA (q 11) 4 pl, aR cA (q 12) 5 be]) (fun (r : Int32) (_ : Nat → Nat) => r = bsr (fun z => sm (wym mc num sets amts ch (plc z)) pp) be 256 wh) (fun u => [oM q 0 tr mc pp num yn cg, aN cA (q 1) 16 sets, aN cA (q 2) 8 (bt ch), aN cA (q 3) 8 amts, aN cA (q 11) 4 u, aR cA (q 12) 5 (bsr (fun z => sm (wym mc num sets amts ch (plc z)) pp) be 256)]) := by
  refine st_i (by decide) (Nat.le_of_ble_eq_true rfl) ?_
  intro p e s m args below meth c A Q E ret Z ls hl
  have hx := E.1.1
  have hb := E.1.2.1
  have hl : lv_has ls 4 [(0, .ref (q 0)), (1, .int (nI wh))] := hl
  have h14 : 2 ^ (2 * mc) ≤ 2 ^ 14 := Nat.pow_le_pow_right (by decide) (by omega)
  have hs7 := hs7_of hs hM
  refine lv_aload_n hx hb dX6_floor_0 rfl (lv_at hl 0 rfl) ?_
  refine lv_iconst (v := nI 0) hx hb dX6_floor_1 (by decide) ?_
  refine pF_X6_66 (w1 := [oM q 0 tr mc pp num yn cg, aN cA (q 1) 16 sets, aN cA (q 2) 8 (bt ch), aN cA (q 3) 8 amts, aN cA (q 11) 4 pl, aR cA (q 12) 5 be]) E Z dX6_floor_2 0 rfl (Nat.le_of_ble_eq_true rfl) rfl (fun H locs Z => ?_)
  refine lv_iload_n hx hb dX6_floor_5 rfl (lv_at hl 1 rfl) ?_
  refine lv_iconst (v := nI 0) hx hb dX6_floor_6 (by decide) ?_
  refine lv_iconst (v := nI 4) hx hb dX6_floor_7 (by decide) ?_
  refine c_Si (As := [.int (nI wh), .int (nI 0), .int (nI 4)]) (rest := []) (w2 := fun _ => [oM q 0 tr mc pp num yn cg, aN cA (q 1) 16 sets, aN cA (q 2) 8 (bt ch), aN cA (q 3) 8 amts, aN cA (q 11) 4 pl, aR cA (q 12) 5 be]) E Z (k_X6_in l D cA (nI wh) (nI 0) (nI 4) ) ws_X6_72 ⟨rfl, rfl, Nat.le_of_ble_eq_true rfl, Nat.le_of_ble_eq_true rfl⟩ [] rfl rfl (fun _ => rfl) (fun _ => rfl) rfl hl.1 rfl (Nat.le_of_ble_eq_true rfl) dX6_floor_8 ⟨Nat.zero_le _, Nat.zero_le _⟩ (fun r8 _ H locs hp8 Z => ?_)
  subst hp8
  refine b_if_ne (tgt := 16) hx hb dX6_floor_11 (by decide) (fun c11 => ?_) (fun c11 => ?_)
  · refine lv_aload_n hx hb dX6_floor_16 rfl (lv_at hl 0 rfl) ?_
    refine gF_X6_53 E Z dX6_floor_17 0 rfl rfl ?_
    refine lv_iconst (v := nI 4) hx hb dX6_floor_20 (by decide) ?_
    refine lv_bipush (v := (-9)) hx hb dX6_floor_21 (by decide) ?_
    refine r_astR (w1 := [oM q 0 tr mc pp num yn cg, aN cA (q 1) 16 sets, aN cA (q 2) 8 (bt ch), aN cA (q 3) 8 amts, aN cA (q 11) 4 pl, aR cA (q 12) 5 (up be 4 (-9))]) E Z dX6_floor_23 5 rfl (by omega) (by decide) rfl (fun H locs Z => ?_)
    refine lv_iconst (v := nI 0) hx hb dX6_floor_24 (by decide) ?_
    refine lv_istore_n (lv' := [(2, .int (nI 0)), (0, .ref (q 0)), (1, .int (nI wh))]) hx hb dX6_floor_25 rfl hl (by decide) rfl (fun ls hl => ?_)
    have L26 : ∀ (n26 k : Nat), 256 + 1 ≤ k + n26 → k ≤ 256 → ∀ (pl : Nat → Nat), ∀ (H : Heap) (locs : List Loc), Wd D A s ([oM q 0 tr mc pp num yn cg, aN cA (q 1) 16 sets, aN cA (q 2) 8 (bt ch), aN cA (q 3) 8 amts, aN cA (q 11) 4 pl, aR cA (q 12) 5 (bsr (fun z => sm (wym mc num sets amts ch (plc z)) pp) be k)]) H locs → ∀ (ls : Array Slot), lv_has ls 4 [(0, .ref (q 0)), (1, .int (nI wh)), (2, .int (nI k))] → W p l e rm_k_X6_floor s m args below meth c H locs 0 0 Q (F0 m 26 ls []) := by
      intro n26
      induction n26 with
      | zero => exact fun k h1 h2 => absurd h1 (by omega)
      | succ n26 ih26 =>
        intro k hn26 hi26 pl  H locs Z ls hl
        refine lv_iload_n hx hb dX6_floor_26 rfl (lv_at hl 2 rfl) ?_
        refine lv_sipush (v := nI 256) hx hb dX6_floor_27 (by decide) ?_
        refine n_icmp_ge (tgt := 137) hx hb dX6_floor_30 (by decide) (by omega) (by omega) (fun c30 => ?_) (fun c30 => ?_)
        · obtain rfl : 256 = k := by omega
          refine lv_aload_n hx hb dX6_floor_137 rfl (lv_at hl 0 rfl) ?_
          refine gF_X6_53 E Z dX6_floor_138 0 rfl rfl ?_
          refine lv_iload_n hx hb dX6_floor_141 rfl (lv_at hl 1 rfl) ?_
          refine r_aldR E Z dX6_floor_142 5 rfl (by omega) (by decide) ?_
          exact ret _ Z dX6_floor_143 rfl rfl
        · refine lv_aload_n hx hb dX6_floor_33 rfl (lv_at hl 0 rfl) ?_
          refine lv_iload_n hx hb dX6_floor_34 rfl (lv_at hl 2 rfl) ?_
          refine lv_bipush (v := nI 6) hx hb dX6_floor_35 (by decide) ?_
          refine n_ishr hx hb dX6_floor_37 (by omega) (by omega) ?_
          refine lv_iload_n hx hb dX6_floor_38 rfl (lv_at hl 2 rfl) ?_
          refine lv_iconst (v := nI 4) hx hb dX6_floor_39 (by decide) ?_
          refine n_ishr hx hb dX6_floor_40 (by omega) (by omega) ?_
          refine lv_iconst (v := nI 3) hx hb dX6_floor_41 (by decide) ?_
          refine n_iand3 hx hb dX6_floor_42 ?_
          refine lv_iload_n hx hb dX6_floor_43 rfl (lv_at hl 2 rfl) ?_
          refine lv_iconst (v := nI 2) hx hb dX6_floor_44 (by decide) ?_
          refine n_ishr hx hb dX6_floor_45 (by omega) (by omega) ?_
          refine lv_iconst (v := nI 3) hx hb dX6_floor_46 (by decide) ?_
          refine n_iand3 hx hb dX6_floor_47 ?_
          refine lv_iload_n hx hb dX6_floor_48 rfl (lv_at hl 2 rfl) ?_
          refine lv_iconst (v := nI 3) hx hb dX6_floor_49 (by decide) ?_
          refine n_iand3 hx hb dX6_floor_50 ?_
          refine c_Vi (As := [.int (nI (k / 2 ^ 6)), .int (nI ((k / 2 ^ 4) % 4)), .int (nI ((k / 2 ^ 2) % 4)), .int (nI (k % 4))]) (rest := []) (w2 := fun u51 => [oM q 0 tr mc pp num yn cg, aN cA (q 1) 16 sets, aN cA (q 2) 8 (bt ch), aN cA (q 3) 8 amts, aN cA (q 11) 4 u51, aR cA (q 12) 5 (bsr (fun z => sm (wym mc num sets amts ch (plc z)) pp) be k)]) E Z (k_X6_lays l D cA q tr mc pp num yn cg pl (k / 2 ^ 6) ((k / 2 ^ 4) % 4) ((k / 2 ^ 2) % 4) (k % 4) (by omega) (Nat.mod_lt _ (by decide)) (Nat.mod_lt _ (by decide)) (Nat.mod_lt _ (by decide))) wv_X6_144 ⟨rfl, rfl, Nat.le_of_ble_eq_true rfl, Nat.le_of_ble_eq_true rfl⟩ [0, 4] rfl rfl rfl rfl (q0 := 0) rfl (fun _ => rfl) (fun _ => rfl) rfl hl.1 rfl (Nat.le_of_ble_eq_true rfl) dX6_floor_51 ⟨Nat.zero_le _, Nat.zero_le _⟩ (fun r51 u51 H locs hp51 Z => ?_)
          obtain ⟨rfl, hp51⟩ := hp51
          rw [ord_cat k (by omega)] at hp51
          refine r_top (y := bI (eo k)) (by rw [ord_cat k (by omega)]) ?_
          refine b_if_eq (tgt := 131) hx hb dX6_floor_54 (by decide) (fun c54 => ?_) (fun c54 => ?_)
          · replace Z : Wd D A s ([oM q 0 tr mc pp num yn cg, aN cA (q 1) 16 sets, aN cA (q 2) 8 (bt ch), aN cA (q 3) 8 amts, aN cA (q 11) 4 u51, aR cA (q 12) 5 (bsr (fun z => sm (wym mc num sets amts ch (plc z)) pp) be (k + 1))]) _ _ := Z.to (by rw [show bsr (fun z => sm (wym mc num sets amts ch (plc z)) pp) be (k + 1) = bsr (fun z => sm (wym mc num sets amts ch (plc z)) pp) be k from cnd_f (fun h => c54 h.1)])
            refine lv_iinc (v := nI (k + 1)) (lv' := [(2, .int (nI (k + 1))), (0, .ref (q 0)), (1, .int (nI wh))]) hx hb dX6_floor_131 hl (k := 2) rfl (n_inc _ _ (by decide)) (by decide) rfl (fun ls hl => ?_)
            refine lv_goto (tgt := 26) hx hb dX6_floor_134 (by decide) ?_
            exact ih26 (k + 1) (by omega) (by omega) _  _ _ Z ls (lv_sub hl [1, 2, 0] rfl)
          · replace Z : Wd D A s ([oM q 0 tr mc pp num yn cg, aN cA (q 1) 16 sets, aN cA (q 2) 8 (bt ch), aN cA (q 3) 8 amts, aN cA (q 11) 4 (plc k), aR cA (q 12) 5 (bsr (fun z => sm (wym mc num sets amts ch (plc z)) pp) be k)]) _ _ := Z.to (by rw [hp51 c54])
            refine lv_aload_n hx hb dX6_floor_57 rfl (lv_at hl 0 rfl) ?_
            refine c_Vi (As := []) (rest := []) (w2 := fun _ => [oM q 0 tr mc pp num yn cg, aN cA (q 1) 16 sets, aN cA (q 2) 8 (bt ch), aN cA (q 3) 8 amts, aN cA (q 11) 4 (plc k), aR cA (q 12) 5 (bsr (fun z => sm (wym mc num sets amts ch (plc z)) pp) be k)]) E Z (k_X6_wayOf l D cA q tr mc pp num yn cg sets ch amts (plc k) (by first | assumption | omega) (by first | assumption | omega) hs7 (by first | assumption | omega) (plc_lt _)) wv_X6_148 ⟨rfl, rfl, Nat.le_of_ble_eq_true rfl, Nat.le_of_ble_eq_true rfl⟩ [0, 1, 2, 3, 4] rfl rfl rfl rfl (q0 := 0) rfl (fun _ => rfl) (fun _ => rfl) rfl hl.1 rfl (Nat.le_of_ble_eq_true rfl) dX6_floor_58 ⟨Nat.zero_le _, Nat.zero_le _⟩ (fun r58 _ H locs hp58 Z => ?_)
            subst hp58
            refine lv_istore_n (lv' := [(3, .int (nI (sm (wym mc num sets amts ch (plc k)) pp))), (0, .ref (q 0)), (1, .int (nI wh)), (2, .int (nI k))]) hx hb dX6_floor_61 rfl hl (by decide) rfl (fun ls hl => ?_)
            refine lv_aload_n hx hb dX6_floor_62 rfl (lv_at hl 1 rfl) ?_
            refine gF_X6_53 E Z dX6_floor_63 0 rfl rfl ?_
            refine lv_iconst (v := nI 4) hx hb dX6_floor_66 (by decide) ?_
            refine r_aldR E Z dX6_floor_67 5 rfl (by omega) (by decide) ?_
            refine lv_bipush (v := (-9)) hx hb dX6_floor_68 (by decide) ?_
            refine lv_icmp_eq (tgt := 83) hx hb dX6_floor_70 (by decide) (fun c70 => ?_) (fun c70 => ?_)
            · refine lv_aload_n hx hb dX6_floor_83 rfl (lv_at hl 1 rfl) ?_
              refine gF_X6_53 E Z dX6_floor_84 0 rfl rfl ?_
              refine lv_iconst (v := nI 0) hx hb dX6_floor_87 (by decide) ?_
              refine lv_iload_n hx hb dX6_floor_88 rfl (lv_at hl 3 rfl) ?_
              refine lv_bipush (v := nI 6) hx hb dX6_floor_89 (by decide) ?_
              refine n_ishr hx hb dX6_floor_91 (by omega) (by omega) ?_
              refine r_astR (w1 := [oM q 0 tr mc pp num yn cg, aN cA (q 1) 16 sets, aN cA (q 2) 8 (bt ch), aN cA (q 3) 8 amts, aN cA (q 11) 4 (plc k), aR cA (q 12) 5 (up (bsr (fun z => sm (wym mc num sets amts ch (plc z)) pp) be k) 0 (nI (k / 2 ^ 6)))]) E Z dX6_floor_92 5 rfl (by omega) (by decide) rfl (fun H locs Z => ?_)
              refine lv_aload_n hx hb dX6_floor_93 rfl (lv_at hl 1 rfl) ?_
              refine gF_X6_53 E Z dX6_floor_94 0 rfl rfl ?_
              refine lv_iconst (v := nI 1) hx hb dX6_floor_97 (by decide) ?_
              refine lv_iload_n hx hb dX6_floor_98 rfl (lv_at hl 3 rfl) ?_
              refine lv_iconst (v := nI 4) hx hb dX6_floor_99 (by decide) ?_
              refine n_ishr hx hb dX6_floor_100 (by omega) (by omega) ?_
              refine lv_iconst (v := nI 3) hx hb dX6_floor_101 (by decide) ?_
              refine n_iand3 hx hb dX6_floor_102 ?_
              refine r_astR (w1 := [oM q 0 tr mc pp num yn cg, aN cA (q 1) 16 sets, aN cA (q 2) 8 (bt ch), aN cA (q 3) 8 amts, aN cA (q 11) 4 (plc k), aR cA (q 12) 5 (up (up (bsr (fun z => sm (wym mc num sets amts ch (plc z)) pp) be k) 0 (nI (k / 2 ^ 6))) 1 (nI ((k / 2 ^ 4) % 4)))]) E Z dX6_floor_103 5 rfl (by omega) (by decide) rfl (fun H locs Z => ?_)
              refine lv_aload_n hx hb dX6_floor_104 rfl (lv_at hl 1 rfl) ?_
              refine gF_X6_53 E Z dX6_floor_105 0 rfl rfl ?_
              refine lv_iconst (v := nI 2) hx hb dX6_floor_108 (by decide) ?_
              refine lv_iload_n hx hb dX6_floor_109 rfl (lv_at hl 3 rfl) ?_
              refine lv_iconst (v := nI 2) hx hb dX6_floor_110 (by decide) ?_
              refine n_ishr hx hb dX6_floor_111 (by omega) (by omega) ?_
              refine lv_iconst (v := nI 3) hx hb dX6_floor_112 (by decide) ?_
              refine n_iand3 hx hb dX6_floor_113 ?_
              refine r_astR (w1 := [oM q 0 tr mc pp num yn cg, aN cA (q 1) 16 sets, aN cA (q 2) 8 (bt ch), aN cA (q 3) 8 amts, aN cA (q 11) 4 (plc k), aR cA (q 12) 5 (up (up (up (bsr (fun z => sm (wym mc num sets amts ch (plc z)) pp) be k) 0 (nI (k / 2 ^ 6))) 1 (nI ((k / 2 ^ 4) % 4))) 2 (nI ((k / 2 ^ 2) % 4)))]) E Z dX6_floor_114 5 rfl (by omega) (by decide) rfl (fun H locs Z => ?_)
              refine lv_aload_n hx hb dX6_floor_115 rfl (lv_at hl 1 rfl) ?_
              refine gF_X6_53 E Z dX6_floor_116 0 rfl rfl ?_
              refine lv_iconst (v := nI 3) hx hb dX6_floor_119 (by decide) ?_
              refine lv_iload_n hx hb dX6_floor_120 rfl (lv_at hl 3 rfl) ?_
              refine lv_iconst (v := nI 3) hx hb dX6_floor_121 (by decide) ?_
              refine n_iand3 hx hb dX6_floor_122 ?_
              refine r_astR (w1 := [oM q 0 tr mc pp num yn cg, aN cA (q 1) 16 sets, aN cA (q 2) 8 (bt ch), aN cA (q 3) 8 amts, aN cA (q 11) 4 (plc k), aR cA (q 12) 5 (up (up (up (up (bsr (fun z => sm (wym mc num sets amts ch (plc z)) pp) be k) 0 (nI (k / 2 ^ 6))) 1 (nI ((k / 2 ^ 4) % 4))) 2 (nI ((k / 2 ^ 2) % 4))) 3 (nI (k % 4)))]) E Z dX6_floor_123 5 rfl (by omega) (by decide) rfl (fun H locs Z => ?_)
              refine lv_aload_n hx hb dX6_floor_124 rfl (lv_at hl 1 rfl) ?_
              refine gF_X6_53 E Z dX6_floor_125 0 rfl rfl ?_
              refine lv_iconst (v := nI 4) hx hb dX6_floor_128 (by decide) ?_
              refine lv_iload_n hx hb dX6_floor_129 rfl (lv_at hl 0 rfl) ?_
              refine r_astR (w1 := [oM q 0 tr mc pp num yn cg, aN cA (q 1) 16 sets, aN cA (q 2) 8 (bt ch), aN cA (q 3) 8 amts, aN cA (q 11) 4 (plc k), aR cA (q 12) 5 (up (up (up (up (up (bsr (fun z => sm (wym mc num sets amts ch (plc z)) pp) be k) 0 (nI (k / 2 ^ 6))) 1 (nI ((k / 2 ^ 4) % 4))) 2 (nI ((k / 2 ^ 2) % 4))) 3 (nI (k % 4))) 4 (nI (sm (wym mc num sets amts ch (plc k)) pp)))]) E Z dX6_floor_130 5 rfl (by omega) (by decide) rfl (fun H locs Z => ?_)
              replace Z : Wd D A s ([oM q 0 tr mc pp num yn cg, aN cA (q 1) 16 sets, aN cA (q 2) 8 (bt ch), aN cA (q 3) 8 amts, aN cA (q 11) 4 (plc k), aR cA (q 12) 5 (bsr (fun z => sm (wym mc num sets amts ch (plc z)) pp) be (k + 1))]) _ _ := Z.to (by rw [show bsr (fun z => sm (wym mc num sets amts ch (plc z)) pp) be (k + 1) = up (up (up (up (up (bsr (fun z => sm (wym mc num sets amts ch (plc z)) pp) be k) 0 (nI (k / 2 ^ 6))) 1 (nI (k / 2 ^ 4 % 4))) 2 (nI (k / 2 ^ 2 % 4))) 3 (nI (k % 4))) 4 (nI (sm (wym mc num sets amts ch (plc k)) pp)) from cnd_t ⟨c54, Or.inl c70⟩])
              refine lv_iinc (v := nI (k + 1)) (lv' := [(2, .int (nI (k + 1))), (3, .int (nI (sm (wym mc num sets amts ch (plc k)) pp))), (0, .ref (q 0)), (1, .int (nI wh))]) hx hb dX6_floor_131 hl (k := 3) rfl (n_inc _ _ (by decide)) (by decide) rfl (fun ls hl => ?_)
              refine lv_goto (tgt := 26) hx hb dX6_floor_134 (by decide) ?_
              exact ih26 (k + 1) (by omega) (by omega) _  _ _ Z ls (lv_sub hl [2, 3, 0] rfl)
            · refine lv_iload_n hx hb dX6_floor_73 rfl (lv_at hl 0 rfl) ?_
              refine lv_aload_n hx hb dX6_floor_74 rfl (lv_at hl 1 rfl) ?_
              refine gF_X6_53 E Z dX6_floor_75 0 rfl rfl ?_
              refine lv_iconst (v := nI 4) hx hb dX6_floor_78 (by decide) ?_
              refine r_aldR E Z dX6_floor_79 5 rfl (by omega) (by decide) ?_
              refine lv_icmp_ge (tgt := 131) hx hb dX6_floor_80 (by decide) (fun c80 => ?_) (fun c80 => ?_)
              · replace Z : Wd D A s ([oM q 0 tr mc pp num yn cg, aN cA (q 1) 16 sets, aN cA (q 2) 8 (bt ch), aN cA (q 3) 8 amts, aN cA (q 11) 4 (plc k), aR cA (q 12) 5 (bsr (fun z => sm (wym mc num sets amts ch (plc z)) pp) be (k + 1))]) _ _ := Z.to (by rw [show bsr (fun z => sm (wym mc num sets amts ch (plc z)) pp) be (k + 1) = bsr (fun z => sm (wym mc num sets amts ch (plc z)) pp) be k from cnd_f (fun h => h.2.elim c70 (Int32.not_lt.mpr c80))])
                refine lv_iinc (v := nI (k + 1)) (lv' := [(2, .int (nI (k + 1))), (3, .int (nI (sm (wym mc num sets amts ch (plc k)) pp))), (0, .ref (q 0)), (1, .int (nI wh))]) hx hb dX6_floor_131 hl (k := 3) rfl (n_inc _ _ (by decide)) (by decide) rfl (fun ls hl => ?_)
                refine lv_goto (tgt := 26) hx hb dX6_floor_134 (by decide) ?_
                exact ih26 (k + 1) (by omega) (by omega) _  _ _ Z ls (lv_sub hl [2, 3, 0] rfl)
              · refine lv_aload_n hx hb dX6_floor_83 rfl (lv_at hl 1 rfl) ?_
                refine gF_X6_53 E Z dX6_floor_84 0 rfl rfl ?_
                refine lv_iconst (v := nI 0) hx hb dX6_floor_87 (by decide) ?_
                refine lv_iload_n hx hb dX6_floor_88 rfl (lv_at hl 3 rfl) ?_
                refine lv_bipush (v := nI 6) hx hb dX6_floor_89 (by decide) ?_
                refine n_ishr hx hb dX6_floor_91 (by omega) (by omega) ?_
                refine r_astR (w1 := [oM q 0 tr mc pp num yn cg, aN cA (q 1) 16 sets, aN cA (q 2) 8 (bt ch), aN cA (q 3) 8 amts, aN cA (q 11) 4 (plc k), aR cA (q 12) 5 (up (bsr (fun z => sm (wym mc num sets amts ch (plc z)) pp) be k) 0 (nI (k / 2 ^ 6)))]) E Z dX6_floor_92 5 rfl (by omega) (by decide) rfl (fun H locs Z => ?_)
                refine lv_aload_n hx hb dX6_floor_93 rfl (lv_at hl 1 rfl) ?_
                refine gF_X6_53 E Z dX6_floor_94 0 rfl rfl ?_
                refine lv_iconst (v := nI 1) hx hb dX6_floor_97 (by decide) ?_
                refine lv_iload_n hx hb dX6_floor_98 rfl (lv_at hl 3 rfl) ?_
                refine lv_iconst (v := nI 4) hx hb dX6_floor_99 (by decide) ?_
                refine n_ishr hx hb dX6_floor_100 (by omega) (by omega) ?_
                refine lv_iconst (v := nI 3) hx hb dX6_floor_101 (by decide) ?_
                refine n_iand3 hx hb dX6_floor_102 ?_
                refine r_astR (w1 := [oM q 0 tr mc pp num yn cg, aN cA (q 1) 16 sets, aN cA (q 2) 8 (bt ch), aN cA (q 3) 8 amts, aN cA (q 11) 4 (plc k), aR cA (q 12) 5 (up (up (bsr (fun z => sm (wym mc num sets amts ch (plc z)) pp) be k) 0 (nI (k / 2 ^ 6))) 1 (nI ((k / 2 ^ 4) % 4)))]) E Z dX6_floor_103 5 rfl (by omega) (by decide) rfl (fun H locs Z => ?_)
                refine lv_aload_n hx hb dX6_floor_104 rfl (lv_at hl 1 rfl) ?_
                refine gF_X6_53 E Z dX6_floor_105 0 rfl rfl ?_
                refine lv_iconst (v := nI 2) hx hb dX6_floor_108 (by decide) ?_
                refine lv_iload_n hx hb dX6_floor_109 rfl (lv_at hl 3 rfl) ?_
                refine lv_iconst (v := nI 2) hx hb dX6_floor_110 (by decide) ?_
                refine n_ishr hx hb dX6_floor_111 (by omega) (by omega) ?_
                refine lv_iconst (v := nI 3) hx hb dX6_floor_112 (by decide) ?_
                refine n_iand3 hx hb dX6_floor_113 ?_
                refine r_astR (w1 := [oM q 0 tr mc pp num yn cg, aN cA (q 1) 16 sets, aN cA (q 2) 8 (bt ch), aN cA (q 3) 8 amts, aN cA (q 11) 4 (plc k), aR cA (q 12) 5 (up (up (up (bsr (fun z => sm (wym mc num sets amts ch (plc z)) pp) be k) 0 (nI (k / 2 ^ 6))) 1 (nI ((k / 2 ^ 4) % 4))) 2 (nI ((k / 2 ^ 2) % 4)))]) E Z dX6_floor_114 5 rfl (by omega) (by decide) rfl (fun H locs Z => ?_)
                refine lv_aload_n hx hb dX6_floor_115 rfl (lv_at hl 1 rfl) ?_
                refine gF_X6_53 E Z dX6_floor_116 0 rfl rfl ?_
                refine lv_iconst (v := nI 3) hx hb dX6_floor_119 (by decide) ?_
                refine lv_iload_n hx hb dX6_floor_120 rfl (lv_at hl 3 rfl) ?_
                refine lv_iconst (v := nI 3) hx hb dX6_floor_121 (by decide) ?_
                refine n_iand3 hx hb dX6_floor_122 ?_
                refine r_astR (w1 := [oM q 0 tr mc pp num yn cg, aN cA (q 1) 16 sets, aN cA (q 2) 8 (bt ch), aN cA (q 3) 8 amts, aN cA (q 11) 4 (plc k), aR cA (q 12) 5 (up (up (up (up (bsr (fun z => sm (wym mc num sets amts ch (plc z)) pp) be k) 0 (nI (k / 2 ^ 6))) 1 (nI ((k / 2 ^ 4) % 4))) 2 (nI ((k / 2 ^ 2) % 4))) 3 (nI (k % 4)))]) E Z dX6_floor_123 5 rfl (by omega) (by decide) rfl (fun H locs Z => ?_)
                refine lv_aload_n hx hb dX6_floor_124 rfl (lv_at hl 1 rfl) ?_
                refine gF_X6_53 E Z dX6_floor_125 0 rfl rfl ?_
                refine lv_iconst (v := nI 4) hx hb dX6_floor_128 (by decide) ?_
                refine lv_iload_n hx hb dX6_floor_129 rfl (lv_at hl 0 rfl) ?_
                refine r_astR (w1 := [oM q 0 tr mc pp num yn cg, aN cA (q 1) 16 sets, aN cA (q 2) 8 (bt ch), aN cA (q 3) 8 amts, aN cA (q 11) 4 (plc k), aR cA (q 12) 5 (up (up (up (up (up (bsr (fun z => sm (wym mc num sets amts ch (plc z)) pp) be k) 0 (nI (k / 2 ^ 6))) 1 (nI ((k / 2 ^ 4) % 4))) 2 (nI ((k / 2 ^ 2) % 4))) 3 (nI (k % 4))) 4 (nI (sm (wym mc num sets amts ch (plc k)) pp)))]) E Z dX6_floor_130 5 rfl (by omega) (by decide) rfl (fun H locs Z => ?_)
                replace Z : Wd D A s ([oM q 0 tr mc pp num yn cg, aN cA (q 1) 16 sets, aN cA (q 2) 8 (bt ch), aN cA (q 3) 8 amts, aN cA (q 11) 4 (plc k), aR cA (q 12) 5 (bsr (fun z => sm (wym mc num sets amts ch (plc z)) pp) be (k + 1))]) _ _ := Z.to (by rw [show bsr (fun z => sm (wym mc num sets amts ch (plc z)) pp) be (k + 1) = up (up (up (up (up (bsr (fun z => sm (wym mc num sets amts ch (plc z)) pp) be k) 0 (nI (k / 2 ^ 6))) 1 (nI (k / 2 ^ 4 % 4))) 2 (nI (k / 2 ^ 2 % 4))) 3 (nI (k % 4))) 4 (nI (sm (wym mc num sets amts ch (plc k)) pp)) from cnd_t ⟨c54, Or.inr (Int32.not_le.mp c80)⟩])
                refine lv_iinc (v := nI (k + 1)) (lv' := [(2, .int (nI (k + 1))), (3, .int (nI (sm (wym mc num sets amts ch (plc k)) pp))), (0, .ref (q 0)), (1, .int (nI wh))]) hx hb dX6_floor_131 hl (k := 3) rfl (n_inc _ _ (by decide)) (by decide) rfl (fun ls hl => ?_)
                refine lv_goto (tgt := 26) hx hb dX6_floor_134 (by decide) ?_
                exact ih26 (k + 1) (by omega) (by omega) _  _ _ Z ls (lv_sub hl [2, 3, 0] rfl)
    exact L26 (256 + 1) 0 (by omega) (by omega) _  _ _ Z ls (lv_sub hl [1, 2, 0] rfl)
  · exact absurd (inr_ok (by omega) (by omega) (by omega)) c11
abbrev rm_k_X6_keep_bad : Room := { frames := 1, cells := 0, slots := 0, locals := 22 }
set_option maxHeartbeats 4000000 in
set_option maxRecDepth 100000 in
theorem k_X6_keep_bad (l : Launch) (D : va_G) (cA : ClassId) (q : Nat → Nat) (tr : Int64) (mc : Nat) (pp : Nat) (num : Nat) (yn : Nat) (cg : Nat) (x1 : Int32) (hbad : ¬ ((nI 0 ≤ x1 ∧ x1 ≤ nI 3))) : Cti l yX6_keep cX6_keep 2 (some .int) rm_k_X6_keep_bad D cA [.ref (q 0), .int x1] ([oM q 0 tr mc pp num yn cg]) (fun (r : Int32) (_ : Unit) => r = (-1)) (fun _ => [oM q 0 tr mc pp num yn cg]) := by
  refine st_i (by decide) (Nat.le_of_ble_eq_true rfl) ?_
  intro p e s m args below meth c A Q E ret Z ls hl
  have hx := E.1.1
  have hb := E.1.2.1
  have hl : lv_has ls 2 [(0, .ref (q 0)), (1, .int x1)] := hl
  refine lv_aload_n hx hb dX6_keep_0 rfl (lv_at hl 0 rfl) ?_
  refine lv_iconst (v := nI 0) hx hb dX6_keep_1 (by decide) ?_
  refine pF_X6_66 (w1 := [oM q 0 tr mc pp num yn cg]) E Z dX6_keep_2 0 rfl (Nat.le_of_ble_eq_true rfl) rfl (fun H locs Z => ?_)
  refine lv_iload_n hx hb dX6_keep_5 rfl (lv_at hl 1 rfl) ?_
  refine lv_iconst (v := nI 0) hx hb dX6_keep_6 (by decide) ?_
  refine lv_iconst (v := nI 3) hx hb dX6_keep_7 (by decide) ?_
  refine c_Si (As := [.int x1, .int (nI 0), .int (nI 3)]) (rest := []) (w2 := fun _ => [oM q 0 tr mc pp num yn cg]) E Z (k_X6_in l D cA x1 (nI 0) (nI 3) ) ws_X6_72 ⟨rfl, rfl, Nat.le_of_ble_eq_true rfl, Nat.le_of_ble_eq_true rfl⟩ [] rfl rfl (fun _ => rfl) (fun _ => rfl) rfl hl.1 rfl (Nat.le_of_ble_eq_true rfl) dX6_keep_8 ⟨Nat.zero_le _, Nat.zero_le _⟩ (fun r8 _ H locs hp8 Z => ?_)
  subst hp8
  refine b_if_ne (tgt := 16) hx hb dX6_keep_11 (by decide) (fun c11 => ?_) (fun c11 => ?_)
  · exact absurd c11 hbad
  · refine lv_iconst (v := (-1)) hx hb dX6_keep_14 (by decide) ?_
    exact ret () Z dX6_keep_15 rfl rfl
abbrev rm_k_X6_keep : Room := { frames := 1, cells := 0, slots := 0, locals := 22 }
set_option maxHeartbeats 4000000 in
set_option maxRecDepth 100000 in
theorem k_X6_keep (l : Launch) (D : va_G) (cA : ClassId) (q : Nat → Nat) (tr : Int64) (mc : Nat) (pp : Nat) (num : Nat) (yn : Nat) (cg : Nat) (sh : Nat → Nat) (k : Nat) (hk : k < 4) : Cti l yX6_keep cX6_keep 2 (some .int) rm_k_X6_keep D cA [.ref (q 0), .int (nI k)] ([oM q 0 tr mc pp num yn cg, aN cA (q 6) 4 sh]) (fun (r : Int32) (_ : Unit) => r = nI num) (fun _ => [oM q 0 tr mc pp num yn cg, aN cA (q 6) 4 (up sh k num)]) := by
  refine st_i (by decide) (Nat.le_of_ble_eq_true rfl) ?_
  intro p e s m args below meth c A Q E ret Z ls hl
  have hx := E.1.1
  have hb := E.1.2.1
  have hl : lv_has ls 2 [(0, .ref (q 0)), (1, .int (nI k))] := hl
  refine lv_aload_n hx hb dX6_keep_0 rfl (lv_at hl 0 rfl) ?_
  refine lv_iconst (v := nI 0) hx hb dX6_keep_1 (by decide) ?_
  refine pF_X6_66 (w1 := [oM q 0 tr mc pp num yn cg, aN cA (q 6) 4 sh]) E Z dX6_keep_2 0 rfl (Nat.le_of_ble_eq_true rfl) rfl (fun H locs Z => ?_)
  refine lv_iload_n hx hb dX6_keep_5 rfl (lv_at hl 1 rfl) ?_
  refine lv_iconst (v := nI 0) hx hb dX6_keep_6 (by decide) ?_
  refine lv_iconst (v := nI 3) hx hb dX6_keep_7 (by decide) ?_
  refine c_Si (As := [.int (nI k), .int (nI 0), .int (nI 3)]) (rest := []) (w2 := fun _ => [oM q 0 tr mc pp num yn cg, aN cA (q 6) 4 sh]) E Z (k_X6_in l D cA (nI k) (nI 0) (nI 3) ) ws_X6_72 ⟨rfl, rfl, Nat.le_of_ble_eq_true rfl, Nat.le_of_ble_eq_true rfl⟩ [] rfl rfl (fun _ => rfl) (fun _ => rfl) rfl hl.1 rfl (Nat.le_of_ble_eq_true rfl) dX6_keep_8 ⟨Nat.zero_le _, Nat.zero_le _⟩ (fun r8 _ H locs hp8 Z => ?_)
  subst hp8
  refine b_if_ne (tgt := 16) hx hb dX6_keep_11 (by decide) (fun c11 => ?_) (fun c11 => ?_)
  · refine lv_aload_n hx hb dX6_keep_16 rfl (lv_at hl 0 rfl) ?_
    refine gF_X6_32 E Z dX6_keep_17 0 rfl rfl ?_
    refine lv_iload_n hx hb dX6_keep_20 rfl (lv_at hl 1 rfl) ?_
    refine lv_aload_n hx hb dX6_keep_21 rfl (lv_at hl 0 rfl) ?_
    refine gF_X6_69 E Z dX6_keep_22 0 rfl rfl ?_
    refine r_ast (w1 := [oM q 0 tr mc pp num yn cg, aN cA (q 6) 4 (up sh k num)]) E Z dX6_keep_25 1 rfl (by omega) (by decide) rfl (fun H locs Z => ?_)
    refine lv_aload_n hx hb dX6_keep_26 rfl (lv_at hl 0 rfl) ?_
    refine gF_X6_69 E Z dX6_keep_27 0 rfl rfl ?_
    exact ret () Z dX6_keep_30 rfl rfl
  · exact absurd (inr_ok (by omega) (by omega) (by omega)) c11
abbrev rm_k_X6_year_bad : Room := { frames := 1, cells := 0, slots := 0, locals := 22 }
set_option maxHeartbeats 4000000 in
set_option maxRecDepth 100000 in
theorem k_X6_year_bad (l : Launch) (D : va_G) (cA : ClassId) (q : Nat → Nat) (tr : Int64) (mc : Nat) (pp : Nat) (num : Nat) (yn : Nat) (cg : Nat) (x1 : Int32) (hbad : ¬ ((nI 0 ≤ x1 ∧ x1 ≤ nI 9))) : Cti l yX6_year cX6_year 2 (some .int) rm_k_X6_year_bad D cA [.ref (q 0), .int x1] ([oM q 0 tr mc pp num yn cg]) (fun (r : Int32) (_ : Unit) => r = (-1)) (fun _ => [oM q 0 tr mc pp num yn cg]) := by
  refine st_i (by decide) (Nat.le_of_ble_eq_true rfl) ?_
  intro p e s m args below meth c A Q E ret Z ls hl
  have hx := E.1.1
  have hb := E.1.2.1
  have hl : lv_has ls 2 [(0, .ref (q 0)), (1, .int x1)] := hl
  refine lv_aload_n hx hb dX6_year_0 rfl (lv_at hl 0 rfl) ?_
  refine lv_iconst (v := nI 0) hx hb dX6_year_1 (by decide) ?_
  refine pF_X6_66 (w1 := [oM q 0 tr mc pp num yn cg]) E Z dX6_year_2 0 rfl (Nat.le_of_ble_eq_true rfl) rfl (fun H locs Z => ?_)
  refine lv_iload_n hx hb dX6_year_5 rfl (lv_at hl 1 rfl) ?_
  refine lv_iconst (v := nI 0) hx hb dX6_year_6 (by decide) ?_
  refine lv_bipush (v := nI 9) hx hb dX6_year_7 (by decide) ?_
  refine c_Si (As := [.int x1, .int (nI 0), .int (nI 9)]) (rest := []) (w2 := fun _ => [oM q 0 tr mc pp num yn cg]) E Z (k_X6_in l D cA x1 (nI 0) (nI 9) ) ws_X6_72 ⟨rfl, rfl, Nat.le_of_ble_eq_true rfl, Nat.le_of_ble_eq_true rfl⟩ [] rfl rfl (fun _ => rfl) (fun _ => rfl) rfl hl.1 rfl (Nat.le_of_ble_eq_true rfl) dX6_year_9 ⟨Nat.zero_le _, Nat.zero_le _⟩ (fun r9 _ H locs hp9 Z => ?_)
  subst hp9
  refine b_if_ne (tgt := 17) hx hb dX6_year_12 (by decide) (fun c12 => ?_) (fun c12 => ?_)
  · exact absurd c12 hbad
  · refine lv_iconst (v := (-1)) hx hb dX6_year_15 (by decide) ?_
    exact ret () Z dX6_year_16 rfl rfl
abbrev rm_k_X6_year_full : Room := { frames := 1, cells := 0, slots := 0, locals := 22 }
set_option maxHeartbeats 4000000 in
set_option maxRecDepth 100000 in
theorem k_X6_year_full (l : Launch) (D : va_G) (cA : ClassId) (q : Nat → Nat) (tr : Int64) (mc : Nat) (pp : Nat) (num : Nat) (yn : Nat) (cg : Nat) (wh : Nat) (hw : wh ≤ 9) (hy : yn = 6) : Cti l yX6_year cX6_year 2 (some .int) rm_k_X6_year_full D cA [.ref (q 0), .int (nI wh)] ([oM q 0 tr mc pp num yn cg]) (fun (r : Int32) (_ : Unit) => r = (-3)) (fun _ => [oM q 0 tr mc pp num yn cg]) := by
  refine st_i (by decide) (Nat.le_of_ble_eq_true rfl) ?_
  intro p e s m args below meth c A Q E ret Z ls hl
  have hx := E.1.1
  have hb := E.1.2.1
  have hl : lv_has ls 2 [(0, .ref (q 0)), (1, .int (nI wh))] := hl
  refine lv_aload_n hx hb dX6_year_0 rfl (lv_at hl 0 rfl) ?_
  refine lv_iconst (v := nI 0) hx hb dX6_year_1 (by decide) ?_
  refine pF_X6_66 (w1 := [oM q 0 tr mc pp num yn cg]) E Z dX6_year_2 0 rfl (Nat.le_of_ble_eq_true rfl) rfl (fun H locs Z => ?_)
  refine lv_iload_n hx hb dX6_year_5 rfl (lv_at hl 1 rfl) ?_
  refine lv_iconst (v := nI 0) hx hb dX6_year_6 (by decide) ?_
  refine lv_bipush (v := nI 9) hx hb dX6_year_7 (by decide) ?_
  refine c_Si (As := [.int (nI wh), .int (nI 0), .int (nI 9)]) (rest := []) (w2 := fun _ => [oM q 0 tr mc pp num yn cg]) E Z (k_X6_in l D cA (nI wh) (nI 0) (nI 9) ) ws_X6_72 ⟨rfl, rfl, Nat.le_of_ble_eq_true rfl, Nat.le_of_ble_eq_true rfl⟩ [] rfl rfl (fun _ => rfl) (fun _ => rfl) rfl hl.1 rfl (Nat.le_of_ble_eq_true rfl) dX6_year_9 ⟨Nat.zero_le _, Nat.zero_le _⟩ (fun r9 _ H locs hp9 Z => ?_)
  subst hp9
  refine b_if_ne (tgt := 17) hx hb dX6_year_12 (by decide) (fun c12 => ?_) (fun c12 => ?_)
  · refine lv_aload_n hx hb dX6_year_17 rfl (lv_at hl 0 rfl) ?_
    refine gF_X6_151 E Z dX6_year_18 0 rfl rfl ?_
    refine lv_bipush (v := nI 6) hx hb dX6_year_21 (by decide) ?_
    refine n_icmp_ne (tgt := 29) hx hb dX6_year_23 (by decide) (by omega) (by omega) (fun c23 => ?_) (fun c23 => ?_)
    · exact absurd hy c23
    · refine lv_bipush (v := (-3)) hx hb dX6_year_26 (by decide) ?_
      exact ret () Z dX6_year_28 rfl rfl
  · exact absurd (inr_ok (by omega) (by omega) (by omega)) c12
abbrev rm_k_X6_year : Room := { frames := 1, cells := 0, slots := 0, locals := 22 }
set_option maxHeartbeats 4000000 in
set_option maxRecDepth 100000 in
theorem k_X6_year (l : Launch) (D : va_G) (cA : ClassId) (q : Nat → Nat) (tr : Int64) (mc : Nat) (pp : Nat) (num : Nat) (yn : Nat) (cg : Nat) (wt : Nat → Nat) (wh : Nat) (hw : wh ≤ 9) (hy : yn < 6) : Cti l yX6_year cX6_year 2 (some .int) rm_k_X6_year D cA [.ref (q 0), .int (nI wh)] ([oM q 0 tr mc pp num yn cg, aN cA (q 7) 6 wt]) (fun (r : Int32) (_ : Unit) => r = nI (yn + 1)) (fun _ => [oM q 0 tr mc pp num (yn + 1) cg, aN cA (q 7) 6 (up wt yn wh)]) := by
  refine st_i (by decide) (Nat.le_of_ble_eq_true rfl) ?_
  intro p e s m args below meth c A Q E ret Z ls hl
  have hx := E.1.1
  have hb := E.1.2.1
  have hl : lv_has ls 2 [(0, .ref (q 0)), (1, .int (nI wh))] := hl
  refine lv_aload_n hx hb dX6_year_0 rfl (lv_at hl 0 rfl) ?_
  refine lv_iconst (v := nI 0) hx hb dX6_year_1 (by decide) ?_
  refine pF_X6_66 (w1 := [oM q 0 tr mc pp num yn cg, aN cA (q 7) 6 wt]) E Z dX6_year_2 0 rfl (Nat.le_of_ble_eq_true rfl) rfl (fun H locs Z => ?_)
  refine lv_iload_n hx hb dX6_year_5 rfl (lv_at hl 1 rfl) ?_
  refine lv_iconst (v := nI 0) hx hb dX6_year_6 (by decide) ?_
  refine lv_bipush (v := nI 9) hx hb dX6_year_7 (by decide) ?_
  refine c_Si (As := [.int (nI wh), .int (nI 0), .int (nI 9)]) (rest := []) (w2 := fun _ => [oM q 0 tr mc pp num yn cg, aN cA (q 7) 6 wt]) E Z (k_X6_in l D cA (nI wh) (nI 0) (nI 9) ) ws_X6_72 ⟨rfl, rfl, Nat.le_of_ble_eq_true rfl, Nat.le_of_ble_eq_true rfl⟩ [] rfl rfl (fun _ => rfl) (fun _ => rfl) rfl hl.1 rfl (Nat.le_of_ble_eq_true rfl) dX6_year_9 ⟨Nat.zero_le _, Nat.zero_le _⟩ (fun r9 _ H locs hp9 Z => ?_)
  subst hp9
  refine b_if_ne (tgt := 17) hx hb dX6_year_12 (by decide) (fun c12 => ?_) (fun c12 => ?_)
  · refine lv_aload_n hx hb dX6_year_17 rfl (lv_at hl 0 rfl) ?_
    refine gF_X6_151 E Z dX6_year_18 0 rfl rfl ?_
    refine lv_bipush (v := nI 6) hx hb dX6_year_21 (by decide) ?_
    refine n_icmp_ne (tgt := 29) hx hb dX6_year_23 (by decide) (by omega) (by omega) (fun c23 => ?_) (fun c23 => ?_)
    · refine lv_aload_n hx hb dX6_year_29 rfl (lv_at hl 0 rfl) ?_
      refine gF_X6_35 E Z dX6_year_30 0 rfl rfl ?_
      refine lv_aload_n hx hb dX6_year_33 rfl (lv_at hl 0 rfl) ?_
      refine gF_X6_151 E Z dX6_year_34 0 rfl rfl ?_
      refine lv_iload_n hx hb dX6_year_37 rfl (lv_at hl 1 rfl) ?_
      refine r_ast (w1 := [oM q 0 tr mc pp num yn cg, aN cA (q 7) 6 (up wt yn wh)]) E Z dX6_year_38 1 rfl (by omega) (by decide) rfl (fun H locs Z => ?_)
      refine lv_aload_n hx hb dX6_year_39 rfl (lv_at hl 0 rfl) ?_
      refine lv_dup hx hb dX6_year_40 rfl ?_
      refine gF_X6_151 E Z dX6_year_41 0 rfl rfl ?_
      refine lv_iconst (v := nI 1) hx hb dX6_year_44 (by decide) ?_
      refine n_iadd hx hb dX6_year_45 ?_
      refine pF_X6_151 (w1 := [oM q 0 tr mc pp num (yn + 1) cg, aN cA (q 7) 6 (up wt yn wh)]) E Z dX6_year_46 0 rfl (Nat.le_of_ble_eq_true rfl) rfl (fun H locs Z => ?_)
      refine lv_aload_n hx hb dX6_year_49 rfl (lv_at hl 0 rfl) ?_
      refine gF_X6_151 E Z dX6_year_50 0 rfl rfl ?_
      exact ret () Z dX6_year_53 rfl rfl
    · exact absurd c23 (by omega)
  · exact absurd (inr_ok (by omega) (by omega) (by omega)) c12
abbrev rm_k_X6_change_bad : Room := { frames := 1, cells := 0, slots := 0, locals := 22 }
set_option maxHeartbeats 4000000 in
set_option maxRecDepth 100000 in
theorem k_X6_change_bad (l : Launch) (D : va_G) (cA : ClassId) (q : Nat → Nat) (tr : Int64) (mc : Nat) (pp : Nat) (num : Nat) (yn : Nat) (cg : Nat) (x1 : Int32) (hbad : ¬ ((nI 0 ≤ x1 ∧ x1 ≤ nI 50))) : Cti l yX6_change cX6_change 3 (some .int) rm_k_X6_change_bad D cA [.ref (q 0), .int x1] ([oM q 0 tr mc pp num yn cg]) (fun (r : Int32) (_ : Unit) => r = (-1)) (fun _ => [oM q 0 tr mc pp num yn cg]) := by
  refine st_i (by decide) (Nat.le_of_ble_eq_true rfl) ?_
  intro p e s m args below meth c A Q E ret Z ls hl
  have hx := E.1.1
  have hb := E.1.2.1
  have hl : lv_has ls 3 [(0, .ref (q 0)), (1, .int x1)] := hl
  refine lv_aload_n hx hb dX6_change_0 rfl (lv_at hl 0 rfl) ?_
  refine lv_iconst (v := nI 0) hx hb dX6_change_1 (by decide) ?_
  refine pF_X6_66 (w1 := [oM q 0 tr mc pp num yn cg]) E Z dX6_change_2 0 rfl (Nat.le_of_ble_eq_true rfl) rfl (fun H locs Z => ?_)
  refine lv_iload_n hx hb dX6_change_5 rfl (lv_at hl 1 rfl) ?_
  refine lv_iconst (v := nI 0) hx hb dX6_change_6 (by decide) ?_
  refine lv_bipush (v := nI 50) hx hb dX6_change_7 (by decide) ?_
  refine c_Si (As := [.int x1, .int (nI 0), .int (nI 50)]) (rest := []) (w2 := fun _ => [oM q 0 tr mc pp num yn cg]) E Z (k_X6_in l D cA x1 (nI 0) (nI 50) ) ws_X6_72 ⟨rfl, rfl, Nat.le_of_ble_eq_true rfl, Nat.le_of_ble_eq_true rfl⟩ [] rfl rfl (fun _ => rfl) (fun _ => rfl) rfl hl.1 rfl (Nat.le_of_ble_eq_true rfl) dX6_change_9 ⟨Nat.zero_le _, Nat.zero_le _⟩ (fun r9 _ H locs hp9 Z => ?_)
  subst hp9
  refine b_if_ne (tgt := 17) hx hb dX6_change_12 (by decide) (fun c12 => ?_) (fun c12 => ?_)
  · exact absurd c12 hbad
  · refine lv_iconst (v := (-1)) hx hb dX6_change_15 (by decide) ?_
    exact ret () Z dX6_change_16 rfl rfl
abbrev rm_k_X6_change : Room := { frames := 1, cells := 0, slots := 0, locals := 22 }
set_option maxHeartbeats 4000000 in
set_option maxRecDepth 100000 in
theorem k_X6_change (l : Launch) (D : va_G) (cA : ClassId) (q : Nat → Nat) (tr : Int64) (mc : Nat) (pp : Nat) (num : Nat) (yn : Nat) (cg : Nat) (wh : Nat) (hw : wh ≤ 50) : Cti l yX6_change cX6_change 3 (some .int) rm_k_X6_change D cA [.ref (q 0), .int (nI wh)] ([oM q 0 tr mc pp num yn cg]) (fun (r : Int32) (_ : Unit) => r = nI cg) (fun _ => [oM q 0 tr mc pp num yn wh]) := by
  refine st_i (by decide) (Nat.le_of_ble_eq_true rfl) ?_
  intro p e s m args below meth c A Q E ret Z ls hl
  have hx := E.1.1
  have hb := E.1.2.1
  have hl : lv_has ls 3 [(0, .ref (q 0)), (1, .int (nI wh))] := hl
  refine lv_aload_n hx hb dX6_change_0 rfl (lv_at hl 0 rfl) ?_
  refine lv_iconst (v := nI 0) hx hb dX6_change_1 (by decide) ?_
  refine pF_X6_66 (w1 := [oM q 0 tr mc pp num yn cg]) E Z dX6_change_2 0 rfl (Nat.le_of_ble_eq_true rfl) rfl (fun H locs Z => ?_)
  refine lv_iload_n hx hb dX6_change_5 rfl (lv_at hl 1 rfl) ?_
  refine lv_iconst (v := nI 0) hx hb dX6_change_6 (by decide) ?_
  refine lv_bipush (v := nI 50) hx hb dX6_change_7 (by decide) ?_
  refine c_Si (As := [.int (nI wh), .int (nI 0), .int (nI 50)]) (rest := []) (w2 := fun _ => [oM q 0 tr mc pp num yn cg]) E Z (k_X6_in l D cA (nI wh) (nI 0) (nI 50) ) ws_X6_72 ⟨rfl, rfl, Nat.le_of_ble_eq_true rfl, Nat.le_of_ble_eq_true rfl⟩ [] rfl rfl (fun _ => rfl) (fun _ => rfl) rfl hl.1 rfl (Nat.le_of_ble_eq_true rfl) dX6_change_9 ⟨Nat.zero_le _, Nat.zero_le _⟩ (fun r9 _ H locs hp9 Z => ?_)
  subst hp9
  refine b_if_ne (tgt := 17) hx hb dX6_change_12 (by decide) (fun c12 => ?_) (fun c12 => ?_)
  · refine lv_aload_n hx hb dX6_change_17 rfl (lv_at hl 0 rfl) ?_
    refine gF_X6_38 E Z dX6_change_18 0 rfl rfl ?_
    refine lv_istore_n (lv' := [(2, .int (nI cg)), (0, .ref (q 0)), (1, .int (nI wh))]) hx hb dX6_change_21 rfl hl (by decide) rfl (fun ls hl => ?_)
    refine lv_aload_n hx hb dX6_change_22 rfl (lv_at hl 1 rfl) ?_
    refine lv_iload_n hx hb dX6_change_23 rfl (lv_at hl 2 rfl) ?_
    refine pF_X6_38 (w1 := [oM q 0 tr mc pp num yn wh]) E Z dX6_change_24 0 rfl (Nat.le_of_ble_eq_true rfl) rfl (fun H locs Z => ?_)
    refine lv_iload_n hx hb dX6_change_27 rfl (lv_at hl 0 rfl) ?_
    exact ret () Z dX6_change_28 rfl rfl
  · exact absurd (inr_ok (by omega) (by omega) (by omega)) c12
abbrev rm_k_X6_plan_none : Room := { frames := 0, cells := 0, slots := 0, locals := 0 }
set_option maxHeartbeats 4000000 in
set_option maxRecDepth 100000 in
theorem k_X6_plan_none (l : Launch) (D : va_G) (cA : ClassId) (q : Nat → Nat) (tr : Int64) (mc : Nat) (pp : Nat) (num : Nat) (yn : Nat) (cg : Nat) (hy : yn = 0) : Cti l yX6_plan cX6_plan 5 (some .int) rm_k_X6_plan_none D cA [.ref (q 0)] ([oM q 0 tr mc pp num yn cg]) (fun (r : Int32) (_ : Unit) => r = (-2)) (fun _ => [oM q 0 tr mc pp num yn cg]) := by
  refine st_i (by decide) (Nat.le_of_ble_eq_true rfl) ?_
  intro p e s m args below meth c A Q E ret Z ls hl
  have hx := E.1.1
  have hb := E.1.2.1
  have hl : lv_has ls 5 [(0, .ref (q 0))] := hl
  refine lv_aload_n hx hb dX6_plan_0 rfl (lv_at hl 0 rfl) ?_
  refine lv_iconst (v := nI 0) hx hb dX6_plan_1 (by decide) ?_
  refine pF_X6_66 (w1 := [oM q 0 tr mc pp num yn cg]) E Z dX6_plan_2 0 rfl (Nat.le_of_ble_eq_true rfl) rfl (fun H locs Z => ?_)
  refine lv_aload_n hx hb dX6_plan_5 rfl (lv_at hl 0 rfl) ?_
  refine gF_X6_151 E Z dX6_plan_6 0 rfl rfl ?_
  refine n_if_ne (tgt := 15) hx hb dX6_plan_9 (by decide) (by omega) (fun c9 => ?_) (fun c9 => ?_)
  · exact absurd hy c9
  · refine lv_bipush (v := (-2)) hx hb dX6_plan_12 (by decide) ?_
    exact ret () Z dX6_plan_14 rfl rfl
abbrev rm_k_X6_plan : Room := { frames := 5, cells := 0, slots := 0, locals := 120 }
set_option maxHeartbeats 4000000 in
set_option maxRecDepth 100000 in
theorem k_X6_plan (l : Launch) (D : va_G) (cA : ClassId) (q : Nat → Nat) (tr : Int64) (mc : Nat) (pp : Nat) (num : Nat) (yn : Nat) (cg : Nat) (sets : Nat → Nat) (ch : Nat) (amts : Nat → Nat) (sh : Nat → Nat) (wt : Nat → Nat) (co : Nat → Nat) (nx : Nat → Nat) (hP : pp ≤ 8) (hs : ∀ j, sets j < 2 ^ mc) (hM : mc ≤ 7) (ha10 : ∀ j, amts j < 10) (hy : 1 ≤ yn ∧ yn ≤ 6) (hsh : ∀ j, sh j < 2 ^ (2 * mc)) (hwt : ∀ j, wt j < 10) (hcg : cg ≤ 50) : Cti l yX6_plan cX6_plan 5 (some .int) rm_k_X6_plan D cA [.ref (q 0)] ([oM q 0 tr mc pp num yn cg, aN cA (q 1) 16 sets, aN cA (q 2) 8 (bt ch), aN cA (q 3) 8 amts, aN cA (q 6) 4 sh, aN cA (q 7) 6 wt, aN cA (q 13) 4 co, aN cA (q 14) 4 nx]) (fun (r : Int32) (_ : (Nat → Nat) × (Nat → Nat)) => r = nI (mnr (cym mc wt (fun z => lossM mc (sh z) pp sets amts ch 0) sh cg (yn - 1)) 3)) (fun u => [oM q 0 tr mc pp num yn cg, aN cA (q 1) 16 sets, aN cA (q 2) 8 (bt ch), aN cA (q 3) 8 amts, aN cA (q 6) 4 sh, aN cA (q 7) 6 wt, aN cA (q 13) 4 u.1, aN cA (q 14) 4 u.2]) := by
  refine st_i (by decide) (Nat.le_of_ble_eq_true rfl) ?_
  intro p e s m args below meth c A Q E ret Z ls hl
  have hx := E.1.1
  have hb := E.1.2.1
  have hl : lv_has ls 5 [(0, .ref (q 0))] := hl
  have h14 : 2 ^ (2 * mc) ≤ 2 ^ 14 := Nat.pow_le_pow_right (by decide) (by omega)
  have hsh31 : ∀ j, sh j < 2 ^ 31 := fun j => by have := hsh j; omega
  have hsw : ∀ j, (fun z => lossM mc (sh z) pp sets amts ch 0) j < 6000 := fun j => by show lossM mc (sh j) pp sets amts ch 0 < 6000; rw [lossM_V (by decide)]; exact lossV_le hM hP ha10
  refine lv_aload_n hx hb dX6_plan_0 rfl (lv_at hl 0 rfl) ?_
  refine lv_iconst (v := nI 0) hx hb dX6_plan_1 (by decide) ?_
  refine pF_X6_66 (w1 := [oM q 0 tr mc pp num yn cg, aN cA (q 1) 16 sets, aN cA (q 2) 8 (bt ch), aN cA (q 3) 8 amts, aN cA (q 6) 4 sh, aN cA (q 7) 6 wt, aN cA (q 13) 4 co, aN cA (q 14) 4 nx]) E Z dX6_plan_2 0 rfl (Nat.le_of_ble_eq_true rfl) rfl (fun H locs Z => ?_)
  refine lv_aload_n hx hb dX6_plan_5 rfl (lv_at hl 0 rfl) ?_
  refine gF_X6_151 E Z dX6_plan_6 0 rfl rfl ?_
  refine n_if_ne (tgt := 15) hx hb dX6_plan_9 (by decide) (by omega) (fun c9 => ?_) (fun c9 => ?_)
  · refine lv_iconst (v := nI 0) hx hb dX6_plan_15 (by decide) ?_
    refine lv_istore_n (lv' := [(1, .int (nI 0)), (0, .ref (q 0))]) hx hb dX6_plan_16 rfl hl (by decide) rfl (fun ls hl => ?_)
    have L17 : ∀ (n17 i : Nat), 4 + 1 ≤ i + n17 → i ≤ 4 → ∀ (H : Heap) (locs : List Loc), Wd D A s ([oM q 0 tr mc pp num yn cg, aN cA (q 1) 16 sets, aN cA (q 2) 8 (bt ch), aN cA (q 3) 8 amts, aN cA (q 6) 4 sh, aN cA (q 7) 6 wt, aN cA (q 13) 4 (upTo (fun z => wt 0 * lossM mc (sh z) pp sets amts ch 0) co i), aN cA (q 14) 4 nx]) H locs → ∀ (ls : Array Slot), lv_has ls 5 [(0, .ref (q 0)), (1, .int (nI i))] → W p l e rm_k_X6_plan s m args below meth c H locs 0 0 Q (F0 m 17 ls []) := by
      intro n17
      induction n17 with
      | zero => exact fun i h1 h2 => absurd h1 (by omega)
      | succ n17 ih17 =>
        intro i hn17 hi17  H locs Z ls hl
        refine lv_iload_n hx hb dX6_plan_17 rfl (lv_at hl 1 rfl) ?_
        refine lv_iconst (v := nI 4) hx hb dX6_plan_18 (by decide) ?_
        refine n_icmp_ge (tgt := 52) hx hb dX6_plan_19 (by decide) (by omega) (by omega) (fun c19 => ?_) (fun c19 => ?_)
        · obtain rfl : 4 = i := by omega
          replace Z : Wd D A s ([oM q 0 tr mc pp num yn cg, aN cA (q 1) 16 sets, aN cA (q 2) 8 (bt ch), aN cA (q 3) 8 amts, aN cA (q 6) 4 sh, aN cA (q 7) 6 wt, aN cA (q 13) 4 (cym mc wt (fun z => lossM mc (sh z) pp sets amts ch 0) sh cg 0), aN cA (q 14) 4 nx]) _ _ := Z.norm 6 rfl (fun j hj => congrArg nI (upTo_at _ _ 4 j hj)) rfl
          refine lv_iconst (v := nI 1) hx hb dX6_plan_52 (by decide) ?_
          refine lv_istore_n (lv' := [(1, .int (nI 1)), (0, .ref (q 0))]) hx hb dX6_plan_53 rfl hl (by decide) rfl (fun ls hl => ?_)
          have L54 : ∀ (n54 i : Nat), yn - 1 + 1 ≤ i + n54 → i ≤ yn - 1 → ∀ (nx : Nat → Nat), ∀ (H : Heap) (locs : List Loc), Wd D A s ([oM q 0 tr mc pp num yn cg, aN cA (q 1) 16 sets, aN cA (q 2) 8 (bt ch), aN cA (q 3) 8 amts, aN cA (q 6) 4 sh, aN cA (q 7) 6 wt, aN cA (q 13) 4 (cym mc wt (fun z => lossM mc (sh z) pp sets amts ch 0) sh cg i), aN cA (q 14) 4 nx]) H locs → ∀ (ls : Array Slot), lv_has ls 5 [(0, .ref (q 0)), (1, .int (nI (i + 1)))] → W p l e rm_k_X6_plan s m args below meth c H locs 0 0 Q (F0 m 54 ls []) := by
            intro n54
            induction n54 with
            | zero => exact fun i h1 h2 => absurd h1 (by omega)
            | succ n54 ih54 =>
              intro i hn54 hi54 nx  H locs Z ls hl
              have hcy : ∀ j, cym mc wt (fun z => lossM mc (sh z) pp sets amts ch 0) sh cg i j ≤ 1000000 := fun j => Nat.le_trans (cym_le hwt hsw i j) (by omega)
              refine lv_iload_n hx hb dX6_plan_54 rfl (lv_at hl 1 rfl) ?_
              refine lv_aload_n hx hb dX6_plan_55 rfl (lv_at hl 0 rfl) ?_
              refine gF_X6_151 E Z dX6_plan_56 0 rfl rfl ?_
              refine n_icmp_ge (tgt := 216) hx hb dX6_plan_59 (by decide) (by omega) (by omega) (fun c59 => ?_) (fun c59 => ?_)
              · obtain rfl : yn - 1 = i := by omega
                have hcl : ∀ j, cym mc wt (fun z => lossM mc (sh z) pp sets amts ch 0) sh cg (yn - 1) j ≤ 1000000 := fun j => Nat.le_trans (cym_le hwt hsw _ j) (by omega)
                refine lv_aload_n hx hb dX6_plan_216 rfl (lv_at hl 0 rfl) ?_
                refine gF_X6_56 E Z dX6_plan_217 0 rfl rfl ?_
                refine lv_iconst (v := nI 0) hx hb dX6_plan_220 (by decide) ?_
                refine r_ald E Z dX6_plan_221 6 rfl (by omega) (by decide) ?_
                refine lv_istore_n (lv' := [(1, .int (nI ((cym mc wt (fun z => lossM mc (sh z) pp sets amts ch 0) sh cg (yn - 1)) 0))), (0, .ref (q 0))]) hx hb dX6_plan_222 rfl hl (by decide) rfl (fun ls hl => ?_)
                refine lv_iconst (v := nI 1) hx hb dX6_plan_223 (by decide) ?_
                refine lv_istore_n (lv' := [(2, .int (nI 1)), (1, .int (nI ((cym mc wt (fun z => lossM mc (sh z) pp sets amts ch 0) sh cg (yn - 1)) 0))), (0, .ref (q 0))]) hx hb dX6_plan_224 rfl hl (by decide) rfl (fun ls hl => ?_)
                have L225 : ∀ (n225 i : Nat), 3 + 1 ≤ i + n225 → i ≤ 3 → ∀ (H : Heap) (locs : List Loc), Wd D A s ([oM q 0 tr mc pp num yn cg, aN cA (q 1) 16 sets, aN cA (q 2) 8 (bt ch), aN cA (q 3) 8 amts, aN cA (q 6) 4 sh, aN cA (q 7) 6 wt, aN cA (q 13) 4 (cym mc wt (fun z => lossM mc (sh z) pp sets amts ch 0) sh cg (yn - 1)), aN cA (q 14) 4 nx]) H locs → ∀ (ls : Array Slot), lv_has ls 5 [(0, .ref (q 0)), (1, .int (nI (mnr (cym mc wt (fun z => lossM mc (sh z) pp sets amts ch 0) sh cg (yn - 1)) i))), (2, .int (nI (i + 1)))] → W p l e rm_k_X6_plan s m args below meth c H locs 0 0 Q (F0 m 225 ls []) := by
                  intro n225
                  induction n225 with
                  | zero => exact fun i h1 h2 => absurd h1 (by omega)
                  | succ n225 ih225 =>
                    intro i hn225 hi225  H locs Z ls hl
                    refine lv_iload_n hx hb dX6_plan_225 rfl (lv_at hl 2 rfl) ?_
                    refine lv_iconst (v := nI 4) hx hb dX6_plan_226 (by decide) ?_
                    refine n_icmp_ge (tgt := 257) hx hb dX6_plan_227 (by decide) (by omega) (by omega) (fun c227 => ?_) (fun c227 => ?_)
                    · obtain rfl : 3 = i := by omega
                      refine lv_iload_n hx hb dX6_plan_257 rfl (lv_at hl 1 rfl) ?_
                      exact ret (_, _) Z dX6_plan_258 rfl rfl
                    · refine lv_aload_n hx hb dX6_plan_230 rfl (lv_at hl 0 rfl) ?_
                      refine gF_X6_56 E Z dX6_plan_231 0 rfl rfl ?_
                      refine lv_iload_n hx hb dX6_plan_234 rfl (lv_at hl 2 rfl) ?_
                      refine r_ald E Z dX6_plan_235 6 rfl (by omega) (by decide) ?_
                      refine lv_iload_n hx hb dX6_plan_236 rfl (lv_at hl 1 rfl) ?_
                      have h1 := mnr_le (cym mc wt (fun z => lossM mc (sh z) pp sets amts ch 0) sh cg (yn - 1)) i
                      have h2 := hcl 0
                      have h3 := hcl (i + 1)
                      refine n_icmp_ge (tgt := 249) hx hb dX6_plan_237 (by decide) (by omega) (by omega) (fun c237 => ?_) (fun c237 => ?_)
                      · refine lv_iload_n hx hb dX6_plan_249 rfl (lv_at hl 1 rfl) ?_
                        refine r_top (y := nI (mnr (cym mc wt (fun z => lossM mc (sh z) pp sets amts ch 0) sh cg (yn - 1)) (i + 1))) (congrArg nI (if_neg (Nat.not_lt.mpr c237)).symm) ?_
                        refine lv_istore_n (lv' := [(1, .int (nI (mnr (cym mc wt (fun z => lossM mc (sh z) pp sets amts ch 0) sh cg (yn - 1)) (i + 1)))), (0, .ref (q 0)), (2, .int (nI (i + 1)))]) hx hb dX6_plan_250 rfl hl (by decide) rfl (fun ls hl => ?_)
                        refine lv_iinc (v := nI (i + 1 + 1)) (lv' := [(2, .int (nI (i + 1 + 1))), (1, .int (nI (mnr (cym mc wt (fun z => lossM mc (sh z) pp sets amts ch 0) sh cg (yn - 1)) (i + 1)))), (0, .ref (q 0))]) hx hb dX6_plan_251 hl (k := 2) rfl (n_inc _ _ (by decide)) (by decide) rfl (fun ls hl => ?_)
                        refine lv_goto (tgt := 225) hx hb dX6_plan_254 (by decide) ?_
                        exact ih225 (i + 1) (by omega) (by omega)   _ _ Z ls (lv_sub hl [2, 1, 0] rfl)
                      · refine lv_aload_n hx hb dX6_plan_240 rfl (lv_at hl 0 rfl) ?_
                        refine gF_X6_56 E Z dX6_plan_241 0 rfl rfl ?_
                        refine lv_iload_n hx hb dX6_plan_244 rfl (lv_at hl 2 rfl) ?_
                        refine r_ald E Z dX6_plan_245 6 rfl (by omega) (by decide) ?_
                        refine lv_goto (tgt := 250) hx hb dX6_plan_246 (by decide) ?_
                        refine r_top (y := nI (mnr (cym mc wt (fun z => lossM mc (sh z) pp sets amts ch 0) sh cg (yn - 1)) (i + 1))) (congrArg nI (if_pos c237).symm) ?_
                        refine lv_istore_n (lv' := [(1, .int (nI (mnr (cym mc wt (fun z => lossM mc (sh z) pp sets amts ch 0) sh cg (yn - 1)) (i + 1)))), (0, .ref (q 0)), (2, .int (nI (i + 1)))]) hx hb dX6_plan_250 rfl hl (by decide) rfl (fun ls hl => ?_)
                        refine lv_iinc (v := nI (i + 1 + 1)) (lv' := [(2, .int (nI (i + 1 + 1))), (1, .int (nI (mnr (cym mc wt (fun z => lossM mc (sh z) pp sets amts ch 0) sh cg (yn - 1)) (i + 1)))), (0, .ref (q 0))]) hx hb dX6_plan_251 hl (k := 2) rfl (n_inc _ _ (by decide)) (by decide) rfl (fun ls hl => ?_)
                        refine lv_goto (tgt := 225) hx hb dX6_plan_254 (by decide) ?_
                        exact ih225 (i + 1) (by omega) (by omega)   _ _ Z ls (lv_sub hl [2, 1, 0] rfl)
                exact L225 (3 + 1) 0 (by omega) (by omega)   _ _ Z ls (lv_sub hl [2, 1, 0] rfl)
              · refine lv_iconst (v := nI 0) hx hb dX6_plan_62 (by decide) ?_
                refine lv_istore_n (lv' := [(2, .int (nI 0)), (0, .ref (q 0)), (1, .int (nI (i + 1)))]) hx hb dX6_plan_63 rfl hl (by decide) rfl (fun ls hl => ?_)
                have L64 : ∀ (n64 k : Nat), 4 + 1 ≤ k + n64 → k ≤ 4 → ∀ (H : Heap) (locs : List Loc), Wd D A s ([oM q 0 tr mc pp num yn cg, aN cA (q 1) 16 sets, aN cA (q 2) 8 (bt ch), aN cA (q 3) 8 amts, aN cA (q 6) 4 sh, aN cA (q 7) 6 wt, aN cA (q 13) 4 (cym mc wt (fun z => lossM mc (sh z) pp sets amts ch 0) sh cg i), aN cA (q 14) 4 (upTo (fun z => mnb (cym mc wt (fun z => lossM mc (sh z) pp sets amts ch 0) sh cg i z) (cmm mc (cym mc wt (fun z => lossM mc (sh z) pp sets amts ch 0) sh cg i) sh cg z) 4 + wt (i + 1) * lossM mc (sh z) pp sets amts ch 0) nx k)]) H locs → ∀ (ls : Array Slot), lv_has ls 5 [(0, .ref (q 0)), (1, .int (nI (i + 1))), (2, .int (nI k))] → W p l e rm_k_X6_plan s m args below meth c H locs 0 0 Q (F0 m 64 ls []) := by
                  intro n64
                  induction n64 with
                  | zero => exact fun k h1 h2 => absurd h1 (by omega)
                  | succ n64 ih64 =>
                    intro k hn64 hi64  H locs Z ls hl
                    refine lv_iload_n hx hb dX6_plan_64 rfl (lv_at hl 2 rfl) ?_
                    refine lv_iconst (v := nI 4) hx hb dX6_plan_65 (by decide) ?_
                    refine n_icmp_ge (tgt := 185) hx hb dX6_plan_66 (by decide) (by omega) (by omega) (fun c66 => ?_) (fun c66 => ?_)
                    · obtain rfl : 4 = k := by omega
                      refine lv_iconst (v := nI 0) hx hb dX6_plan_185 (by decide) ?_
                      refine lv_istore_n (lv' := [(2, .int (nI 0)), (0, .ref (q 0)), (1, .int (nI (i + 1)))]) hx hb dX6_plan_186 rfl hl (by decide) rfl (fun ls hl => ?_)
                      have L187 : ∀ (n187 k : Nat), 4 + 1 ≤ k + n187 → k ≤ 4 → ∀ (H : Heap) (locs : List Loc), Wd D A s ([oM q 0 tr mc pp num yn cg, aN cA (q 1) 16 sets, aN cA (q 2) 8 (bt ch), aN cA (q 3) 8 amts, aN cA (q 6) 4 sh, aN cA (q 7) 6 wt, aN cA (q 13) 4 (upTo (upTo (fun z => mnb (cym mc wt (fun z => lossM mc (sh z) pp sets amts ch 0) sh cg i z) (cmm mc (cym mc wt (fun z => lossM mc (sh z) pp sets amts ch 0) sh cg i) sh cg z) 4 + wt (i + 1) * lossM mc (sh z) pp sets amts ch 0) nx 4) (cym mc wt (fun z => lossM mc (sh z) pp sets amts ch 0) sh cg i) k), aN cA (q 14) 4 (upTo (fun z => mnb (cym mc wt (fun z => lossM mc (sh z) pp sets amts ch 0) sh cg i z) (cmm mc (cym mc wt (fun z => lossM mc (sh z) pp sets amts ch 0) sh cg i) sh cg z) 4 + wt (i + 1) * lossM mc (sh z) pp sets amts ch 0) nx 4)]) H locs → ∀ (ls : Array Slot), lv_has ls 5 [(0, .ref (q 0)), (1, .int (nI (i + 1))), (2, .int (nI k))] → W p l e rm_k_X6_plan s m args below meth c H locs 0 0 Q (F0 m 187 ls []) := by
                        intro n187
                        induction n187 with
                        | zero => exact fun k h1 h2 => absurd h1 (by omega)
                        | succ n187 ih187 =>
                          intro k hn187 hi187  H locs Z ls hl
                          refine lv_iload_n hx hb dX6_plan_187 rfl (lv_at hl 2 rfl) ?_
                          refine lv_iconst (v := nI 4) hx hb dX6_plan_188 (by decide) ?_
                          refine n_icmp_ge (tgt := 210) hx hb dX6_plan_189 (by decide) (by omega) (by omega) (fun c189 => ?_) (fun c189 => ?_)
                          · obtain rfl : 4 = k := by omega
                            replace Z : Wd D A s ([oM q 0 tr mc pp num yn cg, aN cA (q 1) 16 sets, aN cA (q 2) 8 (bt ch), aN cA (q 3) 8 amts, aN cA (q 6) 4 sh, aN cA (q 7) 6 wt, aN cA (q 13) 4 (cym mc wt (fun z => lossM mc (sh z) pp sets amts ch 0) sh cg (i + 1)), aN cA (q 14) 4 (upTo (fun z => mnb (cym mc wt (fun z => lossM mc (sh z) pp sets amts ch 0) sh cg i z) (cmm mc (cym mc wt (fun z => lossM mc (sh z) pp sets amts ch 0) sh cg i) sh cg z) 4 + wt (i + 1) * lossM mc (sh z) pp sets amts ch 0) nx 4)]) _ _ := Z.norm 6 rfl (fun j hj => congrArg nI ((upTo_at _ _ 4 j hj).trans (upTo_at _ _ 4 j hj))) rfl
                            refine lv_iinc (v := nI (i + 1 + 1)) (lv' := [(1, .int (nI (i + 1 + 1))), (0, .ref (q 0)), (2, .int (nI 4))]) hx hb dX6_plan_210 hl (k := 1) rfl (n_inc _ _ (by decide)) (by decide) rfl (fun ls hl => ?_)
                            refine lv_goto (tgt := 54) hx hb dX6_plan_213 (by decide) ?_
                            exact ih54 (i + 1) (by omega) (by omega) _  _ _ Z ls (lv_sub hl [1, 0] rfl)
                          · refine lv_aload_n hx hb dX6_plan_192 rfl (lv_at hl 0 rfl) ?_
                            refine gF_X6_56 E Z dX6_plan_193 0 rfl rfl ?_
                            refine lv_iload_n hx hb dX6_plan_196 rfl (lv_at hl 2 rfl) ?_
                            refine lv_aload_n hx hb dX6_plan_197 rfl (lv_at hl 0 rfl) ?_
                            refine gF_X6_59 E Z dX6_plan_198 0 rfl rfl ?_
                            refine lv_iload_n hx hb dX6_plan_201 rfl (lv_at hl 2 rfl) ?_
                            refine r_ald E Z dX6_plan_202 7 rfl (by omega) (by decide) ?_
                            refine r_ast (w1 := [oM q 0 tr mc pp num yn cg, aN cA (q 1) 16 sets, aN cA (q 2) 8 (bt ch), aN cA (q 3) 8 amts, aN cA (q 6) 4 sh, aN cA (q 7) 6 wt, aN cA (q 13) 4 (up (upTo (upTo (fun z => mnb (cym mc wt (fun z => lossM mc (sh z) pp sets amts ch 0) sh cg i z) (cmm mc (cym mc wt (fun z => lossM mc (sh z) pp sets amts ch 0) sh cg i) sh cg z) 4 + wt (i + 1) * lossM mc (sh z) pp sets amts ch 0) nx 4) (cym mc wt (fun z => lossM mc (sh z) pp sets amts ch 0) sh cg i) k) k ((upTo (fun z => mnb (cym mc wt (fun z => lossM mc (sh z) pp sets amts ch 0) sh cg i z) (cmm mc (cym mc wt (fun z => lossM mc (sh z) pp sets amts ch 0) sh cg i) sh cg z) 4 + wt (i + 1) * lossM mc (sh z) pp sets amts ch 0) nx 4) k)), aN cA (q 14) 4 (upTo (fun z => mnb (cym mc wt (fun z => lossM mc (sh z) pp sets amts ch 0) sh cg i z) (cmm mc (cym mc wt (fun z => lossM mc (sh z) pp sets amts ch 0) sh cg i) sh cg z) 4 + wt (i + 1) * lossM mc (sh z) pp sets amts ch 0) nx 4)]) E Z dX6_plan_203 6 rfl (by omega) (by decide) rfl (fun H locs Z => ?_)
                            refine lv_iinc (v := nI (k + 1)) (lv' := [(2, .int (nI (k + 1))), (0, .ref (q 0)), (1, .int (nI (i + 1)))]) hx hb dX6_plan_204 hl (k := 2) rfl (n_inc _ _ (by decide)) (by decide) rfl (fun ls hl => ?_)
                            refine lv_goto (tgt := 187) hx hb dX6_plan_207 (by decide) ?_
                            exact ih187 (k + 1) (by omega) (by omega)   _ _ Z ls (lv_sub hl [1, 2, 0] rfl)
                      exact L187 (4 + 1) 0 (by omega) (by omega)   _ _ Z ls (lv_sub hl [1, 2, 0] rfl)
                    · refine lv_aload_n hx hb dX6_plan_69 rfl (lv_at hl 0 rfl) ?_
                      refine gF_X6_59 E Z dX6_plan_70 0 rfl rfl ?_
                      refine lv_iload_n hx hb dX6_plan_73 rfl (lv_at hl 2 rfl) ?_
                      refine lv_aload_n hx hb dX6_plan_74 rfl (lv_at hl 0 rfl) ?_
                      refine gF_X6_56 E Z dX6_plan_75 0 rfl rfl ?_
                      refine lv_iload_n hx hb dX6_plan_78 rfl (lv_at hl 2 rfl) ?_
                      refine r_ald E Z dX6_plan_79 6 rfl (by omega) (by decide) ?_
                      refine r_ast (w1 := [oM q 0 tr mc pp num yn cg, aN cA (q 1) 16 sets, aN cA (q 2) 8 (bt ch), aN cA (q 3) 8 amts, aN cA (q 6) 4 sh, aN cA (q 7) 6 wt, aN cA (q 13) 4 (cym mc wt (fun z => lossM mc (sh z) pp sets amts ch 0) sh cg i), aN cA (q 14) 4 (up (upTo (fun z => mnb (cym mc wt (fun z => lossM mc (sh z) pp sets amts ch 0) sh cg i z) (cmm mc (cym mc wt (fun z => lossM mc (sh z) pp sets amts ch 0) sh cg i) sh cg z) 4 + wt (i + 1) * lossM mc (sh z) pp sets amts ch 0) nx k) k ((cym mc wt (fun z => lossM mc (sh z) pp sets amts ch 0) sh cg i) k))]) E Z dX6_plan_80 7 rfl (by omega) (by decide) rfl (fun H locs Z => ?_)
                      refine lv_iconst (v := nI 0) hx hb dX6_plan_81 (by decide) ?_
                      refine lv_istore_n (lv' := [(3, .int (nI 0)), (0, .ref (q 0)), (1, .int (nI (i + 1))), (2, .int (nI k))]) hx hb dX6_plan_82 rfl hl (by decide) rfl (fun ls hl => ?_)
                      have L83 : ∀ (n83 j : Nat), 4 + 1 ≤ j + n83 → j ≤ 4 → ∀ (H : Heap) (locs : List Loc), Wd D A s ([oM q 0 tr mc pp num yn cg, aN cA (q 1) 16 sets, aN cA (q 2) 8 (bt ch), aN cA (q 3) 8 amts, aN cA (q 6) 4 sh, aN cA (q 7) 6 wt, aN cA (q 13) 4 (cym mc wt (fun z => lossM mc (sh z) pp sets amts ch 0) sh cg i), aN cA (q 14) 4 (up (upTo (fun z => mnb (cym mc wt (fun z => lossM mc (sh z) pp sets amts ch 0) sh cg i z) (cmm mc (cym mc wt (fun z => lossM mc (sh z) pp sets amts ch 0) sh cg i) sh cg z) 4 + wt (i + 1) * lossM mc (sh z) pp sets amts ch 0) nx k) k (mnb (cym mc wt (fun z => lossM mc (sh z) pp sets amts ch 0) sh cg i k) (cmm mc (cym mc wt (fun z => lossM mc (sh z) pp sets amts ch 0) sh cg i) sh cg k) j))]) H locs → ∀ (ls : Array Slot), lv_has ls 5 [(0, .ref (q 0)), (1, .int (nI (i + 1))), (2, .int (nI k)), (3, .int (nI j))] → W p l e rm_k_X6_plan s m args below meth c H locs 0 0 Q (F0 m 83 ls []) := by
                        intro n83
                        induction n83 with
                        | zero => exact fun j h1 h2 => absurd h1 (by omega)
                        | succ n83 ih83 =>
                          intro j hn83 hi83  H locs Z ls hl
                          refine lv_iload_n hx hb dX6_plan_83 rfl (lv_at hl 3 rfl) ?_
                          refine lv_iconst (v := nI 4) hx hb dX6_plan_84 (by decide) ?_
                          refine n_icmp_ge (tgt := 152) hx hb dX6_plan_85 (by decide) (by omega) (by omega) (fun c85 => ?_) (fun c85 => ?_)
                          · obtain rfl : 4 = j := by omega
                            refine lv_aload_n hx hb dX6_plan_152 rfl (lv_at hl 0 rfl) ?_
                            refine gF_X6_59 E Z dX6_plan_153 0 rfl rfl ?_
                            refine lv_iload_n hx hb dX6_plan_156 rfl (lv_at hl 2 rfl) ?_
                            refine lv_dup2_11 hx hb dX6_plan_157 rfl rfl ?_
                            refine r_ald E Z dX6_plan_158 7 rfl (by omega) (by decide) ?_
                            refine r_top (y := nI (mnb (cym mc wt (fun z => lossM mc (sh z) pp sets amts ch 0) sh cg i k) (cmm mc (cym mc wt (fun z => lossM mc (sh z) pp sets amts ch 0) sh cg i) sh cg k) 4)) (congrArg nI (up_s _ _ _)) ?_
                            refine lv_aload_n hx hb dX6_plan_159 rfl (lv_at hl 0 rfl) ?_
                            refine gF_X6_35 E Z dX6_plan_160 0 rfl rfl ?_
                            refine lv_iload_n hx hb dX6_plan_163 rfl (lv_at hl 1 rfl) ?_
                            refine r_ald E Z dX6_plan_164 5 rfl (by omega) (by decide) ?_
                            refine lv_aload_n hx hb dX6_plan_165 rfl (lv_at hl 0 rfl) ?_
                            refine lv_aload_n hx hb dX6_plan_166 rfl (lv_at hl 0 rfl) ?_
                            refine gF_X6_32 E Z dX6_plan_167 0 rfl rfl ?_
                            refine lv_iload_n hx hb dX6_plan_170 rfl (lv_at hl 2 rfl) ?_
                            refine r_ald E Z dX6_plan_171 4 rfl (by omega) (by decide) ?_
                            refine lv_iconst (v := nI 0) hx hb dX6_plan_172 (by decide) ?_
                            refine c_Vi (As := [.int (nI (sh k)), .int (nI 0)]) (rest := [.int (nI (wt (i + 1))), .int (nI (mnb (cym mc wt (fun z => lossM mc (sh z) pp sets amts ch 0) sh cg i k) (cmm mc (cym mc wt (fun z => lossM mc (sh z) pp sets amts ch 0) sh cg i) sh cg k) 4)), .int (nI k), .ref (q 14)]) (w2 := fun _ => [oM q 0 tr mc pp num yn cg, aN cA (q 1) 16 sets, aN cA (q 2) 8 (bt ch), aN cA (q 3) 8 amts, aN cA (q 6) 4 sh, aN cA (q 7) 6 wt, aN cA (q 13) 4 (cym mc wt (fun z => lossM mc (sh z) pp sets amts ch 0) sh cg i), aN cA (q 14) 4 (up (upTo (fun z => mnb (cym mc wt (fun z => lossM mc (sh z) pp sets amts ch 0) sh cg i z) (cmm mc (cym mc wt (fun z => lossM mc (sh z) pp sets amts ch 0) sh cg i) sh cg z) 4 + wt (i + 1) * lossM mc (sh z) pp sets amts ch 0) nx k) k (mnb (cym mc wt (fun z => lossM mc (sh z) pp sets amts ch 0) sh cg i k) (cmm mc (cym mc wt (fun z => lossM mc (sh z) pp sets amts ch 0) sh cg i) sh cg k) 4))]) E Z (k_X6_lossOf l D cA q tr mc pp num yn cg sets ch amts (sh k) 0 (by first | assumption | omega) (by first | assumption | omega) (by first | assumption | omega) (hsh31 _) (by decide)) wv_X6_115 ⟨rfl, rfl, Nat.le_of_ble_eq_true rfl, Nat.le_of_ble_eq_true rfl⟩ [0, 1, 2, 3] rfl rfl rfl rfl (q0 := 0) rfl (fun _ => rfl) (fun _ => rfl) rfl hl.1 rfl (Nat.le_of_ble_eq_true rfl) dX6_plan_173 ⟨Nat.zero_le _, Nat.zero_le _⟩ (fun r173 _ H locs hp173 Z => ?_)
                            subst hp173
                            refine n_imul hx hb dX6_plan_176 ?_
                            refine n_iadd hx hb dX6_plan_177 ?_
                            refine r_ast (w1 := [oM q 0 tr mc pp num yn cg, aN cA (q 1) 16 sets, aN cA (q 2) 8 (bt ch), aN cA (q 3) 8 amts, aN cA (q 6) 4 sh, aN cA (q 7) 6 wt, aN cA (q 13) 4 (cym mc wt (fun z => lossM mc (sh z) pp sets amts ch 0) sh cg i), aN cA (q 14) 4 (up (up (upTo (fun z => mnb (cym mc wt (fun z => lossM mc (sh z) pp sets amts ch 0) sh cg i z) (cmm mc (cym mc wt (fun z => lossM mc (sh z) pp sets amts ch 0) sh cg i) sh cg z) 4 + wt (i + 1) * lossM mc (sh z) pp sets amts ch 0) nx k) k (mnb (cym mc wt (fun z => lossM mc (sh z) pp sets amts ch 0) sh cg i k) (cmm mc (cym mc wt (fun z => lossM mc (sh z) pp sets amts ch 0) sh cg i) sh cg k) 4)) k (mnb (cym mc wt (fun z => lossM mc (sh z) pp sets amts ch 0) sh cg i k) (cmm mc (cym mc wt (fun z => lossM mc (sh z) pp sets amts ch 0) sh cg i) sh cg k) 4 + ((wt (i + 1)) * (lossM mc (sh k) pp sets amts ch 0))))]) E Z dX6_plan_178 7 rfl (by omega) (by decide) rfl (fun H locs Z => ?_)
                            replace Z : Wd D A s ([oM q 0 tr mc pp num yn cg, aN cA (q 1) 16 sets, aN cA (q 2) 8 (bt ch), aN cA (q 3) 8 amts, aN cA (q 6) 4 sh, aN cA (q 7) 6 wt, aN cA (q 13) 4 (cym mc wt (fun z => lossM mc (sh z) pp sets amts ch 0) sh cg i), aN cA (q 14) 4 (upTo (fun z => mnb (cym mc wt (fun z => lossM mc (sh z) pp sets amts ch 0) sh cg i z) (cmm mc (cym mc wt (fun z => lossM mc (sh z) pp sets amts ch 0) sh cg i) sh cg z) 4 + wt (i + 1) * lossM mc (sh z) pp sets amts ch 0) nx (k + 1))]) _ _ := Z.to (by rw [up_up]; rfl)
                            refine lv_iinc (v := nI (k + 1)) (lv' := [(2, .int (nI (k + 1))), (0, .ref (q 0)), (1, .int (nI (i + 1))), (3, .int (nI 4))]) hx hb dX6_plan_179 hl (k := 2) rfl (n_inc _ _ (by decide)) (by decide) rfl (fun ls hl => ?_)
                            refine lv_goto (tgt := 64) hx hb dX6_plan_182 (by decide) ?_
                            exact ih64 (k + 1) (by omega) (by omega)   _ _ Z ls (lv_sub hl [1, 2, 0] rfl)
                          · refine lv_aload_n hx hb dX6_plan_88 rfl (lv_at hl 0 rfl) ?_
                            refine gF_X6_56 E Z dX6_plan_89 0 rfl rfl ?_
                            refine lv_iload_n hx hb dX6_plan_92 rfl (lv_at hl 3 rfl) ?_
                            refine r_ald E Z dX6_plan_93 6 rfl (by omega) (by decide) ?_
                            refine lv_aload_n hx hb dX6_plan_94 rfl (lv_at hl 0 rfl) ?_
                            refine gF_X6_38 E Z dX6_plan_95 0 rfl rfl ?_
                            refine lv_aload_n hx hb dX6_plan_98 rfl (lv_at hl 0 rfl) ?_
                            refine lv_aload_n hx hb dX6_plan_99 rfl (lv_at hl 0 rfl) ?_
                            refine gF_X6_32 E Z dX6_plan_100 0 rfl rfl ?_
                            refine lv_iload_n hx hb dX6_plan_103 rfl (lv_at hl 3 rfl) ?_
                            refine r_ald E Z dX6_plan_104 4 rfl (by omega) (by decide) ?_
                            refine lv_aload_n hx hb dX6_plan_105 rfl (lv_at hl 0 rfl) ?_
                            refine gF_X6_32 E Z dX6_plan_106 0 rfl rfl ?_
                            refine lv_iload_n hx hb dX6_plan_109 rfl (lv_at hl 2 rfl) ?_
                            refine r_ald E Z dX6_plan_110 4 rfl (by omega) (by decide) ?_
                            refine c_Vi (As := [.int (nI (sh j)), .int (nI (sh k))]) (rest := [.int (nI cg), .int (nI ((cym mc wt (fun z => lossM mc (sh z) pp sets amts ch 0) sh cg i) j))]) (w2 := fun _ => [oM q 0 tr mc pp num yn cg, aN cA (q 1) 16 sets, aN cA (q 2) 8 (bt ch), aN cA (q 3) 8 amts, aN cA (q 6) 4 sh, aN cA (q 7) 6 wt, aN cA (q 13) 4 (cym mc wt (fun z => lossM mc (sh z) pp sets amts ch 0) sh cg i), aN cA (q 14) 4 (up (upTo (fun z => mnb (cym mc wt (fun z => lossM mc (sh z) pp sets amts ch 0) sh cg i z) (cmm mc (cym mc wt (fun z => lossM mc (sh z) pp sets amts ch 0) sh cg i) sh cg z) 4 + wt (i + 1) * lossM mc (sh z) pp sets amts ch 0) nx k) k (mnb (cym mc wt (fun z => lossM mc (sh z) pp sets amts ch 0) sh cg i k) (cmm mc (cym mc wt (fun z => lossM mc (sh z) pp sets amts ch 0) sh cg i) sh cg k) j))]) E Z (k_X6_movedOf l D cA q tr mc pp num yn cg (sh j) (sh k) (by first | assumption | omega) (hsh31 _) (hsh31 _)) wv_X6_154 ⟨rfl, rfl, Nat.le_of_ble_eq_true rfl, Nat.le_of_ble_eq_true rfl⟩ [0] rfl rfl rfl rfl (q0 := 0) rfl (fun _ => rfl) (fun _ => rfl) rfl hl.1 rfl (Nat.le_of_ble_eq_true rfl) dX6_plan_111 ⟨Nat.zero_le _, Nat.zero_le _⟩ (fun r111 _ H locs hp111 Z => ?_)
                            subst hp111
                            refine n_imul hx hb dX6_plan_114 ?_
                            refine n_iadd hx hb dX6_plan_115 ?_
                            refine r_top (y := nI (cmm mc (cym mc wt (fun z => lossM mc (sh z) pp sets amts ch 0) sh cg i) sh cg k j)) rfl ?_
                            refine lv_istore (lv' := [(4, .int (nI (cmm mc (cym mc wt (fun z => lossM mc (sh z) pp sets amts ch 0) sh cg i) sh cg k j))), (0, .ref (q 0)), (1, .int (nI (i + 1))), (2, .int (nI k)), (3, .int (nI j))]) hx hb dX6_plan_116 hl (by decide) rfl (fun ls hl => ?_)
                            refine lv_aload_n hx hb dX6_plan_118 rfl (lv_at hl 1 rfl) ?_
                            refine gF_X6_59 E Z dX6_plan_119 0 rfl rfl ?_
                            refine lv_iload_n hx hb dX6_plan_122 rfl (lv_at hl 3 rfl) ?_
                            refine lv_iload hx hb dX6_plan_123 (lv_at hl 0 rfl) ?_
                            refine lv_aload_n hx hb dX6_plan_125 rfl (lv_at hl 1 rfl) ?_
                            refine gF_X6_59 E Z dX6_plan_126 0 rfl rfl ?_
                            refine lv_iload_n hx hb dX6_plan_129 rfl (lv_at hl 3 rfl) ?_
                            refine r_ald E Z dX6_plan_130 7 rfl (by omega) (by decide) ?_
                            refine r_top (y := nI (mnb (cym mc wt (fun z => lossM mc (sh z) pp sets amts ch 0) sh cg i k) (cmm mc (cym mc wt (fun z => lossM mc (sh z) pp sets amts ch 0) sh cg i) sh cg k) j)) (congrArg nI (up_s _ _ _)) ?_
                            have h1 := cmm_le (sh := sh) hM hcy hcg k j
                            have h2 := mnb_le (cym mc wt (fun z => lossM mc (sh z) pp sets amts ch 0) sh cg i k) (cmm mc (cym mc wt (fun z => lossM mc (sh z) pp sets amts ch 0) sh cg i) sh cg k) j
                            have h3 := hcy k
                            refine n_icmp_ge (tgt := 139) hx hb dX6_plan_131 (by decide) (by omega) (by omega) (fun c131 => ?_) (fun c131 => ?_)
                            · refine lv_aload_n hx hb dX6_plan_139 rfl (lv_at hl 1 rfl) ?_
                              refine gF_X6_59 E Z dX6_plan_140 0 rfl rfl ?_
                              refine lv_iload_n hx hb dX6_plan_143 rfl (lv_at hl 3 rfl) ?_
                              refine r_ald E Z dX6_plan_144 7 rfl (by omega) (by decide) ?_
                              refine r_top (y := nI (mnb (cym mc wt (fun z => lossM mc (sh z) pp sets amts ch 0) sh cg i k) (cmm mc (cym mc wt (fun z => lossM mc (sh z) pp sets amts ch 0) sh cg i) sh cg k) (j + 1))) (congrArg nI ((up_s _ _ _).trans (if_neg (Nat.not_lt.mpr c131)).symm)) ?_
                              refine r_ast (w1 := [oM q 0 tr mc pp num yn cg, aN cA (q 1) 16 sets, aN cA (q 2) 8 (bt ch), aN cA (q 3) 8 amts, aN cA (q 6) 4 sh, aN cA (q 7) 6 wt, aN cA (q 13) 4 (cym mc wt (fun z => lossM mc (sh z) pp sets amts ch 0) sh cg i), aN cA (q 14) 4 (up (up (upTo (fun z => mnb (cym mc wt (fun z => lossM mc (sh z) pp sets amts ch 0) sh cg i z) (cmm mc (cym mc wt (fun z => lossM mc (sh z) pp sets amts ch 0) sh cg i) sh cg z) 4 + wt (i + 1) * lossM mc (sh z) pp sets amts ch 0) nx k) k (mnb (cym mc wt (fun z => lossM mc (sh z) pp sets amts ch 0) sh cg i k) (cmm mc (cym mc wt (fun z => lossM mc (sh z) pp sets amts ch 0) sh cg i) sh cg k) j)) k (mnb (cym mc wt (fun z => lossM mc (sh z) pp sets amts ch 0) sh cg i k) (cmm mc (cym mc wt (fun z => lossM mc (sh z) pp sets amts ch 0) sh cg i) sh cg k) (j + 1)))]) E Z dX6_plan_145 7 rfl (by omega) (by decide) rfl (fun H locs Z => ?_)
                              replace Z : Wd D A s ([oM q 0 tr mc pp num yn cg, aN cA (q 1) 16 sets, aN cA (q 2) 8 (bt ch), aN cA (q 3) 8 amts, aN cA (q 6) 4 sh, aN cA (q 7) 6 wt, aN cA (q 13) 4 (cym mc wt (fun z => lossM mc (sh z) pp sets amts ch 0) sh cg i), aN cA (q 14) 4 (up (upTo (fun z => mnb (cym mc wt (fun z => lossM mc (sh z) pp sets amts ch 0) sh cg i z) (cmm mc (cym mc wt (fun z => lossM mc (sh z) pp sets amts ch 0) sh cg i) sh cg z) 4 + wt (i + 1) * lossM mc (sh z) pp sets amts ch 0) nx k) k (mnb (cym mc wt (fun z => lossM mc (sh z) pp sets amts ch 0) sh cg i k) (cmm mc (cym mc wt (fun z => lossM mc (sh z) pp sets amts ch 0) sh cg i) sh cg k) (j + 1)))]) _ _ := Z.to (by rw [up_up])
                              refine lv_iinc (v := nI (j + 1)) (lv' := [(3, .int (nI (j + 1))), (4, .int (nI (cmm mc (cym mc wt (fun z => lossM mc (sh z) pp sets amts ch 0) sh cg i) sh cg k j))), (0, .ref (q 0)), (1, .int (nI (i + 1))), (2, .int (nI k))]) hx hb dX6_plan_146 hl (k := 4) rfl (n_inc _ _ (by decide)) (by decide) rfl (fun ls hl => ?_)
                              refine lv_goto (tgt := 83) hx hb dX6_plan_149 (by decide) ?_
                              exact ih83 (j + 1) (by omega) (by omega)   _ _ Z ls (lv_sub hl [2, 3, 4, 0] rfl)
                            · refine lv_iload hx hb dX6_plan_134 (lv_at hl 0 rfl) ?_
                              refine lv_goto (tgt := 145) hx hb dX6_plan_136 (by decide) ?_
                              refine r_top (y := nI (mnb (cym mc wt (fun z => lossM mc (sh z) pp sets amts ch 0) sh cg i k) (cmm mc (cym mc wt (fun z => lossM mc (sh z) pp sets amts ch 0) sh cg i) sh cg k) (j + 1))) (congrArg nI (if_pos c131).symm) ?_
                              refine r_ast (w1 := [oM q 0 tr mc pp num yn cg, aN cA (q 1) 16 sets, aN cA (q 2) 8 (bt ch), aN cA (q 3) 8 amts, aN cA (q 6) 4 sh, aN cA (q 7) 6 wt, aN cA (q 13) 4 (cym mc wt (fun z => lossM mc (sh z) pp sets amts ch 0) sh cg i), aN cA (q 14) 4 (up (up (upTo (fun z => mnb (cym mc wt (fun z => lossM mc (sh z) pp sets amts ch 0) sh cg i z) (cmm mc (cym mc wt (fun z => lossM mc (sh z) pp sets amts ch 0) sh cg i) sh cg z) 4 + wt (i + 1) * lossM mc (sh z) pp sets amts ch 0) nx k) k (mnb (cym mc wt (fun z => lossM mc (sh z) pp sets amts ch 0) sh cg i k) (cmm mc (cym mc wt (fun z => lossM mc (sh z) pp sets amts ch 0) sh cg i) sh cg k) j)) k (mnb (cym mc wt (fun z => lossM mc (sh z) pp sets amts ch 0) sh cg i k) (cmm mc (cym mc wt (fun z => lossM mc (sh z) pp sets amts ch 0) sh cg i) sh cg k) (j + 1)))]) E Z dX6_plan_145 7 rfl (by omega) (by decide) rfl (fun H locs Z => ?_)
                              replace Z : Wd D A s ([oM q 0 tr mc pp num yn cg, aN cA (q 1) 16 sets, aN cA (q 2) 8 (bt ch), aN cA (q 3) 8 amts, aN cA (q 6) 4 sh, aN cA (q 7) 6 wt, aN cA (q 13) 4 (cym mc wt (fun z => lossM mc (sh z) pp sets amts ch 0) sh cg i), aN cA (q 14) 4 (up (upTo (fun z => mnb (cym mc wt (fun z => lossM mc (sh z) pp sets amts ch 0) sh cg i z) (cmm mc (cym mc wt (fun z => lossM mc (sh z) pp sets amts ch 0) sh cg i) sh cg z) 4 + wt (i + 1) * lossM mc (sh z) pp sets amts ch 0) nx k) k (mnb (cym mc wt (fun z => lossM mc (sh z) pp sets amts ch 0) sh cg i k) (cmm mc (cym mc wt (fun z => lossM mc (sh z) pp sets amts ch 0) sh cg i) sh cg k) (j + 1)))]) _ _ := Z.to (by rw [up_up])
                              refine lv_iinc (v := nI (j + 1)) (lv' := [(3, .int (nI (j + 1))), (4, .int (nI (cmm mc (cym mc wt (fun z => lossM mc (sh z) pp sets amts ch 0) sh cg i) sh cg k j))), (0, .ref (q 0)), (1, .int (nI (i + 1))), (2, .int (nI k))]) hx hb dX6_plan_146 hl (k := 4) rfl (n_inc _ _ (by decide)) (by decide) rfl (fun ls hl => ?_)
                              refine lv_goto (tgt := 83) hx hb dX6_plan_149 (by decide) ?_
                              exact ih83 (j + 1) (by omega) (by omega)   _ _ Z ls (lv_sub hl [2, 3, 4, 0] rfl)
                      exact L83 (4 + 1) 0 (by omega) (by omega)   _ _ Z ls (lv_sub hl [1, 2, 3, 0] rfl)
                exact L64 (4 + 1) 0 (by omega) (by omega)   _ _ Z ls (lv_sub hl [1, 2, 0] rfl)
          exact L54 ((yn - 1) + 1) 0 (by omega) (by omega) _  _ _ Z ls (lv_sub hl [1, 0] rfl)
        · refine lv_aload_n hx hb dX6_plan_22 rfl (lv_at hl 0 rfl) ?_
          refine gF_X6_56 E Z dX6_plan_23 0 rfl rfl ?_
          refine lv_iload_n hx hb dX6_plan_26 rfl (lv_at hl 1 rfl) ?_
          refine lv_aload_n hx hb dX6_plan_27 rfl (lv_at hl 0 rfl) ?_
          refine gF_X6_35 E Z dX6_plan_28 0 rfl rfl ?_
          refine lv_iconst (v := nI 0) hx hb dX6_plan_31 (by decide) ?_
          refine r_ald E Z dX6_plan_32 5 rfl (by omega) (by decide) ?_
          refine lv_aload_n hx hb dX6_plan_33 rfl (lv_at hl 0 rfl) ?_
          refine lv_aload_n hx hb dX6_plan_34 rfl (lv_at hl 0 rfl) ?_
          refine gF_X6_32 E Z dX6_plan_35 0 rfl rfl ?_
          refine lv_iload_n hx hb dX6_plan_38 rfl (lv_at hl 1 rfl) ?_
          refine r_ald E Z dX6_plan_39 4 rfl (by omega) (by decide) ?_
          refine lv_iconst (v := nI 0) hx hb dX6_plan_40 (by decide) ?_
          refine c_Vi (As := [.int (nI (sh i)), .int (nI 0)]) (rest := [.int (nI (wt 0)), .int (nI i), .ref (q 13)]) (w2 := fun _ => [oM q 0 tr mc pp num yn cg, aN cA (q 1) 16 sets, aN cA (q 2) 8 (bt ch), aN cA (q 3) 8 amts, aN cA (q 6) 4 sh, aN cA (q 7) 6 wt, aN cA (q 13) 4 (upTo (fun z => wt 0 * lossM mc (sh z) pp sets amts ch 0) co i), aN cA (q 14) 4 nx]) E Z (k_X6_lossOf l D cA q tr mc pp num yn cg sets ch amts (sh i) 0 (by first | assumption | omega) (by first | assumption | omega) (by first | assumption | omega) (hsh31 _) (by decide)) wv_X6_115 ⟨rfl, rfl, Nat.le_of_ble_eq_true rfl, Nat.le_of_ble_eq_true rfl⟩ [0, 1, 2, 3] rfl rfl rfl rfl (q0 := 0) rfl (fun _ => rfl) (fun _ => rfl) rfl hl.1 rfl (Nat.le_of_ble_eq_true rfl) dX6_plan_41 ⟨Nat.zero_le _, Nat.zero_le _⟩ (fun r41 _ H locs hp41 Z => ?_)
          subst hp41
          refine n_imul hx hb dX6_plan_44 ?_
          refine r_ast (w1 := [oM q 0 tr mc pp num yn cg, aN cA (q 1) 16 sets, aN cA (q 2) 8 (bt ch), aN cA (q 3) 8 amts, aN cA (q 6) 4 sh, aN cA (q 7) 6 wt, aN cA (q 13) 4 (up (upTo (fun z => wt 0 * lossM mc (sh z) pp sets amts ch 0) co i) i ((wt 0) * (lossM mc (sh i) pp sets amts ch 0))), aN cA (q 14) 4 nx]) E Z dX6_plan_45 6 rfl (by omega) (by decide) rfl (fun H locs Z => ?_)
          refine lv_iinc (v := nI (i + 1)) (lv' := [(1, .int (nI (i + 1))), (0, .ref (q 0))]) hx hb dX6_plan_46 hl (k := 1) rfl (n_inc _ _ (by decide)) (by decide) rfl (fun ls hl => ?_)
          refine lv_goto (tgt := 17) hx hb dX6_plan_49 (by decide) ?_
          exact ih17 (i + 1) (by omega) (by omega)   _ _ Z ls (lv_sub hl [1, 0] rfl)
    exact L17 (4 + 1) 0 (by omega) (by omega)   _ _ Z ls (lv_sub hl [1, 0] rfl)
  · exact absurd hy (by omega)
abbrev rm_k_X6_count : Room := { frames := 0, cells := 0, slots := 0, locals := 0 }
set_option maxHeartbeats 4000000 in
set_option maxRecDepth 100000 in
theorem k_X6_count (l : Launch) (D : va_G) (cA : ClassId) (q : Nat → Nat) (tr : Int64) (mc : Nat) (pp : Nat) (num : Nat) (yn : Nat) (cg : Nat) (sh : Nat → Nat) (x1 : Int32)  : Cti l yX6_count cX6_count 2 (some .int) rm_k_X6_count D cA [.ref (q 0), .int x1] ([oM q 0 tr mc pp num yn cg, aN cA (q 6) 4 sh]) (fun (r : Int32) (_ : Unit) => r = (aCount mc pp num yn sh x1)) (fun _ => [oM q 0 tr mc pp num yn cg, aN cA (q 6) 4 sh]) := by
  refine st_i (by decide) (Nat.le_of_ble_eq_true rfl) ?_
  intro p e s m args below meth c A Q E ret Z ls hl
  have hx := E.1.1
  have hb := E.1.2.1
  have hl : lv_has ls 2 [(0, .ref (q 0)), (1, .int x1)] := hl
  refine lv_aload_n hx hb dX6_count_0 rfl (lv_at hl 0 rfl) ?_
  refine lv_iconst (v := nI 0) hx hb dX6_count_1 (by decide) ?_
  refine pF_X6_66 (w1 := [oM q 0 tr mc pp num yn cg, aN cA (q 6) 4 sh]) E Z dX6_count_2 0 rfl (Nat.le_of_ble_eq_true rfl) rfl (fun H locs Z => ?_)
  refine lv_iload_n hx hb dX6_count_5 rfl (lv_at hl 1 rfl) ?_
  refine lv_if_ne (tgt := 16) hx hb dX6_count_6 (by decide) (fun c6 => ?_) (fun c6 => ?_)
  · refine lv_iload_n hx hb dX6_count_16 rfl (lv_at hl 1 rfl) ?_
    refine lv_iconst (v := nI 1) hx hb dX6_count_17 (by decide) ?_
    refine lv_icmp_ne (tgt := 28) hx hb dX6_count_18 (by decide) (fun c18 => ?_) (fun c18 => ?_)
    · refine lv_iload_n hx hb dX6_count_28 rfl (lv_at hl 1 rfl) ?_
      refine lv_iconst (v := nI 2) hx hb dX6_count_29 (by decide) ?_
      refine lv_icmp_ne (tgt := 40) hx hb dX6_count_30 (by decide) (fun c30 => ?_) (fun c30 => ?_)
      · refine lv_iload_n hx hb dX6_count_40 rfl (lv_at hl 1 rfl) ?_
        refine lv_iconst (v := nI 3) hx hb dX6_count_41 (by decide) ?_
        refine lv_icmp_ne (tgt := 52) hx hb dX6_count_42 (by decide) (fun c42 => ?_) (fun c42 => ?_)
        · refine lv_iload_n hx hb dX6_count_52 rfl (lv_at hl 1 rfl) ?_
          refine lv_iconst (v := nI 4) hx hb dX6_count_53 (by decide) ?_
          refine lv_icmp_ne (tgt := 66) hx hb dX6_count_54 (by decide) (fun c54 => ?_) (fun c54 => ?_)
          · refine lv_iconst (v := (-1)) hx hb dX6_count_66 (by decide) ?_
            exact ret () Z dX6_count_67 rfl (by unfold aCount; rw [if_neg (fun h => c6 (h.trans nI_0)), if_neg c18, if_neg c30, if_neg c42, if_neg c54])
          · refine lv_aload_n hx hb dX6_count_57 rfl (lv_at hl 0 rfl) ?_
            refine gF_X6_32 E Z dX6_count_58 0 rfl rfl ?_
            refine lv_iconst (v := nI 0) hx hb dX6_count_61 (by decide) ?_
            refine r_ald E Z dX6_count_62 1 rfl (by omega) (by decide) ?_
            refine lv_goto (tgt := 67) hx hb dX6_count_63 (by decide) ?_
            exact ret () Z dX6_count_67 rfl (by unfold aCount; rw [if_neg (fun h => c6 (h.trans nI_0)), if_neg c18, if_neg c30, if_neg c42, if_pos c54])
        · refine lv_aload_n hx hb dX6_count_45 rfl (lv_at hl 0 rfl) ?_
          refine gF_X6_151 E Z dX6_count_46 0 rfl rfl ?_
          refine lv_goto (tgt := 67) hx hb dX6_count_49 (by decide) ?_
          exact ret () Z dX6_count_67 rfl (by unfold aCount; rw [if_neg (fun h => c6 (h.trans nI_0)), if_neg c18, if_neg c30, if_pos c42])
      · refine lv_aload_n hx hb dX6_count_33 rfl (lv_at hl 0 rfl) ?_
        refine gF_X6_69 E Z dX6_count_34 0 rfl rfl ?_
        refine lv_goto (tgt := 67) hx hb dX6_count_37 (by decide) ?_
        exact ret () Z dX6_count_67 rfl (by unfold aCount; rw [if_neg (fun h => c6 (h.trans nI_0)), if_neg c18, if_pos c30])
    · refine lv_aload_n hx hb dX6_count_21 rfl (lv_at hl 0 rfl) ?_
      refine gF_X6_13 E Z dX6_count_22 0 rfl rfl ?_
      refine lv_goto (tgt := 67) hx hb dX6_count_25 (by decide) ?_
      exact ret () Z dX6_count_67 rfl (by unfold aCount; rw [if_neg (fun h => c6 (h.trans nI_0)), if_pos c18])
  · refine lv_aload_n hx hb dX6_count_9 rfl (lv_at hl 0 rfl) ?_
    refine gF_X6_7 E Z dX6_count_10 0 rfl rfl ?_
    refine lv_goto (tgt := 67) hx hb dX6_count_13 (by decide) ?_
    exact ret () Z dX6_count_67 rfl (by unfold aCount; rw [if_pos (c6.trans nI_0.symm)])
abbrev rm_k_X6_trace : Room := { frames := 0, cells := 0, slots := 0, locals := 0 }
set_option maxHeartbeats 4000000 in
set_option maxRecDepth 100000 in
theorem k_X6_trace (l : Launch) (D : va_G) (cA : ClassId) (q : Nat → Nat) (tr : Int64) (mc : Nat) (pp : Nat) (num : Nat) (yn : Nat) (cg : Nat)  : Ctl l yX6_trace cX6_trace 1 (some .long) rm_k_X6_trace D cA [.ref (q 0)] ([oM q 0 tr mc pp num yn cg]) (fun (r : Int64) (_ : Unit) => r = tr) (fun _ => [oM q 0 tr mc pp num yn cg]) := by
  refine st_l (by decide) (Nat.le_of_ble_eq_true rfl) ?_
  intro p e s m args below meth c A Q E ret Z ls hl
  have hx := E.1.1
  have hb := E.1.2.1
  have hl : lv_has ls 1 [(0, .ref (q 0))] := hl
  refine lv_aload_n hx hb dX6_trace_0 rfl (lv_at hl 0 rfl) ?_
  refine lv_iconst (v := nI 0) hx hb dX6_trace_1 (by decide) ?_
  refine pF_X6_66 (w1 := [oM q 0 tr mc pp num yn cg]) E Z dX6_trace_2 0 rfl (Nat.le_of_ble_eq_true rfl) rfl (fun H locs Z => ?_)
  refine lv_aload_n hx hb dX6_trace_5 rfl (lv_at hl 0 rfl) ?_
  refine gF_X6_107 E Z dX6_trace_6 0 rfl rfl ?_
  exact ret () Z dX6_trace_9 rfl rfl

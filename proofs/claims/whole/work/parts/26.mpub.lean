abbrev rm_k_X6_begins : Room := { frames := 0, cells := 0, slots := 0, locals := 0 }
set_option maxHeartbeats 4000000 in
set_option maxRecDepth 100000 in
theorem k_X6_begins (l : Launch) (D : va_G) (cA : ClassId) (q : Nat → Nat) (tr : Int64) (mc : Nat) (pp : Nat) (num : Nat) (yn : Nat) (cg : Nat) (sets : Nat → Nat) (wh : Nat → Nat) (amts : Nat → Nat) (bo : Nat → Nat) (pr : Nat → Nat) (sh : Nat → Nat) (m1 : Nat) (p1 : Nat)  : Ctv l yX6_begins cX6_begins 4 none rm_k_X6_begins D cA [.ref (q 0), .int (nI m1), .int (nI p1)] ([oM q 0 tr mc pp num yn cg, aN cA (q 1) 16 sets, aN cA (q 2) 8 wh, aN cA (q 3) 8 amts, aN cA (q 4) 7 bo, aN cA (q 5) 7 pr, aN cA (q 6) 4 sh]) (fun (_ : Unit) => True) (fun _ => [oM q 0 tr m1 p1 0 yn cg, aN cA (q 1) 16 (fun _ => 0), aN cA (q 2) 8 (bt 0), aN cA (q 3) 8 (fun _ => 1), aN cA (q 4) 7 (fun _ => 99), aN cA (q 5) 7 (fun _ => 10), aN cA (q 6) 4 (fun _ => 0)]) := by
  refine st_v (by decide) (Nat.le_of_ble_eq_true rfl) ?_
  intro p e s m args below meth c A Q E ret Z ls hl
  have hx := E.1.1
  have hb := E.1.2.1
  have hl : lv_has ls 4 [(0, .ref (q 0)), (1, .int (nI m1)), (2, .int (nI p1))] := hl
  refine lv_aload_n hx hb dX6_begins_0 rfl (lv_at hl 0 rfl) ?_
  refine lv_iload_n hx hb dX6_begins_1 rfl (lv_at hl 1 rfl) ?_
  refine pF_X6_7 (w1 := [oM q 0 tr m1 pp num yn cg, aN cA (q 1) 16 sets, aN cA (q 2) 8 wh, aN cA (q 3) 8 amts, aN cA (q 4) 7 bo, aN cA (q 5) 7 pr, aN cA (q 6) 4 sh]) E Z dX6_begins_2 0 rfl (Nat.le_of_ble_eq_true rfl) rfl (fun H locs Z => ?_)
  refine lv_aload_n hx hb dX6_begins_5 rfl (lv_at hl 0 rfl) ?_
  refine lv_iload_n hx hb dX6_begins_6 rfl (lv_at hl 2 rfl) ?_
  refine pF_X6_13 (w1 := [oM q 0 tr m1 p1 num yn cg, aN cA (q 1) 16 sets, aN cA (q 2) 8 wh, aN cA (q 3) 8 amts, aN cA (q 4) 7 bo, aN cA (q 5) 7 pr, aN cA (q 6) 4 sh]) E Z dX6_begins_7 0 rfl (Nat.le_of_ble_eq_true rfl) rfl (fun H locs Z => ?_)
  refine lv_aload_n hx hb dX6_begins_10 rfl (lv_at hl 0 rfl) ?_
  refine lv_iconst (v := nI 0) hx hb dX6_begins_11 (by decide) ?_
  refine pF_X6_69 (w1 := [oM q 0 tr m1 p1 0 yn cg, aN cA (q 1) 16 sets, aN cA (q 2) 8 wh, aN cA (q 3) 8 amts, aN cA (q 4) 7 bo, aN cA (q 5) 7 pr, aN cA (q 6) 4 sh]) E Z dX6_begins_12 0 rfl (Nat.le_of_ble_eq_true rfl) rfl (fun H locs Z => ?_)
  refine lv_iconst (v := nI 0) hx hb dX6_begins_15 (by decide) ?_
  refine lv_istore_n (lv' := [(3, .int (nI 0)), (0, .ref (q 0)), (1, .int (nI m1)), (2, .int (nI p1))]) hx hb dX6_begins_16 rfl hl (by decide) rfl (fun ls hl => ?_)
  have L17 : ∀ (n17 i : Nat), 8 + 1 ≤ i + n17 → i ≤ 8 → ∀ (H : Heap) (locs : List Loc), Wd D A s ([oM q 0 tr m1 p1 0 yn cg, aN cA (q 1) 16 (rtf sets i), aN cA (q 2) 8 (fillF wh 0 i), aN cA (q 3) 8 (fillF amts 1 i), aN cA (q 4) 7 bo, aN cA (q 5) 7 pr, aN cA (q 6) 4 sh]) H locs → ∀ (ls : Array Slot), lv_has ls 4 [(0, .ref (q 0)), (1, .int (nI m1)), (2, .int (nI p1)), (3, .int (nI i))] → W p l e rm_k_X6_begins s m args below meth c H locs 0 0 Q (F0 m 17 ls []) := by
    intro n17
    induction n17 with
    | zero => exact fun i h1 h2 => absurd h1 (by omega)
    | succ n17 ih17 =>
      intro i hn17 hi17  H locs Z ls hl
      refine lv_iload_n hx hb dX6_begins_17 rfl (lv_at hl 3 rfl) ?_
      refine lv_bipush (v := nI 8) hx hb dX6_begins_18 (by decide) ?_
      refine n_icmp_ge (tgt := 63) hx hb dX6_begins_20 (by decide) (by omega) (by omega) (fun c20 => ?_) (fun c20 => ?_)
      · obtain rfl : 8 = i := by omega
        replace Z : Wd D A s ([oM q 0 tr m1 p1 0 yn cg, aN cA (q 1) 16 (fun _ => 0), aN cA (q 2) 8 (fillF wh 0 8), aN cA (q 3) 8 (fillF amts 1 8), aN cA (q 4) 7 bo, aN cA (q 5) 7 pr, aN cA (q 6) 4 sh]) _ _ := Z.norm 1 rfl (fun j hj => congrArg nI (rtf_at sets 8 j (by omega))) rfl
        replace Z : Wd D A s ([oM q 0 tr m1 p1 0 yn cg, aN cA (q 1) 16 (fun _ => 0), aN cA (q 2) 8 (bt 0), aN cA (q 3) 8 (fillF amts 1 8), aN cA (q 4) 7 bo, aN cA (q 5) 7 pr, aN cA (q 6) 4 sh]) _ _ := Z.norm 2 rfl (fun j hj => congrArg nI ((fillF_at wh 0 8 j hj).trans (bt_0 j).symm)) rfl
        replace Z : Wd D A s ([oM q 0 tr m1 p1 0 yn cg, aN cA (q 1) 16 (fun _ => 0), aN cA (q 2) 8 (bt 0), aN cA (q 3) 8 (fun _ => 1), aN cA (q 4) 7 bo, aN cA (q 5) 7 pr, aN cA (q 6) 4 sh]) _ _ := Z.norm 3 rfl (fun j hj => congrArg nI (fillF_at amts 1 8 j hj)) rfl
        refine lv_iconst (v := nI 0) hx hb dX6_begins_63 (by decide) ?_
        refine lv_istore_n (lv' := [(3, .int (nI 0)), (0, .ref (q 0)), (1, .int (nI m1)), (2, .int (nI p1))]) hx hb dX6_begins_64 rfl hl (by decide) rfl (fun ls hl => ?_)
        have L65 : ∀ (n65 i : Nat), 7 + 1 ≤ i + n65 → i ≤ 7 → ∀ (H : Heap) (locs : List Loc), Wd D A s ([oM q 0 tr m1 p1 0 yn cg, aN cA (q 1) 16 (fun _ => 0), aN cA (q 2) 8 (bt 0), aN cA (q 3) 8 (fun _ => 1), aN cA (q 4) 7 (fillF bo 99 i), aN cA (q 5) 7 (fillF pr 10 i), aN cA (q 6) 4 sh]) H locs → ∀ (ls : Array Slot), lv_has ls 4 [(0, .ref (q 0)), (1, .int (nI m1)), (2, .int (nI p1)), (3, .int (nI i))] → W p l e rm_k_X6_begins s m args below meth c H locs 0 0 Q (F0 m 65 ls []) := by
          intro n65
          induction n65 with
          | zero => exact fun i h1 h2 => absurd h1 (by omega)
          | succ n65 ih65 =>
            intro i hn65 hi65  H locs Z ls hl
            refine lv_iload_n hx hb dX6_begins_65 rfl (lv_at hl 3 rfl) ?_
            refine lv_bipush (v := nI 7) hx hb dX6_begins_66 (by decide) ?_
            refine n_icmp_ge (tgt := 93) hx hb dX6_begins_68 (by decide) (by omega) (by omega) (fun c68 => ?_) (fun c68 => ?_)
            · obtain rfl : 7 = i := by omega
              replace Z : Wd D A s ([oM q 0 tr m1 p1 0 yn cg, aN cA (q 1) 16 (fun _ => 0), aN cA (q 2) 8 (bt 0), aN cA (q 3) 8 (fun _ => 1), aN cA (q 4) 7 (fun _ => 99), aN cA (q 5) 7 (fillF pr 10 7), aN cA (q 6) 4 sh]) _ _ := Z.norm 4 rfl (fun j hj => congrArg nI (fillF_at bo 99 7 j hj)) rfl
              replace Z : Wd D A s ([oM q 0 tr m1 p1 0 yn cg, aN cA (q 1) 16 (fun _ => 0), aN cA (q 2) 8 (bt 0), aN cA (q 3) 8 (fun _ => 1), aN cA (q 4) 7 (fun _ => 99), aN cA (q 5) 7 (fun _ => 10), aN cA (q 6) 4 sh]) _ _ := Z.norm 5 rfl (fun j hj => congrArg nI (fillF_at pr 10 7 j hj)) rfl
              refine lv_iconst (v := nI 0) hx hb dX6_begins_93 (by decide) ?_
              refine lv_istore_n (lv' := [(3, .int (nI 0)), (0, .ref (q 0)), (1, .int (nI m1)), (2, .int (nI p1))]) hx hb dX6_begins_94 rfl hl (by decide) rfl (fun ls hl => ?_)
              have L95 : ∀ (n95 i : Nat), 4 + 1 ≤ i + n95 → i ≤ 4 → ∀ (H : Heap) (locs : List Loc), Wd D A s ([oM q 0 tr m1 p1 0 yn cg, aN cA (q 1) 16 (fun _ => 0), aN cA (q 2) 8 (bt 0), aN cA (q 3) 8 (fun _ => 1), aN cA (q 4) 7 (fun _ => 99), aN cA (q 5) 7 (fun _ => 10), aN cA (q 6) 4 (fillF sh 0 i)]) H locs → ∀ (ls : Array Slot), lv_has ls 4 [(0, .ref (q 0)), (1, .int (nI m1)), (2, .int (nI p1)), (3, .int (nI i))] → W p l e rm_k_X6_begins s m args below meth c H locs 0 0 Q (F0 m 95 ls []) := by
                intro n95
                induction n95 with
                | zero => exact fun i h1 h2 => absurd h1 (by omega)
                | succ n95 ih95 =>
                  intro i hn95 hi95  H locs Z ls hl
                  refine lv_iload_n hx hb dX6_begins_95 rfl (lv_at hl 3 rfl) ?_
                  refine lv_iconst (v := nI 4) hx hb dX6_begins_96 (by decide) ?_
                  refine n_icmp_ge (tgt := 113) hx hb dX6_begins_97 (by decide) (by omega) (by omega) (fun c97 => ?_) (fun c97 => ?_)
                  · obtain rfl : 4 = i := by omega
                    replace Z : Wd D A s ([oM q 0 tr m1 p1 0 yn cg, aN cA (q 1) 16 (fun _ => 0), aN cA (q 2) 8 (bt 0), aN cA (q 3) 8 (fun _ => 1), aN cA (q 4) 7 (fun _ => 99), aN cA (q 5) 7 (fun _ => 10), aN cA (q 6) 4 (fun _ => 0)]) _ _ := Z.norm 6 rfl (fun j hj => congrArg nI (fillF_at sh 0 4 j hj)) rfl
                    exact ret () Z dX6_begins_113 rfl trivial
                  · refine lv_aload_n hx hb dX6_begins_100 rfl (lv_at hl 0 rfl) ?_
                    refine gF_X6_32 E Z dX6_begins_101 0 rfl rfl ?_
                    refine lv_iload_n hx hb dX6_begins_104 rfl (lv_at hl 3 rfl) ?_
                    refine lv_iconst (v := nI 0) hx hb dX6_begins_105 (by decide) ?_
                    refine r_ast (w1 := [oM q 0 tr m1 p1 0 yn cg, aN cA (q 1) 16 (fun _ => 0), aN cA (q 2) 8 (bt 0), aN cA (q 3) 8 (fun _ => 1), aN cA (q 4) 7 (fun _ => 99), aN cA (q 5) 7 (fun _ => 10), aN cA (q 6) 4 (up (fillF sh 0 i) i 0)]) E Z dX6_begins_106 6 rfl (by omega) (by decide) rfl (fun H locs Z => ?_)
                    refine lv_iinc (v := nI (i + 1)) (lv' := [(3, .int (nI (i + 1))), (0, .ref (q 0)), (1, .int (nI m1)), (2, .int (nI p1))]) hx hb dX6_begins_107 hl (k := 3) rfl (n_inc _ _ (by decide)) (by decide) rfl (fun ls hl => ?_)
                    refine lv_goto (tgt := 95) hx hb dX6_begins_110 (by decide) ?_
                    exact ih95 (i + 1) (by omega) (by omega)   _ _ Z ls (lv_sub hl [1, 2, 3, 0] rfl)
              exact L95 (4 + 1) 0 (by omega) (by omega)   _ _ Z ls (lv_sub hl [1, 2, 3, 0] rfl)
            · refine lv_aload_n hx hb dX6_begins_71 rfl (lv_at hl 0 rfl) ?_
              refine gF_X6_26 E Z dX6_begins_72 0 rfl rfl ?_
              refine lv_iload_n hx hb dX6_begins_75 rfl (lv_at hl 3 rfl) ?_
              refine lv_bipush (v := nI 99) hx hb dX6_begins_76 (by decide) ?_
              refine r_ast (w1 := [oM q 0 tr m1 p1 0 yn cg, aN cA (q 1) 16 (fun _ => 0), aN cA (q 2) 8 (bt 0), aN cA (q 3) 8 (fun _ => 1), aN cA (q 4) 7 (up (fillF bo 99 i) i 99), aN cA (q 5) 7 (fillF pr 10 i), aN cA (q 6) 4 sh]) E Z dX6_begins_78 4 rfl (by omega) (by decide) rfl (fun H locs Z => ?_)
              refine lv_aload_n hx hb dX6_begins_79 rfl (lv_at hl 0 rfl) ?_
              refine gF_X6_29 E Z dX6_begins_80 0 rfl rfl ?_
              refine lv_iload_n hx hb dX6_begins_83 rfl (lv_at hl 3 rfl) ?_
              refine lv_bipush (v := nI 10) hx hb dX6_begins_84 (by decide) ?_
              refine r_ast (w1 := [oM q 0 tr m1 p1 0 yn cg, aN cA (q 1) 16 (fun _ => 0), aN cA (q 2) 8 (bt 0), aN cA (q 3) 8 (fun _ => 1), aN cA (q 4) 7 (up (fillF bo 99 i) i 99), aN cA (q 5) 7 (up (fillF pr 10 i) i 10), aN cA (q 6) 4 sh]) E Z dX6_begins_86 5 rfl (by omega) (by decide) rfl (fun H locs Z => ?_)
              refine lv_iinc (v := nI (i + 1)) (lv' := [(3, .int (nI (i + 1))), (0, .ref (q 0)), (1, .int (nI m1)), (2, .int (nI p1))]) hx hb dX6_begins_87 hl (k := 3) rfl (n_inc _ _ (by decide)) (by decide) rfl (fun ls hl => ?_)
              refine lv_goto (tgt := 65) hx hb dX6_begins_90 (by decide) ?_
              exact ih65 (i + 1) (by omega) (by omega)   _ _ Z ls (lv_sub hl [1, 2, 3, 0] rfl)
        exact L65 (7 + 1) 0 (by omega) (by omega)   _ _ Z ls (lv_sub hl [1, 2, 3, 0] rfl)
      · refine lv_aload_n hx hb dX6_begins_23 rfl (lv_at hl 0 rfl) ?_
        refine gF_X6_16 E Z dX6_begins_24 0 rfl rfl ?_
        refine lv_iconst (v := nI 2) hx hb dX6_begins_27 (by decide) ?_
        refine lv_iload_n hx hb dX6_begins_28 rfl (lv_at hl 3 rfl) ?_
        refine n_imul hx hb dX6_begins_29 ?_
        refine lv_iconst (v := nI 0) hx hb dX6_begins_30 (by decide) ?_
        refine r_ast (w1 := [oM q 0 tr m1 p1 0 yn cg, aN cA (q 1) 16 (up (rtf sets i) (2 * i) 0), aN cA (q 2) 8 (fillF wh 0 i), aN cA (q 3) 8 (fillF amts 1 i), aN cA (q 4) 7 bo, aN cA (q 5) 7 pr, aN cA (q 6) 4 sh]) E Z dX6_begins_31 1 rfl (by omega) (by decide) rfl (fun H locs Z => ?_)
        refine lv_aload_n hx hb dX6_begins_32 rfl (lv_at hl 0 rfl) ?_
        refine gF_X6_16 E Z dX6_begins_33 0 rfl rfl ?_
        refine lv_iconst (v := nI 2) hx hb dX6_begins_36 (by decide) ?_
        refine lv_iload_n hx hb dX6_begins_37 rfl (lv_at hl 3 rfl) ?_
        refine n_imul hx hb dX6_begins_38 ?_
        refine lv_iconst (v := nI 1) hx hb dX6_begins_39 (by decide) ?_
        refine n_iadd hx hb dX6_begins_40 ?_
        refine lv_iconst (v := nI 0) hx hb dX6_begins_41 (by decide) ?_
        refine r_ast (w1 := [oM q 0 tr m1 p1 0 yn cg, aN cA (q 1) 16 (up (up (rtf sets i) (2 * i) 0) (2 * i + 1) 0), aN cA (q 2) 8 (fillF wh 0 i), aN cA (q 3) 8 (fillF amts 1 i), aN cA (q 4) 7 bo, aN cA (q 5) 7 pr, aN cA (q 6) 4 sh]) E Z dX6_begins_42 1 rfl (by omega) (by decide) rfl (fun H locs Z => ?_)
        refine lv_aload_n hx hb dX6_begins_43 rfl (lv_at hl 0 rfl) ?_
        refine gF_X6_20 E Z dX6_begins_44 0 rfl rfl ?_
        refine lv_iload_n hx hb dX6_begins_47 rfl (lv_at hl 3 rfl) ?_
        refine lv_iconst (v := nI 0) hx hb dX6_begins_48 (by decide) ?_
        refine r_ast (w1 := [oM q 0 tr m1 p1 0 yn cg, aN cA (q 1) 16 (up (up (rtf sets i) (2 * i) 0) (2 * i + 1) 0), aN cA (q 2) 8 (up (fillF wh 0 i) i 0), aN cA (q 3) 8 (fillF amts 1 i), aN cA (q 4) 7 bo, aN cA (q 5) 7 pr, aN cA (q 6) 4 sh]) E Z dX6_begins_49 2 rfl (by omega) (by decide) rfl (fun H locs Z => ?_)
        refine lv_aload_n hx hb dX6_begins_50 rfl (lv_at hl 0 rfl) ?_
        refine gF_X6_23 E Z dX6_begins_51 0 rfl rfl ?_
        refine lv_iload_n hx hb dX6_begins_54 rfl (lv_at hl 3 rfl) ?_
        refine lv_iconst (v := nI 1) hx hb dX6_begins_55 (by decide) ?_
        refine r_ast (w1 := [oM q 0 tr m1 p1 0 yn cg, aN cA (q 1) 16 (up (up (rtf sets i) (2 * i) 0) (2 * i + 1) 0), aN cA (q 2) 8 (up (fillF wh 0 i) i 0), aN cA (q 3) 8 (up (fillF amts 1 i) i 1), aN cA (q 4) 7 bo, aN cA (q 5) 7 pr, aN cA (q 6) 4 sh]) E Z dX6_begins_56 3 rfl (by omega) (by decide) rfl (fun H locs Z => ?_)
        refine lv_iinc (v := nI (i + 1)) (lv' := [(3, .int (nI (i + 1))), (0, .ref (q 0)), (1, .int (nI m1)), (2, .int (nI p1))]) hx hb dX6_begins_57 hl (k := 3) rfl (n_inc _ _ (by decide)) (by decide) rfl (fun ls hl => ?_)
        refine lv_goto (tgt := 17) hx hb dX6_begins_60 (by decide) ?_
        exact ih17 (i + 1) (by omega) (by omega)   _ _ Z ls (lv_sub hl [1, 2, 3, 0] rfl)
  exact L17 (8 + 1) 0 (by omega) (by omega)   _ _ Z ls (lv_sub hl [1, 2, 3, 0] rfl)
abbrev rm_k_X6_works_bad : Room := { frames := 1, cells := 0, slots := 0, locals := 22 }
set_option maxHeartbeats 4000000 in
set_option maxRecDepth 100000 in
theorem k_X6_works_bad (l : Launch) (D : va_G) (cA : ClassId) (q : Nat → Nat) (tr : Int64) (mc : Nat) (pp : Nat) (num : Nat) (yn : Nat) (cg : Nat) (x1 : Int32) (x2 : Int32) (hbad : ¬ ((nI 1 ≤ x1 ∧ x1 ≤ nI 7) ∧ (nI 1 ≤ x2 ∧ x2 ≤ nI 8))) : Cti l yX6_works cX6_works 4 (some .int) rm_k_X6_works_bad D cA [.ref (q 0), .int x1, .int x2] ([oM q 0 tr mc pp num yn cg]) (fun (r : Int32) (_ : Unit) => r = (-1)) (fun _ => [oM q 0 tr mc pp num yn cg]) := by
  refine st_i (by decide) (Nat.le_of_ble_eq_true rfl) ?_
  intro p e s m args below meth c A Q E ret Z ls hl
  have hx := E.1.1
  have hb := E.1.2.1
  have hl : lv_has ls 4 [(0, .ref (q 0)), (1, .int x1), (2, .int x2)] := hl
  refine lv_aload_n hx hb dX6_works_0 rfl (lv_at hl 0 rfl) ?_
  refine lv_iconst (v := nI 0) hx hb dX6_works_1 (by decide) ?_
  refine pF_X6_66 (w1 := [oM q 0 tr mc pp num yn cg]) E Z dX6_works_2 0 rfl (Nat.le_of_ble_eq_true rfl) rfl (fun H locs Z => ?_)
  refine lv_iload_n hx hb dX6_works_5 rfl (lv_at hl 1 rfl) ?_
  refine lv_iconst (v := nI 1) hx hb dX6_works_6 (by decide) ?_
  refine lv_bipush (v := nI 7) hx hb dX6_works_7 (by decide) ?_
  refine c_Si (As := [.int x1, .int (nI 1), .int (nI 7)]) (rest := []) (w2 := fun _ => [oM q 0 tr mc pp num yn cg]) E Z (k_X6_in l D cA x1 (nI 1) (nI 7) ) ws_X6_72 ⟨rfl, rfl, Nat.le_of_ble_eq_true rfl, Nat.le_of_ble_eq_true rfl⟩ [] rfl rfl (fun _ => rfl) (fun _ => rfl) rfl hl.1 rfl (Nat.le_of_ble_eq_true rfl) dX6_works_9 ⟨Nat.zero_le _, Nat.zero_le _⟩ (fun r9 _ H locs hp9 Z => ?_)
  subst hp9
  refine b_if_eq (tgt := 25) hx hb dX6_works_12 (by decide) (fun c12 => ?_) (fun c12 => ?_)
  · refine lv_iconst (v := (-1)) hx hb dX6_works_25 (by decide) ?_
    exact ret () Z dX6_works_26 rfl rfl
  · refine lv_iload_n hx hb dX6_works_15 rfl (lv_at hl 2 rfl) ?_
    refine lv_iconst (v := nI 1) hx hb dX6_works_16 (by decide) ?_
    refine lv_bipush (v := nI 8) hx hb dX6_works_17 (by decide) ?_
    refine c_Si (As := [.int x2, .int (nI 1), .int (nI 8)]) (rest := []) (w2 := fun _ => [oM q 0 tr mc pp num yn cg]) E Z (k_X6_in l D cA x2 (nI 1) (nI 8) ) ws_X6_72 ⟨rfl, rfl, Nat.le_of_ble_eq_true rfl, Nat.le_of_ble_eq_true rfl⟩ [] rfl rfl (fun _ => rfl) (fun _ => rfl) rfl hl.1 rfl (Nat.le_of_ble_eq_true rfl) dX6_works_19 ⟨Nat.zero_le _, Nat.zero_le _⟩ (fun r19 _ H locs hp19 Z => ?_)
    subst hp19
    refine b_if_ne (tgt := 27) hx hb dX6_works_22 (by decide) (fun c22 => ?_) (fun c22 => ?_)
    · exact absurd ⟨c12, c22⟩ hbad
    · refine lv_iconst (v := (-1)) hx hb dX6_works_25 (by decide) ?_
      exact ret () Z dX6_works_26 rfl rfl
abbrev rm_k_X6_works : Room := { frames := 1, cells := 0, slots := 0, locals := 23 }
set_option maxHeartbeats 4000000 in
set_option maxRecDepth 100000 in
theorem k_X6_works (l : Launch) (D : va_G) (cA : ClassId) (q : Nat → Nat) (tr : Int64) (mc : Nat) (pp : Nat) (num : Nat) (yn : Nat) (cg : Nat) (sets : Nat → Nat) (ch : Nat) (amts : Nat → Nat) (bo : Nat → Nat) (pr : Nat → Nat) (sh : Nat → Nat) (m1 : Nat) (p1 : Nat) (h1 : 1 ≤ m1 ∧ m1 ≤ 7) (h2 : 1 ≤ p1 ∧ p1 ≤ 8) : Cti l yX6_works cX6_works 4 (some .int) rm_k_X6_works D cA [.ref (q 0), .int (nI m1), .int (nI p1)] ([oM q 0 tr mc pp num yn cg, aN cA (q 1) 16 sets, aN cA (q 2) 8 (bt ch), aN cA (q 3) 8 amts, aN cA (q 4) 7 bo, aN cA (q 5) 7 pr, aN cA (q 6) 4 sh]) (fun (r : Int32) (_ : Unit) => r = nI mc) (fun _ => [oM q 0 tr m1 p1 0 yn cg, aN cA (q 1) 16 (fun _ => 0), aN cA (q 2) 8 (bt 0), aN cA (q 3) 8 (fun _ => 1), aN cA (q 4) 7 (fun _ => 99), aN cA (q 5) 7 (fun _ => 10), aN cA (q 6) 4 (fun _ => 0)]) := by
  refine st_i (by decide) (Nat.le_of_ble_eq_true rfl) ?_
  intro p e s m args below meth c A Q E ret Z ls hl
  have hx := E.1.1
  have hb := E.1.2.1
  have hl : lv_has ls 4 [(0, .ref (q 0)), (1, .int (nI m1)), (2, .int (nI p1))] := hl
  refine lv_aload_n hx hb dX6_works_0 rfl (lv_at hl 0 rfl) ?_
  refine lv_iconst (v := nI 0) hx hb dX6_works_1 (by decide) ?_
  refine pF_X6_66 (w1 := [oM q 0 tr mc pp num yn cg, aN cA (q 1) 16 sets, aN cA (q 2) 8 (bt ch), aN cA (q 3) 8 amts, aN cA (q 4) 7 bo, aN cA (q 5) 7 pr, aN cA (q 6) 4 sh]) E Z dX6_works_2 0 rfl (Nat.le_of_ble_eq_true rfl) rfl (fun H locs Z => ?_)
  refine lv_iload_n hx hb dX6_works_5 rfl (lv_at hl 1 rfl) ?_
  refine lv_iconst (v := nI 1) hx hb dX6_works_6 (by decide) ?_
  refine lv_bipush (v := nI 7) hx hb dX6_works_7 (by decide) ?_
  refine c_Si (As := [.int (nI m1), .int (nI 1), .int (nI 7)]) (rest := []) (w2 := fun _ => [oM q 0 tr mc pp num yn cg, aN cA (q 1) 16 sets, aN cA (q 2) 8 (bt ch), aN cA (q 3) 8 amts, aN cA (q 4) 7 bo, aN cA (q 5) 7 pr, aN cA (q 6) 4 sh]) E Z (k_X6_in l D cA (nI m1) (nI 1) (nI 7) ) ws_X6_72 ⟨rfl, rfl, Nat.le_of_ble_eq_true rfl, Nat.le_of_ble_eq_true rfl⟩ [] rfl rfl (fun _ => rfl) (fun _ => rfl) rfl hl.1 rfl (Nat.le_of_ble_eq_true rfl) dX6_works_9 ⟨Nat.zero_le _, Nat.zero_le _⟩ (fun r9 _ H locs hp9 Z => ?_)
  subst hp9
  refine b_if_eq (tgt := 25) hx hb dX6_works_12 (by decide) (fun c12 => ?_) (fun c12 => ?_)
  · exact absurd (inr_ok (by omega) (by omega) (by omega)) c12
  · refine lv_iload_n hx hb dX6_works_15 rfl (lv_at hl 2 rfl) ?_
    refine lv_iconst (v := nI 1) hx hb dX6_works_16 (by decide) ?_
    refine lv_bipush (v := nI 8) hx hb dX6_works_17 (by decide) ?_
    refine c_Si (As := [.int (nI p1), .int (nI 1), .int (nI 8)]) (rest := []) (w2 := fun _ => [oM q 0 tr mc pp num yn cg, aN cA (q 1) 16 sets, aN cA (q 2) 8 (bt ch), aN cA (q 3) 8 amts, aN cA (q 4) 7 bo, aN cA (q 5) 7 pr, aN cA (q 6) 4 sh]) E Z (k_X6_in l D cA (nI p1) (nI 1) (nI 8) ) ws_X6_72 ⟨rfl, rfl, Nat.le_of_ble_eq_true rfl, Nat.le_of_ble_eq_true rfl⟩ [] rfl rfl (fun _ => rfl) (fun _ => rfl) rfl hl.1 rfl (Nat.le_of_ble_eq_true rfl) dX6_works_19 ⟨Nat.zero_le _, Nat.zero_le _⟩ (fun r19 _ H locs hp19 Z => ?_)
    subst hp19
    refine b_if_ne (tgt := 27) hx hb dX6_works_22 (by decide) (fun c22 => ?_) (fun c22 => ?_)
    · refine lv_aload_n hx hb dX6_works_27 rfl (lv_at hl 0 rfl) ?_
      refine gF_X6_7 E Z dX6_works_28 0 rfl rfl ?_
      refine lv_istore_n (lv' := [(3, .int (nI mc)), (0, .ref (q 0)), (1, .int (nI m1)), (2, .int (nI p1))]) hx hb dX6_works_31 rfl hl (by decide) rfl (fun ls hl => ?_)
      refine lv_aload_n hx hb dX6_works_32 rfl (lv_at hl 1 rfl) ?_
      refine lv_iload_n hx hb dX6_works_33 rfl (lv_at hl 2 rfl) ?_
      refine lv_iload_n hx hb dX6_works_34 rfl (lv_at hl 3 rfl) ?_
      refine c_Vv (As := [.int (nI m1), .int (nI p1)]) (rest := []) (w2 := fun _ => [oM q 0 tr m1 p1 0 yn cg, aN cA (q 1) 16 (fun _ => 0), aN cA (q 2) 8 (bt 0), aN cA (q 3) 8 (fun _ => 1), aN cA (q 4) 7 (fun _ => 99), aN cA (q 5) 7 (fun _ => 10), aN cA (q 6) 4 (fun _ => 0)]) E Z (k_X6_begins l D cA q tr mc pp num yn cg sets (bt ch) amts bo pr sh m1 p1 ) wv_X6_62 ⟨rfl, rfl, Nat.le_of_ble_eq_true rfl, Nat.le_of_ble_eq_true rfl⟩ [0, 1, 2, 3, 4, 5, 6] rfl rfl rfl rfl (q0 := 0) rfl (fun _ => rfl) (fun _ => rfl) rfl hl.1 rfl (Nat.le_of_ble_eq_true rfl) dX6_works_35 ⟨Nat.zero_le _, Nat.zero_le _⟩ (fun _ H locs hp35 Z => ?_)
      refine lv_iload_n hx hb dX6_works_38 rfl (lv_at hl 0 rfl) ?_
      exact ret () Z dX6_works_39 rfl rfl
    · exact absurd (inr_ok (by omega) (by omega) (by omega)) c22
abbrev rm_k_X6_route_bad : Room := { frames := 2, cells := 0, slots := 0, locals := 43 }
set_option maxHeartbeats 4000000 in
set_option maxRecDepth 100000 in
theorem k_X6_route_bad (l : Launch) (D : va_G) (cA : ClassId) (q : Nat → Nat) (tr : Int64) (mc : Nat) (pp : Nat) (num : Nat) (yn : Nat) (cg : Nat) (x1 : Int32) (x2 : Int32) (x3 : Int32) (hp1 : 1 ≤ pp) (hM : mc ≤ 7) (hbad : ¬ ((nI 0 ≤ x1 ∧ x1 ≤ nI (pp - 1)) ∧ (nI 0 ≤ x2 ∧ x2 ≤ nI 1) ∧ (nI 0 ≤ x3 ∧ x3 ≤ nI (2 ^ mc - 1)))) : Cti l yX6_route cX6_route 5 (some .int) rm_k_X6_route_bad D cA [.ref (q 0), .int x1, .int x2, .int x3] ([oM q 0 tr mc pp num yn cg]) (fun (r : Int32) (_ : Unit) => r = (-1)) (fun _ => [oM q 0 tr mc pp num yn cg]) := by
  refine st_i (by decide) (Nat.le_of_ble_eq_true rfl) ?_
  intro p e s m args below meth c A Q E ret Z ls hl
  have hx := E.1.1
  have hb := E.1.2.1
  have hl : lv_has ls 5 [(0, .ref (q 0)), (1, .int x1), (2, .int x2), (3, .int x3)] := hl
  have h27 : 2 ^ mc ≤ 2 ^ 7 := Nat.pow_le_pow_right (by decide) hM
  have h20 := Nat.two_pow_pos mc
  refine lv_aload_n hx hb dX6_route_0 rfl (lv_at hl 0 rfl) ?_
  refine lv_iconst (v := nI 0) hx hb dX6_route_1 (by decide) ?_
  refine pF_X6_66 (w1 := [oM q 0 tr mc pp num yn cg]) E Z dX6_route_2 0 rfl (Nat.le_of_ble_eq_true rfl) rfl (fun H locs Z => ?_)
  refine lv_aload_n hx hb dX6_route_5 rfl (lv_at hl 0 rfl) ?_
  refine lv_iload_n hx hb dX6_route_6 rfl (lv_at hl 1 rfl) ?_
  refine c_Vi (As := [.int x1]) (rest := []) (w2 := fun _ => [oM q 0 tr mc pp num yn cg]) E Z (k_X6_isPart l D cA q tr mc pp num yn cg x1 (by first | assumption | omega)) wv_X6_76 ⟨rfl, rfl, Nat.le_of_ble_eq_true rfl, Nat.le_of_ble_eq_true rfl⟩ [0] rfl rfl rfl rfl (q0 := 0) rfl (fun _ => rfl) (fun _ => rfl) rfl hl.1 rfl (Nat.le_of_ble_eq_true rfl) dX6_route_7 ⟨Nat.zero_le _, Nat.zero_le _⟩ (fun r7 _ H locs hp7 Z => ?_)
  subst hp7
  refine b_if_eq (tgt := 35) hx hb dX6_route_10 (by decide) (fun c10 => ?_) (fun c10 => ?_)
  · refine lv_iconst (v := (-1)) hx hb dX6_route_35 (by decide) ?_
    exact ret () Z dX6_route_36 rfl rfl
  · refine lv_iload_n hx hb dX6_route_13 rfl (lv_at hl 2 rfl) ?_
    refine lv_iconst (v := nI 0) hx hb dX6_route_14 (by decide) ?_
    refine lv_iconst (v := nI 1) hx hb dX6_route_15 (by decide) ?_
    refine c_Si (As := [.int x2, .int (nI 0), .int (nI 1)]) (rest := []) (w2 := fun _ => [oM q 0 tr mc pp num yn cg]) E Z (k_X6_in l D cA x2 (nI 0) (nI 1) ) ws_X6_72 ⟨rfl, rfl, Nat.le_of_ble_eq_true rfl, Nat.le_of_ble_eq_true rfl⟩ [] rfl rfl (fun _ => rfl) (fun _ => rfl) rfl hl.1 rfl (Nat.le_of_ble_eq_true rfl) dX6_route_16 ⟨Nat.zero_le _, Nat.zero_le _⟩ (fun r16 _ H locs hp16 Z => ?_)
    subst hp16
    refine b_if_eq (tgt := 35) hx hb dX6_route_19 (by decide) (fun c19 => ?_) (fun c19 => ?_)
    · refine lv_iconst (v := (-1)) hx hb dX6_route_35 (by decide) ?_
      exact ret () Z dX6_route_36 rfl rfl
    · refine lv_iload_n hx hb dX6_route_22 rfl (lv_at hl 3 rfl) ?_
      refine lv_if_lt (tgt := 35) hx hb dX6_route_23 (by decide) (fun c23 => ?_) (fun c23 => ?_)
      · refine lv_iconst (v := (-1)) hx hb dX6_route_35 (by decide) ?_
        exact ret () Z dX6_route_36 rfl rfl
      · obtain ⟨st, hst, rfl⟩ := nI_of c23
        refine lv_iload_n hx hb dX6_route_26 rfl (lv_at hl 3 rfl) ?_
        refine lv_aload_n hx hb dX6_route_27 rfl (lv_at hl 0 rfl) ?_
        refine gF_X6_7 E Z dX6_route_28 0 rfl rfl ?_
        refine n_ishr hx hb dX6_route_31 (by omega) (by omega) ?_
        refine n_if_eq (tgt := 37) hx hb dX6_route_32 (by decide) (Nat.lt_of_le_of_lt (Nat.div_le_self _ _) hst) (fun c32 => ?_) (fun c32 => ?_)
        · exact absurd ⟨c10, c19, inr_ok (Nat.zero_le _) (by have := (shr0 (by omega) hst).mp c32; omega) (by omega)⟩ hbad
        · refine lv_iconst (v := (-1)) hx hb dX6_route_35 (by decide) ?_
          exact ret () Z dX6_route_36 rfl rfl
abbrev rm_k_X6_route : Room := { frames := 2, cells := 0, slots := 0, locals := 43 }
set_option maxHeartbeats 4000000 in
set_option maxRecDepth 100000 in
theorem k_X6_route (l : Launch) (D : va_G) (cA : ClassId) (q : Nat → Nat) (tr : Int64) (mc : Nat) (pp : Nat) (num : Nat) (yn : Nat) (cg : Nat) (sets : Nat → Nat) (k : Nat) (wh : Nat) (st : Nat) (hP : pp ≤ 8) (hp1 : 1 ≤ pp) (hM : mc ≤ 7) (hk : k < pp) (hw : wh < 2) (hst : st < 2 ^ mc) : Cti l yX6_route cX6_route 5 (some .int) rm_k_X6_route D cA [.ref (q 0), .int (nI k), .int (nI wh), .int (nI st)] ([oM q 0 tr mc pp num yn cg, aN cA (q 1) 16 sets]) (fun (r : Int32) (_ : Unit) => r = nI (sets (2 * k + wh))) (fun _ => [oM q 0 tr mc pp num yn cg, aN cA (q 1) 16 (up sets (2 * k + wh) st)]) := by
  refine st_i (by decide) (Nat.le_of_ble_eq_true rfl) ?_
  intro p e s m args below meth c A Q E ret Z ls hl
  have hx := E.1.1
  have hb := E.1.2.1
  have hl : lv_has ls 5 [(0, .ref (q 0)), (1, .int (nI k)), (2, .int (nI wh)), (3, .int (nI st))] := hl
  have h27 : 2 ^ mc ≤ 2 ^ 7 := Nat.pow_le_pow_right (by decide) hM
  have h20 := Nat.two_pow_pos mc
  refine lv_aload_n hx hb dX6_route_0 rfl (lv_at hl 0 rfl) ?_
  refine lv_iconst (v := nI 0) hx hb dX6_route_1 (by decide) ?_
  refine pF_X6_66 (w1 := [oM q 0 tr mc pp num yn cg, aN cA (q 1) 16 sets]) E Z dX6_route_2 0 rfl (Nat.le_of_ble_eq_true rfl) rfl (fun H locs Z => ?_)
  refine lv_aload_n hx hb dX6_route_5 rfl (lv_at hl 0 rfl) ?_
  refine lv_iload_n hx hb dX6_route_6 rfl (lv_at hl 1 rfl) ?_
  refine c_Vi (As := [.int (nI k)]) (rest := []) (w2 := fun _ => [oM q 0 tr mc pp num yn cg, aN cA (q 1) 16 sets]) E Z (k_X6_isPart l D cA q tr mc pp num yn cg (nI k) (by first | assumption | omega)) wv_X6_76 ⟨rfl, rfl, Nat.le_of_ble_eq_true rfl, Nat.le_of_ble_eq_true rfl⟩ [0] rfl rfl rfl rfl (q0 := 0) rfl (fun _ => rfl) (fun _ => rfl) rfl hl.1 rfl (Nat.le_of_ble_eq_true rfl) dX6_route_7 ⟨Nat.zero_le _, Nat.zero_le _⟩ (fun r7 _ H locs hp7 Z => ?_)
  subst hp7
  refine b_if_eq (tgt := 35) hx hb dX6_route_10 (by decide) (fun c10 => ?_) (fun c10 => ?_)
  · exact absurd (inr_ok (by omega) (by omega) (by omega)) c10
  · refine lv_iload_n hx hb dX6_route_13 rfl (lv_at hl 2 rfl) ?_
    refine lv_iconst (v := nI 0) hx hb dX6_route_14 (by decide) ?_
    refine lv_iconst (v := nI 1) hx hb dX6_route_15 (by decide) ?_
    refine c_Si (As := [.int (nI wh), .int (nI 0), .int (nI 1)]) (rest := []) (w2 := fun _ => [oM q 0 tr mc pp num yn cg, aN cA (q 1) 16 sets]) E Z (k_X6_in l D cA (nI wh) (nI 0) (nI 1) ) ws_X6_72 ⟨rfl, rfl, Nat.le_of_ble_eq_true rfl, Nat.le_of_ble_eq_true rfl⟩ [] rfl rfl (fun _ => rfl) (fun _ => rfl) rfl hl.1 rfl (Nat.le_of_ble_eq_true rfl) dX6_route_16 ⟨Nat.zero_le _, Nat.zero_le _⟩ (fun r16 _ H locs hp16 Z => ?_)
    subst hp16
    refine b_if_eq (tgt := 35) hx hb dX6_route_19 (by decide) (fun c19 => ?_) (fun c19 => ?_)
    · exact absurd (inr_ok (by omega) (by omega) (by omega)) c19
    · refine lv_iload_n hx hb dX6_route_22 rfl (lv_at hl 3 rfl) ?_
      refine lv_if_lt (tgt := 35) hx hb dX6_route_23 (by decide) (fun c23 => ?_) (fun c23 => ?_)
      · exact absurd c23 (nI_pos (by omega))
      · refine lv_iload_n hx hb dX6_route_26 rfl (lv_at hl 3 rfl) ?_
        refine lv_aload_n hx hb dX6_route_27 rfl (lv_at hl 0 rfl) ?_
        refine gF_X6_7 E Z dX6_route_28 0 rfl rfl ?_
        refine n_ishr hx hb dX6_route_31 (by omega) (by omega) ?_
        refine n_if_eq (tgt := 37) hx hb dX6_route_32 (by decide) (Nat.lt_of_le_of_lt (Nat.div_le_self _ _) (by omega)) (fun c32 => ?_) (fun c32 => ?_)
        · refine lv_aload_n hx hb dX6_route_37 rfl (lv_at hl 0 rfl) ?_
          refine gF_X6_16 E Z dX6_route_38 0 rfl rfl ?_
          refine lv_iconst (v := nI 2) hx hb dX6_route_41 (by decide) ?_
          refine lv_iload_n hx hb dX6_route_42 rfl (lv_at hl 1 rfl) ?_
          refine n_imul hx hb dX6_route_43 ?_
          refine lv_iload_n hx hb dX6_route_44 rfl (lv_at hl 2 rfl) ?_
          refine n_iadd hx hb dX6_route_45 ?_
          refine r_ald E Z dX6_route_46 1 rfl (by omega) (by decide) ?_
          refine lv_istore (lv' := [(4, .int (nI (sets (2 * k + wh)))), (0, .ref (q 0)), (1, .int (nI k)), (2, .int (nI wh)), (3, .int (nI st))]) hx hb dX6_route_47 hl (by decide) rfl (fun ls hl => ?_)
          refine lv_aload_n hx hb dX6_route_49 rfl (lv_at hl 1 rfl) ?_
          refine gF_X6_16 E Z dX6_route_50 0 rfl rfl ?_
          refine lv_iconst (v := nI 2) hx hb dX6_route_53 (by decide) ?_
          refine lv_iload_n hx hb dX6_route_54 rfl (lv_at hl 2 rfl) ?_
          refine n_imul hx hb dX6_route_55 ?_
          refine lv_iload_n hx hb dX6_route_56 rfl (lv_at hl 3 rfl) ?_
          refine n_iadd hx hb dX6_route_57 ?_
          refine lv_iload_n hx hb dX6_route_58 rfl (lv_at hl 4 rfl) ?_
          refine r_ast (w1 := [oM q 0 tr mc pp num yn cg, aN cA (q 1) 16 (up sets (2 * k + wh) st)]) E Z dX6_route_59 1 rfl (by omega) (by decide) rfl (fun H locs Z => ?_)
          refine lv_iload hx hb dX6_route_60 (lv_at hl 0 rfl) ?_
          exact ret () Z dX6_route_62 rfl rfl
        · exact absurd (Nat.div_eq_of_lt hst) c32
abbrev rm_k_X6_goes_bad : Room := { frames := 2, cells := 0, slots := 0, locals := 43 }
set_option maxHeartbeats 4000000 in
set_option maxRecDepth 100000 in
theorem k_X6_goes_bad (l : Launch) (D : va_G) (cA : ClassId) (q : Nat → Nat) (tr : Int64) (mc : Nat) (pp : Nat) (num : Nat) (yn : Nat) (cg : Nat) (x1 : Int32) (x2 : Int32) (hp1 : 1 ≤ pp) (hbad : ¬ ((nI 0 ≤ x1 ∧ x1 ≤ nI (pp - 1)) ∧ (nI 0 ≤ x2 ∧ x2 ≤ nI 1))) : Cti l yX6_goes cX6_goes 4 (some .int) rm_k_X6_goes_bad D cA [.ref (q 0), .int x1, .int x2] ([oM q 0 tr mc pp num yn cg]) (fun (r : Int32) (_ : Unit) => r = (-1)) (fun _ => [oM q 0 tr mc pp num yn cg]) := by
  refine st_i (by decide) (Nat.le_of_ble_eq_true rfl) ?_
  intro p e s m args below meth c A Q E ret Z ls hl
  have hx := E.1.1
  have hb := E.1.2.1
  have hl : lv_has ls 4 [(0, .ref (q 0)), (1, .int x1), (2, .int x2)] := hl
  refine lv_aload_n hx hb dX6_goes_0 rfl (lv_at hl 0 rfl) ?_
  refine lv_iconst (v := nI 0) hx hb dX6_goes_1 (by decide) ?_
  refine pF_X6_66 (w1 := [oM q 0 tr mc pp num yn cg]) E Z dX6_goes_2 0 rfl (Nat.le_of_ble_eq_true rfl) rfl (fun H locs Z => ?_)
  refine lv_aload_n hx hb dX6_goes_5 rfl (lv_at hl 0 rfl) ?_
  refine lv_iload_n hx hb dX6_goes_6 rfl (lv_at hl 1 rfl) ?_
  refine c_Vi (As := [.int x1]) (rest := []) (w2 := fun _ => [oM q 0 tr mc pp num yn cg]) E Z (k_X6_isPart l D cA q tr mc pp num yn cg x1 (by first | assumption | omega)) wv_X6_76 ⟨rfl, rfl, Nat.le_of_ble_eq_true rfl, Nat.le_of_ble_eq_true rfl⟩ [0] rfl rfl rfl rfl (q0 := 0) rfl (fun _ => rfl) (fun _ => rfl) rfl hl.1 rfl (Nat.le_of_ble_eq_true rfl) dX6_goes_7 ⟨Nat.zero_le _, Nat.zero_le _⟩ (fun r7 _ H locs hp7 Z => ?_)
  subst hp7
  refine b_if_eq (tgt := 22) hx hb dX6_goes_10 (by decide) (fun c10 => ?_) (fun c10 => ?_)
  · refine lv_iconst (v := (-1)) hx hb dX6_goes_22 (by decide) ?_
    exact ret () Z dX6_goes_23 rfl rfl
  · refine lv_iload_n hx hb dX6_goes_13 rfl (lv_at hl 2 rfl) ?_
    refine lv_iconst (v := nI 0) hx hb dX6_goes_14 (by decide) ?_
    refine lv_iconst (v := nI 1) hx hb dX6_goes_15 (by decide) ?_
    refine c_Si (As := [.int x2, .int (nI 0), .int (nI 1)]) (rest := []) (w2 := fun _ => [oM q 0 tr mc pp num yn cg]) E Z (k_X6_in l D cA x2 (nI 0) (nI 1) ) ws_X6_72 ⟨rfl, rfl, Nat.le_of_ble_eq_true rfl, Nat.le_of_ble_eq_true rfl⟩ [] rfl rfl (fun _ => rfl) (fun _ => rfl) rfl hl.1 rfl (Nat.le_of_ble_eq_true rfl) dX6_goes_16 ⟨Nat.zero_le _, Nat.zero_le _⟩ (fun r16 _ H locs hp16 Z => ?_)
    subst hp16
    refine b_if_ne (tgt := 24) hx hb dX6_goes_19 (by decide) (fun c19 => ?_) (fun c19 => ?_)
    · exact absurd ⟨c10, c19⟩ hbad
    · refine lv_iconst (v := (-1)) hx hb dX6_goes_22 (by decide) ?_
      exact ret () Z dX6_goes_23 rfl rfl
abbrev rm_k_X6_goes : Room := { frames := 2, cells := 0, slots := 0, locals := 43 }
set_option maxHeartbeats 4000000 in
set_option maxRecDepth 100000 in
theorem k_X6_goes (l : Launch) (D : va_G) (cA : ClassId) (q : Nat → Nat) (tr : Int64) (mc : Nat) (pp : Nat) (num : Nat) (yn : Nat) (cg : Nat) (ch : Nat) (k : Nat) (wh : Nat) (hP : pp ≤ 8) (hp1 : 1 ≤ pp) (hch : ch < 256) (hk : k < pp) (hw : wh < 2) : Cti l yX6_goes cX6_goes 4 (some .int) rm_k_X6_goes D cA [.ref (q 0), .int (nI k), .int (nI wh)] ([oM q 0 tr mc pp num yn cg, aN cA (q 2) 8 (bt ch)]) (fun (r : Int32) (_ : Unit) => r = nI (bt ch k)) (fun _ => [oM q 0 tr mc pp num yn cg, aN cA (q 2) 8 (bt (setb ch k wh))]) := by
  refine st_i (by decide) (Nat.le_of_ble_eq_true rfl) ?_
  intro p e s m args below meth c A Q E ret Z ls hl
  have hx := E.1.1
  have hb := E.1.2.1
  have hl : lv_has ls 4 [(0, .ref (q 0)), (1, .int (nI k)), (2, .int (nI wh))] := hl
  refine lv_aload_n hx hb dX6_goes_0 rfl (lv_at hl 0 rfl) ?_
  refine lv_iconst (v := nI 0) hx hb dX6_goes_1 (by decide) ?_
  refine pF_X6_66 (w1 := [oM q 0 tr mc pp num yn cg, aN cA (q 2) 8 (bt ch)]) E Z dX6_goes_2 0 rfl (Nat.le_of_ble_eq_true rfl) rfl (fun H locs Z => ?_)
  refine lv_aload_n hx hb dX6_goes_5 rfl (lv_at hl 0 rfl) ?_
  refine lv_iload_n hx hb dX6_goes_6 rfl (lv_at hl 1 rfl) ?_
  refine c_Vi (As := [.int (nI k)]) (rest := []) (w2 := fun _ => [oM q 0 tr mc pp num yn cg, aN cA (q 2) 8 (bt ch)]) E Z (k_X6_isPart l D cA q tr mc pp num yn cg (nI k) (by first | assumption | omega)) wv_X6_76 ⟨rfl, rfl, Nat.le_of_ble_eq_true rfl, Nat.le_of_ble_eq_true rfl⟩ [0] rfl rfl rfl rfl (q0 := 0) rfl (fun _ => rfl) (fun _ => rfl) rfl hl.1 rfl (Nat.le_of_ble_eq_true rfl) dX6_goes_7 ⟨Nat.zero_le _, Nat.zero_le _⟩ (fun r7 _ H locs hp7 Z => ?_)
  subst hp7
  refine b_if_eq (tgt := 22) hx hb dX6_goes_10 (by decide) (fun c10 => ?_) (fun c10 => ?_)
  · exact absurd (inr_ok (by omega) (by omega) (by omega)) c10
  · refine lv_iload_n hx hb dX6_goes_13 rfl (lv_at hl 2 rfl) ?_
    refine lv_iconst (v := nI 0) hx hb dX6_goes_14 (by decide) ?_
    refine lv_iconst (v := nI 1) hx hb dX6_goes_15 (by decide) ?_
    refine c_Si (As := [.int (nI wh), .int (nI 0), .int (nI 1)]) (rest := []) (w2 := fun _ => [oM q 0 tr mc pp num yn cg, aN cA (q 2) 8 (bt ch)]) E Z (k_X6_in l D cA (nI wh) (nI 0) (nI 1) ) ws_X6_72 ⟨rfl, rfl, Nat.le_of_ble_eq_true rfl, Nat.le_of_ble_eq_true rfl⟩ [] rfl rfl (fun _ => rfl) (fun _ => rfl) rfl hl.1 rfl (Nat.le_of_ble_eq_true rfl) dX6_goes_16 ⟨Nat.zero_le _, Nat.zero_le _⟩ (fun r16 _ H locs hp16 Z => ?_)
    subst hp16
    refine b_if_ne (tgt := 24) hx hb dX6_goes_19 (by decide) (fun c19 => ?_) (fun c19 => ?_)
    · refine lv_aload_n hx hb dX6_goes_24 rfl (lv_at hl 0 rfl) ?_
      refine gF_X6_20 E Z dX6_goes_25 0 rfl rfl ?_
      refine lv_iload_n hx hb dX6_goes_28 rfl (lv_at hl 1 rfl) ?_
      refine r_ald E Z dX6_goes_29 1 rfl (by omega) (by decide) ?_
      refine lv_istore_n (lv' := [(3, .int (nI ((bt ch) k))), (0, .ref (q 0)), (1, .int (nI k)), (2, .int (nI wh))]) hx hb dX6_goes_30 rfl hl (by decide) rfl (fun ls hl => ?_)
      refine lv_aload_n hx hb dX6_goes_31 rfl (lv_at hl 1 rfl) ?_
      refine gF_X6_20 E Z dX6_goes_32 0 rfl rfl ?_
      refine lv_iload_n hx hb dX6_goes_35 rfl (lv_at hl 2 rfl) ?_
      refine lv_iload_n hx hb dX6_goes_36 rfl (lv_at hl 3 rfl) ?_
      refine r_ast (w1 := [oM q 0 tr mc pp num yn cg, aN cA (q 2) 8 (up (bt ch) k wh)]) E Z dX6_goes_37 1 rfl (by omega) (by decide) rfl (fun H locs Z => ?_)
      replace Z : Wd D A s ([oM q 0 tr mc pp num yn cg, aN cA (q 2) 8 (bt (setb ch k wh))]) _ _ := Z.norm 1 rfl (fun j hj => congrArg nI (setb_bt ch hch k (by omega) wh hw j hj).symm) rfl
      refine lv_iload_n hx hb dX6_goes_38 rfl (lv_at hl 0 rfl) ?_
      exact ret () Z dX6_goes_39 rfl rfl
    · exact absurd (inr_ok (by omega) (by omega) (by omega)) c19
abbrev rm_k_X6_pieces_bad : Room := { frames := 2, cells := 0, slots := 0, locals := 43 }
set_option maxHeartbeats 4000000 in
set_option maxRecDepth 100000 in
theorem k_X6_pieces_bad (l : Launch) (D : va_G) (cA : ClassId) (q : Nat → Nat) (tr : Int64) (mc : Nat) (pp : Nat) (num : Nat) (yn : Nat) (cg : Nat) (x1 : Int32) (x2 : Int32) (hp1 : 1 ≤ pp) (hbad : ¬ ((nI 0 ≤ x1 ∧ x1 ≤ nI (pp - 1)) ∧ (nI 1 ≤ x2 ∧ x2 ≤ nI 9))) : Cti l yX6_pieces cX6_pieces 4 (some .int) rm_k_X6_pieces_bad D cA [.ref (q 0), .int x1, .int x2] ([oM q 0 tr mc pp num yn cg]) (fun (r : Int32) (_ : Unit) => r = (-1)) (fun _ => [oM q 0 tr mc pp num yn cg]) := by
  refine st_i (by decide) (Nat.le_of_ble_eq_true rfl) ?_
  intro p e s m args below meth c A Q E ret Z ls hl
  have hx := E.1.1
  have hb := E.1.2.1
  have hl : lv_has ls 4 [(0, .ref (q 0)), (1, .int x1), (2, .int x2)] := hl
  refine lv_aload_n hx hb dX6_pieces_0 rfl (lv_at hl 0 rfl) ?_
  refine lv_iconst (v := nI 0) hx hb dX6_pieces_1 (by decide) ?_
  refine pF_X6_66 (w1 := [oM q 0 tr mc pp num yn cg]) E Z dX6_pieces_2 0 rfl (Nat.le_of_ble_eq_true rfl) rfl (fun H locs Z => ?_)
  refine lv_aload_n hx hb dX6_pieces_5 rfl (lv_at hl 0 rfl) ?_
  refine lv_iload_n hx hb dX6_pieces_6 rfl (lv_at hl 1 rfl) ?_
  refine c_Vi (As := [.int x1]) (rest := []) (w2 := fun _ => [oM q 0 tr mc pp num yn cg]) E Z (k_X6_isPart l D cA q tr mc pp num yn cg x1 (by first | assumption | omega)) wv_X6_76 ⟨rfl, rfl, Nat.le_of_ble_eq_true rfl, Nat.le_of_ble_eq_true rfl⟩ [0] rfl rfl rfl rfl (q0 := 0) rfl (fun _ => rfl) (fun _ => rfl) rfl hl.1 rfl (Nat.le_of_ble_eq_true rfl) dX6_pieces_7 ⟨Nat.zero_le _, Nat.zero_le _⟩ (fun r7 _ H locs hp7 Z => ?_)
  subst hp7
  refine b_if_eq (tgt := 23) hx hb dX6_pieces_10 (by decide) (fun c10 => ?_) (fun c10 => ?_)
  · refine lv_iconst (v := (-1)) hx hb dX6_pieces_23 (by decide) ?_
    exact ret () Z dX6_pieces_24 rfl rfl
  · refine lv_iload_n hx hb dX6_pieces_13 rfl (lv_at hl 2 rfl) ?_
    refine lv_iconst (v := nI 1) hx hb dX6_pieces_14 (by decide) ?_
    refine lv_bipush (v := nI 9) hx hb dX6_pieces_15 (by decide) ?_
    refine c_Si (As := [.int x2, .int (nI 1), .int (nI 9)]) (rest := []) (w2 := fun _ => [oM q 0 tr mc pp num yn cg]) E Z (k_X6_in l D cA x2 (nI 1) (nI 9) ) ws_X6_72 ⟨rfl, rfl, Nat.le_of_ble_eq_true rfl, Nat.le_of_ble_eq_true rfl⟩ [] rfl rfl (fun _ => rfl) (fun _ => rfl) rfl hl.1 rfl (Nat.le_of_ble_eq_true rfl) dX6_pieces_17 ⟨Nat.zero_le _, Nat.zero_le _⟩ (fun r17 _ H locs hp17 Z => ?_)
    subst hp17
    refine b_if_ne (tgt := 25) hx hb dX6_pieces_20 (by decide) (fun c20 => ?_) (fun c20 => ?_)
    · exact absurd ⟨c10, c20⟩ hbad
    · refine lv_iconst (v := (-1)) hx hb dX6_pieces_23 (by decide) ?_
      exact ret () Z dX6_pieces_24 rfl rfl
abbrev rm_k_X6_pieces : Room := { frames := 2, cells := 0, slots := 0, locals := 43 }
set_option maxHeartbeats 4000000 in
set_option maxRecDepth 100000 in
theorem k_X6_pieces (l : Launch) (D : va_G) (cA : ClassId) (q : Nat → Nat) (tr : Int64) (mc : Nat) (pp : Nat) (num : Nat) (yn : Nat) (cg : Nat) (amts : Nat → Nat) (k : Nat) (am : Nat) (hP : pp ≤ 8) (hp1 : 1 ≤ pp) (hk : k < pp) (ham : 1 ≤ am ∧ am ≤ 9) : Cti l yX6_pieces cX6_pieces 4 (some .int) rm_k_X6_pieces D cA [.ref (q 0), .int (nI k), .int (nI am)] ([oM q 0 tr mc pp num yn cg, aN cA (q 3) 8 amts]) (fun (r : Int32) (_ : Unit) => r = nI (amts k)) (fun _ => [oM q 0 tr mc pp num yn cg, aN cA (q 3) 8 (up amts k am)]) := by
  refine st_i (by decide) (Nat.le_of_ble_eq_true rfl) ?_
  intro p e s m args below meth c A Q E ret Z ls hl
  have hx := E.1.1
  have hb := E.1.2.1
  have hl : lv_has ls 4 [(0, .ref (q 0)), (1, .int (nI k)), (2, .int (nI am))] := hl
  refine lv_aload_n hx hb dX6_pieces_0 rfl (lv_at hl 0 rfl) ?_
  refine lv_iconst (v := nI 0) hx hb dX6_pieces_1 (by decide) ?_
  refine pF_X6_66 (w1 := [oM q 0 tr mc pp num yn cg, aN cA (q 3) 8 amts]) E Z dX6_pieces_2 0 rfl (Nat.le_of_ble_eq_true rfl) rfl (fun H locs Z => ?_)
  refine lv_aload_n hx hb dX6_pieces_5 rfl (lv_at hl 0 rfl) ?_
  refine lv_iload_n hx hb dX6_pieces_6 rfl (lv_at hl 1 rfl) ?_
  refine c_Vi (As := [.int (nI k)]) (rest := []) (w2 := fun _ => [oM q 0 tr mc pp num yn cg, aN cA (q 3) 8 amts]) E Z (k_X6_isPart l D cA q tr mc pp num yn cg (nI k) (by first | assumption | omega)) wv_X6_76 ⟨rfl, rfl, Nat.le_of_ble_eq_true rfl, Nat.le_of_ble_eq_true rfl⟩ [0] rfl rfl rfl rfl (q0 := 0) rfl (fun _ => rfl) (fun _ => rfl) rfl hl.1 rfl (Nat.le_of_ble_eq_true rfl) dX6_pieces_7 ⟨Nat.zero_le _, Nat.zero_le _⟩ (fun r7 _ H locs hp7 Z => ?_)
  subst hp7
  refine b_if_eq (tgt := 23) hx hb dX6_pieces_10 (by decide) (fun c10 => ?_) (fun c10 => ?_)
  · exact absurd (inr_ok (by omega) (by omega) (by omega)) c10
  · refine lv_iload_n hx hb dX6_pieces_13 rfl (lv_at hl 2 rfl) ?_
    refine lv_iconst (v := nI 1) hx hb dX6_pieces_14 (by decide) ?_
    refine lv_bipush (v := nI 9) hx hb dX6_pieces_15 (by decide) ?_
    refine c_Si (As := [.int (nI am), .int (nI 1), .int (nI 9)]) (rest := []) (w2 := fun _ => [oM q 0 tr mc pp num yn cg, aN cA (q 3) 8 amts]) E Z (k_X6_in l D cA (nI am) (nI 1) (nI 9) ) ws_X6_72 ⟨rfl, rfl, Nat.le_of_ble_eq_true rfl, Nat.le_of_ble_eq_true rfl⟩ [] rfl rfl (fun _ => rfl) (fun _ => rfl) rfl hl.1 rfl (Nat.le_of_ble_eq_true rfl) dX6_pieces_17 ⟨Nat.zero_le _, Nat.zero_le _⟩ (fun r17 _ H locs hp17 Z => ?_)
    subst hp17
    refine b_if_ne (tgt := 25) hx hb dX6_pieces_20 (by decide) (fun c20 => ?_) (fun c20 => ?_)
    · refine lv_aload_n hx hb dX6_pieces_25 rfl (lv_at hl 0 rfl) ?_
      refine gF_X6_23 E Z dX6_pieces_26 0 rfl rfl ?_
      refine lv_iload_n hx hb dX6_pieces_29 rfl (lv_at hl 1 rfl) ?_
      refine r_ald E Z dX6_pieces_30 1 rfl (by omega) (by decide) ?_
      refine lv_istore_n (lv' := [(3, .int (nI (amts k))), (0, .ref (q 0)), (1, .int (nI k)), (2, .int (nI am))]) hx hb dX6_pieces_31 rfl hl (by decide) rfl (fun ls hl => ?_)
      refine lv_aload_n hx hb dX6_pieces_32 rfl (lv_at hl 1 rfl) ?_
      refine gF_X6_23 E Z dX6_pieces_33 0 rfl rfl ?_
      refine lv_iload_n hx hb dX6_pieces_36 rfl (lv_at hl 2 rfl) ?_
      refine lv_iload_n hx hb dX6_pieces_37 rfl (lv_at hl 3 rfl) ?_
      refine r_ast (w1 := [oM q 0 tr mc pp num yn cg, aN cA (q 3) 8 (up amts k am)]) E Z dX6_pieces_38 1 rfl (by omega) (by decide) rfl (fun H locs Z => ?_)
      refine lv_iload_n hx hb dX6_pieces_39 rfl (lv_at hl 0 rfl) ?_
      exact ret () Z dX6_pieces_40 rfl rfl
    · exact absurd (inr_ok (by omega) (by omega) (by omega)) c20
abbrev rm_k_X6_cell_bad : Room := { frames := 2, cells := 0, slots := 0, locals := 43 }
set_option maxHeartbeats 4000000 in
set_option maxRecDepth 100000 in
theorem k_X6_cell_bad (l : Launch) (D : va_G) (cA : ClassId) (q : Nat → Nat) (tr : Int64) (mc : Nat) (pp : Nat) (num : Nat) (yn : Nat) (cg : Nat) (x1 : Int32) (x2 : Int32) (hm1 : 1 ≤ mc) (hbad : ¬ ((nI 0 ≤ x1 ∧ x1 ≤ nI (mc - 1)) ∧ (nI 0 ≤ x2 ∧ x2 ≤ nI 3))) : Cti l yX6_cell cX6_cell 4 (some .int) rm_k_X6_cell_bad D cA [.ref (q 0), .int x1, .int x2] ([oM q 0 tr mc pp num yn cg]) (fun (r : Int32) (_ : Unit) => r = (-1)) (fun _ => [oM q 0 tr mc pp num yn cg]) := by
  refine st_i (by decide) (Nat.le_of_ble_eq_true rfl) ?_
  intro p e s m args below meth c A Q E ret Z ls hl
  have hx := E.1.1
  have hb := E.1.2.1
  have hl : lv_has ls 4 [(0, .ref (q 0)), (1, .int x1), (2, .int x2)] := hl
  refine lv_aload_n hx hb dX6_cell_0 rfl (lv_at hl 0 rfl) ?_
  refine lv_iconst (v := nI 0) hx hb dX6_cell_1 (by decide) ?_
  refine pF_X6_66 (w1 := [oM q 0 tr mc pp num yn cg]) E Z dX6_cell_2 0 rfl (Nat.le_of_ble_eq_true rfl) rfl (fun H locs Z => ?_)
  refine lv_aload_n hx hb dX6_cell_5 rfl (lv_at hl 0 rfl) ?_
  refine lv_iload_n hx hb dX6_cell_6 rfl (lv_at hl 1 rfl) ?_
  refine c_Vi (As := [.int x1]) (rest := []) (w2 := fun _ => [oM q 0 tr mc pp num yn cg]) E Z (k_X6_isMachine l D cA q tr mc pp num yn cg x1 (by first | assumption | omega)) wv_X6_80 ⟨rfl, rfl, Nat.le_of_ble_eq_true rfl, Nat.le_of_ble_eq_true rfl⟩ [0] rfl rfl rfl rfl (q0 := 0) rfl (fun _ => rfl) (fun _ => rfl) rfl hl.1 rfl (Nat.le_of_ble_eq_true rfl) dX6_cell_7 ⟨Nat.zero_le _, Nat.zero_le _⟩ (fun r7 _ H locs hp7 Z => ?_)
  subst hp7
  refine b_if_eq (tgt := 22) hx hb dX6_cell_10 (by decide) (fun c10 => ?_) (fun c10 => ?_)
  · refine lv_iconst (v := (-1)) hx hb dX6_cell_22 (by decide) ?_
    exact ret () Z dX6_cell_23 rfl rfl
  · refine lv_iload_n hx hb dX6_cell_13 rfl (lv_at hl 2 rfl) ?_
    refine lv_iconst (v := nI 0) hx hb dX6_cell_14 (by decide) ?_
    refine lv_iconst (v := nI 3) hx hb dX6_cell_15 (by decide) ?_
    refine c_Si (As := [.int x2, .int (nI 0), .int (nI 3)]) (rest := []) (w2 := fun _ => [oM q 0 tr mc pp num yn cg]) E Z (k_X6_in l D cA x2 (nI 0) (nI 3) ) ws_X6_72 ⟨rfl, rfl, Nat.le_of_ble_eq_true rfl, Nat.le_of_ble_eq_true rfl⟩ [] rfl rfl (fun _ => rfl) (fun _ => rfl) rfl hl.1 rfl (Nat.le_of_ble_eq_true rfl) dX6_cell_16 ⟨Nat.zero_le _, Nat.zero_le _⟩ (fun r16 _ H locs hp16 Z => ?_)
    subst hp16
    refine b_if_ne (tgt := 24) hx hb dX6_cell_19 (by decide) (fun c19 => ?_) (fun c19 => ?_)
    · exact absurd ⟨c10, c19⟩ hbad
    · refine lv_iconst (v := (-1)) hx hb dX6_cell_22 (by decide) ?_
      exact ret () Z dX6_cell_23 rfl rfl
abbrev rm_k_X6_cell : Room := { frames := 2, cells := 0, slots := 0, locals := 43 }
set_option maxHeartbeats 4000000 in
set_option maxRecDepth 100000 in
theorem k_X6_cell (l : Launch) (D : va_G) (cA : ClassId) (q : Nat → Nat) (tr : Int64) (mc : Nat) (pp : Nat) (num : Nat) (yn : Nat) (cg : Nat) (k : Nat) (d : Nat) (hm1 : 1 ≤ mc) (hM : mc ≤ 7) (hnum : num < 2 ^ (2 * mc)) (hk : k < mc) (hd : d < 4) : Cti l yX6_cell cX6_cell 4 (some .int) rm_k_X6_cell D cA [.ref (q 0), .int (nI k), .int (nI d)] ([oM q 0 tr mc pp num yn cg]) (fun (r : Int32) (_ : Unit) => r = nI (cl num k)) (fun _ => [oM q 0 tr mc pp (pt num k d) yn cg]) := by
  refine st_i (by decide) (Nat.le_of_ble_eq_true rfl) ?_
  intro p e s m args below meth c A Q E ret Z ls hl
  have hx := E.1.1
  have hb := E.1.2.1
  have hl : lv_has ls 4 [(0, .ref (q 0)), (1, .int (nI k)), (2, .int (nI d))] := hl
  have h14 : 2 ^ (2 * mc) ≤ 2 ^ 14 := Nat.pow_le_pow_right (by decide) (by omega)
  refine lv_aload_n hx hb dX6_cell_0 rfl (lv_at hl 0 rfl) ?_
  refine lv_iconst (v := nI 0) hx hb dX6_cell_1 (by decide) ?_
  refine pF_X6_66 (w1 := [oM q 0 tr mc pp num yn cg]) E Z dX6_cell_2 0 rfl (Nat.le_of_ble_eq_true rfl) rfl (fun H locs Z => ?_)
  refine lv_aload_n hx hb dX6_cell_5 rfl (lv_at hl 0 rfl) ?_
  refine lv_iload_n hx hb dX6_cell_6 rfl (lv_at hl 1 rfl) ?_
  refine c_Vi (As := [.int (nI k)]) (rest := []) (w2 := fun _ => [oM q 0 tr mc pp num yn cg]) E Z (k_X6_isMachine l D cA q tr mc pp num yn cg (nI k) (by first | assumption | omega)) wv_X6_80 ⟨rfl, rfl, Nat.le_of_ble_eq_true rfl, Nat.le_of_ble_eq_true rfl⟩ [0] rfl rfl rfl rfl (q0 := 0) rfl (fun _ => rfl) (fun _ => rfl) rfl hl.1 rfl (Nat.le_of_ble_eq_true rfl) dX6_cell_7 ⟨Nat.zero_le _, Nat.zero_le _⟩ (fun r7 _ H locs hp7 Z => ?_)
  subst hp7
  refine b_if_eq (tgt := 22) hx hb dX6_cell_10 (by decide) (fun c10 => ?_) (fun c10 => ?_)
  · exact absurd (inr_ok (by omega) (by omega) (by omega)) c10
  · refine lv_iload_n hx hb dX6_cell_13 rfl (lv_at hl 2 rfl) ?_
    refine lv_iconst (v := nI 0) hx hb dX6_cell_14 (by decide) ?_
    refine lv_iconst (v := nI 3) hx hb dX6_cell_15 (by decide) ?_
    refine c_Si (As := [.int (nI d), .int (nI 0), .int (nI 3)]) (rest := []) (w2 := fun _ => [oM q 0 tr mc pp num yn cg]) E Z (k_X6_in l D cA (nI d) (nI 0) (nI 3) ) ws_X6_72 ⟨rfl, rfl, Nat.le_of_ble_eq_true rfl, Nat.le_of_ble_eq_true rfl⟩ [] rfl rfl (fun _ => rfl) (fun _ => rfl) rfl hl.1 rfl (Nat.le_of_ble_eq_true rfl) dX6_cell_16 ⟨Nat.zero_le _, Nat.zero_le _⟩ (fun r16 _ H locs hp16 Z => ?_)
    subst hp16
    refine b_if_ne (tgt := 24) hx hb dX6_cell_19 (by decide) (fun c19 => ?_) (fun c19 => ?_)
    · refine lv_aload_n hx hb dX6_cell_24 rfl (lv_at hl 0 rfl) ?_
      refine gF_X6_69 E Z dX6_cell_25 0 rfl rfl ?_
      refine lv_iload_n hx hb dX6_cell_28 rfl (lv_at hl 1 rfl) ?_
      refine c_Si (As := [.int (nI num), .int (nI k)]) (rest := []) (w2 := fun _ => [oM q 0 tr mc pp num yn cg]) E Z (k_X6_cellOf l D cA num k (by first | assumption | omega) (by first | assumption | omega)) ws_X6_83 ⟨rfl, rfl, Nat.le_of_ble_eq_true rfl, Nat.le_of_ble_eq_true rfl⟩ [] rfl rfl (fun _ => rfl) (fun _ => rfl) rfl hl.1 rfl (Nat.le_of_ble_eq_true rfl) dX6_cell_29 ⟨Nat.zero_le _, Nat.zero_le _⟩ (fun r29 _ H locs hp29 Z => ?_)
      subst hp29
      refine lv_istore_n (lv' := [(3, .int (nI (cl num k))), (0, .ref (q 0)), (1, .int (nI k)), (2, .int (nI d))]) hx hb dX6_cell_32 rfl hl (by decide) rfl (fun ls hl => ?_)
      refine lv_aload_n hx hb dX6_cell_33 rfl (lv_at hl 1 rfl) ?_
      refine lv_dup hx hb dX6_cell_34 rfl ?_
      refine gF_X6_69 E Z dX6_cell_35 0 rfl rfl ?_
      refine lv_iload_n hx hb dX6_cell_38 rfl (lv_at hl 3 rfl) ?_
      refine lv_iload_n hx hb dX6_cell_39 rfl (lv_at hl 0 rfl) ?_
      refine lv_isub hx hb dX6_cell_40 ?_
      refine lv_iload_n hx hb dX6_cell_41 rfl (lv_at hl 2 rfl) ?_
      refine c_Si (As := [.int (nI k)]) (rest := [.int ((nI d) - (nI (cl num k))), .int (nI num), .ref (q 0)]) (w2 := fun _ => [oM q 0 tr mc pp num yn cg]) E Z (k_X6_power l D cA k (by first | assumption | omega)) ws_X6_87 ⟨rfl, rfl, Nat.le_of_ble_eq_true rfl, Nat.le_of_ble_eq_true rfl⟩ [] rfl rfl (fun _ => rfl) (fun _ => rfl) rfl hl.1 rfl (Nat.le_of_ble_eq_true rfl) dX6_cell_42 ⟨Nat.zero_le _, Nat.zero_le _⟩ (fun r42 _ H locs hp42 Z => ?_)
      subst hp42
      refine lv_imul hx hb dX6_cell_45 ?_
      refine lv_iadd hx hb dX6_cell_46 ?_
      refine r_top (y := nI (pt num k d)) (pt_add num k d) ?_
      refine pF_X6_69 (w1 := [oM q 0 tr mc pp (pt num k d) yn cg]) E Z dX6_cell_47 0 rfl (Nat.le_of_ble_eq_true rfl) rfl (fun H locs Z => ?_)
      refine lv_iload_n hx hb dX6_cell_50 rfl (lv_at hl 0 rfl) ?_
      exact ret () Z dX6_cell_51 rfl rfl
    · exact absurd (inr_ok (by omega) (by omega) (by omega)) c19
abbrev rm_k_X6_group_bad : Room := { frames := 1, cells := 0, slots := 0, locals := 22 }
set_option maxHeartbeats 4000000 in
set_option maxRecDepth 100000 in
theorem k_X6_group_bad (l : Launch) (D : va_G) (cA : ClassId) (q : Nat → Nat) (tr : Int64) (mc : Nat) (pp : Nat) (num : Nat) (yn : Nat) (cg : Nat) (x1 : Int32) (hM : mc ≤ 7) (hbad : ¬ ((nI 0 ≤ x1 ∧ x1 ≤ nI (2 ^ (2 * mc) - 1)))) : Cti l yX6_group cX6_group 3 (some .int) rm_k_X6_group_bad D cA [.ref (q 0), .int x1] ([oM q 0 tr mc pp num yn cg]) (fun (r : Int32) (_ : Unit) => r = (-1)) (fun _ => [oM q 0 tr mc pp num yn cg]) := by
  refine st_i (by decide) (Nat.le_of_ble_eq_true rfl) ?_
  intro p e s m args below meth c A Q E ret Z ls hl
  have hx := E.1.1
  have hb := E.1.2.1
  have hl : lv_has ls 3 [(0, .ref (q 0)), (1, .int x1)] := hl
  have h202 := Nat.two_pow_pos (2 * mc)
  refine lv_aload_n hx hb dX6_group_0 rfl (lv_at hl 0 rfl) ?_
  refine lv_iconst (v := nI 0) hx hb dX6_group_1 (by decide) ?_
  refine pF_X6_66 (w1 := [oM q 0 tr mc pp num yn cg]) E Z dX6_group_2 0 rfl (Nat.le_of_ble_eq_true rfl) rfl (fun H locs Z => ?_)
  refine lv_iload_n hx hb dX6_group_5 rfl (lv_at hl 1 rfl) ?_
  refine lv_iconst (v := nI 0) hx hb dX6_group_6 (by decide) ?_
  refine lv_aload_n hx hb dX6_group_7 rfl (lv_at hl 0 rfl) ?_
  refine gF_X6_7 E Z dX6_group_8 0 rfl rfl ?_
  refine c_Si (As := [.int (nI mc)]) (rest := [.int (nI 0), .int x1]) (w2 := fun _ => [oM q 0 tr mc pp num yn cg]) E Z (k_X6_power l D cA mc (by first | assumption | omega)) ws_X6_87 ⟨rfl, rfl, Nat.le_of_ble_eq_true rfl, Nat.le_of_ble_eq_true rfl⟩ [] rfl rfl (fun _ => rfl) (fun _ => rfl) rfl hl.1 rfl (Nat.le_of_ble_eq_true rfl) dX6_group_11 ⟨Nat.zero_le _, Nat.zero_le _⟩ (fun r11 _ H locs hp11 Z => ?_)
  subst hp11
  refine lv_iconst (v := nI 1) hx hb dX6_group_14 (by decide) ?_
  refine n_isub hx hb dX6_group_15 (by omega) ?_
  refine c_Si (As := [.int x1, .int (nI 0), .int (nI (2 ^ (2 * mc) - 1))]) (rest := []) (w2 := fun _ => [oM q 0 tr mc pp num yn cg]) E Z (k_X6_in l D cA x1 (nI 0) (nI (2 ^ (2 * mc) - 1)) ) ws_X6_72 ⟨rfl, rfl, Nat.le_of_ble_eq_true rfl, Nat.le_of_ble_eq_true rfl⟩ [] rfl rfl (fun _ => rfl) (fun _ => rfl) rfl hl.1 rfl (Nat.le_of_ble_eq_true rfl) dX6_group_16 ⟨Nat.zero_le _, Nat.zero_le _⟩ (fun r16 _ H locs hp16 Z => ?_)
  subst hp16
  refine b_if_ne (tgt := 24) hx hb dX6_group_19 (by decide) (fun c19 => ?_) (fun c19 => ?_)
  · exact absurd c19 hbad
  · refine lv_iconst (v := (-1)) hx hb dX6_group_22 (by decide) ?_
    exact ret () Z dX6_group_23 rfl rfl
abbrev rm_k_X6_group : Room := { frames := 1, cells := 0, slots := 0, locals := 22 }
set_option maxHeartbeats 4000000 in
set_option maxRecDepth 100000 in
theorem k_X6_group (l : Launch) (D : va_G) (cA : ClassId) (q : Nat → Nat) (tr : Int64) (mc : Nat) (pp : Nat) (num : Nat) (yn : Nat) (cg : Nat) (g : Nat) (hM : mc ≤ 7) (hg : g < 2 ^ (2 * mc)) : Cti l yX6_group cX6_group 3 (some .int) rm_k_X6_group D cA [.ref (q 0), .int (nI g)] ([oM q 0 tr mc pp num yn cg]) (fun (r : Int32) (_ : Unit) => r = nI num) (fun _ => [oM q 0 tr mc pp g yn cg]) := by
  refine st_i (by decide) (Nat.le_of_ble_eq_true rfl) ?_
  intro p e s m args below meth c A Q E ret Z ls hl
  have hx := E.1.1
  have hb := E.1.2.1
  have hl : lv_has ls 3 [(0, .ref (q 0)), (1, .int (nI g))] := hl
  have h14 : 2 ^ (2 * mc) ≤ 2 ^ 14 := Nat.pow_le_pow_right (by decide) (by omega)
  have h202 := Nat.two_pow_pos (2 * mc)
  refine lv_aload_n hx hb dX6_group_0 rfl (lv_at hl 0 rfl) ?_
  refine lv_iconst (v := nI 0) hx hb dX6_group_1 (by decide) ?_
  refine pF_X6_66 (w1 := [oM q 0 tr mc pp num yn cg]) E Z dX6_group_2 0 rfl (Nat.le_of_ble_eq_true rfl) rfl (fun H locs Z => ?_)
  refine lv_iload_n hx hb dX6_group_5 rfl (lv_at hl 1 rfl) ?_
  refine lv_iconst (v := nI 0) hx hb dX6_group_6 (by decide) ?_
  refine lv_aload_n hx hb dX6_group_7 rfl (lv_at hl 0 rfl) ?_
  refine gF_X6_7 E Z dX6_group_8 0 rfl rfl ?_
  refine c_Si (As := [.int (nI mc)]) (rest := [.int (nI 0), .int (nI g)]) (w2 := fun _ => [oM q 0 tr mc pp num yn cg]) E Z (k_X6_power l D cA mc (by first | assumption | omega)) ws_X6_87 ⟨rfl, rfl, Nat.le_of_ble_eq_true rfl, Nat.le_of_ble_eq_true rfl⟩ [] rfl rfl (fun _ => rfl) (fun _ => rfl) rfl hl.1 rfl (Nat.le_of_ble_eq_true rfl) dX6_group_11 ⟨Nat.zero_le _, Nat.zero_le _⟩ (fun r11 _ H locs hp11 Z => ?_)
  subst hp11
  refine lv_iconst (v := nI 1) hx hb dX6_group_14 (by decide) ?_
  refine n_isub hx hb dX6_group_15 (by omega) ?_
  refine c_Si (As := [.int (nI g), .int (nI 0), .int (nI (2 ^ (2 * mc) - 1))]) (rest := []) (w2 := fun _ => [oM q 0 tr mc pp num yn cg]) E Z (k_X6_in l D cA (nI g) (nI 0) (nI (2 ^ (2 * mc) - 1)) ) ws_X6_72 ⟨rfl, rfl, Nat.le_of_ble_eq_true rfl, Nat.le_of_ble_eq_true rfl⟩ [] rfl rfl (fun _ => rfl) (fun _ => rfl) rfl hl.1 rfl (Nat.le_of_ble_eq_true rfl) dX6_group_16 ⟨Nat.zero_le _, Nat.zero_le _⟩ (fun r16 _ H locs hp16 Z => ?_)
  subst hp16
  refine b_if_ne (tgt := 24) hx hb dX6_group_19 (by decide) (fun c19 => ?_) (fun c19 => ?_)
  · refine lv_aload_n hx hb dX6_group_24 rfl (lv_at hl 0 rfl) ?_
    refine gF_X6_69 E Z dX6_group_25 0 rfl rfl ?_
    refine lv_istore_n (lv' := [(2, .int (nI num)), (0, .ref (q 0)), (1, .int (nI g))]) hx hb dX6_group_28 rfl hl (by decide) rfl (fun ls hl => ?_)
    refine lv_aload_n hx hb dX6_group_29 rfl (lv_at hl 1 rfl) ?_
    refine lv_iload_n hx hb dX6_group_30 rfl (lv_at hl 2 rfl) ?_
    refine pF_X6_69 (w1 := [oM q 0 tr mc pp g yn cg]) E Z dX6_group_31 0 rfl (Nat.le_of_ble_eq_true rfl) rfl (fun H locs Z => ?_)
    refine lv_iload_n hx hb dX6_group_34 rfl (lv_at hl 0 rfl) ?_
    exact ret () Z dX6_group_35 rfl rfl
  · exact absurd (inr_ok (by omega) (by omega) (by omega)) c19
abbrev rm_k_X6_about_bad : Room := { frames := 2, cells := 0, slots := 0, locals := 43 }
set_option maxHeartbeats 4000000 in
set_option maxRecDepth 100000 in
theorem k_X6_about_bad (l : Launch) (D : va_G) (cA : ClassId) (q : Nat → Nat) (tr : Int64) (mc : Nat) (pp : Nat) (num : Nat) (yn : Nat) (cg : Nat) (x1 : Int32) (x2 : Int32) (hp1 : 1 ≤ pp) (hbad : ¬ ((nI 0 ≤ x1 ∧ x1 ≤ nI (pp - 1)))) : Cti l yX6_about cX6_about 3 (some .int) rm_k_X6_about_bad D cA [.ref (q 0), .int x1, .int x2] ([oM q 0 tr mc pp num yn cg]) (fun (r : Int32) (_ : Unit) => r = (-1)) (fun _ => [oM q 0 tr mc pp num yn cg]) := by
  refine st_i (by decide) (Nat.le_of_ble_eq_true rfl) ?_
  intro p e s m args below meth c A Q E ret Z ls hl
  have hx := E.1.1
  have hb := E.1.2.1
  have hl : lv_has ls 3 [(0, .ref (q 0)), (1, .int x1), (2, .int x2)] := hl
  refine lv_aload_n hx hb dX6_about_0 rfl (lv_at hl 0 rfl) ?_
  refine lv_iconst (v := nI 0) hx hb dX6_about_1 (by decide) ?_
  refine pF_X6_66 (w1 := [oM q 0 tr mc pp num yn cg]) E Z dX6_about_2 0 rfl (Nat.le_of_ble_eq_true rfl) rfl (fun H locs Z => ?_)
  refine lv_aload_n hx hb dX6_about_5 rfl (lv_at hl 0 rfl) ?_
  refine lv_iload_n hx hb dX6_about_6 rfl (lv_at hl 1 rfl) ?_
  refine c_Vi (As := [.int x1]) (rest := []) (w2 := fun _ => [oM q 0 tr mc pp num yn cg]) E Z (k_X6_isPart l D cA q tr mc pp num yn cg x1 (by first | assumption | omega)) wv_X6_76 ⟨rfl, rfl, Nat.le_of_ble_eq_true rfl, Nat.le_of_ble_eq_true rfl⟩ [0] rfl rfl rfl rfl (q0 := 0) rfl (fun _ => rfl) (fun _ => rfl) rfl hl.1 rfl (Nat.le_of_ble_eq_true rfl) dX6_about_7 ⟨Nat.zero_le _, Nat.zero_le _⟩ (fun r7 _ H locs hp7 Z => ?_)
  subst hp7
  refine b_if_ne (tgt := 15) hx hb dX6_about_10 (by decide) (fun c10 => ?_) (fun c10 => ?_)
  · exact absurd c10 hbad
  · refine lv_iconst (v := (-1)) hx hb dX6_about_13 (by decide) ?_
    exact ret () Z dX6_about_14 rfl rfl
abbrev rm_k_X6_about : Room := { frames := 4, cells := 0, slots := 0, locals := 95 }
set_option maxHeartbeats 4000000 in
set_option maxRecDepth 100000 in
theorem k_X6_about (l : Launch) (D : va_G) (cA : ClassId) (q : Nat → Nat) (tr : Int64) (mc : Nat) (pp : Nat) (num : Nat) (yn : Nat) (cg : Nat) (sets : Nat → Nat) (ch : Nat) (amts : Nat → Nat) (k : Nat) (x2 : Int32) (hP : pp ≤ 8) (hp1 : 1 ≤ pp) (hs : ∀ j, sets j < 2 ^ mc) (hM : mc ≤ 7) (hnum : num < 2 ^ (2 * mc)) (hk : k < pp) : Cti l yX6_about cX6_about 3 (some .int) rm_k_X6_about D cA [.ref (q 0), .int (nI k), .int x2] ([oM q 0 tr mc pp num yn cg, aN cA (q 1) 16 sets, aN cA (q 2) 8 (bt ch), aN cA (q 3) 8 amts]) (fun (r : Int32) (_ : Unit) => r = (aAbout mc num pp sets amts ch k x2)) (fun _ => [oM q 0 tr mc pp num yn cg, aN cA (q 1) 16 sets, aN cA (q 2) 8 (bt ch), aN cA (q 3) 8 amts]) := by
  refine st_i (by decide) (Nat.le_of_ble_eq_true rfl) ?_
  intro p e s m args below meth c A Q E ret Z ls hl
  have hx := E.1.1
  have hb := E.1.2.1
  have hl : lv_has ls 3 [(0, .ref (q 0)), (1, .int (nI k)), (2, .int x2)] := hl
  have h14 : 2 ^ (2 * mc) ≤ 2 ^ 14 := Nat.pow_le_pow_right (by decide) (by omega)
  have hs7 := hs7_of hs hM
  refine lv_aload_n hx hb dX6_about_0 rfl (lv_at hl 0 rfl) ?_
  refine lv_iconst (v := nI 0) hx hb dX6_about_1 (by decide) ?_
  refine pF_X6_66 (w1 := [oM q 0 tr mc pp num yn cg, aN cA (q 1) 16 sets, aN cA (q 2) 8 (bt ch), aN cA (q 3) 8 amts]) E Z dX6_about_2 0 rfl (Nat.le_of_ble_eq_true rfl) rfl (fun H locs Z => ?_)
  refine lv_aload_n hx hb dX6_about_5 rfl (lv_at hl 0 rfl) ?_
  refine lv_iload_n hx hb dX6_about_6 rfl (lv_at hl 1 rfl) ?_
  refine c_Vi (As := [.int (nI k)]) (rest := []) (w2 := fun _ => [oM q 0 tr mc pp num yn cg, aN cA (q 1) 16 sets, aN cA (q 2) 8 (bt ch), aN cA (q 3) 8 amts]) E Z (k_X6_isPart l D cA q tr mc pp num yn cg (nI k) (by first | assumption | omega)) wv_X6_76 ⟨rfl, rfl, Nat.le_of_ble_eq_true rfl, Nat.le_of_ble_eq_true rfl⟩ [0] rfl rfl rfl rfl (q0 := 0) rfl (fun _ => rfl) (fun _ => rfl) rfl hl.1 rfl (Nat.le_of_ble_eq_true rfl) dX6_about_7 ⟨Nat.zero_le _, Nat.zero_le _⟩ (fun r7 _ H locs hp7 Z => ?_)
  subst hp7
  refine b_if_ne (tgt := 15) hx hb dX6_about_10 (by decide) (fun c10 => ?_) (fun c10 => ?_)
  · refine lv_iload_n hx hb dX6_about_15 rfl (lv_at hl 2 rfl) ?_
    rcases tsw x2 6 (by decide) with ⟨jS, hjS, eS⟩ | oS
    · obtain rfl | rfl | rfl | rfl | rfl | rfl : jS = 0 ∨ jS = 1 ∨ jS = 2 ∨ jS = 3 ∨ jS = 4 ∨ jS = 5 := by omega
      · refine r_top (y := nI 0) eS ?_
        refine lv_tableIn (tgt := 56) hx hb dX6_about_16 (by decide) (by decide) rfl (by decide) ?_
        refine lv_aload_n hx hb dX6_about_56 rfl (lv_at hl 0 rfl) ?_
        refine lv_aload_n hx hb dX6_about_57 rfl (lv_at hl 0 rfl) ?_
        refine gF_X6_69 E Z dX6_about_58 0 rfl rfl ?_
        refine lv_aload_n hx hb dX6_about_61 rfl (lv_at hl 0 rfl) ?_
        refine lv_iload_n hx hb dX6_about_62 rfl (lv_at hl 1 rfl) ?_
        refine c_Vi (As := [.int (nI k)]) (rest := [.int (nI num), .ref (q 0)]) (w2 := fun _ => [oM q 0 tr mc pp num yn cg, aN cA (q 1) 16 sets, aN cA (q 2) 8 (bt ch), aN cA (q 3) 8 amts]) E Z (k_X6_setOf l D cA q tr mc pp num yn cg sets ch k (by first | assumption | omega)) wv_X6_98 ⟨rfl, rfl, Nat.le_of_ble_eq_true rfl, Nat.le_of_ble_eq_true rfl⟩ [0, 1, 2] rfl rfl rfl rfl (q0 := 0) rfl (fun _ => rfl) (fun _ => rfl) rfl hl.1 rfl (Nat.le_of_ble_eq_true rfl) dX6_about_63 ⟨Nat.zero_le _, Nat.zero_le _⟩ (fun r63 _ H locs hp63 Z => ?_)
        subst hp63
        refine c_Vi (As := [.int (nI num), .int (nI (setB sets ch k))]) (rest := []) (w2 := fun _ => [oM q 0 tr mc pp num yn cg, aN cA (q 1) 16 sets, aN cA (q 2) 8 (bt ch), aN cA (q 3) 8 amts]) E Z (k_X6_homeOf l D cA q tr mc pp num yn cg num (setB sets ch k) (by first | assumption | omega) (by first | assumption | omega) (Nat.lt_trans (hs7 _) (by decide))) wv_X6_95 ⟨rfl, rfl, Nat.le_of_ble_eq_true rfl, Nat.le_of_ble_eq_true rfl⟩ [0] rfl rfl rfl rfl (q0 := 0) rfl (fun _ => rfl) (fun _ => rfl) rfl hl.1 rfl (Nat.le_of_ble_eq_true rfl) dX6_about_66 ⟨Nat.zero_le _, Nat.zero_le _⟩ (fun r66 _ H locs hp66 Z => ?_)
        subst hp66
        exact ret () Z dX6_about_69 rfl (by rw [eS]; rfl)
      · refine r_top (y := nI 1) eS ?_
        refine lv_tableIn (tgt := 70) hx hb dX6_about_16 (by decide) (by decide) rfl (by decide) ?_
        refine lv_aload_n hx hb dX6_about_70 rfl (lv_at hl 0 rfl) ?_
        refine lv_aload_n hx hb dX6_about_71 rfl (lv_at hl 0 rfl) ?_
        refine gF_X6_69 E Z dX6_about_72 0 rfl rfl ?_
        refine lv_aload_n hx hb dX6_about_75 rfl (lv_at hl 0 rfl) ?_
        refine lv_iload_n hx hb dX6_about_76 rfl (lv_at hl 1 rfl) ?_
        refine c_Vi (As := [.int (nI k)]) (rest := [.int (nI num), .ref (q 0)]) (w2 := fun _ => [oM q 0 tr mc pp num yn cg, aN cA (q 1) 16 sets, aN cA (q 2) 8 (bt ch), aN cA (q 3) 8 amts]) E Z (k_X6_setOf l D cA q tr mc pp num yn cg sets ch k (by first | assumption | omega)) wv_X6_98 ⟨rfl, rfl, Nat.le_of_ble_eq_true rfl, Nat.le_of_ble_eq_true rfl⟩ [0, 1, 2] rfl rfl rfl rfl (q0 := 0) rfl (fun _ => rfl) (fun _ => rfl) rfl hl.1 rfl (Nat.le_of_ble_eq_true rfl) dX6_about_77 ⟨Nat.zero_le _, Nat.zero_le _⟩ (fun r77 _ H locs hp77 Z => ?_)
        subst hp77
        refine c_Vi (As := [.int (nI num), .int (nI (setB sets ch k))]) (rest := []) (w2 := fun _ => [oM q 0 tr mc pp num yn cg, aN cA (q 1) 16 sets, aN cA (q 2) 8 (bt ch), aN cA (q 3) 8 amts]) E Z (k_X6_wandersOf l D cA q tr mc pp num yn cg num (setB sets ch k) (by first | assumption | omega) (by first | assumption | omega) (Nat.lt_trans (hs7 _) (by decide))) wv_X6_101 ⟨rfl, rfl, Nat.le_of_ble_eq_true rfl, Nat.le_of_ble_eq_true rfl⟩ [0] rfl rfl rfl rfl (q0 := 0) rfl (fun _ => rfl) (fun _ => rfl) rfl hl.1 rfl (Nat.le_of_ble_eq_true rfl) dX6_about_80 ⟨Nat.zero_le _, Nat.zero_le _⟩ (fun r80 _ H locs hp80 Z => ?_)
        subst hp80
        exact ret () Z dX6_about_83 rfl (by rw [eS]; rfl)
      · refine r_top (y := nI 2) eS ?_
        refine lv_tableIn (tgt := 84) hx hb dX6_about_16 (by decide) (by decide) rfl (by decide) ?_
        refine lv_aload_n hx hb dX6_about_84 rfl (lv_at hl 0 rfl) ?_
        refine lv_aload_n hx hb dX6_about_85 rfl (lv_at hl 0 rfl) ?_
        refine gF_X6_69 E Z dX6_about_86 0 rfl rfl ?_
        refine lv_aload_n hx hb dX6_about_89 rfl (lv_at hl 0 rfl) ?_
        refine lv_iload_n hx hb dX6_about_90 rfl (lv_at hl 1 rfl) ?_
        refine c_Vi (As := [.int (nI k)]) (rest := [.int (nI num), .ref (q 0)]) (w2 := fun _ => [oM q 0 tr mc pp num yn cg, aN cA (q 1) 16 sets, aN cA (q 2) 8 (bt ch), aN cA (q 3) 8 amts]) E Z (k_X6_setOf l D cA q tr mc pp num yn cg sets ch k (by first | assumption | omega)) wv_X6_98 ⟨rfl, rfl, Nat.le_of_ble_eq_true rfl, Nat.le_of_ble_eq_true rfl⟩ [0, 1, 2] rfl rfl rfl rfl (q0 := 0) rfl (fun _ => rfl) (fun _ => rfl) rfl hl.1 rfl (Nat.le_of_ble_eq_true rfl) dX6_about_91 ⟨Nat.zero_le _, Nat.zero_le _⟩ (fun r91 _ H locs hp91 Z => ?_)
        subst hp91
        refine c_Vi (As := [.int (nI num), .int (nI (setB sets ch k))]) (rest := []) (w2 := fun _ => [oM q 0 tr mc pp num yn cg, aN cA (q 1) 16 sets, aN cA (q 2) 8 (bt ch), aN cA (q 3) 8 amts]) E Z (k_X6_idleOf l D cA q tr mc pp num yn cg num (setB sets ch k) (by first | assumption | omega) (by first | assumption | omega) (hs _)) wv_X6_104 ⟨rfl, rfl, Nat.le_of_ble_eq_true rfl, Nat.le_of_ble_eq_true rfl⟩ [0] rfl rfl rfl rfl (q0 := 0) rfl (fun _ => rfl) (fun _ => rfl) rfl hl.1 rfl (Nat.le_of_ble_eq_true rfl) dX6_about_94 ⟨Nat.zero_le _, Nat.zero_le _⟩ (fun r94 _ H locs hp94 Z => ?_)
        subst hp94
        exact ret () Z dX6_about_97 rfl (by rw [eS]; rfl)
      · refine r_top (y := nI 3) eS ?_
        refine lv_tableIn (tgt := 98) hx hb dX6_about_16 (by decide) (by decide) rfl (by decide) ?_
        refine lv_aload_n hx hb dX6_about_98 rfl (lv_at hl 0 rfl) ?_
        refine gF_X6_23 E Z dX6_about_99 0 rfl rfl ?_
        refine lv_iload_n hx hb dX6_about_102 rfl (lv_at hl 1 rfl) ?_
        refine r_ald E Z dX6_about_103 3 rfl (by omega) (by decide) ?_
        exact ret () Z dX6_about_104 rfl (by rw [eS]; rfl)
      · refine r_top (y := nI 4) eS ?_
        refine lv_tableIn (tgt := 105) hx hb dX6_about_16 (by decide) (by decide) rfl (by decide) ?_
        refine lv_aload_n hx hb dX6_about_105 rfl (lv_at hl 0 rfl) ?_
        refine gF_X6_20 E Z dX6_about_106 0 rfl rfl ?_
        refine lv_iload_n hx hb dX6_about_109 rfl (lv_at hl 1 rfl) ?_
        refine r_ald E Z dX6_about_110 2 rfl (by omega) (by decide) ?_
        exact ret () Z dX6_about_111 rfl (by rw [eS]; rfl)
      · refine r_top (y := nI 5) eS ?_
        refine lv_tableIn (tgt := 112) hx hb dX6_about_16 (by decide) (by decide) rfl (by decide) ?_
        refine lv_aload_n hx hb dX6_about_112 rfl (lv_at hl 0 rfl) ?_
        refine lv_iload_n hx hb dX6_about_113 rfl (lv_at hl 1 rfl) ?_
        refine c_Vi (As := [.int (nI k)]) (rest := []) (w2 := fun _ => [oM q 0 tr mc pp num yn cg, aN cA (q 1) 16 sets, aN cA (q 2) 8 (bt ch), aN cA (q 3) 8 amts]) E Z (k_X6_setOf l D cA q tr mc pp num yn cg sets ch k (by first | assumption | omega)) wv_X6_98 ⟨rfl, rfl, Nat.le_of_ble_eq_true rfl, Nat.le_of_ble_eq_true rfl⟩ [0, 1, 2] rfl rfl rfl rfl (q0 := 0) rfl (fun _ => rfl) (fun _ => rfl) rfl hl.1 rfl (Nat.le_of_ble_eq_true rfl) dX6_about_114 ⟨Nat.zero_le _, Nat.zero_le _⟩ (fun r114 _ H locs hp114 Z => ?_)
        subst hp114
        exact ret () Z dX6_about_117 rfl (by rw [eS]; rfl)
    · refine lv_tableOut (tgt := 118) hx hb dX6_about_16 oS (by decide) ?_
      refine lv_iconst (v := (-1)) hx hb dX6_about_118 (by decide) ?_
      exact ret () Z dX6_about_119 rfl (by unfold aAbout; rw [if_neg (notS (n := 6) oS (by decide) (by decide)), if_neg (notS (n := 6) oS (by decide) (by decide)), if_neg (notS (n := 6) oS (by decide) (by decide)), if_neg (notS (n := 6) oS (by decide) (by decide)), if_neg (notS (n := 6) oS (by decide) (by decide)), if_neg (notS (n := 6) oS (by decide) (by decide))])
  · exact absurd (inr_ok (by omega) (by omega) (by omega)) c10
abbrev rm_k_X6_loss_bad : Room := { frames := 1, cells := 0, slots := 0, locals := 22 }
set_option maxHeartbeats 4000000 in
set_option maxRecDepth 100000 in
theorem k_X6_loss_bad (l : Launch) (D : va_G) (cA : ClassId) (q : Nat → Nat) (tr : Int64) (mc : Nat) (pp : Nat) (num : Nat) (yn : Nat) (cg : Nat) (x1 : Int32) (hbad : ¬ ((nI 0 ≤ x1 ∧ x1 ≤ nI 2))) : Cti l yX6_loss cX6_loss 2 (some .int) rm_k_X6_loss_bad D cA [.ref (q 0), .int x1] ([oM q 0 tr mc pp num yn cg]) (fun (r : Int32) (_ : Unit) => r = (-1)) (fun _ => [oM q 0 tr mc pp num yn cg]) := by
  refine st_i (by decide) (Nat.le_of_ble_eq_true rfl) ?_
  intro p e s m args below meth c A Q E ret Z ls hl
  have hx := E.1.1
  have hb := E.1.2.1
  have hl : lv_has ls 2 [(0, .ref (q 0)), (1, .int x1)] := hl
  refine lv_aload_n hx hb dX6_loss_0 rfl (lv_at hl 0 rfl) ?_
  refine lv_iconst (v := nI 0) hx hb dX6_loss_1 (by decide) ?_
  refine pF_X6_66 (w1 := [oM q 0 tr mc pp num yn cg]) E Z dX6_loss_2 0 rfl (Nat.le_of_ble_eq_true rfl) rfl (fun H locs Z => ?_)
  refine lv_iload_n hx hb dX6_loss_5 rfl (lv_at hl 1 rfl) ?_
  refine lv_iconst (v := nI 0) hx hb dX6_loss_6 (by decide) ?_
  refine lv_iconst (v := nI 2) hx hb dX6_loss_7 (by decide) ?_
  refine c_Si (As := [.int x1, .int (nI 0), .int (nI 2)]) (rest := []) (w2 := fun _ => [oM q 0 tr mc pp num yn cg]) E Z (k_X6_in l D cA x1 (nI 0) (nI 2) ) ws_X6_72 ⟨rfl, rfl, Nat.le_of_ble_eq_true rfl, Nat.le_of_ble_eq_true rfl⟩ [] rfl rfl (fun _ => rfl) (fun _ => rfl) rfl hl.1 rfl (Nat.le_of_ble_eq_true rfl) dX6_loss_8 ⟨Nat.zero_le _, Nat.zero_le _⟩ (fun r8 _ H locs hp8 Z => ?_)
  subst hp8
  refine b_if_ne (tgt := 16) hx hb dX6_loss_11 (by decide) (fun c11 => ?_) (fun c11 => ?_)
  · exact absurd c11 hbad
  · refine lv_iconst (v := (-1)) hx hb dX6_loss_14 (by decide) ?_
    exact ret () Z dX6_loss_15 rfl rfl
abbrev rm_k_X6_loss : Room := { frames := 5, cells := 0, slots := 0, locals := 120 }
set_option maxHeartbeats 4000000 in
set_option maxRecDepth 100000 in
theorem k_X6_loss (l : Launch) (D : va_G) (cA : ClassId) (q : Nat → Nat) (tr : Int64) (mc : Nat) (pp : Nat) (num : Nat) (yn : Nat) (cg : Nat) (sets : Nat → Nat) (ch : Nat) (amts : Nat → Nat) (kd : Nat) (hP : pp ≤ 8) (hs : ∀ j, sets j < 2 ^ mc) (hM : mc ≤ 7) (hnum : num < 2 ^ (2 * mc)) (hkd : kd < 3) : Cti l yX6_loss cX6_loss 2 (some .int) rm_k_X6_loss D cA [.ref (q 0), .int (nI kd)] ([oM q 0 tr mc pp num yn cg, aN cA (q 1) 16 sets, aN cA (q 2) 8 (bt ch), aN cA (q 3) 8 amts]) (fun (r : Int32) (_ : Unit) => r = nI (lossM mc num pp sets amts ch kd)) (fun _ => [oM q 0 (tr + (nI (trk kd)).toInt64) mc pp num yn cg, aN cA (q 1) 16 sets, aN cA (q 2) 8 (bt ch), aN cA (q 3) 8 amts]) := by
  refine st_i (by decide) (Nat.le_of_ble_eq_true rfl) ?_
  intro p e s m args below meth c A Q E ret Z ls hl
  have hx := E.1.1
  have hb := E.1.2.1
  have hl : lv_has ls 2 [(0, .ref (q 0)), (1, .int (nI kd))] := hl
  have h14 : 2 ^ (2 * mc) ≤ 2 ^ 14 := Nat.pow_le_pow_right (by decide) (by omega)
  refine lv_aload_n hx hb dX6_loss_0 rfl (lv_at hl 0 rfl) ?_
  refine lv_iconst (v := nI 0) hx hb dX6_loss_1 (by decide) ?_
  refine pF_X6_66 (w1 := [oM q 0 tr mc pp num yn cg, aN cA (q 1) 16 sets, aN cA (q 2) 8 (bt ch), aN cA (q 3) 8 amts]) E Z dX6_loss_2 0 rfl (Nat.le_of_ble_eq_true rfl) rfl (fun H locs Z => ?_)
  refine lv_iload_n hx hb dX6_loss_5 rfl (lv_at hl 1 rfl) ?_
  refine lv_iconst (v := nI 0) hx hb dX6_loss_6 (by decide) ?_
  refine lv_iconst (v := nI 2) hx hb dX6_loss_7 (by decide) ?_
  refine c_Si (As := [.int (nI kd), .int (nI 0), .int (nI 2)]) (rest := []) (w2 := fun _ => [oM q 0 tr mc pp num yn cg, aN cA (q 1) 16 sets, aN cA (q 2) 8 (bt ch), aN cA (q 3) 8 amts]) E Z (k_X6_in l D cA (nI kd) (nI 0) (nI 2) ) ws_X6_72 ⟨rfl, rfl, Nat.le_of_ble_eq_true rfl, Nat.le_of_ble_eq_true rfl⟩ [] rfl rfl (fun _ => rfl) (fun _ => rfl) rfl hl.1 rfl (Nat.le_of_ble_eq_true rfl) dX6_loss_8 ⟨Nat.zero_le _, Nat.zero_le _⟩ (fun r8 _ H locs hp8 Z => ?_)
  subst hp8
  refine b_if_ne (tgt := 16) hx hb dX6_loss_11 (by decide) (fun c11 => ?_) (fun c11 => ?_)
  · refine lv_aload_n hx hb dX6_loss_16 rfl (lv_at hl 0 rfl) ?_
    refine lv_dup hx hb dX6_loss_17 rfl ?_
    refine gF_X6_107 E Z dX6_loss_18 0 rfl rfl ?_
    refine lv_iload_n hx hb dX6_loss_21 rfl (lv_at hl 1 rfl) ?_
    refine n_if_ne (tgt := 29) hx hb dX6_loss_22 (by decide) (by omega) (fun c22 => ?_) (fun c22 => ?_)
    · refine lv_iload_n hx hb dX6_loss_29 rfl (lv_at hl 1 rfl) ?_
      refine lv_iconst (v := nI 1) hx hb dX6_loss_30 (by decide) ?_
      refine n_icmp_ne (tgt := 40) hx hb dX6_loss_31 (by decide) (by omega) (by omega) (fun c31 => ?_) (fun c31 => ?_)
      · refine lv_ldc2 (v := 111) hx hb E.1.2.2.2.1 (E.1.2.2.2.2 _ mKL_X6_113) dX6_loss_40 ?_
        refine lv_ladd hx hb dX6_loss_43 ?_
        refine pF_X6_107 (w1 := [oM q 0 (tr + 111) mc pp num yn cg, aN cA (q 1) 16 sets, aN cA (q 2) 8 (bt ch), aN cA (q 3) 8 amts]) E Z dX6_loss_44 0 rfl (Nat.le_of_ble_eq_true rfl) rfl (fun H locs Z => ?_)
        replace Z : Wd D A s ([oM q 0 (tr + (nI (trk kd)).toInt64) mc pp num yn cg, aN cA (q 1) 16 sets, aN cA (q 2) 8 (bt ch), aN cA (q 3) 8 amts]) _ _ := Z.to (by rw [show kd = 2 by omega, trk2])
        refine lv_aload_n hx hb dX6_loss_47 rfl (lv_at hl 0 rfl) ?_
        refine lv_aload_n hx hb dX6_loss_48 rfl (lv_at hl 0 rfl) ?_
        refine gF_X6_69 E Z dX6_loss_49 0 rfl rfl ?_
        refine lv_iload_n hx hb dX6_loss_52 rfl (lv_at hl 1 rfl) ?_
        refine c_Vi (As := [.int (nI num), .int (nI kd)]) (rest := []) (w2 := fun _ => [oM q 0 (tr + (nI (trk kd)).toInt64) mc pp num yn cg, aN cA (q 1) 16 sets, aN cA (q 2) 8 (bt ch), aN cA (q 3) 8 amts]) E Z (k_X6_lossOf l D cA q (tr + (nI (trk kd)).toInt64) mc pp num yn cg sets ch amts num kd (by first | assumption | omega) (by first | assumption | omega) (by first | assumption | omega) (by first | assumption | omega) (by first | assumption | omega)) wv_X6_115 ⟨rfl, rfl, Nat.le_of_ble_eq_true rfl, Nat.le_of_ble_eq_true rfl⟩ [0, 1, 2, 3] rfl rfl rfl rfl (q0 := 0) rfl (fun _ => rfl) (fun _ => rfl) rfl hl.1 rfl (Nat.le_of_ble_eq_true rfl) dX6_loss_53 ⟨Nat.zero_le _, Nat.zero_le _⟩ (fun r53 _ H locs hp53 Z => ?_)
        subst hp53
        exact ret () Z dX6_loss_56 rfl rfl
      · refine lv_ldc2 (v := 11) hx hb E.1.2.2.2.1 (E.1.2.2.2.2 _ mKL_X6_111) dX6_loss_34 ?_
        refine lv_goto (tgt := 43) hx hb dX6_loss_37 (by decide) ?_
        refine lv_ladd hx hb dX6_loss_43 ?_
        refine pF_X6_107 (w1 := [oM q 0 (tr + 11) mc pp num yn cg, aN cA (q 1) 16 sets, aN cA (q 2) 8 (bt ch), aN cA (q 3) 8 amts]) E Z dX6_loss_44 0 rfl (Nat.le_of_ble_eq_true rfl) rfl (fun H locs Z => ?_)
        replace Z : Wd D A s ([oM q 0 (tr + (nI (trk kd)).toInt64) mc pp num yn cg, aN cA (q 1) 16 sets, aN cA (q 2) 8 (bt ch), aN cA (q 3) 8 amts]) _ _ := Z.to (by rw [c31, trk1])
        refine lv_aload_n hx hb dX6_loss_47 rfl (lv_at hl 0 rfl) ?_
        refine lv_aload_n hx hb dX6_loss_48 rfl (lv_at hl 0 rfl) ?_
        refine gF_X6_69 E Z dX6_loss_49 0 rfl rfl ?_
        refine lv_iload_n hx hb dX6_loss_52 rfl (lv_at hl 1 rfl) ?_
        refine c_Vi (As := [.int (nI num), .int (nI kd)]) (rest := []) (w2 := fun _ => [oM q 0 (tr + (nI (trk kd)).toInt64) mc pp num yn cg, aN cA (q 1) 16 sets, aN cA (q 2) 8 (bt ch), aN cA (q 3) 8 amts]) E Z (k_X6_lossOf l D cA q (tr + (nI (trk kd)).toInt64) mc pp num yn cg sets ch amts num kd (by first | assumption | omega) (by first | assumption | omega) (by first | assumption | omega) (by first | assumption | omega) (by first | assumption | omega)) wv_X6_115 ⟨rfl, rfl, Nat.le_of_ble_eq_true rfl, Nat.le_of_ble_eq_true rfl⟩ [0, 1, 2, 3] rfl rfl rfl rfl (q0 := 0) rfl (fun _ => rfl) (fun _ => rfl) rfl hl.1 rfl (Nat.le_of_ble_eq_true rfl) dX6_loss_53 ⟨Nat.zero_le _, Nat.zero_le _⟩ (fun r53 _ H locs hp53 Z => ?_)
        subst hp53
        exact ret () Z dX6_loss_56 rfl rfl
    · refine lv_lconst (v := 1) hx hb dX6_loss_25 (by decide) ?_
      refine lv_goto (tgt := 43) hx hb dX6_loss_26 (by decide) ?_
      refine lv_ladd hx hb dX6_loss_43 ?_
      refine pF_X6_107 (w1 := [oM q 0 (tr + 1) mc pp num yn cg, aN cA (q 1) 16 sets, aN cA (q 2) 8 (bt ch), aN cA (q 3) 8 amts]) E Z dX6_loss_44 0 rfl (Nat.le_of_ble_eq_true rfl) rfl (fun H locs Z => ?_)
      replace Z : Wd D A s ([oM q 0 (tr + (nI (trk kd)).toInt64) mc pp num yn cg, aN cA (q 1) 16 sets, aN cA (q 2) 8 (bt ch), aN cA (q 3) 8 amts]) _ _ := Z.to (by rw [c22, trk0])
      refine lv_aload_n hx hb dX6_loss_47 rfl (lv_at hl 0 rfl) ?_
      refine lv_aload_n hx hb dX6_loss_48 rfl (lv_at hl 0 rfl) ?_
      refine gF_X6_69 E Z dX6_loss_49 0 rfl rfl ?_
      refine lv_iload_n hx hb dX6_loss_52 rfl (lv_at hl 1 rfl) ?_
      refine c_Vi (As := [.int (nI num), .int (nI kd)]) (rest := []) (w2 := fun _ => [oM q 0 (tr + (nI (trk kd)).toInt64) mc pp num yn cg, aN cA (q 1) 16 sets, aN cA (q 2) 8 (bt ch), aN cA (q 3) 8 amts]) E Z (k_X6_lossOf l D cA q (tr + (nI (trk kd)).toInt64) mc pp num yn cg sets ch amts num kd (by first | assumption | omega) (by first | assumption | omega) (by first | assumption | omega) (by first | assumption | omega) (by first | assumption | omega)) wv_X6_115 ⟨rfl, rfl, Nat.le_of_ble_eq_true rfl, Nat.le_of_ble_eq_true rfl⟩ [0, 1, 2, 3] rfl rfl rfl rfl (q0 := 0) rfl (fun _ => rfl) (fun _ => rfl) rfl hl.1 rfl (Nat.le_of_ble_eq_true rfl) dX6_loss_53 ⟨Nat.zero_le _, Nat.zero_le _⟩ (fun r53 _ H locs hp53 Z => ?_)
      subst hp53
      exact ret () Z dX6_loss_56 rfl rfl
  · exact absurd (inr_ok (by omega) (by omega) (by omega)) c11
abbrev rm_k_X6_best_bad : Room := { frames := 1, cells := 0, slots := 0, locals := 22 }
set_option maxHeartbeats 4000000 in
set_option maxRecDepth 100000 in
theorem k_X6_best_bad (l : Launch) (D : va_G) (cA : ClassId) (q : Nat → Nat) (tr : Int64) (mc : Nat) (pp : Nat) (num : Nat) (yn : Nat) (cg : Nat) (x1 : Int32) (x2 : Int32) (x3 : Int32) (hbad : ¬ ((nI 0 ≤ x1 ∧ x1 ≤ nI 2) ∧ (nI 1 ≤ x2 ∧ x2 ≤ nI 7) ∧ (nI 0 ≤ x3 ∧ x3 ≤ nI 1))) : Cti l yX6_best cX6_best 8 (some .int) rm_k_X6_best_bad D cA [.ref (q 0), .int x1, .int x2, .int x3] ([oM q 0 tr mc pp num yn cg]) (fun (r : Int32) (_ : Unit) => r = (-1)) (fun _ => [oM q 0 tr mc pp num yn cg]) := by
  refine st_i (by decide) (Nat.le_of_ble_eq_true rfl) ?_
  intro p e s m args below meth c A Q E ret Z ls hl
  have hx := E.1.1
  have hb := E.1.2.1
  have hl : lv_has ls 8 [(0, .ref (q 0)), (1, .int x1), (2, .int x2), (3, .int x3)] := hl
  refine lv_aload_n hx hb dX6_best_0 rfl (lv_at hl 0 rfl) ?_
  refine lv_iconst (v := nI 0) hx hb dX6_best_1 (by decide) ?_
  refine pF_X6_66 (w1 := [oM q 0 tr mc pp num yn cg]) E Z dX6_best_2 0 rfl (Nat.le_of_ble_eq_true rfl) rfl (fun H locs Z => ?_)
  refine lv_iload_n hx hb dX6_best_5 rfl (lv_at hl 1 rfl) ?_
  refine lv_iconst (v := nI 0) hx hb dX6_best_6 (by decide) ?_
  refine lv_iconst (v := nI 2) hx hb dX6_best_7 (by decide) ?_
  refine c_Si (As := [.int x1, .int (nI 0), .int (nI 2)]) (rest := []) (w2 := fun _ => [oM q 0 tr mc pp num yn cg]) E Z (k_X6_in l D cA x1 (nI 0) (nI 2) ) ws_X6_72 ⟨rfl, rfl, Nat.le_of_ble_eq_true rfl, Nat.le_of_ble_eq_true rfl⟩ [] rfl rfl (fun _ => rfl) (fun _ => rfl) rfl hl.1 rfl (Nat.le_of_ble_eq_true rfl) dX6_best_8 ⟨Nat.zero_le _, Nat.zero_le _⟩ (fun r8 _ H locs hp8 Z => ?_)
  subst hp8
  refine b_if_eq (tgt := 33) hx hb dX6_best_11 (by decide) (fun c11 => ?_) (fun c11 => ?_)
  · refine lv_iconst (v := (-1)) hx hb dX6_best_33 (by decide) ?_
    exact ret () Z dX6_best_34 rfl rfl
  · refine lv_iload_n hx hb dX6_best_14 rfl (lv_at hl 2 rfl) ?_
    refine lv_iconst (v := nI 1) hx hb dX6_best_15 (by decide) ?_
    refine lv_bipush (v := nI 7) hx hb dX6_best_16 (by decide) ?_
    refine c_Si (As := [.int x2, .int (nI 1), .int (nI 7)]) (rest := []) (w2 := fun _ => [oM q 0 tr mc pp num yn cg]) E Z (k_X6_in l D cA x2 (nI 1) (nI 7) ) ws_X6_72 ⟨rfl, rfl, Nat.le_of_ble_eq_true rfl, Nat.le_of_ble_eq_true rfl⟩ [] rfl rfl (fun _ => rfl) (fun _ => rfl) rfl hl.1 rfl (Nat.le_of_ble_eq_true rfl) dX6_best_18 ⟨Nat.zero_le _, Nat.zero_le _⟩ (fun r18 _ H locs hp18 Z => ?_)
    subst hp18
    refine b_if_eq (tgt := 33) hx hb dX6_best_21 (by decide) (fun c21 => ?_) (fun c21 => ?_)
    · refine lv_iconst (v := (-1)) hx hb dX6_best_33 (by decide) ?_
      exact ret () Z dX6_best_34 rfl rfl
    · refine lv_iload_n hx hb dX6_best_24 rfl (lv_at hl 3 rfl) ?_
      refine lv_iconst (v := nI 0) hx hb dX6_best_25 (by decide) ?_
      refine lv_iconst (v := nI 1) hx hb dX6_best_26 (by decide) ?_
      refine c_Si (As := [.int x3, .int (nI 0), .int (nI 1)]) (rest := []) (w2 := fun _ => [oM q 0 tr mc pp num yn cg]) E Z (k_X6_in l D cA x3 (nI 0) (nI 1) ) ws_X6_72 ⟨rfl, rfl, Nat.le_of_ble_eq_true rfl, Nat.le_of_ble_eq_true rfl⟩ [] rfl rfl (fun _ => rfl) (fun _ => rfl) rfl hl.1 rfl (Nat.le_of_ble_eq_true rfl) dX6_best_27 ⟨Nat.zero_le _, Nat.zero_le _⟩ (fun r27 _ H locs hp27 Z => ?_)
      subst hp27
      refine b_if_ne (tgt := 35) hx hb dX6_best_30 (by decide) (fun c30 => ?_) (fun c30 => ?_)
      · exact absurd ⟨c11, c21, c30⟩ hbad
      · refine lv_iconst (v := (-1)) hx hb dX6_best_33 (by decide) ?_
        exact ret () Z dX6_best_34 rfl rfl
abbrev rm_k_X6_best : Room := { frames := 5, cells := 0, slots := 0, locals := 120 }
set_option maxHeartbeats 4000000 in
set_option maxRecDepth 100000 in
theorem k_X6_best (l : Launch) (D : va_G) (cA : ClassId) (q : Nat → Nat) (tr : Int64) (mc : Nat) (pp : Nat) (num : Nat) (yn : Nat) (cg : Nat) (sets : Nat → Nat) (ch : Nat) (amts : Nat → Nat) (kd : Nat) (L : Nat) (wh : Nat) (hP : pp ≤ 8) (hs : ∀ j, sets j < 2 ^ mc) (hm1 : 1 ≤ mc) (hM : mc ≤ 7) (ha10 : ∀ j, amts j < 10) (hkd : kd < 3) (hL : 1 ≤ L ∧ L ≤ 7) (hw : wh < 2) : Cti l yX6_best cX6_best 8 (some .int) rm_k_X6_best D cA [.ref (q 0), .int (nI kd), .int (nI L), .int (nI wh)] ([oM q 0 tr mc pp num yn cg, aN cA (q 1) 16 sets, aN cA (q 2) 8 (bt ch), aN cA (q 3) 8 amts]) (fun (r : Int32) (_ : Unit) => r = (aBestM mc pp sets amts ch kd L wh)) (fun _ => [oM q 0 tr mc pp num yn cg, aN cA (q 1) 16 sets, aN cA (q 2) 8 (bt ch), aN cA (q 3) 8 amts]) := by
  refine st_i (by decide) (Nat.le_of_ble_eq_true rfl) ?_
  intro p e s m args below meth c A Q E ret Z ls hl
  have hx := E.1.1
  have hb := E.1.2.1
  have hl : lv_has ls 8 [(0, .ref (q 0)), (1, .int (nI kd)), (2, .int (nI L)), (3, .int (nI wh))] := hl
  have h14 : 2 ^ (2 * mc) ≤ 2 ^ 14 := Nat.pow_le_pow_right (by decide) (by omega)
  obtain ⟨E4, hE⟩ : ∃ x, x = 2 ^ (2 * mc) := ⟨_, rfl⟩
  rw [← hE] at h14
  refine lv_aload_n hx hb dX6_best_0 rfl (lv_at hl 0 rfl) ?_
  refine lv_iconst (v := nI 0) hx hb dX6_best_1 (by decide) ?_
  refine pF_X6_66 (w1 := [oM q 0 tr mc pp num yn cg, aN cA (q 1) 16 sets, aN cA (q 2) 8 (bt ch), aN cA (q 3) 8 amts]) E Z dX6_best_2 0 rfl (Nat.le_of_ble_eq_true rfl) rfl (fun H locs Z => ?_)
  refine lv_iload_n hx hb dX6_best_5 rfl (lv_at hl 1 rfl) ?_
  refine lv_iconst (v := nI 0) hx hb dX6_best_6 (by decide) ?_
  refine lv_iconst (v := nI 2) hx hb dX6_best_7 (by decide) ?_
  refine c_Si (As := [.int (nI kd), .int (nI 0), .int (nI 2)]) (rest := []) (w2 := fun _ => [oM q 0 tr mc pp num yn cg, aN cA (q 1) 16 sets, aN cA (q 2) 8 (bt ch), aN cA (q 3) 8 amts]) E Z (k_X6_in l D cA (nI kd) (nI 0) (nI 2) ) ws_X6_72 ⟨rfl, rfl, Nat.le_of_ble_eq_true rfl, Nat.le_of_ble_eq_true rfl⟩ [] rfl rfl (fun _ => rfl) (fun _ => rfl) rfl hl.1 rfl (Nat.le_of_ble_eq_true rfl) dX6_best_8 ⟨Nat.zero_le _, Nat.zero_le _⟩ (fun r8 _ H locs hp8 Z => ?_)
  subst hp8
  refine b_if_eq (tgt := 33) hx hb dX6_best_11 (by decide) (fun c11 => ?_) (fun c11 => ?_)
  · exact absurd (inr_ok (by omega) (by omega) (by omega)) c11
  · refine lv_iload_n hx hb dX6_best_14 rfl (lv_at hl 2 rfl) ?_
    refine lv_iconst (v := nI 1) hx hb dX6_best_15 (by decide) ?_
    refine lv_bipush (v := nI 7) hx hb dX6_best_16 (by decide) ?_
    refine c_Si (As := [.int (nI L), .int (nI 1), .int (nI 7)]) (rest := []) (w2 := fun _ => [oM q 0 tr mc pp num yn cg, aN cA (q 1) 16 sets, aN cA (q 2) 8 (bt ch), aN cA (q 3) 8 amts]) E Z (k_X6_in l D cA (nI L) (nI 1) (nI 7) ) ws_X6_72 ⟨rfl, rfl, Nat.le_of_ble_eq_true rfl, Nat.le_of_ble_eq_true rfl⟩ [] rfl rfl (fun _ => rfl) (fun _ => rfl) rfl hl.1 rfl (Nat.le_of_ble_eq_true rfl) dX6_best_18 ⟨Nat.zero_le _, Nat.zero_le _⟩ (fun r18 _ H locs hp18 Z => ?_)
    subst hp18
    refine b_if_eq (tgt := 33) hx hb dX6_best_21 (by decide) (fun c21 => ?_) (fun c21 => ?_)
    · exact absurd (inr_ok (by omega) (by omega) (by omega)) c21
    · refine lv_iload_n hx hb dX6_best_24 rfl (lv_at hl 3 rfl) ?_
      refine lv_iconst (v := nI 0) hx hb dX6_best_25 (by decide) ?_
      refine lv_iconst (v := nI 1) hx hb dX6_best_26 (by decide) ?_
      refine c_Si (As := [.int (nI wh), .int (nI 0), .int (nI 1)]) (rest := []) (w2 := fun _ => [oM q 0 tr mc pp num yn cg, aN cA (q 1) 16 sets, aN cA (q 2) 8 (bt ch), aN cA (q 3) 8 amts]) E Z (k_X6_in l D cA (nI wh) (nI 0) (nI 1) ) ws_X6_72 ⟨rfl, rfl, Nat.le_of_ble_eq_true rfl, Nat.le_of_ble_eq_true rfl⟩ [] rfl rfl (fun _ => rfl) (fun _ => rfl) rfl hl.1 rfl (Nat.le_of_ble_eq_true rfl) dX6_best_27 ⟨Nat.zero_le _, Nat.zero_le _⟩ (fun r27 _ H locs hp27 Z => ?_)
      subst hp27
      refine b_if_ne (tgt := 35) hx hb dX6_best_30 (by decide) (fun c30 => ?_) (fun c30 => ?_)
      · refine lv_bipush (v := (-9)) hx hb dX6_best_35 (by decide) ?_
        refine lv_istore (lv' := [(4, .int (-9)), (0, .ref (q 0)), (1, .int (nI kd)), (2, .int (nI L)), (3, .int (nI wh))]) hx hb dX6_best_37 hl (by decide) rfl (fun ls hl => ?_)
        refine lv_iconst (v := nI 0) hx hb dX6_best_39 (by decide) ?_
        refine lv_istore (lv' := [(5, .int (nI 0)), (4, .int (-9)), (0, .ref (q 0)), (1, .int (nI kd)), (2, .int (nI L)), (3, .int (nI wh))]) hx hb dX6_best_40 hl (by decide) rfl (fun ls hl => ?_)
        refine lv_iconst (v := nI 0) hx hb dX6_best_42 (by decide) ?_
        refine lv_istore (lv' := [(6, .int (nI 0)), (5, .int (nI 0)), (4, .int (-9)), (0, .ref (q 0)), (1, .int (nI kd)), (2, .int (nI L)), (3, .int (nI wh))]) hx hb dX6_best_43 hl (by decide) rfl (fun ls hl => ?_)
        have L45 : ∀ (n45 g : Nat), E4 + 1 ≤ g + n45 → g ≤ E4 → ∀ (H : Heap) (locs : List Loc), Wd D A s ([oM q 0 tr mc pp num yn cg, aN cA (q 1) 16 sets, aN cA (q 2) 8 (bt ch), aN cA (q 3) 8 amts]) H locs → ∀ (ls : Array Slot), lv_has ls 8 [(0, .ref (q 0)), (1, .int (nI kd)), (2, .int (nI L)), (3, .int (nI wh)), (4, .int ((bm mc pp sets amts ch kd L g).1)), (5, .int (nI ((bm mc pp sets amts ch kd L g).2))), (6, .int (nI g))] → W p l e rm_k_X6_best s m args below meth c H locs 0 0 Q (F0 m 45 ls []) := by
          intro n45
          induction n45 with
          | zero => exact fun g h1 h2 => absurd h1 (by omega)
          | succ n45 ih45 =>
            intro g hn45 hi45  H locs Z ls hl
            refine lv_iload hx hb dX6_best_45 (lv_at hl 6 rfl) ?_
            refine lv_aload_n hx hb dX6_best_47 rfl (lv_at hl 0 rfl) ?_
            refine gF_X6_7 E Z dX6_best_48 0 rfl rfl ?_
            refine c_Si (As := [.int (nI mc)]) (rest := [.int (nI g)]) (w2 := fun _ => [oM q 0 tr mc pp num yn cg, aN cA (q 1) 16 sets, aN cA (q 2) 8 (bt ch), aN cA (q 3) 8 amts]) E Z (k_X6_power l D cA mc (by first | assumption | omega)) ws_X6_87 ⟨rfl, rfl, Nat.le_of_ble_eq_true rfl, Nat.le_of_ble_eq_true rfl⟩ [] rfl rfl (fun _ => rfl) (fun _ => rfl) rfl hl.1 rfl (Nat.le_of_ble_eq_true rfl) dX6_best_51 ⟨Nat.zero_le _, Nat.zero_le _⟩ (fun r51 _ H locs hp51 Z => ?_)
            subst hp51
            refine r_top (y := nI E4) (congrArg nI hE.symm) ?_
            refine n_icmp_ge (tgt := 113) hx hb dX6_best_54 (by decide) (by omega) (by omega) (fun c54 => ?_) (fun c54 => ?_)
            · obtain rfl : E4 = g := by omega
              refine lv_iload hx hb dX6_best_113 (lv_at hl 4 rfl) ?_
              refine lv_bipush (v := (-9)) hx hb dX6_best_115 (by decide) ?_
              refine lv_icmp_ne (tgt := 125) hx hb dX6_best_117 (by decide) (fun c117 => ?_) (fun c117 => ?_)
              · refine lv_iload_n hx hb dX6_best_125 rfl (lv_at hl 3 rfl) ?_
                refine n_if_ne (tgt := 134) hx hb dX6_best_126 (by decide) (by omega) (fun c126 => ?_) (fun c126 => ?_)
                · refine lv_iload hx hb dX6_best_134 (lv_at hl 5 rfl) ?_
                  exact ret () Z dX6_best_136 rfl (by unfold aBestM; rw [← hE]; exact ((cnd_f c117).trans (if_neg c126)).symm)
                · refine lv_iload hx hb dX6_best_129 (lv_at hl 4 rfl) ?_
                  refine lv_goto (tgt := 136) hx hb dX6_best_131 (by decide) ?_
                  exact ret () Z dX6_best_136 rfl (by unfold aBestM; rw [← hE]; exact ((cnd_f c117).trans (if_pos c126)).symm)
              · refine lv_bipush (v := (-2)) hx hb dX6_best_120 (by decide) ?_
                refine lv_goto (tgt := 136) hx hb dX6_best_122 (by decide) ?_
                exact ret () Z dX6_best_136 rfl (by unfold aBestM; rw [← hE]; exact (cnd_t c117).symm)
            · refine lv_aload_n hx hb dX6_best_57 rfl (lv_at hl 0 rfl) ?_
              refine lv_iload hx hb dX6_best_58 (lv_at hl 6 rfl) ?_
              refine c_Vi (As := [.int (nI g)]) (rest := []) (w2 := fun _ => [oM q 0 tr mc pp num yn cg, aN cA (q 1) 16 sets, aN cA (q 2) 8 (bt ch), aN cA (q 3) 8 amts]) E Z (k_X6_isPlain l D cA q tr mc pp num yn cg g (by first | assumption | omega) (by first | assumption | omega)) wv_X6_118 ⟨rfl, rfl, Nat.le_of_ble_eq_true rfl, Nat.le_of_ble_eq_true rfl⟩ [0] rfl rfl rfl rfl (q0 := 0) rfl (fun _ => rfl) (fun _ => rfl) rfl hl.1 rfl (Nat.le_of_ble_eq_true rfl) dX6_best_60 ⟨Nat.zero_le _, Nat.zero_le _⟩ (fun r60 _ H locs hp60 Z => ?_)
              subst hp60
              refine b_if_eq (tgt := 107) hx hb dX6_best_63 (by decide) (fun c63 => ?_) (fun c63 => ?_)
              · replace hl : lv_has ls 8 [(0, .ref (q 0)), (1, .int (nI kd)), (2, .int (nI L)), (3, .int (nI wh)), (4, .int ((bm mc pp sets amts ch kd L (g + 1)).1)), (5, .int (nI ((bm mc pp sets amts ch kd L g).2))), (6, .int (nI g))] := by have e9 : bm mc pp sets amts ch kd L (g + 1) = bm mc pp sets amts ch kd L g := cnd_f (fun h => c63 h.1); rw [e9]; exact hl
                replace hl : lv_has ls 8 [(0, .ref (q 0)), (1, .int (nI kd)), (2, .int (nI L)), (3, .int (nI wh)), (4, .int ((bm mc pp sets amts ch kd L (g + 1)).1)), (5, .int (nI ((bm mc pp sets amts ch kd L (g + 1)).2))), (6, .int (nI g))] := by have e9 : bm mc pp sets amts ch kd L (g + 1) = bm mc pp sets amts ch kd L g := cnd_f (fun h => c63 h.1); rw [e9]; rw [e9] at hl; exact hl
                refine lv_iinc (v := nI (g + 1)) (lv' := [(6, .int (nI (g + 1))), (0, .ref (q 0)), (1, .int (nI kd)), (2, .int (nI L)), (3, .int (nI wh)), (4, .int ((bm mc pp sets amts ch kd L (g + 1)).1)), (5, .int (nI ((bm mc pp sets amts ch kd L (g + 1)).2)))]) hx hb dX6_best_107 hl (k := 6) rfl (n_inc _ _ (by decide)) (by decide) rfl (fun ls hl => ?_)
                refine lv_goto (tgt := 45) hx hb dX6_best_110 (by decide) ?_
                exact ih45 (g + 1) (by omega) (by omega)   _ _ Z ls (lv_sub hl [1, 2, 3, 4, 5, 6, 0] rfl)
              · refine lv_aload_n hx hb dX6_best_66 rfl (lv_at hl 0 rfl) ?_
                refine lv_iload hx hb dX6_best_67 (lv_at hl 6 rfl) ?_
                refine lv_iload_n hx hb dX6_best_69 rfl (lv_at hl 2 rfl) ?_
                refine c_Vi (As := [.int (nI g), .int (nI L)]) (rest := []) (w2 := fun _ => [oM q 0 tr mc pp num yn cg, aN cA (q 1) 16 sets, aN cA (q 2) 8 (bt ch), aN cA (q 3) 8 amts]) E Z (k_X6_isWithin l D cA q tr mc pp num yn cg g L (by first | assumption | omega) (by first | assumption | omega) (by first | assumption | omega)) wv_X6_121 ⟨rfl, rfl, Nat.le_of_ble_eq_true rfl, Nat.le_of_ble_eq_true rfl⟩ [0] rfl rfl rfl rfl (q0 := 0) rfl (fun _ => rfl) (fun _ => rfl) rfl hl.1 rfl (Nat.le_of_ble_eq_true rfl) dX6_best_70 ⟨Nat.zero_le _, Nat.zero_le _⟩ (fun r70 _ H locs hp70 Z => ?_)
                subst hp70
                refine b_if_eq (tgt := 107) hx hb dX6_best_73 (by decide) (fun c73 => ?_) (fun c73 => ?_)
                · replace hl : lv_has ls 8 [(0, .ref (q 0)), (1, .int (nI kd)), (2, .int (nI L)), (3, .int (nI wh)), (4, .int ((bm mc pp sets amts ch kd L (g + 1)).1)), (5, .int (nI ((bm mc pp sets amts ch kd L g).2))), (6, .int (nI g))] := by have e9 : bm mc pp sets amts ch kd L (g + 1) = bm mc pp sets amts ch kd L g := cnd_f (fun h => c73 h.2.1); rw [e9]; exact hl
                  replace hl : lv_has ls 8 [(0, .ref (q 0)), (1, .int (nI kd)), (2, .int (nI L)), (3, .int (nI wh)), (4, .int ((bm mc pp sets amts ch kd L (g + 1)).1)), (5, .int (nI ((bm mc pp sets amts ch kd L (g + 1)).2))), (6, .int (nI g))] := by have e9 : bm mc pp sets amts ch kd L (g + 1) = bm mc pp sets amts ch kd L g := cnd_f (fun h => c73 h.2.1); rw [e9]; rw [e9] at hl; exact hl
                  refine lv_iinc (v := nI (g + 1)) (lv' := [(6, .int (nI (g + 1))), (0, .ref (q 0)), (1, .int (nI kd)), (2, .int (nI L)), (3, .int (nI wh)), (4, .int ((bm mc pp sets amts ch kd L (g + 1)).1)), (5, .int (nI ((bm mc pp sets amts ch kd L (g + 1)).2)))]) hx hb dX6_best_107 hl (k := 6) rfl (n_inc _ _ (by decide)) (by decide) rfl (fun ls hl => ?_)
                  refine lv_goto (tgt := 45) hx hb dX6_best_110 (by decide) ?_
                  exact ih45 (g + 1) (by omega) (by omega)   _ _ Z ls (lv_sub hl [1, 2, 3, 4, 5, 6, 0] rfl)
                · refine lv_aload_n hx hb dX6_best_76 rfl (lv_at hl 0 rfl) ?_
                  refine lv_iload hx hb dX6_best_77 (lv_at hl 6 rfl) ?_
                  refine lv_iload_n hx hb dX6_best_79 rfl (lv_at hl 1 rfl) ?_
                  refine c_Vi (As := [.int (nI g), .int (nI kd)]) (rest := []) (w2 := fun _ => [oM q 0 tr mc pp num yn cg, aN cA (q 1) 16 sets, aN cA (q 2) 8 (bt ch), aN cA (q 3) 8 amts]) E Z (k_X6_lossOf l D cA q tr mc pp num yn cg sets ch amts g kd (by first | assumption | omega) (by first | assumption | omega) (by first | assumption | omega) (by first | assumption | omega) (by first | assumption | omega)) wv_X6_115 ⟨rfl, rfl, Nat.le_of_ble_eq_true rfl, Nat.le_of_ble_eq_true rfl⟩ [0, 1, 2, 3] rfl rfl rfl rfl (q0 := 0) rfl (fun _ => rfl) (fun _ => rfl) rfl hl.1 rfl (Nat.le_of_ble_eq_true rfl) dX6_best_80 ⟨Nat.zero_le _, Nat.zero_le _⟩ (fun r80 _ H locs hp80 Z => ?_)
                  subst hp80
                  refine lv_istore (lv' := [(7, .int (nI (lossM mc g pp sets amts ch kd))), (0, .ref (q 0)), (1, .int (nI kd)), (2, .int (nI L)), (3, .int (nI wh)), (4, .int ((bm mc pp sets amts ch kd L g).1)), (5, .int (nI ((bm mc pp sets amts ch kd L g).2))), (6, .int (nI g))]) hx hb dX6_best_83 hl (by decide) rfl (fun ls hl => ?_)
                  refine lv_iload hx hb dX6_best_85 (lv_at hl 5 rfl) ?_
                  refine lv_bipush (v := (-9)) hx hb dX6_best_87 (by decide) ?_
                  refine lv_icmp_eq (tgt := 99) hx hb dX6_best_89 (by decide) (fun c89 => ?_) (fun c89 => ?_)
                  · refine lv_iload hx hb dX6_best_99 (lv_at hl 7 rfl) ?_
                    refine lv_istore (lv' := [(4, .int (nI g)), (7, .int (nI (lossM mc g pp sets amts ch kd))), (0, .ref (q 0)), (1, .int (nI kd)), (2, .int (nI L)), (3, .int (nI wh)), (5, .int (nI ((bm mc pp sets amts ch kd L g).2))), (6, .int (nI g))]) hx hb dX6_best_101 hl (by decide) rfl (fun ls hl => ?_)
                    refine lv_iload hx hb dX6_best_103 (lv_at hl 1 rfl) ?_
                    refine lv_istore (lv' := [(5, .int (nI (lossM mc g pp sets amts ch kd))), (4, .int (nI g)), (7, .int (nI (lossM mc g pp sets amts ch kd))), (0, .ref (q 0)), (1, .int (nI kd)), (2, .int (nI L)), (3, .int (nI wh)), (6, .int (nI g))]) hx hb dX6_best_105 hl (by decide) rfl (fun ls hl => ?_)
                    replace hl : lv_has ls 8 [(5, .int (nI (lossM mc g pp sets amts ch kd))), (4, .int ((bm mc pp sets amts ch kd L (g + 1)).1)), (7, .int (nI (lossM mc g pp sets amts ch kd))), (0, .ref (q 0)), (1, .int (nI kd)), (2, .int (nI L)), (3, .int (nI wh)), (6, .int (nI g))] := by have e9 : bm mc pp sets amts ch kd L (g + 1) = (nI g, lossM mc g pp sets amts ch kd) := cnd_t ⟨c63, c73, Or.inl c89⟩; rw [e9]; exact hl
                    replace hl : lv_has ls 8 [(5, .int (nI ((bm mc pp sets amts ch kd L (g + 1)).2))), (4, .int ((bm mc pp sets amts ch kd L (g + 1)).1)), (7, .int (nI (lossM mc g pp sets amts ch kd))), (0, .ref (q 0)), (1, .int (nI kd)), (2, .int (nI L)), (3, .int (nI wh)), (6, .int (nI g))] := by have e9 : bm mc pp sets amts ch kd L (g + 1) = (nI g, lossM mc g pp sets amts ch kd) := cnd_t ⟨c63, c73, Or.inl c89⟩; rw [e9]; rw [e9] at hl; exact hl
                    refine lv_iinc (v := nI (g + 1)) (lv' := [(6, .int (nI (g + 1))), (5, .int (nI ((bm mc pp sets amts ch kd L (g + 1)).2))), (4, .int ((bm mc pp sets amts ch kd L (g + 1)).1)), (7, .int (nI (lossM mc g pp sets amts ch kd))), (0, .ref (q 0)), (1, .int (nI kd)), (2, .int (nI L)), (3, .int (nI wh))]) hx hb dX6_best_107 hl (k := 7) rfl (n_inc _ _ (by decide)) (by decide) rfl (fun ls hl => ?_)
                    refine lv_goto (tgt := 45) hx hb dX6_best_110 (by decide) ?_
                    exact ih45 (g + 1) (by omega) (by omega)   _ _ Z ls (lv_sub hl [4, 5, 6, 7, 2, 1, 0] rfl)
                  · refine lv_iload hx hb dX6_best_92 (lv_at hl 0 rfl) ?_
                    refine lv_iload hx hb dX6_best_94 (lv_at hl 6 rfl) ?_
                    have hv := lossM_V (M := mc) (g := g) (P := pp) (sets := sets) (amts := amts) (ch := ch) hkd
                    have hv2 := lossV_le (M := mc) (g := g) (P := pp) (sets := sets) (amts := amts) (ch := ch) (kd := kd) hM hP ha10
                    have hg := bm_le (sets := sets) (ch := ch) (L := L) hM hP ha10 hkd g
                    refine n_icmp_ge (tgt := 107) hx hb dX6_best_96 (by decide) (by omega) (by omega) (fun c96 => ?_) (fun c96 => ?_)
                    · replace hl : lv_has ls 8 [(7, .int (nI (lossM mc g pp sets amts ch kd))), (0, .ref (q 0)), (1, .int (nI kd)), (2, .int (nI L)), (3, .int (nI wh)), (4, .int ((bm mc pp sets amts ch kd L (g + 1)).1)), (5, .int (nI ((bm mc pp sets amts ch kd L g).2))), (6, .int (nI g))] := by have e9 : bm mc pp sets amts ch kd L (g + 1) = bm mc pp sets amts ch kd L g := cnd_f (fun h => h.2.2.elim c89 (Nat.not_lt.mpr c96)); rw [e9]; exact hl
                      replace hl : lv_has ls 8 [(7, .int (nI (lossM mc g pp sets amts ch kd))), (0, .ref (q 0)), (1, .int (nI kd)), (2, .int (nI L)), (3, .int (nI wh)), (4, .int ((bm mc pp sets amts ch kd L (g + 1)).1)), (5, .int (nI ((bm mc pp sets amts ch kd L (g + 1)).2))), (6, .int (nI g))] := by have e9 : bm mc pp sets amts ch kd L (g + 1) = bm mc pp sets amts ch kd L g := cnd_f (fun h => h.2.2.elim c89 (Nat.not_lt.mpr c96)); rw [e9]; rw [e9] at hl; exact hl
                      refine lv_iinc (v := nI (g + 1)) (lv' := [(6, .int (nI (g + 1))), (7, .int (nI (lossM mc g pp sets amts ch kd))), (0, .ref (q 0)), (1, .int (nI kd)), (2, .int (nI L)), (3, .int (nI wh)), (4, .int ((bm mc pp sets amts ch kd L (g + 1)).1)), (5, .int (nI ((bm mc pp sets amts ch kd L (g + 1)).2)))]) hx hb dX6_best_107 hl (k := 7) rfl (n_inc _ _ (by decide)) (by decide) rfl (fun ls hl => ?_)
                      refine lv_goto (tgt := 45) hx hb dX6_best_110 (by decide) ?_
                      exact ih45 (g + 1) (by omega) (by omega)   _ _ Z ls (lv_sub hl [2, 3, 4, 5, 6, 7, 0] rfl)
                    · refine lv_iload hx hb dX6_best_99 (lv_at hl 7 rfl) ?_
                      refine lv_istore (lv' := [(4, .int (nI g)), (7, .int (nI (lossM mc g pp sets amts ch kd))), (0, .ref (q 0)), (1, .int (nI kd)), (2, .int (nI L)), (3, .int (nI wh)), (5, .int (nI ((bm mc pp sets amts ch kd L g).2))), (6, .int (nI g))]) hx hb dX6_best_101 hl (by decide) rfl (fun ls hl => ?_)
                      refine lv_iload hx hb dX6_best_103 (lv_at hl 1 rfl) ?_
                      refine lv_istore (lv' := [(5, .int (nI (lossM mc g pp sets amts ch kd))), (4, .int (nI g)), (7, .int (nI (lossM mc g pp sets amts ch kd))), (0, .ref (q 0)), (1, .int (nI kd)), (2, .int (nI L)), (3, .int (nI wh)), (6, .int (nI g))]) hx hb dX6_best_105 hl (by decide) rfl (fun ls hl => ?_)
                      replace hl : lv_has ls 8 [(5, .int (nI (lossM mc g pp sets amts ch kd))), (4, .int ((bm mc pp sets amts ch kd L (g + 1)).1)), (7, .int (nI (lossM mc g pp sets amts ch kd))), (0, .ref (q 0)), (1, .int (nI kd)), (2, .int (nI L)), (3, .int (nI wh)), (6, .int (nI g))] := by have e9 : bm mc pp sets amts ch kd L (g + 1) = (nI g, lossM mc g pp sets amts ch kd) := cnd_t ⟨c63, c73, Or.inr c96⟩; rw [e9]; exact hl
                      replace hl : lv_has ls 8 [(5, .int (nI ((bm mc pp sets amts ch kd L (g + 1)).2))), (4, .int ((bm mc pp sets amts ch kd L (g + 1)).1)), (7, .int (nI (lossM mc g pp sets amts ch kd))), (0, .ref (q 0)), (1, .int (nI kd)), (2, .int (nI L)), (3, .int (nI wh)), (6, .int (nI g))] := by have e9 : bm mc pp sets amts ch kd L (g + 1) = (nI g, lossM mc g pp sets amts ch kd) := cnd_t ⟨c63, c73, Or.inr c96⟩; rw [e9]; rw [e9] at hl; exact hl
                      refine lv_iinc (v := nI (g + 1)) (lv' := [(6, .int (nI (g + 1))), (5, .int (nI ((bm mc pp sets amts ch kd L (g + 1)).2))), (4, .int ((bm mc pp sets amts ch kd L (g + 1)).1)), (7, .int (nI (lossM mc g pp sets amts ch kd))), (0, .ref (q 0)), (1, .int (nI kd)), (2, .int (nI L)), (3, .int (nI wh))]) hx hb dX6_best_107 hl (k := 7) rfl (n_inc _ _ (by decide)) (by decide) rfl (fun ls hl => ?_)
                      refine lv_goto (tgt := 45) hx hb dX6_best_110 (by decide) ?_
                      exact ih45 (g + 1) (by omega) (by omega)   _ _ Z ls (lv_sub hl [4, 5, 6, 7, 2, 1, 0] rfl)
        exact L45 (E4 + 1) 0 (by omega) (by omega)   _ _ Z ls (lv_sub hl [3, 4, 5, 6, 2, 1, 0] rfl)
      · exact absurd (inr_ok (by omega) (by omega) (by omega)) c30
abbrev rm_k_X6_plain : Room := { frames := 2, cells := 0, slots := 0, locals := 46 }
set_option maxHeartbeats 4000000 in
set_option maxRecDepth 100000 in
theorem k_X6_plain (l : Launch) (D : va_G) (cA : ClassId) (q : Nat → Nat) (tr : Int64) (mc : Nat) (pp : Nat) (num : Nat) (yn : Nat) (cg : Nat) (hM : mc ≤ 7) (hnum : num < 2 ^ (2 * mc)) : Cti l yX6_plain cX6_plain 1 (some .int) rm_k_X6_plain D cA [.ref (q 0)] ([oM q 0 tr mc pp num yn cg]) (fun (r : Int32) (_ : Unit) => r = (bI (plain mc num))) (fun _ => [oM q 0 tr mc pp num yn cg]) := by
  refine st_i (by decide) (Nat.le_of_ble_eq_true rfl) ?_
  intro p e s m args below meth c A Q E ret Z ls hl
  have hx := E.1.1
  have hb := E.1.2.1
  have hl : lv_has ls 1 [(0, .ref (q 0))] := hl
  have h14 : 2 ^ (2 * mc) ≤ 2 ^ 14 := Nat.pow_le_pow_right (by decide) (by omega)
  refine lv_aload_n hx hb dX6_plain_0 rfl (lv_at hl 0 rfl) ?_
  refine lv_iconst (v := nI 0) hx hb dX6_plain_1 (by decide) ?_
  refine pF_X6_66 (w1 := [oM q 0 tr mc pp num yn cg]) E Z dX6_plain_2 0 rfl (Nat.le_of_ble_eq_true rfl) rfl (fun H locs Z => ?_)
  refine lv_aload_n hx hb dX6_plain_5 rfl (lv_at hl 0 rfl) ?_
  refine lv_aload_n hx hb dX6_plain_6 rfl (lv_at hl 0 rfl) ?_
  refine gF_X6_69 E Z dX6_plain_7 0 rfl rfl ?_
  refine c_Vi (As := [.int (nI num)]) (rest := []) (w2 := fun _ => [oM q 0 tr mc pp num yn cg]) E Z (k_X6_isPlain l D cA q tr mc pp num yn cg num (by first | assumption | omega) (by first | assumption | omega)) wv_X6_118 ⟨rfl, rfl, Nat.le_of_ble_eq_true rfl, Nat.le_of_ble_eq_true rfl⟩ [0] rfl rfl rfl rfl (q0 := 0) rfl (fun _ => rfl) (fun _ => rfl) rfl hl.1 rfl (Nat.le_of_ble_eq_true rfl) dX6_plain_10 ⟨Nat.zero_le _, Nat.zero_le _⟩ (fun r10 _ H locs hp10 Z => ?_)
  subst hp10
  refine b_if_eq (tgt := 20) hx hb dX6_plain_13 (by decide) (fun c13 => ?_) (fun c13 => ?_)
  · refine lv_iconst (v := nI 0) hx hb dX6_plain_20 (by decide) ?_
    exact ret () Z dX6_plain_21 rfl (nI_0.trans (bI_f c13).symm)
  · refine lv_iconst (v := nI 1) hx hb dX6_plain_16 (by decide) ?_
    refine lv_goto (tgt := 21) hx hb dX6_plain_17 (by decide) ?_
    exact ret () Z dX6_plain_21 rfl (nI_one.trans (bI_t c13).symm)
abbrev rm_k_X6_like_bad : Room := { frames := 2, cells := 0, slots := 0, locals := 43 }
set_option maxHeartbeats 4000000 in
set_option maxRecDepth 100000 in
theorem k_X6_like_bad (l : Launch) (D : va_G) (cA : ClassId) (q : Nat → Nat) (tr : Int64) (mc : Nat) (pp : Nat) (num : Nat) (yn : Nat) (cg : Nat) (x1 : Int32) (x2 : Int32) (x3 : Int32) (hm1 : 1 ≤ mc) (hbad : ¬ ((nI 0 ≤ x1 ∧ x1 ≤ nI (mc - 1)) ∧ (nI 0 ≤ x2 ∧ x2 ≤ nI (mc - 1)) ∧ (¬ x1 = x2) ∧ (nI 0 ≤ x3 ∧ x3 ≤ nI 1))) : Cti l yX6_like cX6_like 4 (some .int) rm_k_X6_like_bad D cA [.ref (q 0), .int x1, .int x2, .int x3] ([oM q 0 tr mc pp num yn cg]) (fun (r : Int32) (_ : Unit) => r = (-1)) (fun _ => [oM q 0 tr mc pp num yn cg]) := by
  refine st_i (by decide) (Nat.le_of_ble_eq_true rfl) ?_
  intro p e s m args below meth c A Q E ret Z ls hl
  have hx := E.1.1
  have hb := E.1.2.1
  have hl : lv_has ls 4 [(0, .ref (q 0)), (1, .int x1), (2, .int x2), (3, .int x3)] := hl
  refine lv_aload_n hx hb dX6_like_0 rfl (lv_at hl 0 rfl) ?_
  refine lv_iconst (v := nI 0) hx hb dX6_like_1 (by decide) ?_
  refine pF_X6_66 (w1 := [oM q 0 tr mc pp num yn cg]) E Z dX6_like_2 0 rfl (Nat.le_of_ble_eq_true rfl) rfl (fun H locs Z => ?_)
  refine lv_aload_n hx hb dX6_like_5 rfl (lv_at hl 0 rfl) ?_
  refine lv_iload_n hx hb dX6_like_6 rfl (lv_at hl 1 rfl) ?_
  refine c_Vi (As := [.int x1]) (rest := []) (w2 := fun _ => [oM q 0 tr mc pp num yn cg]) E Z (k_X6_isMachine l D cA q tr mc pp num yn cg x1 (by first | assumption | omega)) wv_X6_80 ⟨rfl, rfl, Nat.le_of_ble_eq_true rfl, Nat.le_of_ble_eq_true rfl⟩ [0] rfl rfl rfl rfl (q0 := 0) rfl (fun _ => rfl) (fun _ => rfl) rfl hl.1 rfl (Nat.le_of_ble_eq_true rfl) dX6_like_7 ⟨Nat.zero_le _, Nat.zero_le _⟩ (fun r7 _ H locs hp7 Z => ?_)
  subst hp7
  refine b_if_eq (tgt := 35) hx hb dX6_like_10 (by decide) (fun c10 => ?_) (fun c10 => ?_)
  · refine lv_iconst (v := (-1)) hx hb dX6_like_35 (by decide) ?_
    exact ret () Z dX6_like_36 rfl rfl
  · refine lv_aload_n hx hb dX6_like_13 rfl (lv_at hl 0 rfl) ?_
    refine lv_iload_n hx hb dX6_like_14 rfl (lv_at hl 2 rfl) ?_
    refine c_Vi (As := [.int x2]) (rest := []) (w2 := fun _ => [oM q 0 tr mc pp num yn cg]) E Z (k_X6_isMachine l D cA q tr mc pp num yn cg x2 (by first | assumption | omega)) wv_X6_80 ⟨rfl, rfl, Nat.le_of_ble_eq_true rfl, Nat.le_of_ble_eq_true rfl⟩ [0] rfl rfl rfl rfl (q0 := 0) rfl (fun _ => rfl) (fun _ => rfl) rfl hl.1 rfl (Nat.le_of_ble_eq_true rfl) dX6_like_15 ⟨Nat.zero_le _, Nat.zero_le _⟩ (fun r15 _ H locs hp15 Z => ?_)
    subst hp15
    refine b_if_eq (tgt := 35) hx hb dX6_like_18 (by decide) (fun c18 => ?_) (fun c18 => ?_)
    · refine lv_iconst (v := (-1)) hx hb dX6_like_35 (by decide) ?_
      exact ret () Z dX6_like_36 rfl rfl
    · refine lv_iload_n hx hb dX6_like_21 rfl (lv_at hl 1 rfl) ?_
      refine lv_iload_n hx hb dX6_like_22 rfl (lv_at hl 2 rfl) ?_
      refine lv_icmp_eq (tgt := 35) hx hb dX6_like_23 (by decide) (fun c23 => ?_) (fun c23 => ?_)
      · refine lv_iconst (v := (-1)) hx hb dX6_like_35 (by decide) ?_
        exact ret () Z dX6_like_36 rfl rfl
      · refine lv_iload_n hx hb dX6_like_26 rfl (lv_at hl 3 rfl) ?_
        refine lv_iconst (v := nI 0) hx hb dX6_like_27 (by decide) ?_
        refine lv_iconst (v := nI 1) hx hb dX6_like_28 (by decide) ?_
        refine c_Si (As := [.int x3, .int (nI 0), .int (nI 1)]) (rest := []) (w2 := fun _ => [oM q 0 tr mc pp num yn cg]) E Z (k_X6_in l D cA x3 (nI 0) (nI 1) ) ws_X6_72 ⟨rfl, rfl, Nat.le_of_ble_eq_true rfl, Nat.le_of_ble_eq_true rfl⟩ [] rfl rfl (fun _ => rfl) (fun _ => rfl) rfl hl.1 rfl (Nat.le_of_ble_eq_true rfl) dX6_like_29 ⟨Nat.zero_le _, Nat.zero_le _⟩ (fun r29 _ H locs hp29 Z => ?_)
        subst hp29
        refine b_if_ne (tgt := 37) hx hb dX6_like_32 (by decide) (fun c32 => ?_) (fun c32 => ?_)
        · exact absurd ⟨c10, c18, c23, c32⟩ hbad
        · refine lv_iconst (v := (-1)) hx hb dX6_like_35 (by decide) ?_
          exact ret () Z dX6_like_36 rfl rfl
abbrev rm_k_X6_like : Room := { frames := 2, cells := 0, slots := 0, locals := 45 }
set_option maxHeartbeats 4000000 in
set_option maxRecDepth 100000 in
theorem k_X6_like (l : Launch) (D : va_G) (cA : ClassId) (q : Nat → Nat) (tr : Int64) (mc : Nat) (pp : Nat) (num : Nat) (yn : Nat) (cg : Nat) (sets : Nat → Nat) (ch : Nat) (a : Nat) (b : Nat) (wh : Nat) (hP : pp ≤ 8) (hs : ∀ j, sets j < 2 ^ mc) (hm1 : 1 ≤ mc) (hM : mc ≤ 7) (ha : a < mc) (hb0 : b < mc) (hab : a ≠ b) (hw : wh < 2) : Cti l yX6_like cX6_like 4 (some .int) rm_k_X6_like D cA [.ref (q 0), .int (nI a), .int (nI b), .int (nI wh)] ([oM q 0 tr mc pp num yn cg, aN cA (q 1) 16 sets, aN cA (q 2) 8 (bt ch)]) (fun (r : Int32) (_ : Unit) => r = nI (if wh = 0 then sm (bop sets ch a b) pp else eith pp sets ch a b)) (fun _ => [oM q 0 tr mc pp num yn cg, aN cA (q 1) 16 sets, aN cA (q 2) 8 (bt ch)]) := by
  refine st_i (by decide) (Nat.le_of_ble_eq_true rfl) ?_
  intro p e s m args below meth c A Q E ret Z ls hl
  have hx := E.1.1
  have hb := E.1.2.1
  have hl : lv_has ls 4 [(0, .ref (q 0)), (1, .int (nI a)), (2, .int (nI b)), (3, .int (nI wh))] := hl
  have hs7 := hs7_of hs hM
  refine lv_aload_n hx hb dX6_like_0 rfl (lv_at hl 0 rfl) ?_
  refine lv_iconst (v := nI 0) hx hb dX6_like_1 (by decide) ?_
  refine pF_X6_66 (w1 := [oM q 0 tr mc pp num yn cg, aN cA (q 1) 16 sets, aN cA (q 2) 8 (bt ch)]) E Z dX6_like_2 0 rfl (Nat.le_of_ble_eq_true rfl) rfl (fun H locs Z => ?_)
  refine lv_aload_n hx hb dX6_like_5 rfl (lv_at hl 0 rfl) ?_
  refine lv_iload_n hx hb dX6_like_6 rfl (lv_at hl 1 rfl) ?_
  refine c_Vi (As := [.int (nI a)]) (rest := []) (w2 := fun _ => [oM q 0 tr mc pp num yn cg, aN cA (q 1) 16 sets, aN cA (q 2) 8 (bt ch)]) E Z (k_X6_isMachine l D cA q tr mc pp num yn cg (nI a) (by first | assumption | omega)) wv_X6_80 ⟨rfl, rfl, Nat.le_of_ble_eq_true rfl, Nat.le_of_ble_eq_true rfl⟩ [0] rfl rfl rfl rfl (q0 := 0) rfl (fun _ => rfl) (fun _ => rfl) rfl hl.1 rfl (Nat.le_of_ble_eq_true rfl) dX6_like_7 ⟨Nat.zero_le _, Nat.zero_le _⟩ (fun r7 _ H locs hp7 Z => ?_)
  subst hp7
  refine b_if_eq (tgt := 35) hx hb dX6_like_10 (by decide) (fun c10 => ?_) (fun c10 => ?_)
  · exact absurd (inr_ok (by omega) (by omega) (by omega)) c10
  · refine lv_aload_n hx hb dX6_like_13 rfl (lv_at hl 0 rfl) ?_
    refine lv_iload_n hx hb dX6_like_14 rfl (lv_at hl 2 rfl) ?_
    refine c_Vi (As := [.int (nI b)]) (rest := []) (w2 := fun _ => [oM q 0 tr mc pp num yn cg, aN cA (q 1) 16 sets, aN cA (q 2) 8 (bt ch)]) E Z (k_X6_isMachine l D cA q tr mc pp num yn cg (nI b) (by first | assumption | omega)) wv_X6_80 ⟨rfl, rfl, Nat.le_of_ble_eq_true rfl, Nat.le_of_ble_eq_true rfl⟩ [0] rfl rfl rfl rfl (q0 := 0) rfl (fun _ => rfl) (fun _ => rfl) rfl hl.1 rfl (Nat.le_of_ble_eq_true rfl) dX6_like_15 ⟨Nat.zero_le _, Nat.zero_le _⟩ (fun r15 _ H locs hp15 Z => ?_)
    subst hp15
    refine b_if_eq (tgt := 35) hx hb dX6_like_18 (by decide) (fun c18 => ?_) (fun c18 => ?_)
    · exact absurd (inr_ok (by omega) (by omega) (by omega)) c18
    · refine lv_iload_n hx hb dX6_like_21 rfl (lv_at hl 1 rfl) ?_
      refine lv_iload_n hx hb dX6_like_22 rfl (lv_at hl 2 rfl) ?_
      refine n_icmp_eq (tgt := 35) hx hb dX6_like_23 (by decide) (by omega) (by omega) (fun c23 => ?_) (fun c23 => ?_)
      · exact absurd c23 hab
      · refine lv_iload_n hx hb dX6_like_26 rfl (lv_at hl 3 rfl) ?_
        refine lv_iconst (v := nI 0) hx hb dX6_like_27 (by decide) ?_
        refine lv_iconst (v := nI 1) hx hb dX6_like_28 (by decide) ?_
        refine c_Si (As := [.int (nI wh), .int (nI 0), .int (nI 1)]) (rest := []) (w2 := fun _ => [oM q 0 tr mc pp num yn cg, aN cA (q 1) 16 sets, aN cA (q 2) 8 (bt ch)]) E Z (k_X6_in l D cA (nI wh) (nI 0) (nI 1) ) ws_X6_72 ⟨rfl, rfl, Nat.le_of_ble_eq_true rfl, Nat.le_of_ble_eq_true rfl⟩ [] rfl rfl (fun _ => rfl) (fun _ => rfl) rfl hl.1 rfl (Nat.le_of_ble_eq_true rfl) dX6_like_29 ⟨Nat.zero_le _, Nat.zero_le _⟩ (fun r29 _ H locs hp29 Z => ?_)
        subst hp29
        refine b_if_ne (tgt := 37) hx hb dX6_like_32 (by decide) (fun c32 => ?_) (fun c32 => ?_)
        · refine lv_iload_n hx hb dX6_like_37 rfl (lv_at hl 3 rfl) ?_
          refine n_if_ne (tgt := 50) hx hb dX6_like_38 (by decide) (by omega) (fun c38 => ?_) (fun c38 => ?_)
          · refine lv_aload_n hx hb dX6_like_50 rfl (lv_at hl 0 rfl) ?_
            refine lv_iload_n hx hb dX6_like_51 rfl (lv_at hl 1 rfl) ?_
            refine lv_iload_n hx hb dX6_like_52 rfl (lv_at hl 2 rfl) ?_
            refine c_Vi (As := [.int (nI a), .int (nI b)]) (rest := []) (w2 := fun _ => [oM q 0 tr mc pp num yn cg, aN cA (q 1) 16 sets, aN cA (q 2) 8 (bt ch)]) E Z (k_X6_eitherOf l D cA q tr mc pp num yn cg sets ch a b (by first | assumption | omega) hs7 (by first | assumption | omega) (by first | assumption | omega)) wv_X6_128 ⟨rfl, rfl, Nat.le_of_ble_eq_true rfl, Nat.le_of_ble_eq_true rfl⟩ [0, 1, 2] rfl rfl rfl rfl (q0 := 0) rfl (fun _ => rfl) (fun _ => rfl) rfl hl.1 rfl (Nat.le_of_ble_eq_true rfl) dX6_like_53 ⟨Nat.zero_le _, Nat.zero_le _⟩ (fun r53 _ H locs hp53 Z => ?_)
            subst hp53
            exact ret () Z dX6_like_56 rfl (congrArg nI (if_neg c38)).symm
          · refine lv_aload_n hx hb dX6_like_41 rfl (lv_at hl 0 rfl) ?_
            refine lv_iload_n hx hb dX6_like_42 rfl (lv_at hl 1 rfl) ?_
            refine lv_iload_n hx hb dX6_like_43 rfl (lv_at hl 2 rfl) ?_
            refine c_Vi (As := [.int (nI a), .int (nI b)]) (rest := []) (w2 := fun _ => [oM q 0 tr mc pp num yn cg, aN cA (q 1) 16 sets, aN cA (q 2) 8 (bt ch)]) E Z (k_X6_bothOf l D cA q tr mc pp num yn cg sets ch a b (by first | assumption | omega) hs7 (by first | assumption | omega) (by first | assumption | omega)) wv_X6_125 ⟨rfl, rfl, Nat.le_of_ble_eq_true rfl, Nat.le_of_ble_eq_true rfl⟩ [0, 1, 2] rfl rfl rfl rfl (q0 := 0) rfl (fun _ => rfl) (fun _ => rfl) rfl hl.1 rfl (Nat.le_of_ble_eq_true rfl) dX6_like_44 ⟨Nat.zero_le _, Nat.zero_le _⟩ (fun r44 _ H locs hp44 Z => ?_)
            subst hp44
            refine lv_goto (tgt := 56) hx hb dX6_like_47 (by decide) ?_
            exact ret () Z dX6_like_56 rfl (congrArg nI (if_pos c38)).symm
        · exact absurd (inr_ok (by omega) (by omega) (by omega)) c32
abbrev rm_k_X6_joins : Room := { frames := 2, cells := 0, slots := 0, locals := 45 }
set_option maxHeartbeats 4000000 in
set_option maxRecDepth 100000 in
theorem k_X6_joins (l : Launch) (D : va_G) (cA : ClassId) (q : Nat → Nat) (tr : Int64) (mc : Nat) (pp : Nat) (num : Nat) (yn : Nat) (cg : Nat) (sets : Nat → Nat) (ch : Nat) (hp : Nat → Nat) (t : TS) (hP : pp ≤ 8) (hM : mc ≤ 7) (hs : ∀ j, sets j < 128) (hh : ∀ j, hp j < 8) : Ctv l yX6_joins cX6_joins 5 none rm_k_X6_joins D cA [.ref (q 0)] ([oM q 0 tr mc pp num yn cg, aN cA (q 1) 16 sets, aN cA (q 2) 8 (bt ch), aN cA (q 8) 7 hp, aR cA (q 9) 4 (tel t)]) (fun (_ : Unit) => True) (fun _ => [oM q 0 tr mc pp num yn cg, aN cA (q 1) 16 sets, aN cA (q 2) 8 (bt ch), aN cA (q 8) 7 hp, aR cA (q 9) 4 (tel (mpj pp sets ch hp mc t))]) := by
  refine st_v (by decide) (Nat.le_of_ble_eq_true rfl) ?_
  intro p e s m args below meth c A Q E ret Z ls hl
  have hx := E.1.1
  have hb := E.1.2.1
  have hl : lv_has ls 5 [(0, .ref (q 0))] := hl
  refine lv_aload_n hx hb dX6_joins_0 rfl (lv_at hl 0 rfl) ?_
  refine gF_X6_44 E Z dX6_joins_1 0 rfl rfl ?_
  refine lv_iconst (v := nI 2) hx hb dX6_joins_4 (by decide) ?_
  refine lv_iconst (v := (-1)) hx hb dX6_joins_5 (by decide) ?_
  refine r_astR (w1 := [oM q 0 tr mc pp num yn cg, aN cA (q 1) 16 sets, aN cA (q 2) 8 (bt ch), aN cA (q 8) 7 hp, aR cA (q 9) 4 (up (tel t) 2 (-1))]) E Z dX6_joins_6 4 rfl (by omega) (by decide) rfl (fun H locs Z => ?_)
  refine lv_aload_n hx hb dX6_joins_7 rfl (lv_at hl 0 rfl) ?_
  refine gF_X6_44 E Z dX6_joins_8 0 rfl rfl ?_
  refine lv_iconst (v := nI 3) hx hb dX6_joins_11 (by decide) ?_
  refine lv_iconst (v := nI 1) hx hb dX6_joins_12 (by decide) ?_
  refine r_astR (w1 := [oM q 0 tr mc pp num yn cg, aN cA (q 1) 16 sets, aN cA (q 2) 8 (bt ch), aN cA (q 8) 7 hp, aR cA (q 9) 4 (up (up (tel t) 2 (-1)) 3 (nI 1))]) E Z dX6_joins_13 4 rfl (by omega) (by decide) rfl (fun H locs Z => ?_)
  replace Z : Wd D A s ([oM q 0 tr mc pp num yn cg, aN cA (q 1) 16 sets, aN cA (q 2) 8 (bt ch), aN cA (q 8) 7 hp, aR cA (q 9) 4 (tel (t.1, t.2.1, (-1), nI 1))]) _ _ := Z.norm 4 rfl (tel_at (t.1, t.2.1, (-1), nI 1) _ rfl rfl rfl rfl) rfl
  refine lv_iconst (v := nI 0) hx hb dX6_joins_14 (by decide) ?_
  refine lv_istore_n (lv' := [(1, .int (nI 0)), (0, .ref (q 0))]) hx hb dX6_joins_15 rfl hl (by decide) rfl (fun ls hl => ?_)
  have L16 : ∀ (n16 f : Nat), mc + 1 ≤ f + n16 → f ≤ mc → ∀ (H : Heap) (locs : List Loc), Wd D A s ([oM q 0 tr mc pp num yn cg, aN cA (q 1) 16 sets, aN cA (q 2) 8 (bt ch), aN cA (q 8) 7 hp, aR cA (q 9) 4 (tel (tmf pp sets ch hp mc (t.1, t.2.1, (-1), nI 1) f))]) H locs → ∀ (ls : Array Slot), lv_has ls 5 [(0, .ref (q 0)), (1, .int (nI f))] → W p l e rm_k_X6_joins s m args below meth c H locs 0 0 Q (F0 m 16 ls []) := by
    intro n16
    induction n16 with
    | zero => exact fun f h1 h2 => absurd h1 (by omega)
    | succ n16 ih16 =>
      intro f hn16 hi16  H locs Z ls hl
      refine lv_iload_n hx hb dX6_joins_16 rfl (lv_at hl 1 rfl) ?_
      refine lv_aload_n hx hb dX6_joins_17 rfl (lv_at hl 0 rfl) ?_
      refine gF_X6_7 E Z dX6_joins_18 0 rfl rfl ?_
      refine n_icmp_ge (tgt := 174) hx hb dX6_joins_21 (by decide) (by omega) (by omega) (fun c21 => ?_) (fun c21 => ?_)
      · obtain rfl : mc = f := by omega
        exact ret () Z dX6_joins_174 rfl trivial
      · refine lv_iload_n hx hb dX6_joins_24 rfl (lv_at hl 1 rfl) ?_
        refine lv_iconst (v := nI 1) hx hb dX6_joins_25 (by decide) ?_
        refine n_iadd hx hb dX6_joins_26 ?_
        refine lv_istore_n (lv' := [(2, .int (nI (f + 1))), (0, .ref (q 0)), (1, .int (nI f))]) hx hb dX6_joins_27 rfl hl (by decide) rfl (fun ls hl => ?_)
        have L28 : ∀ (n28 o : Nat), mc + 1 ≤ o + n28 → o ≤ mc → (f < o) → ∀ (H : Heap) (locs : List Loc), Wd D A s ([oM q 0 tr mc pp num yn cg, aN cA (q 1) 16 sets, aN cA (q 2) 8 (bt ch), aN cA (q 8) 7 hp, aR cA (q 9) 4 (tel (tmo pp sets ch hp mc (tmf pp sets ch hp mc (t.1, t.2.1, (-1), nI 1) f) f o))]) H locs → ∀ (ls : Array Slot), lv_has ls 5 [(0, .ref (q 0)), (1, .int (nI f)), (2, .int (nI o))] → W p l e rm_k_X6_joins s m args below meth c H locs 0 0 Q (F0 m 28 ls []) := by
          intro n28
          induction n28 with
          | zero => exact fun o h1 h2 => absurd h1 (by omega)
          | succ n28 ih28 =>
            intro o hn28 hi28 hfo H locs Z ls hl
            refine lv_iload_n hx hb dX6_joins_28 rfl (lv_at hl 2 rfl) ?_
            refine lv_aload_n hx hb dX6_joins_29 rfl (lv_at hl 0 rfl) ?_
            refine gF_X6_7 E Z dX6_joins_30 0 rfl rfl ?_
            refine n_icmp_ge (tgt := 168) hx hb dX6_joins_33 (by decide) (by omega) (by omega) (fun c33 => ?_) (fun c33 => ?_)
            · obtain rfl : mc = o := by omega
              refine lv_iinc (v := nI (f + 1)) (lv' := [(1, .int (nI (f + 1))), (0, .ref (q 0)), (2, .int (nI mc))]) hx hb dX6_joins_168 hl (k := 1) rfl (n_inc _ _ (by decide)) (by decide) rfl (fun ls hl => ?_)
              refine lv_goto (tgt := 16) hx hb dX6_joins_171 (by decide) ?_
              exact ih16 (f + 1) (by omega) (by omega)   _ _ Z ls (lv_sub hl [1, 0] rfl)
            · refine lv_iconst (v := nI 0) hx hb dX6_joins_36 (by decide) ?_
              refine lv_istore_n (lv' := [(3, .int (nI 0)), (0, .ref (q 0)), (1, .int (nI f)), (2, .int (nI o))]) hx hb dX6_joins_37 rfl hl (by decide) rfl (fun ls hl => ?_)
              have L38 : ∀ (n38 a : Nat), mc + 1 ≤ a + n38 → a ≤ mc → ∀ (H : Heap) (locs : List Loc), Wd D A s ([oM q 0 tr mc pp num yn cg, aN cA (q 1) 16 sets, aN cA (q 2) 8 (bt ch), aN cA (q 8) 7 hp, aR cA (q 9) 4 (tel (ta pp sets ch hp f o mc (tmo pp sets ch hp mc (tmf pp sets ch hp mc (t.1, t.2.1, (-1), nI 1) f) f o) a))]) H locs → ∀ (ls : Array Slot), lv_has ls 5 [(0, .ref (q 0)), (1, .int (nI f)), (2, .int (nI o)), (3, .int (nI a))] → W p l e rm_k_X6_joins s m args below meth c H locs 0 0 Q (F0 m 38 ls []) := by
                intro n38
                induction n38 with
                | zero => exact fun a h1 h2 => absurd h1 (by omega)
                | succ n38 ih38 =>
                  intro a hn38 hi38  H locs Z ls hl
                  refine lv_iload_n hx hb dX6_joins_38 rfl (lv_at hl 3 rfl) ?_
                  refine lv_aload_n hx hb dX6_joins_39 rfl (lv_at hl 0 rfl) ?_
                  refine gF_X6_7 E Z dX6_joins_40 0 rfl rfl ?_
                  refine n_icmp_ge (tgt := 162) hx hb dX6_joins_43 (by decide) (by omega) (by omega) (fun c43 => ?_) (fun c43 => ?_)
                  · obtain rfl : mc = a := by omega
                    replace Z : Wd D A s ([oM q 0 tr mc pp num yn cg, aN cA (q 1) 16 sets, aN cA (q 2) 8 (bt ch), aN cA (q 8) 7 hp, aR cA (q 9) 4 (tel (tmo pp sets ch hp mc (tmf pp sets ch hp mc (t.1, t.2.1, (-1), nI 1) f) f (o + 1)))]) _ _ := Z.to (by rw [show tmo pp sets ch hp mc (tmf pp sets ch hp mc (t.1, t.2.1, (-1), nI 1) f) f (o + 1) = ta pp sets ch hp f o mc (tmo pp sets ch hp mc (tmf pp sets ch hp mc (t.1, t.2.1, (-1), nI 1) f) f o) mc from if_pos hfo])
                    refine lv_iinc (v := nI (o + 1)) (lv' := [(2, .int (nI (o + 1))), (0, .ref (q 0)), (1, .int (nI f)), (3, .int (nI mc))]) hx hb dX6_joins_162 hl (k := 2) rfl (n_inc _ _ (by decide)) (by decide) rfl (fun ls hl => ?_)
                    refine lv_goto (tgt := 28) hx hb dX6_joins_165 (by decide) ?_
                    exact ih28 (o + 1) (by omega) (by omega)  (by first | assumption | omega) _ _ Z ls (lv_sub hl [1, 2, 0] rfl)
                  · refine lv_iconst (v := nI 0) hx hb dX6_joins_46 (by decide) ?_
                    refine lv_istore (lv' := [(4, .int (nI 0)), (0, .ref (q 0)), (1, .int (nI f)), (2, .int (nI o)), (3, .int (nI a))]) hx hb dX6_joins_47 hl (by decide) rfl (fun ls hl => ?_)
                    have L49 : ∀ (n49 b : Nat), mc + 1 ≤ b + n49 → b ≤ mc → ∀ (H : Heap) (locs : List Loc), Wd D A s ([oM q 0 tr mc pp num yn cg, aN cA (q 1) 16 sets, aN cA (q 2) 8 (bt ch), aN cA (q 8) 7 hp, aR cA (q 9) 4 (tel (tb pp sets ch hp f o a (ta pp sets ch hp f o mc (tmo pp sets ch hp mc (tmf pp sets ch hp mc (t.1, t.2.1, (-1), nI 1) f) f o) a) b))]) H locs → ∀ (ls : Array Slot), lv_has ls 5 [(0, .ref (q 0)), (1, .int (nI f)), (2, .int (nI o)), (3, .int (nI a)), (4, .int (nI b))] → W p l e rm_k_X6_joins s m args below meth c H locs 0 0 Q (F0 m 49 ls []) := by
                      intro n49
                      induction n49 with
                      | zero => exact fun b h1 h2 => absurd h1 (by omega)
                      | succ n49 ih49 =>
                        intro b hn49 hi49  H locs Z ls hl
                        refine lv_iload hx hb dX6_joins_49 (lv_at hl 4 rfl) ?_
                        refine lv_aload_n hx hb dX6_joins_51 rfl (lv_at hl 0 rfl) ?_
                        refine gF_X6_7 E Z dX6_joins_52 0 rfl rfl ?_
                        refine n_icmp_ge (tgt := 156) hx hb dX6_joins_55 (by decide) (by omega) (by omega) (fun c55 => ?_) (fun c55 => ?_)
                        · obtain rfl : mc = b := by omega
                          refine lv_iinc (v := nI (a + 1)) (lv' := [(3, .int (nI (a + 1))), (0, .ref (q 0)), (1, .int (nI f)), (2, .int (nI o)), (4, .int (nI mc))]) hx hb dX6_joins_156 hl (k := 3) rfl (n_inc _ _ (by decide)) (by decide) rfl (fun ls hl => ?_)
                          refine lv_goto (tgt := 38) hx hb dX6_joins_159 (by decide) ?_
                          exact ih38 (a + 1) (by omega) (by omega)   _ _ Z ls (lv_sub hl [1, 2, 3, 0] rfl)
                        · refine lv_aload_n hx hb dX6_joins_58 rfl (lv_at hl 0 rfl) ?_
                          refine gF_X6_41 E Z dX6_joins_59 0 rfl rfl ?_
                          refine lv_iload_n hx hb dX6_joins_62 rfl (lv_at hl 3 rfl) ?_
                          refine r_ald E Z dX6_joins_63 3 rfl (by omega) (by decide) ?_
                          have hha := hh a
                          refine lv_iload_n hx hb dX6_joins_64 rfl (lv_at hl 1 rfl) ?_
                          refine n_icmp_ne (tgt := 150) hx hb dX6_joins_65 (by decide) (by omega) (by omega) (fun c65 => ?_) (fun c65 => ?_)
                          · replace Z : Wd D A s ([oM q 0 tr mc pp num yn cg, aN cA (q 1) 16 sets, aN cA (q 2) 8 (bt ch), aN cA (q 8) 7 hp, aR cA (q 9) 4 (tel (tb pp sets ch hp f o a (ta pp sets ch hp f o mc (tmo pp sets ch hp mc (tmf pp sets ch hp mc (t.1, t.2.1, (-1), nI 1) f) f o) a) (b + 1)))]) _ _ := Z.to (by rw [show tb pp sets ch hp f o a (ta pp sets ch hp f o mc (tmo pp sets ch hp mc (tmf pp sets ch hp mc (t.1, t.2.1, (-1), nI 1) f) f o) a) (b + 1) = tb pp sets ch hp f o a (ta pp sets ch hp f o mc (tmo pp sets ch hp mc (tmf pp sets ch hp mc (t.1, t.2.1, (-1), nI 1) f) f o) a) b from if_neg (fun h => c65 h.1)])
                            refine lv_iinc (v := nI (b + 1)) (lv' := [(4, .int (nI (b + 1))), (0, .ref (q 0)), (1, .int (nI f)), (2, .int (nI o)), (3, .int (nI a))]) hx hb dX6_joins_150 hl (k := 4) rfl (n_inc _ _ (by decide)) (by decide) rfl (fun ls hl => ?_)
                            refine lv_goto (tgt := 49) hx hb dX6_joins_153 (by decide) ?_
                            exact ih49 (b + 1) (by omega) (by omega)   _ _ Z ls (lv_sub hl [1, 2, 3, 4, 0] rfl)
                          · refine lv_aload_n hx hb dX6_joins_68 rfl (lv_at hl 0 rfl) ?_
                            refine gF_X6_41 E Z dX6_joins_69 0 rfl rfl ?_
                            refine lv_iload hx hb dX6_joins_72 (lv_at hl 4 rfl) ?_
                            refine r_ald E Z dX6_joins_74 3 rfl (by omega) (by decide) ?_
                            have hhb := hh b
                            refine lv_iload_n hx hb dX6_joins_75 rfl (lv_at hl 2 rfl) ?_
                            refine n_icmp_ne (tgt := 150) hx hb dX6_joins_76 (by decide) (by omega) (by omega) (fun c76 => ?_) (fun c76 => ?_)
                            · replace Z : Wd D A s ([oM q 0 tr mc pp num yn cg, aN cA (q 1) 16 sets, aN cA (q 2) 8 (bt ch), aN cA (q 8) 7 hp, aR cA (q 9) 4 (tel (tb pp sets ch hp f o a (ta pp sets ch hp f o mc (tmo pp sets ch hp mc (tmf pp sets ch hp mc (t.1, t.2.1, (-1), nI 1) f) f o) a) (b + 1)))]) _ _ := Z.to (by rw [show tb pp sets ch hp f o a (ta pp sets ch hp f o mc (tmo pp sets ch hp mc (tmf pp sets ch hp mc (t.1, t.2.1, (-1), nI 1) f) f o) a) (b + 1) = tb pp sets ch hp f o a (ta pp sets ch hp f o mc (tmo pp sets ch hp mc (tmf pp sets ch hp mc (t.1, t.2.1, (-1), nI 1) f) f o) a) b from if_neg (fun h => c76 h.2)])
                              refine lv_iinc (v := nI (b + 1)) (lv' := [(4, .int (nI (b + 1))), (0, .ref (q 0)), (1, .int (nI f)), (2, .int (nI o)), (3, .int (nI a))]) hx hb dX6_joins_150 hl (k := 4) rfl (n_inc _ _ (by decide)) (by decide) rfl (fun ls hl => ?_)
                              refine lv_goto (tgt := 49) hx hb dX6_joins_153 (by decide) ?_
                              exact ih49 (b + 1) (by omega) (by omega)   _ _ Z ls (lv_sub hl [1, 2, 3, 4, 0] rfl)
                            · refine lv_aload_n hx hb dX6_joins_79 rfl (lv_at hl 0 rfl) ?_
                              refine lv_iload_n hx hb dX6_joins_80 rfl (lv_at hl 3 rfl) ?_
                              refine lv_iload hx hb dX6_joins_81 (lv_at hl 4 rfl) ?_
                              refine c_Vi (As := [.int (nI a), .int (nI b)]) (rest := []) (w2 := fun _ => [oM q 0 tr mc pp num yn cg, aN cA (q 1) 16 sets, aN cA (q 2) 8 (bt ch), aN cA (q 8) 7 hp, aR cA (q 9) 4 (tel (tb pp sets ch hp f o a (ta pp sets ch hp f o mc (tmo pp sets ch hp mc (tmf pp sets ch hp mc (t.1, t.2.1, (-1), nI 1) f) f o) a) b))]) E Z (k_X6_bothOf l D cA q tr mc pp num yn cg sets ch a b (by first | assumption | omega) (by first | assumption | omega) (by first | assumption | omega) (by first | assumption | omega)) wv_X6_125 ⟨rfl, rfl, Nat.le_of_ble_eq_true rfl, Nat.le_of_ble_eq_true rfl⟩ [0, 1, 2] rfl rfl rfl rfl (q0 := 0) rfl (fun _ => rfl) (fun _ => rfl) rfl hl.1 rfl (Nat.le_of_ble_eq_true rfl) dX6_joins_83 ⟨Nat.zero_le _, Nat.zero_le _⟩ (fun r83 _ H locs hp83 Z => ?_)
                              subst hp83
                              refine lv_aload_n hx hb dX6_joins_86 rfl (lv_at hl 0 rfl) ?_
                              refine gF_X6_44 E Z dX6_joins_87 0 rfl rfl ?_
                              refine lv_iconst (v := nI 3) hx hb dX6_joins_90 (by decide) ?_
                              refine r_aldR E Z dX6_joins_91 4 rfl (by omega) (by decide) ?_
                              refine lv_imul hx hb dX6_joins_92 ?_
                              refine lv_aload_n hx hb dX6_joins_93 rfl (lv_at hl 0 rfl) ?_
                              refine gF_X6_44 E Z dX6_joins_94 0 rfl rfl ?_
                              refine lv_iconst (v := nI 2) hx hb dX6_joins_97 (by decide) ?_
                              refine r_aldR E Z dX6_joins_98 4 rfl (by omega) (by decide) ?_
                              refine lv_aload_n hx hb dX6_joins_99 rfl (lv_at hl 0 rfl) ?_
                              refine lv_iload_n hx hb dX6_joins_100 rfl (lv_at hl 3 rfl) ?_
                              refine lv_iload hx hb dX6_joins_101 (lv_at hl 4 rfl) ?_
                              refine c_Vi (As := [.int (nI a), .int (nI b)]) (rest := [.int ((tel (tb pp sets ch hp f o a (ta pp sets ch hp f o mc (tmo pp sets ch hp mc (tmf pp sets ch hp mc (t.1, t.2.1, (-1), nI 1) f) f o) a) b)) 2), .int ((nI (sm (bop sets ch a b) pp)) * ((tel (tb pp sets ch hp f o a (ta pp sets ch hp f o mc (tmo pp sets ch hp mc (tmf pp sets ch hp mc (t.1, t.2.1, (-1), nI 1) f) f o) a) b)) 3))]) (w2 := fun _ => [oM q 0 tr mc pp num yn cg, aN cA (q 1) 16 sets, aN cA (q 2) 8 (bt ch), aN cA (q 8) 7 hp, aR cA (q 9) 4 (tel (tb pp sets ch hp f o a (ta pp sets ch hp f o mc (tmo pp sets ch hp mc (tmf pp sets ch hp mc (t.1, t.2.1, (-1), nI 1) f) f o) a) b))]) E Z (k_X6_eitherOf l D cA q tr mc pp num yn cg sets ch a b (by first | assumption | omega) (by first | assumption | omega) (by first | assumption | omega) (by first | assumption | omega)) wv_X6_128 ⟨rfl, rfl, Nat.le_of_ble_eq_true rfl, Nat.le_of_ble_eq_true rfl⟩ [0, 1, 2] rfl rfl rfl rfl (q0 := 0) rfl (fun _ => rfl) (fun _ => rfl) rfl hl.1 rfl (Nat.le_of_ble_eq_true rfl) dX6_joins_103 ⟨Nat.zero_le _, Nat.zero_le _⟩ (fun r103 _ H locs hp103 Z => ?_)
                              subst hp103
                              refine lv_imul hx hb dX6_joins_106 ?_
                              refine lv_icmp_le (tgt := 150) hx hb dX6_joins_107 (by decide) (fun c107 => ?_) (fun c107 => ?_)
                              · replace Z : Wd D A s ([oM q 0 tr mc pp num yn cg, aN cA (q 1) 16 sets, aN cA (q 2) 8 (bt ch), aN cA (q 8) 7 hp, aR cA (q 9) 4 (tel (tb pp sets ch hp f o a (ta pp sets ch hp f o mc (tmo pp sets ch hp mc (tmf pp sets ch hp mc (t.1, t.2.1, (-1), nI 1) f) f o) a) (b + 1)))]) _ _ := Z.to (by rw [show tb pp sets ch hp f o a (ta pp sets ch hp f o mc (tmo pp sets ch hp mc (tmf pp sets ch hp mc (t.1, t.2.1, (-1), nI 1) f) f o) a) (b + 1) = tb pp sets ch hp f o a (ta pp sets ch hp f o mc (tmo pp sets ch hp mc (tmf pp sets ch hp mc (t.1, t.2.1, (-1), nI 1) f) f o) a) b from (if_pos ⟨c65, c76⟩).trans (if_neg (Int32.not_lt.mpr c107))])
                                refine lv_iinc (v := nI (b + 1)) (lv' := [(4, .int (nI (b + 1))), (0, .ref (q 0)), (1, .int (nI f)), (2, .int (nI o)), (3, .int (nI a))]) hx hb dX6_joins_150 hl (k := 4) rfl (n_inc _ _ (by decide)) (by decide) rfl (fun ls hl => ?_)
                                refine lv_goto (tgt := 49) hx hb dX6_joins_153 (by decide) ?_
                                exact ih49 (b + 1) (by omega) (by omega)   _ _ Z ls (lv_sub hl [1, 2, 3, 4, 0] rfl)
                              · refine lv_aload_n hx hb dX6_joins_110 rfl (lv_at hl 0 rfl) ?_
                                refine gF_X6_44 E Z dX6_joins_111 0 rfl rfl ?_
                                refine lv_iconst (v := nI 0) hx hb dX6_joins_114 (by decide) ?_
                                refine lv_iload_n hx hb dX6_joins_115 rfl (lv_at hl 1 rfl) ?_
                                refine r_astR (w1 := [oM q 0 tr mc pp num yn cg, aN cA (q 1) 16 sets, aN cA (q 2) 8 (bt ch), aN cA (q 8) 7 hp, aR cA (q 9) 4 (up (tel (tb pp sets ch hp f o a (ta pp sets ch hp f o mc (tmo pp sets ch hp mc (tmf pp sets ch hp mc (t.1, t.2.1, (-1), nI 1) f) f o) a) b)) 0 (nI f))]) E Z dX6_joins_116 4 rfl (by omega) (by decide) rfl (fun H locs Z => ?_)
                                refine lv_aload_n hx hb dX6_joins_117 rfl (lv_at hl 0 rfl) ?_
                                refine gF_X6_44 E Z dX6_joins_118 0 rfl rfl ?_
                                refine lv_iconst (v := nI 1) hx hb dX6_joins_121 (by decide) ?_
                                refine lv_iload_n hx hb dX6_joins_122 rfl (lv_at hl 2 rfl) ?_
                                refine r_astR (w1 := [oM q 0 tr mc pp num yn cg, aN cA (q 1) 16 sets, aN cA (q 2) 8 (bt ch), aN cA (q 8) 7 hp, aR cA (q 9) 4 (up (up (tel (tb pp sets ch hp f o a (ta pp sets ch hp f o mc (tmo pp sets ch hp mc (tmf pp sets ch hp mc (t.1, t.2.1, (-1), nI 1) f) f o) a) b)) 0 (nI f)) 1 (nI o))]) E Z dX6_joins_123 4 rfl (by omega) (by decide) rfl (fun H locs Z => ?_)
                                refine lv_aload_n hx hb dX6_joins_124 rfl (lv_at hl 0 rfl) ?_
                                refine gF_X6_44 E Z dX6_joins_125 0 rfl rfl ?_
                                refine lv_iconst (v := nI 2) hx hb dX6_joins_128 (by decide) ?_
                                refine lv_aload_n hx hb dX6_joins_129 rfl (lv_at hl 0 rfl) ?_
                                refine lv_iload_n hx hb dX6_joins_130 rfl (lv_at hl 3 rfl) ?_
                                refine lv_iload hx hb dX6_joins_131 (lv_at hl 4 rfl) ?_
                                refine c_Vi (As := [.int (nI a), .int (nI b)]) (rest := [.int (nI 2), .ref (q 9)]) (w2 := fun _ => [oM q 0 tr mc pp num yn cg, aN cA (q 1) 16 sets, aN cA (q 2) 8 (bt ch), aN cA (q 8) 7 hp, aR cA (q 9) 4 (up (up (tel (tb pp sets ch hp f o a (ta pp sets ch hp f o mc (tmo pp sets ch hp mc (tmf pp sets ch hp mc (t.1, t.2.1, (-1), nI 1) f) f o) a) b)) 0 (nI f)) 1 (nI o))]) E Z (k_X6_bothOf l D cA q tr mc pp num yn cg sets ch a b (by first | assumption | omega) (by first | assumption | omega) (by first | assumption | omega) (by first | assumption | omega)) wv_X6_125 ⟨rfl, rfl, Nat.le_of_ble_eq_true rfl, Nat.le_of_ble_eq_true rfl⟩ [0, 1, 2] rfl rfl rfl rfl (q0 := 0) rfl (fun _ => rfl) (fun _ => rfl) rfl hl.1 rfl (Nat.le_of_ble_eq_true rfl) dX6_joins_133 ⟨Nat.zero_le _, Nat.zero_le _⟩ (fun r133 _ H locs hp133 Z => ?_)
                                subst hp133
                                refine r_astR (w1 := [oM q 0 tr mc pp num yn cg, aN cA (q 1) 16 sets, aN cA (q 2) 8 (bt ch), aN cA (q 8) 7 hp, aR cA (q 9) 4 (up (up (up (tel (tb pp sets ch hp f o a (ta pp sets ch hp f o mc (tmo pp sets ch hp mc (tmf pp sets ch hp mc (t.1, t.2.1, (-1), nI 1) f) f o) a) b)) 0 (nI f)) 1 (nI o)) 2 (nI (sm (bop sets ch a b) pp)))]) E Z dX6_joins_136 4 rfl (by omega) (by decide) rfl (fun H locs Z => ?_)
                                refine lv_aload_n hx hb dX6_joins_137 rfl (lv_at hl 0 rfl) ?_
                                refine gF_X6_44 E Z dX6_joins_138 0 rfl rfl ?_
                                refine lv_iconst (v := nI 3) hx hb dX6_joins_141 (by decide) ?_
                                refine lv_aload_n hx hb dX6_joins_142 rfl (lv_at hl 0 rfl) ?_
                                refine lv_iload_n hx hb dX6_joins_143 rfl (lv_at hl 3 rfl) ?_
                                refine lv_iload hx hb dX6_joins_144 (lv_at hl 4 rfl) ?_
                                refine c_Vi (As := [.int (nI a), .int (nI b)]) (rest := [.int (nI 3), .ref (q 9)]) (w2 := fun _ => [oM q 0 tr mc pp num yn cg, aN cA (q 1) 16 sets, aN cA (q 2) 8 (bt ch), aN cA (q 8) 7 hp, aR cA (q 9) 4 (up (up (up (tel (tb pp sets ch hp f o a (ta pp sets ch hp f o mc (tmo pp sets ch hp mc (tmf pp sets ch hp mc (t.1, t.2.1, (-1), nI 1) f) f o) a) b)) 0 (nI f)) 1 (nI o)) 2 (nI (sm (bop sets ch a b) pp)))]) E Z (k_X6_eitherOf l D cA q tr mc pp num yn cg sets ch a b (by first | assumption | omega) (by first | assumption | omega) (by first | assumption | omega) (by first | assumption | omega)) wv_X6_128 ⟨rfl, rfl, Nat.le_of_ble_eq_true rfl, Nat.le_of_ble_eq_true rfl⟩ [0, 1, 2] rfl rfl rfl rfl (q0 := 0) rfl (fun _ => rfl) (fun _ => rfl) rfl hl.1 rfl (Nat.le_of_ble_eq_true rfl) dX6_joins_146 ⟨Nat.zero_le _, Nat.zero_le _⟩ (fun r146 _ H locs hp146 Z => ?_)
                                subst hp146
                                refine r_astR (w1 := [oM q 0 tr mc pp num yn cg, aN cA (q 1) 16 sets, aN cA (q 2) 8 (bt ch), aN cA (q 8) 7 hp, aR cA (q 9) 4 (up (up (up (up (tel (tb pp sets ch hp f o a (ta pp sets ch hp f o mc (tmo pp sets ch hp mc (tmf pp sets ch hp mc (t.1, t.2.1, (-1), nI 1) f) f o) a) b)) 0 (nI f)) 1 (nI o)) 2 (nI (sm (bop sets ch a b) pp))) 3 (nI (eith pp sets ch a b)))]) E Z dX6_joins_149 4 rfl (by omega) (by decide) rfl (fun H locs Z => ?_)
                                replace Z : Wd D A s ([oM q 0 tr mc pp num yn cg, aN cA (q 1) 16 sets, aN cA (q 2) 8 (bt ch), aN cA (q 8) 7 hp, aR cA (q 9) 4 (tel (tb pp sets ch hp f o a (ta pp sets ch hp f o mc (tmo pp sets ch hp mc (tmf pp sets ch hp mc (t.1, t.2.1, (-1), nI 1) f) f o) a) (b + 1)))]) H locs := by
                                  have e9 : tb pp sets ch hp f o a (ta pp sets ch hp f o mc (tmo pp sets ch hp mc (tmf pp sets ch hp mc (t.1, t.2.1, (-1), nI 1) f) f o) a) (b + 1) = (hp a, hp b, nI (sm (bop sets ch a b) pp), nI (eith pp sets ch a b)) := (if_pos ⟨c65, c76⟩).trans (if_pos (Int32.not_le.mp c107))
                                  rw [e9]
                                  exact Z.norm 4 rfl (tel_at (hp a, hp b, nI (sm (bop sets ch a b) pp), nI (eith pp sets ch a b)) _ (congrArg nI c65.symm) (congrArg nI c76.symm) rfl rfl) rfl
                                refine lv_iinc (v := nI (b + 1)) (lv' := [(4, .int (nI (b + 1))), (0, .ref (q 0)), (1, .int (nI f)), (2, .int (nI o)), (3, .int (nI a))]) hx hb dX6_joins_150 hl (k := 4) rfl (n_inc _ _ (by decide)) (by decide) rfl (fun ls hl => ?_)
                                refine lv_goto (tgt := 49) hx hb dX6_joins_153 (by decide) ?_
                                exact ih49 (b + 1) (by omega) (by omega)   _ _ Z ls (lv_sub hl [1, 2, 3, 4, 0] rfl)
                    exact L49 (mc + 1) 0 (by omega) (by omega)   _ _ Z ls (lv_sub hl [1, 2, 3, 4, 0] rfl)
              exact L38 (mc + 1) 0 (by omega) (by omega)   _ _ Z ls (lv_sub hl [1, 2, 3, 0] rfl)
        exact L28 (mc + 1) (f + 1) (by omega) (by omega)  (by first | assumption | omega) _ _ (Z.to (by rw [tmo_lo pp sets ch hp mc (tmf pp sets ch hp mc (t.1, t.2.1, (-1), nI 1) f) f (f + 1) (Nat.le_refl _)])) ls (lv_sub hl [1, 2, 0] rfl)
  exact L16 (mc + 1) 0 (by omega) (by omega)   _ _ Z ls (lv_sub hl [1, 0] rfl)
abbrev rm_k_X6_join_bad : Room := { frames := 1, cells := 0, slots := 0, locals := 22 }
set_option maxHeartbeats 4000000 in
set_option maxRecDepth 100000 in
theorem k_X6_join_bad (l : Launch) (D : va_G) (cA : ClassId) (q : Nat → Nat) (tr : Int64) (mc : Nat) (pp : Nat) (num : Nat) (yn : Nat) (cg : Nat) (x1 : Int32) (x2 : Int32) (hbad : ¬ ((nI 0 ≤ x1 ∧ x1 ≤ nI mc - nI 2) ∧ (nI 0 ≤ x2 ∧ x2 ≤ nI 3))) : Cti l yX6_join cX6_join 5 (some .int) rm_k_X6_join_bad D cA [.ref (q 0), .int x1, .int x2] ([oM q 0 tr mc pp num yn cg]) (fun (r : Int32) (_ : Unit) => r = (-1)) (fun _ => [oM q 0 tr mc pp num yn cg]) := by
  refine st_i (by decide) (Nat.le_of_ble_eq_true rfl) ?_
  intro p e s m args below meth c A Q E ret Z ls hl
  have hx := E.1.1
  have hb := E.1.2.1
  have hl : lv_has ls 5 [(0, .ref (q 0)), (1, .int x1), (2, .int x2)] := hl
  refine lv_aload_n hx hb dX6_join_0 rfl (lv_at hl 0 rfl) ?_
  refine lv_iconst (v := nI 0) hx hb dX6_join_1 (by decide) ?_
  refine pF_X6_66 (w1 := [oM q 0 tr mc pp num yn cg]) E Z dX6_join_2 0 rfl (Nat.le_of_ble_eq_true rfl) rfl (fun H locs Z => ?_)
  refine lv_iload_n hx hb dX6_join_5 rfl (lv_at hl 1 rfl) ?_
  refine lv_iconst (v := nI 0) hx hb dX6_join_6 (by decide) ?_
  refine lv_aload_n hx hb dX6_join_7 rfl (lv_at hl 0 rfl) ?_
  refine gF_X6_7 E Z dX6_join_8 0 rfl rfl ?_
  refine lv_iconst (v := nI 2) hx hb dX6_join_11 (by decide) ?_
  refine lv_isub hx hb dX6_join_12 ?_
  refine c_Si (As := [.int x1, .int (nI 0), .int ((nI mc) - (nI 2))]) (rest := []) (w2 := fun _ => [oM q 0 tr mc pp num yn cg]) E Z (k_X6_in l D cA x1 (nI 0) ((nI mc) - (nI 2)) ) ws_X6_72 ⟨rfl, rfl, Nat.le_of_ble_eq_true rfl, Nat.le_of_ble_eq_true rfl⟩ [] rfl rfl (fun _ => rfl) (fun _ => rfl) rfl hl.1 rfl (Nat.le_of_ble_eq_true rfl) dX6_join_13 ⟨Nat.zero_le _, Nat.zero_le _⟩ (fun r13 _ H locs hp13 Z => ?_)
  subst hp13
  refine b_if_eq (tgt := 28) hx hb dX6_join_16 (by decide) (fun c16 => ?_) (fun c16 => ?_)
  · refine lv_iconst (v := (-1)) hx hb dX6_join_28 (by decide) ?_
    exact ret () Z dX6_join_29 rfl rfl
  · refine lv_iload_n hx hb dX6_join_19 rfl (lv_at hl 2 rfl) ?_
    refine lv_iconst (v := nI 0) hx hb dX6_join_20 (by decide) ?_
    refine lv_iconst (v := nI 3) hx hb dX6_join_21 (by decide) ?_
    refine c_Si (As := [.int x2, .int (nI 0), .int (nI 3)]) (rest := []) (w2 := fun _ => [oM q 0 tr mc pp num yn cg]) E Z (k_X6_in l D cA x2 (nI 0) (nI 3) ) ws_X6_72 ⟨rfl, rfl, Nat.le_of_ble_eq_true rfl, Nat.le_of_ble_eq_true rfl⟩ [] rfl rfl (fun _ => rfl) (fun _ => rfl) rfl hl.1 rfl (Nat.le_of_ble_eq_true rfl) dX6_join_22 ⟨Nat.zero_le _, Nat.zero_le _⟩ (fun r22 _ H locs hp22 Z => ?_)
    subst hp22
    refine b_if_ne (tgt := 30) hx hb dX6_join_25 (by decide) (fun c25 => ?_) (fun c25 => ?_)
    · exact absurd ⟨c16, c25⟩ hbad
    · refine lv_iconst (v := (-1)) hx hb dX6_join_28 (by decide) ?_
      exact ret () Z dX6_join_29 rfl rfl
abbrev rm_k_X6_join : Room := { frames := 3, cells := 0, slots := 0, locals := 69 }
set_option maxHeartbeats 4000000 in
set_option maxRecDepth 100000 in
theorem k_X6_join (l : Launch) (D : va_G) (cA : ClassId) (q : Nat → Nat) (tr : Int64) (mc : Nat) (pp : Nat) (num : Nat) (yn : Nat) (cg : Nat) (sets : Nat → Nat) (ch : Nat) (hp : Nat → Nat) (t : TS) (i : Nat) (w : Nat) (hP : pp ≤ 8) (hs : ∀ j, sets j < 2 ^ mc) (hM : mc ≤ 7) (hi : i + 2 ≤ mc) (hw : w < 4) (ht : tok t) (hh : ∀ j, hp j < 8) : Cti l yX6_join cX6_join 5 (some .int) rm_k_X6_join D cA [.ref (q 0), .int (nI i), .int (nI w)] ([oM q 0 tr mc pp num yn cg, aN cA (q 1) 16 sets, aN cA (q 2) 8 (bt ch), aN cA (q 8) 7 hp, aR cA (q 9) 4 (tel t)]) (fun (r : Int32) (_ : Unit) => r = (tel (gm pp sets ch mc (hin hp mc) t (i + 1)).2 w)) (fun _ => [oM q 0 tr mc pp num yn cg, aN cA (q 1) 16 sets, aN cA (q 2) 8 (bt ch), aN cA (q 8) 7 ((gm pp sets ch mc (hin hp mc) t (i + 1)).1), aR cA (q 9) 4 (tel (gm pp sets ch mc (hin hp mc) t (i + 1)).2)]) := by
  refine st_i (by decide) (Nat.le_of_ble_eq_true rfl) ?_
  intro p e s m args below meth c A Q E ret Z ls hl
  have hx := E.1.1
  have hb := E.1.2.1
  have hl : lv_has ls 5 [(0, .ref (q 0)), (1, .int (nI i)), (2, .int (nI w))] := hl
  have hs7 := hs7_of hs hM
  refine lv_aload_n hx hb dX6_join_0 rfl (lv_at hl 0 rfl) ?_
  refine lv_iconst (v := nI 0) hx hb dX6_join_1 (by decide) ?_
  refine pF_X6_66 (w1 := [oM q 0 tr mc pp num yn cg, aN cA (q 1) 16 sets, aN cA (q 2) 8 (bt ch), aN cA (q 8) 7 hp, aR cA (q 9) 4 (tel t)]) E Z dX6_join_2 0 rfl (Nat.le_of_ble_eq_true rfl) rfl (fun H locs Z => ?_)
  refine lv_iload_n hx hb dX6_join_5 rfl (lv_at hl 1 rfl) ?_
  refine lv_iconst (v := nI 0) hx hb dX6_join_6 (by decide) ?_
  refine lv_aload_n hx hb dX6_join_7 rfl (lv_at hl 0 rfl) ?_
  refine gF_X6_7 E Z dX6_join_8 0 rfl rfl ?_
  refine lv_iconst (v := nI 2) hx hb dX6_join_11 (by decide) ?_
  refine lv_isub hx hb dX6_join_12 ?_
  refine c_Si (As := [.int (nI i), .int (nI 0), .int ((nI mc) - (nI 2))]) (rest := []) (w2 := fun _ => [oM q 0 tr mc pp num yn cg, aN cA (q 1) 16 sets, aN cA (q 2) 8 (bt ch), aN cA (q 8) 7 hp, aR cA (q 9) 4 (tel t)]) E Z (k_X6_in l D cA (nI i) (nI 0) ((nI mc) - (nI 2)) ) ws_X6_72 ⟨rfl, rfl, Nat.le_of_ble_eq_true rfl, Nat.le_of_ble_eq_true rfl⟩ [] rfl rfl (fun _ => rfl) (fun _ => rfl) rfl hl.1 rfl (Nat.le_of_ble_eq_true rfl) dX6_join_13 ⟨Nat.zero_le _, Nat.zero_le _⟩ (fun r13 _ H locs hp13 Z => ?_)
  subst hp13
  refine b_if_eq (tgt := 28) hx hb dX6_join_16 (by decide) (fun c16 => ?_) (fun c16 => ?_)
  · exact absurd (by rw [pk_sub (by omega)]; exact inr_ok (by omega) (by omega) (by omega)) c16
  · refine lv_iload_n hx hb dX6_join_19 rfl (lv_at hl 2 rfl) ?_
    refine lv_iconst (v := nI 0) hx hb dX6_join_20 (by decide) ?_
    refine lv_iconst (v := nI 3) hx hb dX6_join_21 (by decide) ?_
    refine c_Si (As := [.int (nI w), .int (nI 0), .int (nI 3)]) (rest := []) (w2 := fun _ => [oM q 0 tr mc pp num yn cg, aN cA (q 1) 16 sets, aN cA (q 2) 8 (bt ch), aN cA (q 8) 7 hp, aR cA (q 9) 4 (tel t)]) E Z (k_X6_in l D cA (nI w) (nI 0) (nI 3) ) ws_X6_72 ⟨rfl, rfl, Nat.le_of_ble_eq_true rfl, Nat.le_of_ble_eq_true rfl⟩ [] rfl rfl (fun _ => rfl) (fun _ => rfl) rfl hl.1 rfl (Nat.le_of_ble_eq_true rfl) dX6_join_22 ⟨Nat.zero_le _, Nat.zero_le _⟩ (fun r22 _ H locs hp22 Z => ?_)
    subst hp22
    refine b_if_ne (tgt := 30) hx hb dX6_join_25 (by decide) (fun c25 => ?_) (fun c25 => ?_)
    · refine lv_iconst (v := nI 0) hx hb dX6_join_30 (by decide) ?_
      refine lv_istore_n (lv' := [(3, .int (nI 0)), (0, .ref (q 0)), (1, .int (nI i)), (2, .int (nI w))]) hx hb dX6_join_31 rfl hl (by decide) rfl (fun ls hl => ?_)
      have L32 : ∀ (n32 j : Nat), mc + 1 ≤ j + n32 → j ≤ mc → ∀ (H : Heap) (locs : List Loc), Wd D A s ([oM q 0 tr mc pp num yn cg, aN cA (q 1) 16 sets, aN cA (q 2) 8 (bt ch), aN cA (q 8) 7 (hin hp j), aR cA (q 9) 4 (tel t)]) H locs → ∀ (ls : Array Slot), lv_has ls 5 [(0, .ref (q 0)), (1, .int (nI i)), (2, .int (nI w)), (3, .int (nI j))] → W p l e rm_k_X6_join s m args below meth c H locs 0 0 Q (F0 m 32 ls []) := by
        intro n32
        induction n32 with
        | zero => exact fun j h1 h2 => absurd h1 (by omega)
        | succ n32 ih32 =>
          intro j hn32 hi32  H locs Z ls hl
          refine lv_iload_n hx hb dX6_join_32 rfl (lv_at hl 3 rfl) ?_
          refine lv_aload_n hx hb dX6_join_33 rfl (lv_at hl 0 rfl) ?_
          refine gF_X6_7 E Z dX6_join_34 0 rfl rfl ?_
          refine n_icmp_ge (tgt := 53) hx hb dX6_join_37 (by decide) (by omega) (by omega) (fun c37 => ?_) (fun c37 => ?_)
          · obtain rfl : mc = j := by omega
            refine lv_iconst (v := nI 0) hx hb dX6_join_53 (by decide) ?_
            refine lv_istore_n (lv' := [(3, .int (nI 0)), (0, .ref (q 0)), (1, .int (nI i)), (2, .int (nI w))]) hx hb dX6_join_54 rfl hl (by decide) rfl (fun ls hl => ?_)
            have L55 : ∀ (n55 k : Nat), i + 1 + 1 ≤ k + n55 → k ≤ i + 1 → ∀ (H : Heap) (locs : List Loc), Wd D A s ([oM q 0 tr mc pp num yn cg, aN cA (q 1) 16 sets, aN cA (q 2) 8 (bt ch), aN cA (q 8) 7 ((gm pp sets ch mc (hin hp mc) t k).1), aR cA (q 9) 4 (tel (gm pp sets ch mc (hin hp mc) t k).2)]) H locs → ∀ (ls : Array Slot), lv_has ls 5 [(0, .ref (q 0)), (1, .int (nI i)), (2, .int (nI w)), (3, .int (nI k))] → W p l e rm_k_X6_join s m args below meth c H locs 0 0 Q (F0 m 55 ls []) := by
              intro n55
              induction n55 with
              | zero => exact fun k h1 h2 => absurd h1 (by omega)
              | succ n55 ih55 =>
                intro k hn55 hi55  H locs Z ls hl
                have hgm := gm_ok (P := pp) (sets := sets) (ch := ch) mc ht (hin_lt hh mc (by omega)) k
                have hmp := mpj_ok (P := pp) (sets := sets) (ch := ch) mc hgm.2 hgm.1
                refine lv_iload_n hx hb dX6_join_55 rfl (lv_at hl 3 rfl) ?_
                refine lv_iload_n hx hb dX6_join_56 rfl (lv_at hl 1 rfl) ?_
                refine n_icmp_gt (tgt := 127) hx hb dX6_join_57 (by decide) (by omega) (by omega) (fun c57 => ?_) (fun c57 => ?_)
                · obtain rfl : i + 1 = k := by omega
                  refine lv_aload_n hx hb dX6_join_127 rfl (lv_at hl 0 rfl) ?_
                  refine gF_X6_44 E Z dX6_join_128 0 rfl rfl ?_
                  refine lv_iload_n hx hb dX6_join_131 rfl (lv_at hl 2 rfl) ?_
                  refine r_aldR E Z dX6_join_132 4 rfl (by omega) (by decide) ?_
                  exact ret () Z dX6_join_133 rfl rfl
                · refine lv_aload_n hx hb dX6_join_60 rfl (lv_at hl 0 rfl) ?_
                  refine c_Vv (As := []) (rest := []) (w2 := fun _ => [oM q 0 tr mc pp num yn cg, aN cA (q 1) 16 sets, aN cA (q 2) 8 (bt ch), aN cA (q 8) 7 ((gm pp sets ch mc (hin hp mc) t k).1), aR cA (q 9) 4 (tel (mpj pp sets ch ((gm pp sets ch mc (hin hp mc) t k).1) mc ((gm pp sets ch mc (hin hp mc) t k).2)))]) E Z (k_X6_joins l D cA q tr mc pp num yn cg sets ch ((gm pp sets ch mc (hin hp mc) t k).1) ((gm pp sets ch mc (hin hp mc) t k).2) (by first | assumption | omega) (by first | assumption | omega) hs7 hgm.1) wv_X6_131 ⟨rfl, rfl, Nat.le_of_ble_eq_true rfl, Nat.le_of_ble_eq_true rfl⟩ [0, 1, 2, 3, 4] rfl rfl rfl rfl (q0 := 0) rfl (fun _ => rfl) (fun _ => rfl) rfl hl.1 rfl (Nat.le_of_ble_eq_true rfl) dX6_join_61 ⟨Nat.zero_le _, Nat.zero_le _⟩ (fun _ H locs hp61 Z => ?_)
                  refine lv_iconst (v := nI 0) hx hb dX6_join_64 (by decide) ?_
                  refine lv_istore (lv' := [(4, .int (nI 0)), (0, .ref (q 0)), (1, .int (nI i)), (2, .int (nI w)), (3, .int (nI k))]) hx hb dX6_join_65 hl (by decide) rfl (fun ls hl => ?_)
                  have L67 : ∀ (n67 j : Nat), mc + 1 ≤ j + n67 → j ≤ mc → ∀ (H : Heap) (locs : List Loc), Wd D A s ([oM q 0 tr mc pp num yn cg, aN cA (q 1) 16 sets, aN cA (q 2) 8 (bt ch), aN cA (q 8) 7 (un (mpj pp sets ch (gm pp sets ch mc (hin hp mc) t k).1 mc (gm pp sets ch mc (hin hp mc) t k).2).1 (mpj pp sets ch (gm pp sets ch mc (hin hp mc) t k).1 mc (gm pp sets ch mc (hin hp mc) t k).2).2.1 (gm pp sets ch mc (hin hp mc) t k).1 j), aR cA (q 9) 4 (tel (mpj pp sets ch ((gm pp sets ch mc (hin hp mc) t k).1) mc ((gm pp sets ch mc (hin hp mc) t k).2)))]) H locs → ∀ (ls : Array Slot), lv_has ls 5 [(0, .ref (q 0)), (1, .int (nI i)), (2, .int (nI w)), (3, .int (nI k)), (4, .int (nI j))] → W p l e rm_k_X6_join s m args below meth c H locs 0 0 Q (F0 m 67 ls []) := by
                    intro n67
                    induction n67 with
                    | zero => exact fun j h1 h2 => absurd h1 (by omega)
                    | succ n67 ih67 =>
                      intro j hn67 hi67  H locs Z ls hl
                      refine lv_iload hx hb dX6_join_67 (lv_at hl 4 rfl) ?_
                      refine lv_aload_n hx hb dX6_join_69 rfl (lv_at hl 0 rfl) ?_
                      refine gF_X6_7 E Z dX6_join_70 0 rfl rfl ?_
                      refine n_icmp_ge (tgt := 121) hx hb dX6_join_73 (by decide) (by omega) (by omega) (fun c73 => ?_) (fun c73 => ?_)
                      · obtain rfl : mc = j := by omega
                        refine lv_iinc (v := nI (k + 1)) (lv' := [(3, .int (nI (k + 1))), (0, .ref (q 0)), (1, .int (nI i)), (2, .int (nI w)), (4, .int (nI mc))]) hx hb dX6_join_121 hl (k := 3) rfl (n_inc _ _ (by decide)) (by decide) rfl (fun ls hl => ?_)
                        refine lv_goto (tgt := 55) hx hb dX6_join_124 (by decide) ?_
                        exact ih55 (k + 1) (by omega) (by omega)   _ _ Z ls (lv_sub hl [1, 2, 3, 0] rfl)
                      · refine lv_aload_n hx hb dX6_join_76 rfl (lv_at hl 0 rfl) ?_
                        refine gF_X6_41 E Z dX6_join_77 0 rfl rfl ?_
                        refine lv_iload hx hb dX6_join_80 (lv_at hl 4 rfl) ?_
                        refine lv_aload_n hx hb dX6_join_82 rfl (lv_at hl 0 rfl) ?_
                        refine gF_X6_41 E Z dX6_join_83 0 rfl rfl ?_
                        refine lv_iload hx hb dX6_join_86 (lv_at hl 4 rfl) ?_
                        refine r_ald E Z dX6_join_88 3 rfl (by omega) (by decide) ?_
                        refine lv_aload_n hx hb dX6_join_89 rfl (lv_at hl 0 rfl) ?_
                        refine gF_X6_44 E Z dX6_join_90 0 rfl rfl ?_
                        refine lv_iconst (v := nI 1) hx hb dX6_join_93 (by decide) ?_
                        refine r_aldR E Z dX6_join_94 4 rfl (by omega) (by decide) ?_
                        refine r_top (y := nI ((mpj pp sets ch (gm pp sets ch mc (hin hp mc) t k).1 mc (gm pp sets ch mc (hin hp mc) t k).2).2.1)) rfl ?_
                        have hu := un_lt (se := (mpj pp sets ch (gm pp sets ch mc (hin hp mc) t k).1 mc (gm pp sets ch mc (hin hp mc) t k).2).2.1) hmp.1 hgm.1 j j
                        have hu2 := hmp.2
                        refine n_icmp_ne (tgt := 107) hx hb dX6_join_95 (by decide) (by omega) (by omega) (fun c95 => ?_) (fun c95 => ?_)
                        · refine lv_aload_n hx hb dX6_join_107 rfl (lv_at hl 0 rfl) ?_
                          refine gF_X6_41 E Z dX6_join_108 0 rfl rfl ?_
                          refine lv_iload hx hb dX6_join_111 (lv_at hl 4 rfl) ?_
                          refine r_ald E Z dX6_join_113 3 rfl (by omega) (by decide) ?_
                          refine r_top (y := nI (if un (mpj pp sets ch (gm pp sets ch mc (hin hp mc) t k).1 mc (gm pp sets ch mc (hin hp mc) t k).2).1 (mpj pp sets ch (gm pp sets ch mc (hin hp mc) t k).1 mc (gm pp sets ch mc (hin hp mc) t k).2).2.1 (gm pp sets ch mc (hin hp mc) t k).1 j j = (mpj pp sets ch (gm pp sets ch mc (hin hp mc) t k).1 mc (gm pp sets ch mc (hin hp mc) t k).2).2.1 then (mpj pp sets ch (gm pp sets ch mc (hin hp mc) t k).1 mc (gm pp sets ch mc (hin hp mc) t k).2).1 else un (mpj pp sets ch (gm pp sets ch mc (hin hp mc) t k).1 mc (gm pp sets ch mc (hin hp mc) t k).2).1 (mpj pp sets ch (gm pp sets ch mc (hin hp mc) t k).1 mc (gm pp sets ch mc (hin hp mc) t k).2).2.1 (gm pp sets ch mc (hin hp mc) t k).1 j j)) (congrArg nI (if_neg c95).symm) ?_
                          refine r_ast (w1 := [oM q 0 tr mc pp num yn cg, aN cA (q 1) 16 sets, aN cA (q 2) 8 (bt ch), aN cA (q 8) 7 (up (un (mpj pp sets ch (gm pp sets ch mc (hin hp mc) t k).1 mc (gm pp sets ch mc (hin hp mc) t k).2).1 (mpj pp sets ch (gm pp sets ch mc (hin hp mc) t k).1 mc (gm pp sets ch mc (hin hp mc) t k).2).2.1 (gm pp sets ch mc (hin hp mc) t k).1 j) j (if un (mpj pp sets ch (gm pp sets ch mc (hin hp mc) t k).1 mc (gm pp sets ch mc (hin hp mc) t k).2).1 (mpj pp sets ch (gm pp sets ch mc (hin hp mc) t k).1 mc (gm pp sets ch mc (hin hp mc) t k).2).2.1 (gm pp sets ch mc (hin hp mc) t k).1 j j = (mpj pp sets ch (gm pp sets ch mc (hin hp mc) t k).1 mc (gm pp sets ch mc (hin hp mc) t k).2).2.1 then (mpj pp sets ch (gm pp sets ch mc (hin hp mc) t k).1 mc (gm pp sets ch mc (hin hp mc) t k).2).1 else un (mpj pp sets ch (gm pp sets ch mc (hin hp mc) t k).1 mc (gm pp sets ch mc (hin hp mc) t k).2).1 (mpj pp sets ch (gm pp sets ch mc (hin hp mc) t k).1 mc (gm pp sets ch mc (hin hp mc) t k).2).2.1 (gm pp sets ch mc (hin hp mc) t k).1 j j)), aR cA (q 9) 4 (tel (mpj pp sets ch ((gm pp sets ch mc (hin hp mc) t k).1) mc ((gm pp sets ch mc (hin hp mc) t k).2)))]) E Z dX6_join_114 3 rfl (by omega) (by decide) rfl (fun H locs Z => ?_)
                          refine lv_iinc (v := nI (j + 1)) (lv' := [(4, .int (nI (j + 1))), (0, .ref (q 0)), (1, .int (nI i)), (2, .int (nI w)), (3, .int (nI k))]) hx hb dX6_join_115 hl (k := 4) rfl (n_inc _ _ (by decide)) (by decide) rfl (fun ls hl => ?_)
                          refine lv_goto (tgt := 67) hx hb dX6_join_118 (by decide) ?_
                          exact ih67 (j + 1) (by omega) (by omega)   _ _ Z ls (lv_sub hl [1, 2, 3, 4, 0] rfl)
                        · refine lv_aload_n hx hb dX6_join_98 rfl (lv_at hl 0 rfl) ?_
                          refine gF_X6_44 E Z dX6_join_99 0 rfl rfl ?_
                          refine lv_iconst (v := nI 0) hx hb dX6_join_102 (by decide) ?_
                          refine r_aldR E Z dX6_join_103 4 rfl (by omega) (by decide) ?_
                          refine lv_goto (tgt := 114) hx hb dX6_join_104 (by decide) ?_
                          refine r_top (y := nI ((mpj pp sets ch (gm pp sets ch mc (hin hp mc) t k).1 mc (gm pp sets ch mc (hin hp mc) t k).2).1)) rfl ?_
                          refine r_top (y := nI (if un (mpj pp sets ch (gm pp sets ch mc (hin hp mc) t k).1 mc (gm pp sets ch mc (hin hp mc) t k).2).1 (mpj pp sets ch (gm pp sets ch mc (hin hp mc) t k).1 mc (gm pp sets ch mc (hin hp mc) t k).2).2.1 (gm pp sets ch mc (hin hp mc) t k).1 j j = (mpj pp sets ch (gm pp sets ch mc (hin hp mc) t k).1 mc (gm pp sets ch mc (hin hp mc) t k).2).2.1 then (mpj pp sets ch (gm pp sets ch mc (hin hp mc) t k).1 mc (gm pp sets ch mc (hin hp mc) t k).2).1 else un (mpj pp sets ch (gm pp sets ch mc (hin hp mc) t k).1 mc (gm pp sets ch mc (hin hp mc) t k).2).1 (mpj pp sets ch (gm pp sets ch mc (hin hp mc) t k).1 mc (gm pp sets ch mc (hin hp mc) t k).2).2.1 (gm pp sets ch mc (hin hp mc) t k).1 j j)) (congrArg nI (if_pos c95).symm) ?_
                          refine r_ast (w1 := [oM q 0 tr mc pp num yn cg, aN cA (q 1) 16 sets, aN cA (q 2) 8 (bt ch), aN cA (q 8) 7 (up (un (mpj pp sets ch (gm pp sets ch mc (hin hp mc) t k).1 mc (gm pp sets ch mc (hin hp mc) t k).2).1 (mpj pp sets ch (gm pp sets ch mc (hin hp mc) t k).1 mc (gm pp sets ch mc (hin hp mc) t k).2).2.1 (gm pp sets ch mc (hin hp mc) t k).1 j) j (if un (mpj pp sets ch (gm pp sets ch mc (hin hp mc) t k).1 mc (gm pp sets ch mc (hin hp mc) t k).2).1 (mpj pp sets ch (gm pp sets ch mc (hin hp mc) t k).1 mc (gm pp sets ch mc (hin hp mc) t k).2).2.1 (gm pp sets ch mc (hin hp mc) t k).1 j j = (mpj pp sets ch (gm pp sets ch mc (hin hp mc) t k).1 mc (gm pp sets ch mc (hin hp mc) t k).2).2.1 then (mpj pp sets ch (gm pp sets ch mc (hin hp mc) t k).1 mc (gm pp sets ch mc (hin hp mc) t k).2).1 else un (mpj pp sets ch (gm pp sets ch mc (hin hp mc) t k).1 mc (gm pp sets ch mc (hin hp mc) t k).2).1 (mpj pp sets ch (gm pp sets ch mc (hin hp mc) t k).1 mc (gm pp sets ch mc (hin hp mc) t k).2).2.1 (gm pp sets ch mc (hin hp mc) t k).1 j j)), aR cA (q 9) 4 (tel (mpj pp sets ch ((gm pp sets ch mc (hin hp mc) t k).1) mc ((gm pp sets ch mc (hin hp mc) t k).2)))]) E Z dX6_join_114 3 rfl (by omega) (by decide) rfl (fun H locs Z => ?_)
                          refine lv_iinc (v := nI (j + 1)) (lv' := [(4, .int (nI (j + 1))), (0, .ref (q 0)), (1, .int (nI i)), (2, .int (nI w)), (3, .int (nI k))]) hx hb dX6_join_115 hl (k := 4) rfl (n_inc _ _ (by decide)) (by decide) rfl (fun ls hl => ?_)
                          refine lv_goto (tgt := 67) hx hb dX6_join_118 (by decide) ?_
                          exact ih67 (j + 1) (by omega) (by omega)   _ _ Z ls (lv_sub hl [1, 2, 3, 4, 0] rfl)
                  exact L67 (mc + 1) 0 (by omega) (by omega)   _ _ Z ls (lv_sub hl [1, 2, 3, 4, 0] rfl)
            exact L55 ((i + 1) + 1) 0 (by omega) (by omega)   _ _ Z ls (lv_sub hl [1, 2, 3, 0] rfl)
          · refine lv_aload_n hx hb dX6_join_40 rfl (lv_at hl 0 rfl) ?_
            refine gF_X6_41 E Z dX6_join_41 0 rfl rfl ?_
            refine lv_iload_n hx hb dX6_join_44 rfl (lv_at hl 3 rfl) ?_
            refine lv_iload_n hx hb dX6_join_45 rfl (lv_at hl 3 rfl) ?_
            refine r_ast (w1 := [oM q 0 tr mc pp num yn cg, aN cA (q 1) 16 sets, aN cA (q 2) 8 (bt ch), aN cA (q 8) 7 (up (hin hp j) j j), aR cA (q 9) 4 (tel t)]) E Z dX6_join_46 3 rfl (by omega) (by decide) rfl (fun H locs Z => ?_)
            refine lv_iinc (v := nI (j + 1)) (lv' := [(3, .int (nI (j + 1))), (0, .ref (q 0)), (1, .int (nI i)), (2, .int (nI w))]) hx hb dX6_join_47 hl (k := 3) rfl (n_inc _ _ (by decide)) (by decide) rfl (fun ls hl => ?_)
            refine lv_goto (tgt := 32) hx hb dX6_join_50 (by decide) ?_
            exact ih32 (j + 1) (by omega) (by omega)   _ _ Z ls (lv_sub hl [1, 2, 3, 0] rfl)
      exact L32 (mc + 1) 0 (by omega) (by omega)   _ _ Z ls (lv_sub hl [1, 2, 3, 0] rfl)
    · exact absurd (inr_ok (by omega) (by omega) (by omega)) c25
abbrev rm_k_X6_bears_bad : Room := { frames := 2, cells := 0, slots := 0, locals := 43 }
set_option maxHeartbeats 4000000 in
set_option maxRecDepth 100000 in
theorem k_X6_bears_bad (l : Launch) (D : va_G) (cA : ClassId) (q : Nat → Nat) (tr : Int64) (mc : Nat) (pp : Nat) (num : Nat) (yn : Nat) (cg : Nat) (x1 : Int32) (x2 : Int32) (hm1 : 1 ≤ mc) (hbad : ¬ ((nI 0 ≤ x1 ∧ x1 ≤ nI (mc - 1)) ∧ (nI 0 ≤ x2 ∧ x2 ≤ nI 99))) : Cti l yX6_bears cX6_bears 4 (some .int) rm_k_X6_bears_bad D cA [.ref (q 0), .int x1, .int x2] ([oM q 0 tr mc pp num yn cg]) (fun (r : Int32) (_ : Unit) => r = (-1)) (fun _ => [oM q 0 tr mc pp num yn cg]) := by
  refine st_i (by decide) (Nat.le_of_ble_eq_true rfl) ?_
  intro p e s m args below meth c A Q E ret Z ls hl
  have hx := E.1.1
  have hb := E.1.2.1
  have hl : lv_has ls 4 [(0, .ref (q 0)), (1, .int x1), (2, .int x2)] := hl
  refine lv_aload_n hx hb dX6_bears_0 rfl (lv_at hl 0 rfl) ?_
  refine lv_iconst (v := nI 0) hx hb dX6_bears_1 (by decide) ?_
  refine pF_X6_66 (w1 := [oM q 0 tr mc pp num yn cg]) E Z dX6_bears_2 0 rfl (Nat.le_of_ble_eq_true rfl) rfl (fun H locs Z => ?_)
  refine lv_aload_n hx hb dX6_bears_5 rfl (lv_at hl 0 rfl) ?_
  refine lv_iload_n hx hb dX6_bears_6 rfl (lv_at hl 1 rfl) ?_
  refine c_Vi (As := [.int x1]) (rest := []) (w2 := fun _ => [oM q 0 tr mc pp num yn cg]) E Z (k_X6_isMachine l D cA q tr mc pp num yn cg x1 (by first | assumption | omega)) wv_X6_80 ⟨rfl, rfl, Nat.le_of_ble_eq_true rfl, Nat.le_of_ble_eq_true rfl⟩ [0] rfl rfl rfl rfl (q0 := 0) rfl (fun _ => rfl) (fun _ => rfl) rfl hl.1 rfl (Nat.le_of_ble_eq_true rfl) dX6_bears_7 ⟨Nat.zero_le _, Nat.zero_le _⟩ (fun r7 _ H locs hp7 Z => ?_)
  subst hp7
  refine b_if_eq (tgt := 23) hx hb dX6_bears_10 (by decide) (fun c10 => ?_) (fun c10 => ?_)
  · refine lv_iconst (v := (-1)) hx hb dX6_bears_23 (by decide) ?_
    exact ret () Z dX6_bears_24 rfl rfl
  · refine lv_iload_n hx hb dX6_bears_13 rfl (lv_at hl 2 rfl) ?_
    refine lv_iconst (v := nI 0) hx hb dX6_bears_14 (by decide) ?_
    refine lv_bipush (v := nI 99) hx hb dX6_bears_15 (by decide) ?_
    refine c_Si (As := [.int x2, .int (nI 0), .int (nI 99)]) (rest := []) (w2 := fun _ => [oM q 0 tr mc pp num yn cg]) E Z (k_X6_in l D cA x2 (nI 0) (nI 99) ) ws_X6_72 ⟨rfl, rfl, Nat.le_of_ble_eq_true rfl, Nat.le_of_ble_eq_true rfl⟩ [] rfl rfl (fun _ => rfl) (fun _ => rfl) rfl hl.1 rfl (Nat.le_of_ble_eq_true rfl) dX6_bears_17 ⟨Nat.zero_le _, Nat.zero_le _⟩ (fun r17 _ H locs hp17 Z => ?_)
    subst hp17
    refine b_if_ne (tgt := 25) hx hb dX6_bears_20 (by decide) (fun c20 => ?_) (fun c20 => ?_)
    · exact absurd ⟨c10, c20⟩ hbad
    · refine lv_iconst (v := (-1)) hx hb dX6_bears_23 (by decide) ?_
      exact ret () Z dX6_bears_24 rfl rfl
abbrev rm_k_X6_bears : Room := { frames := 2, cells := 0, slots := 0, locals := 43 }
set_option maxHeartbeats 4000000 in
set_option maxRecDepth 100000 in
theorem k_X6_bears (l : Launch) (D : va_G) (cA : ClassId) (q : Nat → Nat) (tr : Int64) (mc : Nat) (pp : Nat) (num : Nat) (yn : Nat) (cg : Nat) (bo : Nat → Nat) (k : Nat) (am : Nat) (hm1 : 1 ≤ mc) (hM : mc ≤ 7) (hk : k < mc) (ham : 0 ≤ am ∧ am ≤ 99) : Cti l yX6_bears cX6_bears 4 (some .int) rm_k_X6_bears D cA [.ref (q 0), .int (nI k), .int (nI am)] ([oM q 0 tr mc pp num yn cg, aN cA (q 4) 7 bo]) (fun (r : Int32) (_ : Unit) => r = nI (bo k)) (fun _ => [oM q 0 tr mc pp num yn cg, aN cA (q 4) 7 (up bo k am)]) := by
  refine st_i (by decide) (Nat.le_of_ble_eq_true rfl) ?_
  intro p e s m args below meth c A Q E ret Z ls hl
  have hx := E.1.1
  have hb := E.1.2.1
  have hl : lv_has ls 4 [(0, .ref (q 0)), (1, .int (nI k)), (2, .int (nI am))] := hl
  refine lv_aload_n hx hb dX6_bears_0 rfl (lv_at hl 0 rfl) ?_
  refine lv_iconst (v := nI 0) hx hb dX6_bears_1 (by decide) ?_
  refine pF_X6_66 (w1 := [oM q 0 tr mc pp num yn cg, aN cA (q 4) 7 bo]) E Z dX6_bears_2 0 rfl (Nat.le_of_ble_eq_true rfl) rfl (fun H locs Z => ?_)
  refine lv_aload_n hx hb dX6_bears_5 rfl (lv_at hl 0 rfl) ?_
  refine lv_iload_n hx hb dX6_bears_6 rfl (lv_at hl 1 rfl) ?_
  refine c_Vi (As := [.int (nI k)]) (rest := []) (w2 := fun _ => [oM q 0 tr mc pp num yn cg, aN cA (q 4) 7 bo]) E Z (k_X6_isMachine l D cA q tr mc pp num yn cg (nI k) (by first | assumption | omega)) wv_X6_80 ⟨rfl, rfl, Nat.le_of_ble_eq_true rfl, Nat.le_of_ble_eq_true rfl⟩ [0] rfl rfl rfl rfl (q0 := 0) rfl (fun _ => rfl) (fun _ => rfl) rfl hl.1 rfl (Nat.le_of_ble_eq_true rfl) dX6_bears_7 ⟨Nat.zero_le _, Nat.zero_le _⟩ (fun r7 _ H locs hp7 Z => ?_)
  subst hp7
  refine b_if_eq (tgt := 23) hx hb dX6_bears_10 (by decide) (fun c10 => ?_) (fun c10 => ?_)
  · exact absurd (inr_ok (by omega) (by omega) (by omega)) c10
  · refine lv_iload_n hx hb dX6_bears_13 rfl (lv_at hl 2 rfl) ?_
    refine lv_iconst (v := nI 0) hx hb dX6_bears_14 (by decide) ?_
    refine lv_bipush (v := nI 99) hx hb dX6_bears_15 (by decide) ?_
    refine c_Si (As := [.int (nI am), .int (nI 0), .int (nI 99)]) (rest := []) (w2 := fun _ => [oM q 0 tr mc pp num yn cg, aN cA (q 4) 7 bo]) E Z (k_X6_in l D cA (nI am) (nI 0) (nI 99) ) ws_X6_72 ⟨rfl, rfl, Nat.le_of_ble_eq_true rfl, Nat.le_of_ble_eq_true rfl⟩ [] rfl rfl (fun _ => rfl) (fun _ => rfl) rfl hl.1 rfl (Nat.le_of_ble_eq_true rfl) dX6_bears_17 ⟨Nat.zero_le _, Nat.zero_le _⟩ (fun r17 _ H locs hp17 Z => ?_)
    subst hp17
    refine b_if_ne (tgt := 25) hx hb dX6_bears_20 (by decide) (fun c20 => ?_) (fun c20 => ?_)
    · refine lv_aload_n hx hb dX6_bears_25 rfl (lv_at hl 0 rfl) ?_
      refine gF_X6_26 E Z dX6_bears_26 0 rfl rfl ?_
      refine lv_iload_n hx hb dX6_bears_29 rfl (lv_at hl 1 rfl) ?_
      refine r_ald E Z dX6_bears_30 1 rfl (by omega) (by decide) ?_
      refine lv_istore_n (lv' := [(3, .int (nI (bo k))), (0, .ref (q 0)), (1, .int (nI k)), (2, .int (nI am))]) hx hb dX6_bears_31 rfl hl (by decide) rfl (fun ls hl => ?_)
      refine lv_aload_n hx hb dX6_bears_32 rfl (lv_at hl 1 rfl) ?_
      refine gF_X6_26 E Z dX6_bears_33 0 rfl rfl ?_
      refine lv_iload_n hx hb dX6_bears_36 rfl (lv_at hl 2 rfl) ?_
      refine lv_iload_n hx hb dX6_bears_37 rfl (lv_at hl 3 rfl) ?_
      refine r_ast (w1 := [oM q 0 tr mc pp num yn cg, aN cA (q 4) 7 (up bo k am)]) E Z dX6_bears_38 1 rfl (by omega) (by decide) rfl (fun H locs Z => ?_)
      refine lv_iload_n hx hb dX6_bears_39 rfl (lv_at hl 0 rfl) ?_
      exact ret () Z dX6_bears_40 rfl rfl
    · exact absurd (inr_ok (by omega) (by omega) (by omega)) c20
abbrev rm_k_X6_price_bad : Room := { frames := 2, cells := 0, slots := 0, locals := 43 }
set_option maxHeartbeats 4000000 in
set_option maxRecDepth 100000 in
theorem k_X6_price_bad (l : Launch) (D : va_G) (cA : ClassId) (q : Nat → Nat) (tr : Int64) (mc : Nat) (pp : Nat) (num : Nat) (yn : Nat) (cg : Nat) (x1 : Int32) (x2 : Int32) (hm1 : 1 ≤ mc) (hbad : ¬ ((nI 0 ≤ x1 ∧ x1 ≤ nI (mc - 1)) ∧ (nI 1 ≤ x2 ∧ x2 ≤ nI 50))) : Cti l yX6_price cX6_price 4 (some .int) rm_k_X6_price_bad D cA [.ref (q 0), .int x1, .int x2] ([oM q 0 tr mc pp num yn cg]) (fun (r : Int32) (_ : Unit) => r = (-1)) (fun _ => [oM q 0 tr mc pp num yn cg]) := by
  refine st_i (by decide) (Nat.le_of_ble_eq_true rfl) ?_
  intro p e s m args below meth c A Q E ret Z ls hl
  have hx := E.1.1
  have hb := E.1.2.1
  have hl : lv_has ls 4 [(0, .ref (q 0)), (1, .int x1), (2, .int x2)] := hl
  refine lv_aload_n hx hb dX6_price_0 rfl (lv_at hl 0 rfl) ?_
  refine lv_iconst (v := nI 0) hx hb dX6_price_1 (by decide) ?_
  refine pF_X6_66 (w1 := [oM q 0 tr mc pp num yn cg]) E Z dX6_price_2 0 rfl (Nat.le_of_ble_eq_true rfl) rfl (fun H locs Z => ?_)
  refine lv_aload_n hx hb dX6_price_5 rfl (lv_at hl 0 rfl) ?_
  refine lv_iload_n hx hb dX6_price_6 rfl (lv_at hl 1 rfl) ?_
  refine c_Vi (As := [.int x1]) (rest := []) (w2 := fun _ => [oM q 0 tr mc pp num yn cg]) E Z (k_X6_isMachine l D cA q tr mc pp num yn cg x1 (by first | assumption | omega)) wv_X6_80 ⟨rfl, rfl, Nat.le_of_ble_eq_true rfl, Nat.le_of_ble_eq_true rfl⟩ [0] rfl rfl rfl rfl (q0 := 0) rfl (fun _ => rfl) (fun _ => rfl) rfl hl.1 rfl (Nat.le_of_ble_eq_true rfl) dX6_price_7 ⟨Nat.zero_le _, Nat.zero_le _⟩ (fun r7 _ H locs hp7 Z => ?_)
  subst hp7
  refine b_if_eq (tgt := 23) hx hb dX6_price_10 (by decide) (fun c10 => ?_) (fun c10 => ?_)
  · refine lv_iconst (v := (-1)) hx hb dX6_price_23 (by decide) ?_
    exact ret () Z dX6_price_24 rfl rfl
  · refine lv_iload_n hx hb dX6_price_13 rfl (lv_at hl 2 rfl) ?_
    refine lv_iconst (v := nI 1) hx hb dX6_price_14 (by decide) ?_
    refine lv_bipush (v := nI 50) hx hb dX6_price_15 (by decide) ?_
    refine c_Si (As := [.int x2, .int (nI 1), .int (nI 50)]) (rest := []) (w2 := fun _ => [oM q 0 tr mc pp num yn cg]) E Z (k_X6_in l D cA x2 (nI 1) (nI 50) ) ws_X6_72 ⟨rfl, rfl, Nat.le_of_ble_eq_true rfl, Nat.le_of_ble_eq_true rfl⟩ [] rfl rfl (fun _ => rfl) (fun _ => rfl) rfl hl.1 rfl (Nat.le_of_ble_eq_true rfl) dX6_price_17 ⟨Nat.zero_le _, Nat.zero_le _⟩ (fun r17 _ H locs hp17 Z => ?_)
    subst hp17
    refine b_if_ne (tgt := 25) hx hb dX6_price_20 (by decide) (fun c20 => ?_) (fun c20 => ?_)
    · exact absurd ⟨c10, c20⟩ hbad
    · refine lv_iconst (v := (-1)) hx hb dX6_price_23 (by decide) ?_
      exact ret () Z dX6_price_24 rfl rfl
abbrev rm_k_X6_price : Room := { frames := 2, cells := 0, slots := 0, locals := 43 }
set_option maxHeartbeats 4000000 in
set_option maxRecDepth 100000 in
theorem k_X6_price (l : Launch) (D : va_G) (cA : ClassId) (q : Nat → Nat) (tr : Int64) (mc : Nat) (pp : Nat) (num : Nat) (yn : Nat) (cg : Nat) (pr : Nat → Nat) (k : Nat) (am : Nat) (hm1 : 1 ≤ mc) (hM : mc ≤ 7) (hk : k < mc) (ham : 1 ≤ am ∧ am ≤ 50) : Cti l yX6_price cX6_price 4 (some .int) rm_k_X6_price D cA [.ref (q 0), .int (nI k), .int (nI am)] ([oM q 0 tr mc pp num yn cg, aN cA (q 5) 7 pr]) (fun (r : Int32) (_ : Unit) => r = nI (pr k)) (fun _ => [oM q 0 tr mc pp num yn cg, aN cA (q 5) 7 (up pr k am)]) := by
  refine st_i (by decide) (Nat.le_of_ble_eq_true rfl) ?_
  intro p e s m args below meth c A Q E ret Z ls hl
  have hx := E.1.1
  have hb := E.1.2.1
  have hl : lv_has ls 4 [(0, .ref (q 0)), (1, .int (nI k)), (2, .int (nI am))] := hl
  refine lv_aload_n hx hb dX6_price_0 rfl (lv_at hl 0 rfl) ?_
  refine lv_iconst (v := nI 0) hx hb dX6_price_1 (by decide) ?_
  refine pF_X6_66 (w1 := [oM q 0 tr mc pp num yn cg, aN cA (q 5) 7 pr]) E Z dX6_price_2 0 rfl (Nat.le_of_ble_eq_true rfl) rfl (fun H locs Z => ?_)
  refine lv_aload_n hx hb dX6_price_5 rfl (lv_at hl 0 rfl) ?_
  refine lv_iload_n hx hb dX6_price_6 rfl (lv_at hl 1 rfl) ?_
  refine c_Vi (As := [.int (nI k)]) (rest := []) (w2 := fun _ => [oM q 0 tr mc pp num yn cg, aN cA (q 5) 7 pr]) E Z (k_X6_isMachine l D cA q tr mc pp num yn cg (nI k) (by first | assumption | omega)) wv_X6_80 ⟨rfl, rfl, Nat.le_of_ble_eq_true rfl, Nat.le_of_ble_eq_true rfl⟩ [0] rfl rfl rfl rfl (q0 := 0) rfl (fun _ => rfl) (fun _ => rfl) rfl hl.1 rfl (Nat.le_of_ble_eq_true rfl) dX6_price_7 ⟨Nat.zero_le _, Nat.zero_le _⟩ (fun r7 _ H locs hp7 Z => ?_)
  subst hp7
  refine b_if_eq (tgt := 23) hx hb dX6_price_10 (by decide) (fun c10 => ?_) (fun c10 => ?_)
  · exact absurd (inr_ok (by omega) (by omega) (by omega)) c10
  · refine lv_iload_n hx hb dX6_price_13 rfl (lv_at hl 2 rfl) ?_
    refine lv_iconst (v := nI 1) hx hb dX6_price_14 (by decide) ?_
    refine lv_bipush (v := nI 50) hx hb dX6_price_15 (by decide) ?_
    refine c_Si (As := [.int (nI am), .int (nI 1), .int (nI 50)]) (rest := []) (w2 := fun _ => [oM q 0 tr mc pp num yn cg, aN cA (q 5) 7 pr]) E Z (k_X6_in l D cA (nI am) (nI 1) (nI 50) ) ws_X6_72 ⟨rfl, rfl, Nat.le_of_ble_eq_true rfl, Nat.le_of_ble_eq_true rfl⟩ [] rfl rfl (fun _ => rfl) (fun _ => rfl) rfl hl.1 rfl (Nat.le_of_ble_eq_true rfl) dX6_price_17 ⟨Nat.zero_le _, Nat.zero_le _⟩ (fun r17 _ H locs hp17 Z => ?_)
    subst hp17
    refine b_if_ne (tgt := 25) hx hb dX6_price_20 (by decide) (fun c20 => ?_) (fun c20 => ?_)
    · refine lv_aload_n hx hb dX6_price_25 rfl (lv_at hl 0 rfl) ?_
      refine gF_X6_29 E Z dX6_price_26 0 rfl rfl ?_
      refine lv_iload_n hx hb dX6_price_29 rfl (lv_at hl 1 rfl) ?_
      refine r_ald E Z dX6_price_30 1 rfl (by omega) (by decide) ?_
      refine lv_istore_n (lv' := [(3, .int (nI (pr k))), (0, .ref (q 0)), (1, .int (nI k)), (2, .int (nI am))]) hx hb dX6_price_31 rfl hl (by decide) rfl (fun ls hl => ?_)
      refine lv_aload_n hx hb dX6_price_32 rfl (lv_at hl 1 rfl) ?_
      refine gF_X6_29 E Z dX6_price_33 0 rfl rfl ?_
      refine lv_iload_n hx hb dX6_price_36 rfl (lv_at hl 2 rfl) ?_
      refine lv_iload_n hx hb dX6_price_37 rfl (lv_at hl 3 rfl) ?_
      refine r_ast (w1 := [oM q 0 tr mc pp num yn cg, aN cA (q 5) 7 (up pr k am)]) E Z dX6_price_38 1 rfl (by omega) (by decide) rfl (fun H locs Z => ?_)
      refine lv_iload_n hx hb dX6_price_39 rfl (lv_at hl 0 rfl) ?_
      exact ret () Z dX6_price_40 rfl rfl
    · exact absurd (inr_ok (by omega) (by omega) (by omega)) c20
abbrev rm_k_X6_load_bad : Room := { frames := 2, cells := 0, slots := 0, locals := 43 }
set_option maxHeartbeats 4000000 in
set_option maxRecDepth 100000 in
theorem k_X6_load_bad (l : Launch) (D : va_G) (cA : ClassId) (q : Nat → Nat) (tr : Int64) (mc : Nat) (pp : Nat) (num : Nat) (yn : Nat) (cg : Nat) (x1 : Int32) (hm1 : 1 ≤ mc) (hbad : ¬ ((nI 0 ≤ x1 ∧ x1 ≤ nI (mc - 1)))) : Cti l yX6_load cX6_load 2 (some .int) rm_k_X6_load_bad D cA [.ref (q 0), .int x1] ([oM q 0 tr mc pp num yn cg]) (fun (r : Int32) (_ : Unit) => r = (-1)) (fun _ => [oM q 0 tr mc pp num yn cg]) := by
  refine st_i (by decide) (Nat.le_of_ble_eq_true rfl) ?_
  intro p e s m args below meth c A Q E ret Z ls hl
  have hx := E.1.1
  have hb := E.1.2.1
  have hl : lv_has ls 2 [(0, .ref (q 0)), (1, .int x1)] := hl
  refine lv_aload_n hx hb dX6_load_0 rfl (lv_at hl 0 rfl) ?_
  refine lv_iconst (v := nI 0) hx hb dX6_load_1 (by decide) ?_
  refine pF_X6_66 (w1 := [oM q 0 tr mc pp num yn cg]) E Z dX6_load_2 0 rfl (Nat.le_of_ble_eq_true rfl) rfl (fun H locs Z => ?_)
  refine lv_aload_n hx hb dX6_load_5 rfl (lv_at hl 0 rfl) ?_
  refine lv_iload_n hx hb dX6_load_6 rfl (lv_at hl 1 rfl) ?_
  refine c_Vi (As := [.int x1]) (rest := []) (w2 := fun _ => [oM q 0 tr mc pp num yn cg]) E Z (k_X6_isMachine l D cA q tr mc pp num yn cg x1 (by first | assumption | omega)) wv_X6_80 ⟨rfl, rfl, Nat.le_of_ble_eq_true rfl, Nat.le_of_ble_eq_true rfl⟩ [0] rfl rfl rfl rfl (q0 := 0) rfl (fun _ => rfl) (fun _ => rfl) rfl hl.1 rfl (Nat.le_of_ble_eq_true rfl) dX6_load_7 ⟨Nat.zero_le _, Nat.zero_le _⟩ (fun r7 _ H locs hp7 Z => ?_)
  subst hp7
  refine b_if_eq (tgt := 25) hx hb dX6_load_10 (by decide) (fun c10 => ?_) (fun c10 => ?_)
  · refine lv_iconst (v := (-1)) hx hb dX6_load_25 (by decide) ?_
    exact ret () Z dX6_load_26 rfl rfl
  · exact absurd c10 hbad
abbrev rm_k_X6_load : Room := { frames := 2, cells := 0, slots := 0, locals := 43 }
set_option maxHeartbeats 4000000 in
set_option maxRecDepth 100000 in
theorem k_X6_load (l : Launch) (D : va_G) (cA : ClassId) (q : Nat → Nat) (tr : Int64) (mc : Nat) (pp : Nat) (num : Nat) (yn : Nat) (cg : Nat) (sets : Nat → Nat) (ch : Nat) (amts : Nat → Nat) (k : Nat) (hP : pp ≤ 8) (hch : ch < 256) (hc2 : ch < 2 ^ pp) (hs : ∀ j, sets j < 2 ^ mc) (hm1 : 1 ≤ mc) (hM : mc ≤ 7) (hk : k < mc) : Cti l yX6_load cX6_load 2 (some .int) rm_k_X6_load D cA [.ref (q 0), .int (nI k)] ([oM q 0 tr mc pp num yn cg, aN cA (q 1) 16 sets, aN cA (q 2) 8 (bt ch), aN cA (q 3) 8 amts]) (fun (r : Int32) (_ : Unit) => r = nI (sm (ldp sets amts ch k) pp)) (fun _ => [oM q 0 tr mc pp num yn cg, aN cA (q 1) 16 sets, aN cA (q 2) 8 (bt ch), aN cA (q 3) 8 amts]) := by
  refine st_i (by decide) (Nat.le_of_ble_eq_true rfl) ?_
  intro p e s m args below meth c A Q E ret Z ls hl
  have hx := E.1.1
  have hb := E.1.2.1
  have hl : lv_has ls 2 [(0, .ref (q 0)), (1, .int (nI k))] := hl
  have hs7 := hs7_of hs hM
  refine lv_aload_n hx hb dX6_load_0 rfl (lv_at hl 0 rfl) ?_
  refine lv_iconst (v := nI 0) hx hb dX6_load_1 (by decide) ?_
  refine pF_X6_66 (w1 := [oM q 0 tr mc pp num yn cg, aN cA (q 1) 16 sets, aN cA (q 2) 8 (bt ch), aN cA (q 3) 8 amts]) E Z dX6_load_2 0 rfl (Nat.le_of_ble_eq_true rfl) rfl (fun H locs Z => ?_)
  refine lv_aload_n hx hb dX6_load_5 rfl (lv_at hl 0 rfl) ?_
  refine lv_iload_n hx hb dX6_load_6 rfl (lv_at hl 1 rfl) ?_
  refine c_Vi (As := [.int (nI k)]) (rest := []) (w2 := fun _ => [oM q 0 tr mc pp num yn cg, aN cA (q 1) 16 sets, aN cA (q 2) 8 (bt ch), aN cA (q 3) 8 amts]) E Z (k_X6_isMachine l D cA q tr mc pp num yn cg (nI k) (by first | assumption | omega)) wv_X6_80 ⟨rfl, rfl, Nat.le_of_ble_eq_true rfl, Nat.le_of_ble_eq_true rfl⟩ [0] rfl rfl rfl rfl (q0 := 0) rfl (fun _ => rfl) (fun _ => rfl) rfl hl.1 rfl (Nat.le_of_ble_eq_true rfl) dX6_load_7 ⟨Nat.zero_le _, Nat.zero_le _⟩ (fun r7 _ H locs hp7 Z => ?_)
  subst hp7
  refine b_if_eq (tgt := 25) hx hb dX6_load_10 (by decide) (fun c10 => ?_) (fun c10 => ?_)
  · exact absurd (inr_ok (by omega) (by omega) (by omega)) c10
  · refine lv_aload_n hx hb dX6_load_13 rfl (lv_at hl 0 rfl) ?_
    refine lv_iload_n hx hb dX6_load_14 rfl (lv_at hl 1 rfl) ?_
    refine lv_aload_n hx hb dX6_load_15 rfl (lv_at hl 0 rfl) ?_
    refine c_Vi (As := []) (rest := [.int (nI k), .ref (q 0)]) (w2 := fun _ => [oM q 0 tr mc pp num yn cg, aN cA (q 1) 16 sets, aN cA (q 2) 8 (bt ch), aN cA (q 3) 8 amts]) E Z (k_X6_bits l D cA q tr mc pp num yn cg ch (by first | assumption | omega) (by first | assumption | omega)) wv_X6_134 ⟨rfl, rfl, Nat.le_of_ble_eq_true rfl, Nat.le_of_ble_eq_true rfl⟩ [0, 2] rfl rfl rfl rfl (q0 := 0) rfl (fun _ => rfl) (fun _ => rfl) rfl hl.1 rfl (Nat.le_of_ble_eq_true rfl) dX6_load_16 ⟨Nat.zero_le _, Nat.zero_le _⟩ (fun r16 _ H locs hp16 Z => ?_)
    subst hp16
    refine c_Vi (As := [.int (nI k), .int (nI ch)]) (rest := []) (w2 := fun _ => [oM q 0 tr mc pp num yn cg, aN cA (q 1) 16 sets, aN cA (q 2) 8 (bt ch), aN cA (q 3) 8 amts]) E Z (k_X6_loadOf l D cA q tr mc pp num yn cg sets amts k ch (by first | assumption | omega) hs7 (by first | assumption | omega) (by first | assumption | omega)) wv_X6_138 ⟨rfl, rfl, Nat.le_of_ble_eq_true rfl, Nat.le_of_ble_eq_true rfl⟩ [0, 1, 3] rfl rfl rfl rfl (q0 := 0) rfl (fun _ => rfl) (fun _ => rfl) rfl hl.1 rfl (Nat.le_of_ble_eq_true rfl) dX6_load_19 ⟨Nat.zero_le _, Nat.zero_le _⟩ (fun r19 _ H locs hp19 Z => ?_)
    subst hp19
    refine lv_goto (tgt := 26) hx hb dX6_load_22 (by decide) ?_
    exact ret () Z dX6_load_26 rfl rfl

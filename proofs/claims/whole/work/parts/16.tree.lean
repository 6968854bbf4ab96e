abbrev rm_k_X3_compareMachines : Room := { frames := 2, cells := 0, slots := 0, locals := 47 }
set_option maxHeartbeats 4000000 in
set_option maxRecDepth 100000 in
theorem k_X3_compareMachines (l : Launch) (D : va_G) (cA : ClassId) (q : Nat) (qh : Nat) (mc : Nat) (t : TS) (hp : Nat → Nat) (pq : Nat) (ps : Nat) (pa : Nat) (size : Nat) (ch : Nat) (sets : Nat → Nat) (a : Nat) (b : Nat) (hP : size ≤ 8) (hch : ch < 256) (hs : ∀ j, sets j < 128) (ha : a < 7) (hb0 : b < 7) : Ctv l yX3_compareMachines cX3_compareMachines 6 none rm_k_X3_compareMachines D cA [.ref q, .ref pq, .int (nI a), .int (nI b)] ([oT q qh mc t, aN cA qh 7 hp, oP pq ps pa size ch, aN cA ps 16 sets]) (fun (_ : Unit) => True) (fun _ => [oT q qh mc (tcm size sets ch hp a b t), aN cA qh 7 hp, oP pq ps pa size ch, aN cA ps 16 sets]) := by
  refine st_v (by decide) (Nat.le_of_ble_eq_true rfl) ?_
  intro p e s m args below meth c A Q E ret Z ls hl
  have hx := E.1.1
  have hb := E.1.2.1
  have hl : lv_has ls 6 [(0, .ref q), (1, .ref pq), (2, .int (nI a)), (3, .int (nI b))] := hl
  refine lv_aload_n hx hb dX3_compareMachines_0 rfl (lv_at hl 1 rfl) ?_
  refine lv_iload_n hx hb dX3_compareMachines_1 rfl (lv_at hl 2 rfl) ?_
  refine lv_iload_n hx hb dX3_compareMachines_2 rfl (lv_at hl 3 rfl) ?_
  refine c_Vi (As := [.int (nI a), .int (nI b)]) (rest := []) (w2 := fun _ => [oT q qh mc t, aN cA qh 7 hp, oP pq ps pa size ch, aN cA ps 16 sets]) E Z (k_X1_withBoth l D cA pq ps pa size ch sets a b (by first | assumption | omega) (by first | assumption | omega) (by first | assumption | omega) (by first | assumption | omega) (by first | assumption | omega)) wv_X3_45 ⟨rfl, rfl, Nat.le_of_ble_eq_true rfl, Nat.le_of_ble_eq_true rfl⟩ [2, 3] rfl rfl rfl rfl (q0 := 0) rfl (fun _ => rfl) (fun _ => rfl) rfl hl.1 rfl (Nat.le_of_ble_eq_true rfl) dX3_compareMachines_3 ⟨Nat.zero_le _, Nat.zero_le _⟩ (fun r3 _ H locs hp3 Z => ?_)
  subst hp3
  refine lv_istore (lv' := [(4, .int (nI (sm (bop sets ch a b) size))), (0, .ref q), (1, .ref pq), (2, .int (nI a)), (3, .int (nI b))]) hx hb dX3_compareMachines_6 hl (by decide) rfl (fun ls hl => ?_)
  refine lv_aload_n hx hb dX3_compareMachines_8 rfl (lv_at hl 2 rfl) ?_
  refine lv_iload_n hx hb dX3_compareMachines_9 rfl (lv_at hl 3 rfl) ?_
  refine lv_iload_n hx hb dX3_compareMachines_10 rfl (lv_at hl 4 rfl) ?_
  refine c_Vi (As := [.int (nI a), .int (nI b)]) (rest := []) (w2 := fun _ => [oT q qh mc t, aN cA qh 7 hp, oP pq ps pa size ch, aN cA ps 16 sets]) E Z (k_X1_withEither l D cA pq ps pa size ch sets a b (by first | assumption | omega) (by first | assumption | omega) (by first | assumption | omega) (by first | assumption | omega) (by first | assumption | omega)) wv_X3_51 ⟨rfl, rfl, Nat.le_of_ble_eq_true rfl, Nat.le_of_ble_eq_true rfl⟩ [2, 3] rfl rfl rfl rfl (q0 := 0) rfl (fun _ => rfl) (fun _ => rfl) rfl hl.1 rfl (Nat.le_of_ble_eq_true rfl) dX3_compareMachines_11 ⟨Nat.zero_le _, Nat.zero_le _⟩ (fun r11 _ H locs hp11 Z => ?_)
  subst hp11
  refine lv_istore (lv' := [(5, .int (nI (eith size sets ch a b))), (4, .int (nI (sm (bop sets ch a b) size))), (0, .ref q), (1, .ref pq), (2, .int (nI a)), (3, .int (nI b))]) hx hb dX3_compareMachines_14 hl (by decide) rfl (fun ls hl => ?_)
  refine lv_iload hx hb dX3_compareMachines_16 (lv_at hl 1 rfl) ?_
  refine lv_aload_n hx hb dX3_compareMachines_18 rfl (lv_at hl 2 rfl) ?_
  refine gF_X3_35 E Z dX3_compareMachines_19 0 rfl rfl ?_
  refine lv_imul hx hb dX3_compareMachines_22 ?_
  refine lv_aload_n hx hb dX3_compareMachines_23 rfl (lv_at hl 2 rfl) ?_
  refine gF_X3_32 E Z dX3_compareMachines_24 0 rfl rfl ?_
  refine lv_iload hx hb dX3_compareMachines_27 (lv_at hl 0 rfl) ?_
  refine lv_imul hx hb dX3_compareMachines_29 ?_
  refine lv_icmp_le (tgt := 65) hx hb dX3_compareMachines_30 (by decide) (fun c30 => ?_) (fun c30 => ?_)
  · replace Z : Wd D A s ([oT q qh mc (tcm size sets ch hp a b t), aN cA qh 7 hp, oP pq ps pa size ch, aN cA ps 16 sets]) _ _ := Z.to (by rw [show tcm size sets ch hp a b t = t from if_neg (Int32.not_lt.mpr c30)])
    exact ret () Z dX3_compareMachines_65 rfl trivial
  · refine lv_aload_n hx hb dX3_compareMachines_33 rfl (lv_at hl 2 rfl) ?_
    refine lv_aload_n hx hb dX3_compareMachines_34 rfl (lv_at hl 2 rfl) ?_
    refine gF_X3_9 E Z dX3_compareMachines_35 0 rfl rfl ?_
    refine lv_iload_n hx hb dX3_compareMachines_38 rfl (lv_at hl 4 rfl) ?_
    refine r_ald E Z dX3_compareMachines_39 1 rfl (by omega) (by decide) ?_
    refine pF_X3_26 (w1 := [oT q qh mc (hp a, t.2.1, t.2.2.1, t.2.2.2), aN cA qh 7 hp, oP pq ps pa size ch, aN cA ps 16 sets]) E Z dX3_compareMachines_40 0 rfl (Nat.le_of_ble_eq_true rfl) rfl (fun H locs Z => ?_)
    refine lv_aload_n hx hb dX3_compareMachines_43 rfl (lv_at hl 2 rfl) ?_
    refine lv_aload_n hx hb dX3_compareMachines_44 rfl (lv_at hl 2 rfl) ?_
    refine gF_X3_9 E Z dX3_compareMachines_45 0 rfl rfl ?_
    refine lv_iload_n hx hb dX3_compareMachines_48 rfl (lv_at hl 5 rfl) ?_
    refine r_ald E Z dX3_compareMachines_49 1 rfl (by omega) (by decide) ?_
    refine pF_X3_29 (w1 := [oT q qh mc ((hp a, t.2.1, t.2.2.1, t.2.2.2).1, hp b, (hp a, t.2.1, t.2.2.1, t.2.2.2).2.2.1, (hp a, t.2.1, t.2.2.1, t.2.2.2).2.2.2), aN cA qh 7 hp, oP pq ps pa size ch, aN cA ps 16 sets]) E Z dX3_compareMachines_50 0 rfl (Nat.le_of_ble_eq_true rfl) rfl (fun H locs Z => ?_)
    refine lv_aload_n hx hb dX3_compareMachines_53 rfl (lv_at hl 2 rfl) ?_
    refine lv_iload hx hb dX3_compareMachines_54 (lv_at hl 1 rfl) ?_
    refine pF_X3_32 (w1 := [oT q qh mc (((hp a, t.2.1, t.2.2.1, t.2.2.2).1, hp b, (hp a, t.2.1, t.2.2.1, t.2.2.2).2.2.1, (hp a, t.2.1, t.2.2.1, t.2.2.2).2.2.2).1, ((hp a, t.2.1, t.2.2.1, t.2.2.2).1, hp b, (hp a, t.2.1, t.2.2.1, t.2.2.2).2.2.1, (hp a, t.2.1, t.2.2.1, t.2.2.2).2.2.2).2.1, nI (sm (bop sets ch a b) size), ((hp a, t.2.1, t.2.2.1, t.2.2.2).1, hp b, (hp a, t.2.1, t.2.2.1, t.2.2.2).2.2.1, (hp a, t.2.1, t.2.2.1, t.2.2.2).2.2.2).2.2.2), aN cA qh 7 hp, oP pq ps pa size ch, aN cA ps 16 sets]) E Z dX3_compareMachines_56 0 rfl (Nat.le_of_ble_eq_true rfl) rfl (fun H locs Z => ?_)
    refine lv_aload_n hx hb dX3_compareMachines_59 rfl (lv_at hl 2 rfl) ?_
    refine lv_iload hx hb dX3_compareMachines_60 (lv_at hl 0 rfl) ?_
    refine pF_X3_35 (w1 := [oT q qh mc ((((hp a, t.2.1, t.2.2.1, t.2.2.2).1, hp b, (hp a, t.2.1, t.2.2.1, t.2.2.2).2.2.1, (hp a, t.2.1, t.2.2.1, t.2.2.2).2.2.2).1, ((hp a, t.2.1, t.2.2.1, t.2.2.2).1, hp b, (hp a, t.2.1, t.2.2.1, t.2.2.2).2.2.1, (hp a, t.2.1, t.2.2.1, t.2.2.2).2.2.2).2.1, nI (sm (bop sets ch a b) size), ((hp a, t.2.1, t.2.2.1, t.2.2.2).1, hp b, (hp a, t.2.1, t.2.2.1, t.2.2.2).2.2.1, (hp a, t.2.1, t.2.2.1, t.2.2.2).2.2.2).2.2.2).1, (((hp a, t.2.1, t.2.2.1, t.2.2.2).1, hp b, (hp a, t.2.1, t.2.2.1, t.2.2.2).2.2.1, (hp a, t.2.1, t.2.2.1, t.2.2.2).2.2.2).1, ((hp a, t.2.1, t.2.2.1, t.2.2.2).1, hp b, (hp a, t.2.1, t.2.2.1, t.2.2.2).2.2.1, (hp a, t.2.1, t.2.2.1, t.2.2.2).2.2.2).2.1, nI (sm (bop sets ch a b) size), ((hp a, t.2.1, t.2.2.1, t.2.2.2).1, hp b, (hp a, t.2.1, t.2.2.1, t.2.2.2).2.2.1, (hp a, t.2.1, t.2.2.1, t.2.2.2).2.2.2).2.2.2).2.1, (((hp a, t.2.1, t.2.2.1, t.2.2.2).1, hp b, (hp a, t.2.1, t.2.2.1, t.2.2.2).2.2.1, (hp a, t.2.1, t.2.2.1, t.2.2.2).2.2.2).1, ((hp a, t.2.1, t.2.2.1, t.2.2.2).1, hp b, (hp a, t.2.1, t.2.2.1, t.2.2.2).2.2.1, (hp a, t.2.1, t.2.2.1, t.2.2.2).2.2.2).2.1, nI (sm (bop sets ch a b) size), ((hp a, t.2.1, t.2.2.1, t.2.2.2).1, hp b, (hp a, t.2.1, t.2.2.1, t.2.2.2).2.2.1, (hp a, t.2.1, t.2.2.1, t.2.2.2).2.2.2).2.2.2).2.2.1, nI (eith size sets ch a b)), aN cA qh 7 hp, oP pq ps pa size ch, aN cA ps 16 sets]) E Z dX3_compareMachines_62 0 rfl (Nat.le_of_ble_eq_true rfl) rfl (fun H locs Z => ?_)
    replace Z : Wd D A s ([oT q qh mc (tcm size sets ch hp a b t), aN cA qh 7 hp, oP pq ps pa size ch, aN cA ps 16 sets]) _ _ := Z.to (by rw [show tcm size sets ch hp a b t = (hp a, hp b, nI (sm (bop sets ch a b) size), nI (eith size sets ch a b)) from if_pos (Int32.not_le.mp c30)])
    exact ret () Z dX3_compareMachines_65 rfl trivial
abbrev rm_k_X3_compareHeaps : Room := { frames := 3, cells := 0, slots := 0, locals := 72 }
set_option maxHeartbeats 4000000 in
set_option maxRecDepth 100000 in
theorem k_X3_compareHeaps (l : Launch) (D : va_G) (cA : ClassId) (q : Nat) (qh : Nat) (mc : Nat) (t : TS) (hp : Nat → Nat) (pq : Nat) (ps : Nat) (pa : Nat) (size : Nat) (ch : Nat) (sets : Nat → Nat) (f : Nat) (g : Nat) (hP : size ≤ 8) (hch : ch < 256) (hs : ∀ j, sets j < 128) (hh : ∀ j, hp j < 8) (h7 : mc ≤ 7) (hf : f < 8) (hg : g < 8) : Ctv l yX3_compareHeaps cX3_compareHeaps 6 none rm_k_X3_compareHeaps D cA [.ref q, .ref pq, .int (nI f), .int (nI g)] ([oT q qh mc t, aN cA qh 7 hp, oP pq ps pa size ch, aN cA ps 16 sets]) (fun (_ : Unit) => True) (fun _ => [oT q qh mc (ta size sets ch hp f g mc t mc), aN cA qh 7 hp, oP pq ps pa size ch, aN cA ps 16 sets]) := by
  refine st_v (by decide) (Nat.le_of_ble_eq_true rfl) ?_
  intro p e s m args below meth c A Q E ret Z ls hl
  have hx := E.1.1
  have hb := E.1.2.1
  have hl : lv_has ls 6 [(0, .ref q), (1, .ref pq), (2, .int (nI f)), (3, .int (nI g))] := hl
  refine lv_iconst (v := nI 0) hx hb dX3_compareHeaps_0 (by decide) ?_
  refine lv_istore (lv' := [(4, .int (nI 0)), (0, .ref q), (1, .ref pq), (2, .int (nI f)), (3, .int (nI g))]) hx hb dX3_compareHeaps_1 hl (by decide) rfl (fun ls hl => ?_)
  have L3 : ∀ (n3 a : Nat), mc + 1 ≤ a + n3 → a ≤ mc → ∀ (H : Heap) (locs : List Loc), Wd D A s ([oT q qh mc (ta size sets ch hp f g mc t a), aN cA qh 7 hp, oP pq ps pa size ch, aN cA ps 16 sets]) H locs → ∀ (ls : Array Slot), lv_has ls 6 [(0, .ref q), (1, .ref pq), (2, .int (nI f)), (3, .int (nI g)), (4, .int (nI a))] → W p l e rm_k_X3_compareHeaps s m args below meth c H locs 0 0 Q (F0 m 3 ls []) := by
    intro n3
    induction n3 with
    | zero => exact fun a h1 h2 => absurd h1 (by omega)
    | succ n3 ih3 =>
      intro a hn3 hi3  H locs Z ls hl
      refine lv_iload hx hb dX3_compareHeaps_3 (lv_at hl 4 rfl) ?_
      refine lv_aload_n hx hb dX3_compareHeaps_5 rfl (lv_at hl 0 rfl) ?_
      refine gF_X3_15 E Z dX3_compareHeaps_6 0 rfl rfl ?_
      refine n_icmp_ge (tgt := 67) hx hb dX3_compareHeaps_9 (by decide) (by omega) (by omega) (fun c9 => ?_) (fun c9 => ?_)
      · obtain rfl : mc = a := by omega
        exact ret () Z dX3_compareHeaps_67 rfl trivial
      · refine lv_iconst (v := nI 0) hx hb dX3_compareHeaps_12 (by decide) ?_
        refine lv_istore (lv' := [(5, .int (nI 0)), (0, .ref q), (1, .ref pq), (2, .int (nI f)), (3, .int (nI g)), (4, .int (nI a))]) hx hb dX3_compareHeaps_13 hl (by decide) rfl (fun ls hl => ?_)
        have L15 : ∀ (n15 b : Nat), mc + 1 ≤ b + n15 → b ≤ mc → ∀ (H : Heap) (locs : List Loc), Wd D A s ([oT q qh mc (tb size sets ch hp f g a (ta size sets ch hp f g mc t a) b), aN cA qh 7 hp, oP pq ps pa size ch, aN cA ps 16 sets]) H locs → ∀ (ls : Array Slot), lv_has ls 6 [(0, .ref q), (1, .ref pq), (2, .int (nI f)), (3, .int (nI g)), (4, .int (nI a)), (5, .int (nI b))] → W p l e rm_k_X3_compareHeaps s m args below meth c H locs 0 0 Q (F0 m 15 ls []) := by
          intro n15
          induction n15 with
          | zero => exact fun b h1 h2 => absurd h1 (by omega)
          | succ n15 ih15 =>
            intro b hn15 hi15  H locs Z ls hl
            refine lv_iload hx hb dX3_compareHeaps_15 (lv_at hl 5 rfl) ?_
            refine lv_aload_n hx hb dX3_compareHeaps_17 rfl (lv_at hl 0 rfl) ?_
            refine gF_X3_15 E Z dX3_compareHeaps_18 0 rfl rfl ?_
            refine n_icmp_ge (tgt := 61) hx hb dX3_compareHeaps_21 (by decide) (by omega) (by omega) (fun c21 => ?_) (fun c21 => ?_)
            · obtain rfl : mc = b := by omega
              refine lv_iinc (v := nI (a + 1)) (lv' := [(4, .int (nI (a + 1))), (0, .ref q), (1, .ref pq), (2, .int (nI f)), (3, .int (nI g)), (5, .int (nI mc))]) hx hb dX3_compareHeaps_61 hl (k := 4) rfl (n_inc _ _ (by decide)) (by decide) rfl (fun ls hl => ?_)
              refine lv_goto (tgt := 3) hx hb dX3_compareHeaps_64 (by decide) ?_
              exact ih3 (a + 1) (by omega) (by omega)   _ _ Z ls (lv_sub hl [1, 2, 3, 4, 0] rfl)
            · refine lv_aload_n hx hb dX3_compareHeaps_24 rfl (lv_at hl 0 rfl) ?_
              refine gF_X3_9 E Z dX3_compareHeaps_25 0 rfl rfl ?_
              refine lv_iload hx hb dX3_compareHeaps_28 (lv_at hl 4 rfl) ?_
              refine r_ald E Z dX3_compareHeaps_30 1 rfl (by omega) (by decide) ?_
              have hha := hh a
              refine lv_iload_n hx hb dX3_compareHeaps_31 rfl (lv_at hl 2 rfl) ?_
              refine n_icmp_ne (tgt := 55) hx hb dX3_compareHeaps_32 (by decide) (by omega) (by omega) (fun c32 => ?_) (fun c32 => ?_)
              · replace Z : Wd D A s ([oT q qh mc (tb size sets ch hp f g a (ta size sets ch hp f g mc t a) (b + 1)), aN cA qh 7 hp, oP pq ps pa size ch, aN cA ps 16 sets]) _ _ := Z.to (by rw [show tb size sets ch hp f g a (ta size sets ch hp f g mc t a) (b + 1) = tb size sets ch hp f g a (ta size sets ch hp f g mc t a) b from if_neg (fun h => c32 h.1)])
                refine lv_iinc (v := nI (b + 1)) (lv' := [(5, .int (nI (b + 1))), (0, .ref q), (1, .ref pq), (2, .int (nI f)), (3, .int (nI g)), (4, .int (nI a))]) hx hb dX3_compareHeaps_55 hl (k := 5) rfl (n_inc _ _ (by decide)) (by decide) rfl (fun ls hl => ?_)
                refine lv_goto (tgt := 15) hx hb dX3_compareHeaps_58 (by decide) ?_
                exact ih15 (b + 1) (by omega) (by omega)   _ _ Z ls (lv_sub hl [1, 2, 3, 4, 5, 0] rfl)
              · refine lv_aload_n hx hb dX3_compareHeaps_35 rfl (lv_at hl 0 rfl) ?_
                refine gF_X3_9 E Z dX3_compareHeaps_36 0 rfl rfl ?_
                refine lv_iload hx hb dX3_compareHeaps_39 (lv_at hl 5 rfl) ?_
                refine r_ald E Z dX3_compareHeaps_41 1 rfl (by omega) (by decide) ?_
                have hhb := hh b
                refine lv_iload_n hx hb dX3_compareHeaps_42 rfl (lv_at hl 3 rfl) ?_
                refine n_icmp_ne (tgt := 55) hx hb dX3_compareHeaps_43 (by decide) (by omega) (by omega) (fun c43 => ?_) (fun c43 => ?_)
                · replace Z : Wd D A s ([oT q qh mc (tb size sets ch hp f g a (ta size sets ch hp f g mc t a) (b + 1)), aN cA qh 7 hp, oP pq ps pa size ch, aN cA ps 16 sets]) _ _ := Z.to (by rw [show tb size sets ch hp f g a (ta size sets ch hp f g mc t a) (b + 1) = tb size sets ch hp f g a (ta size sets ch hp f g mc t a) b from if_neg (fun h => c43 h.2)])
                  refine lv_iinc (v := nI (b + 1)) (lv' := [(5, .int (nI (b + 1))), (0, .ref q), (1, .ref pq), (2, .int (nI f)), (3, .int (nI g)), (4, .int (nI a))]) hx hb dX3_compareHeaps_55 hl (k := 5) rfl (n_inc _ _ (by decide)) (by decide) rfl (fun ls hl => ?_)
                  refine lv_goto (tgt := 15) hx hb dX3_compareHeaps_58 (by decide) ?_
                  exact ih15 (b + 1) (by omega) (by omega)   _ _ Z ls (lv_sub hl [1, 2, 3, 4, 5, 0] rfl)
                · refine lv_aload_n hx hb dX3_compareHeaps_46 rfl (lv_at hl 0 rfl) ?_
                  refine lv_aload_n hx hb dX3_compareHeaps_47 rfl (lv_at hl 1 rfl) ?_
                  refine lv_iload hx hb dX3_compareHeaps_48 (lv_at hl 4 rfl) ?_
                  refine lv_iload hx hb dX3_compareHeaps_50 (lv_at hl 5 rfl) ?_
                  refine c_Vv (As := [.ref pq, .int (nI a), .int (nI b)]) (rest := []) (w2 := fun _ => [oT q qh mc (tcm size sets ch hp a b (tb size sets ch hp f g a (ta size sets ch hp f g mc t a) b)), aN cA qh 7 hp, oP pq ps pa size ch, aN cA ps 16 sets]) E Z (k_X3_compareMachines l D cA q qh mc (tb size sets ch hp f g a (ta size sets ch hp f g mc t a) b) hp pq ps pa size ch sets a b (by first | assumption | omega) (by first | assumption | omega) (by first | assumption | omega) (by first | assumption | omega) (by first | assumption | omega)) wv_X3_42 ⟨rfl, rfl, Nat.le_of_ble_eq_true rfl, Nat.le_of_ble_eq_true rfl⟩ [0, 1, 2, 3] rfl rfl rfl rfl (q0 := 0) rfl (fun _ => rfl) (fun _ => rfl) rfl hl.1 rfl (Nat.le_of_ble_eq_true rfl) dX3_compareHeaps_52 ⟨Nat.zero_le _, Nat.zero_le _⟩ (fun _ H locs hp52 Z => ?_)
                  replace Z : Wd D A s ([oT q qh mc (tb size sets ch hp f g a (ta size sets ch hp f g mc t a) (b + 1)), aN cA qh 7 hp, oP pq ps pa size ch, aN cA ps 16 sets]) _ _ := Z.to (by rw [show tb size sets ch hp f g a (ta size sets ch hp f g mc t a) (b + 1) = tcm size sets ch hp a b (tb size sets ch hp f g a (ta size sets ch hp f g mc t a) b) from if_pos ⟨c32, c43⟩])
                  refine lv_iinc (v := nI (b + 1)) (lv' := [(5, .int (nI (b + 1))), (0, .ref q), (1, .ref pq), (2, .int (nI f)), (3, .int (nI g)), (4, .int (nI a))]) hx hb dX3_compareHeaps_55 hl (k := 5) rfl (n_inc _ _ (by decide)) (by decide) rfl (fun ls hl => ?_)
                  refine lv_goto (tgt := 15) hx hb dX3_compareHeaps_58 (by decide) ?_
                  exact ih15 (b + 1) (by omega) (by omega)   _ _ Z ls (lv_sub hl [1, 2, 3, 4, 5, 0] rfl)
        exact L15 (mc + 1) 0 (by omega) (by omega)   _ _ Z ls (lv_sub hl [1, 2, 3, 4, 5, 0] rfl)
  exact L3 (mc + 1) 0 (by omega) (by omega)   _ _ Z ls (lv_sub hl [1, 2, 3, 4, 0] rfl)
abbrev rm_k_X3_seekPair : Room := { frames := 4, cells := 0, slots := 0, locals := 97 }
set_option maxHeartbeats 4000000 in
set_option maxRecDepth 100000 in
theorem k_X3_seekPair (l : Launch) (D : va_G) (cA : ClassId) (q : Nat) (qh : Nat) (mc : Nat) (t : TS) (hp : Nat → Nat) (pq : Nat) (ps : Nat) (pa : Nat) (size : Nat) (ch : Nat) (sets : Nat → Nat) (hP : size ≤ 8) (hch : ch < 256) (hs : ∀ j, sets j < 128) (hh : ∀ j, hp j < 8) (h7 : mc ≤ 7) : Ctv l yX3_seekPair cX3_seekPair 4 none rm_k_X3_seekPair D cA [.ref q, .ref pq] ([oT q qh mc t, aN cA qh 7 hp, oP pq ps pa size ch, aN cA ps 16 sets]) (fun (_ : Unit) => True) (fun _ => [oT q qh mc (spj size sets ch hp mc t), aN cA qh 7 hp, oP pq ps pa size ch, aN cA ps 16 sets]) := by
  refine st_v (by decide) (Nat.le_of_ble_eq_true rfl) ?_
  intro p e s m args below meth c A Q E ret Z ls hl
  have hx := E.1.1
  have hb := E.1.2.1
  have hl : lv_has ls 4 [(0, .ref q), (1, .ref pq)] := hl
  refine lv_aload_n hx hb dX3_seekPair_0 rfl (lv_at hl 0 rfl) ?_
  refine lv_iconst (v := (-1)) hx hb dX3_seekPair_1 (by decide) ?_
  refine pF_X3_32 (w1 := [oT q qh mc (t.1, t.2.1, (-1), t.2.2.2), aN cA qh 7 hp, oP pq ps pa size ch, aN cA ps 16 sets]) E Z dX3_seekPair_2 0 rfl (Nat.le_of_ble_eq_true rfl) rfl (fun H locs Z => ?_)
  refine lv_aload_n hx hb dX3_seekPair_5 rfl (lv_at hl 0 rfl) ?_
  refine lv_iconst (v := nI 1) hx hb dX3_seekPair_6 (by decide) ?_
  refine pF_X3_35 (w1 := [oT q qh mc ((t.1, t.2.1, (-1), t.2.2.2).1, (t.1, t.2.1, (-1), t.2.2.2).2.1, (t.1, t.2.1, (-1), t.2.2.2).2.2.1, nI 1), aN cA qh 7 hp, oP pq ps pa size ch, aN cA ps 16 sets]) E Z dX3_seekPair_7 0 rfl (Nat.le_of_ble_eq_true rfl) rfl (fun H locs Z => ?_)
  refine lv_iconst (v := nI 0) hx hb dX3_seekPair_10 (by decide) ?_
  refine lv_istore_n (lv' := [(2, .int (nI 0)), (0, .ref q), (1, .ref pq)]) hx hb dX3_seekPair_11 rfl hl (by decide) rfl (fun ls hl => ?_)
  have L12 : ∀ (n12 f : Nat), mc + 1 ≤ f + n12 → f ≤ mc → ∀ (H : Heap) (locs : List Loc), Wd D A s ([oT q qh mc (tsf size sets ch hp mc (t.1, t.2.1, (-1), nI 1) f), aN cA qh 7 hp, oP pq ps pa size ch, aN cA ps 16 sets]) H locs → ∀ (ls : Array Slot), lv_has ls 4 [(0, .ref q), (1, .ref pq), (2, .int (nI f))] → W p l e rm_k_X3_seekPair s m args below meth c H locs 0 0 Q (F0 m 12 ls []) := by
    intro n12
    induction n12 with
    | zero => exact fun f h1 h2 => absurd h1 (by omega)
    | succ n12 ih12 =>
      intro f hn12 hi12  H locs Z ls hl
      refine lv_iload_n hx hb dX3_seekPair_12 rfl (lv_at hl 2 rfl) ?_
      refine lv_aload_n hx hb dX3_seekPair_13 rfl (lv_at hl 0 rfl) ?_
      refine gF_X3_15 E Z dX3_seekPair_14 0 rfl rfl ?_
      refine n_icmp_ge (tgt := 71) hx hb dX3_seekPair_17 (by decide) (by omega) (by omega) (fun c17 => ?_) (fun c17 => ?_)
      · obtain rfl : mc = f := by omega
        exact ret () Z dX3_seekPair_71 rfl trivial
      · refine lv_iload_n hx hb dX3_seekPair_20 rfl (lv_at hl 2 rfl) ?_
        refine lv_iconst (v := nI 1) hx hb dX3_seekPair_21 (by decide) ?_
        refine n_iadd hx hb dX3_seekPair_22 ?_
        refine lv_istore_n (lv' := [(3, .int (nI (f + 1))), (0, .ref q), (1, .ref pq), (2, .int (nI f))]) hx hb dX3_seekPair_23 rfl hl (by decide) rfl (fun ls hl => ?_)
        have L24 : ∀ (n24 o : Nat), mc + 1 ≤ o + n24 → o ≤ mc → (f < o) → ∀ (H : Heap) (locs : List Loc), Wd D A s ([oT q qh mc (tso size sets ch hp mc (tsf size sets ch hp mc (t.1, t.2.1, (-1), nI 1) f) f o), aN cA qh 7 hp, oP pq ps pa size ch, aN cA ps 16 sets]) H locs → ∀ (ls : Array Slot), lv_has ls 4 [(0, .ref q), (1, .ref pq), (2, .int (nI f)), (3, .int (nI o))] → W p l e rm_k_X3_seekPair s m args below meth c H locs 0 0 Q (F0 m 24 ls []) := by
          intro n24
          induction n24 with
          | zero => exact fun o h1 h2 => absurd h1 (by omega)
          | succ n24 ih24 =>
            intro o hn24 hi24 hfo H locs Z ls hl
            refine lv_iload_n hx hb dX3_seekPair_24 rfl (lv_at hl 3 rfl) ?_
            refine lv_aload_n hx hb dX3_seekPair_25 rfl (lv_at hl 0 rfl) ?_
            refine gF_X3_15 E Z dX3_seekPair_26 0 rfl rfl ?_
            refine n_icmp_ge (tgt := 65) hx hb dX3_seekPair_29 (by decide) (by omega) (by omega) (fun c29 => ?_) (fun c29 => ?_)
            · obtain rfl : mc = o := by omega
              refine lv_iinc (v := nI (f + 1)) (lv' := [(2, .int (nI (f + 1))), (0, .ref q), (1, .ref pq), (3, .int (nI mc))]) hx hb dX3_seekPair_65 hl (k := 2) rfl (n_inc _ _ (by decide)) (by decide) rfl (fun ls hl => ?_)
              refine lv_goto (tgt := 12) hx hb dX3_seekPair_68 (by decide) ?_
              exact ih12 (f + 1) (by omega) (by omega)   _ _ Z ls (lv_sub hl [1, 2, 0] rfl)
            · refine lv_aload_n hx hb dX3_seekPair_32 rfl (lv_at hl 0 rfl) ?_
              refine gF_X3_9 E Z dX3_seekPair_33 0 rfl rfl ?_
              refine lv_iload_n hx hb dX3_seekPair_36 rfl (lv_at hl 2 rfl) ?_
              refine r_ald E Z dX3_seekPair_37 1 rfl (by omega) (by decide) ?_
              have hhf := hh f
              refine lv_iload_n hx hb dX3_seekPair_38 rfl (lv_at hl 2 rfl) ?_
              refine n_icmp_ne (tgt := 59) hx hb dX3_seekPair_39 (by decide) (by omega) (by omega) (fun c39 => ?_) (fun c39 => ?_)
              · replace Z : Wd D A s ([oT q qh mc (tso size sets ch hp mc (tsf size sets ch hp mc (t.1, t.2.1, (-1), nI 1) f) f (o + 1)), aN cA qh 7 hp, oP pq ps pa size ch, aN cA ps 16 sets]) _ _ := Z.to (by rw [show tso size sets ch hp mc (tsf size sets ch hp mc (t.1, t.2.1, (-1), nI 1) f) f (o + 1) = tso size sets ch hp mc (tsf size sets ch hp mc (t.1, t.2.1, (-1), nI 1) f) f o from if_neg (fun h => c39 h.2.1)])
                refine lv_iinc (v := nI (o + 1)) (lv' := [(3, .int (nI (o + 1))), (0, .ref q), (1, .ref pq), (2, .int (nI f))]) hx hb dX3_seekPair_59 hl (k := 3) rfl (n_inc _ _ (by decide)) (by decide) rfl (fun ls hl => ?_)
                refine lv_goto (tgt := 24) hx hb dX3_seekPair_62 (by decide) ?_
                exact ih24 (o + 1) (by omega) (by omega)  (by first | assumption | omega) _ _ Z ls (lv_sub hl [1, 2, 3, 0] rfl)
              · refine lv_aload_n hx hb dX3_seekPair_42 rfl (lv_at hl 0 rfl) ?_
                refine gF_X3_9 E Z dX3_seekPair_43 0 rfl rfl ?_
                refine lv_iload_n hx hb dX3_seekPair_46 rfl (lv_at hl 3 rfl) ?_
                refine r_ald E Z dX3_seekPair_47 1 rfl (by omega) (by decide) ?_
                have hho := hh o
                refine lv_iload_n hx hb dX3_seekPair_48 rfl (lv_at hl 3 rfl) ?_
                refine n_icmp_ne (tgt := 59) hx hb dX3_seekPair_49 (by decide) (by omega) (by omega) (fun c49 => ?_) (fun c49 => ?_)
                · replace Z : Wd D A s ([oT q qh mc (tso size sets ch hp mc (tsf size sets ch hp mc (t.1, t.2.1, (-1), nI 1) f) f (o + 1)), aN cA qh 7 hp, oP pq ps pa size ch, aN cA ps 16 sets]) _ _ := Z.to (by rw [show tso size sets ch hp mc (tsf size sets ch hp mc (t.1, t.2.1, (-1), nI 1) f) f (o + 1) = tso size sets ch hp mc (tsf size sets ch hp mc (t.1, t.2.1, (-1), nI 1) f) f o from if_neg (fun h => c49 h.2.2)])
                  refine lv_iinc (v := nI (o + 1)) (lv' := [(3, .int (nI (o + 1))), (0, .ref q), (1, .ref pq), (2, .int (nI f))]) hx hb dX3_seekPair_59 hl (k := 3) rfl (n_inc _ _ (by decide)) (by decide) rfl (fun ls hl => ?_)
                  refine lv_goto (tgt := 24) hx hb dX3_seekPair_62 (by decide) ?_
                  exact ih24 (o + 1) (by omega) (by omega)  (by first | assumption | omega) _ _ Z ls (lv_sub hl [1, 2, 3, 0] rfl)
                · refine lv_aload_n hx hb dX3_seekPair_52 rfl (lv_at hl 0 rfl) ?_
                  refine lv_aload_n hx hb dX3_seekPair_53 rfl (lv_at hl 1 rfl) ?_
                  refine lv_iload_n hx hb dX3_seekPair_54 rfl (lv_at hl 2 rfl) ?_
                  refine lv_iload_n hx hb dX3_seekPair_55 rfl (lv_at hl 3 rfl) ?_
                  refine c_Vv (As := [.ref pq, .int (nI f), .int (nI o)]) (rest := []) (w2 := fun _ => [oT q qh mc (ta size sets ch hp f o mc (tso size sets ch hp mc (tsf size sets ch hp mc (t.1, t.2.1, (-1), nI 1) f) f o) mc), aN cA qh 7 hp, oP pq ps pa size ch, aN cA ps 16 sets]) E Z (k_X3_compareHeaps l D cA q qh mc (tso size sets ch hp mc (tsf size sets ch hp mc (t.1, t.2.1, (-1), nI 1) f) f o) hp pq ps pa size ch sets f o (by first | assumption | omega) (by first | assumption | omega) (by first | assumption | omega) (by first | assumption | omega) (by first | assumption | omega) (by first | assumption | omega) (by first | assumption | omega)) wv_X3_38 ⟨rfl, rfl, Nat.le_of_ble_eq_true rfl, Nat.le_of_ble_eq_true rfl⟩ [0, 1, 2, 3] rfl rfl rfl rfl (q0 := 0) rfl (fun _ => rfl) (fun _ => rfl) rfl hl.1 rfl (Nat.le_of_ble_eq_true rfl) dX3_seekPair_56 ⟨Nat.zero_le _, Nat.zero_le _⟩ (fun _ H locs hp56 Z => ?_)
                  replace Z : Wd D A s ([oT q qh mc (tso size sets ch hp mc (tsf size sets ch hp mc (t.1, t.2.1, (-1), nI 1) f) f (o + 1)), aN cA qh 7 hp, oP pq ps pa size ch, aN cA ps 16 sets]) _ _ := Z.to (by rw [show tso size sets ch hp mc (tsf size sets ch hp mc (t.1, t.2.1, (-1), nI 1) f) f (o + 1) = ta size sets ch hp f o mc (tso size sets ch hp mc (tsf size sets ch hp mc (t.1, t.2.1, (-1), nI 1) f) f o) mc from if_pos ⟨hfo, c39, c49⟩])
                  refine lv_iinc (v := nI (o + 1)) (lv' := [(3, .int (nI (o + 1))), (0, .ref q), (1, .ref pq), (2, .int (nI f))]) hx hb dX3_seekPair_59 hl (k := 3) rfl (n_inc _ _ (by decide)) (by decide) rfl (fun ls hl => ?_)
                  refine lv_goto (tgt := 24) hx hb dX3_seekPair_62 (by decide) ?_
                  exact ih24 (o + 1) (by omega) (by omega)  (by first | assumption | omega) _ _ Z ls (lv_sub hl [1, 2, 3, 0] rfl)
        exact L24 (mc + 1) (f + 1) (by omega) (by omega)  (by first | assumption | omega) _ _ (Z.to (by rw [tso_lo size sets ch hp mc (tsf size sets ch hp mc (t.1, t.2.1, (-1), nI 1) f) f (f + 1) (Nat.le_refl _)])) ls (lv_sub hl [1, 2, 3, 0] rfl)
  exact L12 (mc + 1) 0 (by omega) (by omega)   _ _ Z ls (lv_sub hl [1, 2, 0] rfl)
abbrev rm_k_X3_unite : Room := { frames := 0, cells := 0, slots := 0, locals := 0 }
set_option maxHeartbeats 4000000 in
set_option maxRecDepth 100000 in
theorem k_X3_unite (l : Launch) (D : va_G) (cA : ClassId) (q : Nat) (qh : Nat) (mc : Nat) (t : TS) (hp : Nat → Nat) (hh : ∀ j, hp j < 8) (h7 : mc ≤ 7) (ht : tok t) : Ctv l yX3_unite cX3_unite 2 none rm_k_X3_unite D cA [.ref q] ([oT q qh mc t, aN cA qh 7 hp]) (fun (_ : Unit) => True) (fun _ => [oT q qh mc t, aN cA qh 7 (un t.1 t.2.1 hp mc)]) := by
  refine st_v (by decide) (Nat.le_of_ble_eq_true rfl) ?_
  intro p e s m args below meth c A Q E ret Z ls hl
  have hx := E.1.1
  have hb := E.1.2.1
  have hl : lv_has ls 2 [(0, .ref q)] := hl
  refine lv_iconst (v := nI 0) hx hb dX3_unite_0 (by decide) ?_
  refine lv_istore_n (lv' := [(1, .int (nI 0)), (0, .ref q)]) hx hb dX3_unite_1 rfl hl (by decide) rfl (fun ls hl => ?_)
  have L2 : ∀ (n2 i : Nat), mc + 1 ≤ i + n2 → i ≤ mc → ∀ (H : Heap) (locs : List Loc), Wd D A s ([oT q qh mc t, aN cA qh 7 (un t.1 t.2.1 hp i)]) H locs → ∀ (ls : Array Slot), lv_has ls 2 [(0, .ref q), (1, .int (nI i))] → W p l e rm_k_X3_unite s m args below meth c H locs 0 0 Q (F0 m 2 ls []) := by
    intro n2
    induction n2 with
    | zero => exact fun i h1 h2 => absurd h1 (by omega)
    | succ n2 ih2 =>
      intro i hn2 hi2  H locs Z ls hl
      refine lv_iload_n hx hb dX3_unite_2 rfl (lv_at hl 1 rfl) ?_
      refine lv_aload_n hx hb dX3_unite_3 rfl (lv_at hl 0 rfl) ?_
      refine gF_X3_15 E Z dX3_unite_4 0 rfl rfl ?_
      refine n_icmp_ge (tgt := 39) hx hb dX3_unite_7 (by decide) (by omega) (by omega) (fun c7 => ?_) (fun c7 => ?_)
      · obtain rfl : mc = i := by omega
        exact ret () Z dX3_unite_39 rfl trivial
      · refine lv_aload_n hx hb dX3_unite_10 rfl (lv_at hl 0 rfl) ?_
        refine gF_X3_9 E Z dX3_unite_11 0 rfl rfl ?_
        refine lv_iload_n hx hb dX3_unite_14 rfl (lv_at hl 1 rfl) ?_
        refine r_ald E Z dX3_unite_15 1 rfl (by omega) (by decide) ?_
        refine lv_aload_n hx hb dX3_unite_16 rfl (lv_at hl 0 rfl) ?_
        refine gF_X3_29 E Z dX3_unite_17 0 rfl rfl ?_
        have hu := un_lt (se := t.2.1) ht.1 hh i i
        have ht2 := ht.2
        refine n_icmp_ne (tgt := 33) hx hb dX3_unite_20 (by decide) (by omega) (by omega) (fun c20 => ?_) (fun c20 => ?_)
        · replace Z : Wd D A s ([oT q qh mc t, aN cA qh 7 (un t.1 t.2.1 hp (i + 1))]) _ _ := Z.to (by rw [show un t.1 t.2.1 hp (i + 1) = un t.1 t.2.1 hp i from (congrArg (up (un t.1 t.2.1 hp i) i) (if_neg c20)).trans (up_self _ _)])
          refine lv_iinc (v := nI (i + 1)) (lv' := [(1, .int (nI (i + 1))), (0, .ref q)]) hx hb dX3_unite_33 hl (k := 1) rfl (n_inc _ _ (by decide)) (by decide) rfl (fun ls hl => ?_)
          refine lv_goto (tgt := 2) hx hb dX3_unite_36 (by decide) ?_
          exact ih2 (i + 1) (by omega) (by omega)   _ _ Z ls (lv_sub hl [1, 0] rfl)
        · refine lv_aload_n hx hb dX3_unite_23 rfl (lv_at hl 0 rfl) ?_
          refine gF_X3_9 E Z dX3_unite_24 0 rfl rfl ?_
          refine lv_iload_n hx hb dX3_unite_27 rfl (lv_at hl 1 rfl) ?_
          refine lv_aload_n hx hb dX3_unite_28 rfl (lv_at hl 0 rfl) ?_
          refine gF_X3_26 E Z dX3_unite_29 0 rfl rfl ?_
          refine r_ast (w1 := [oT q qh mc t, aN cA qh 7 (up (un t.1 t.2.1 hp i) i t.1)]) E Z dX3_unite_32 1 rfl (by omega) (by decide) rfl (fun H locs Z => ?_)
          replace Z : Wd D A s ([oT q qh mc t, aN cA qh 7 (un t.1 t.2.1 hp (i + 1))]) _ _ := Z.to (by rw [show un t.1 t.2.1 hp (i + 1) = up (un t.1 t.2.1 hp i) i t.1 from congrArg (up (un t.1 t.2.1 hp i) i) (if_pos c20)])
          refine lv_iinc (v := nI (i + 1)) (lv' := [(1, .int (nI (i + 1))), (0, .ref q)]) hx hb dX3_unite_33 hl (k := 1) rfl (n_inc _ _ (by decide)) (by decide) rfl (fun ls hl => ?_)
          refine lv_goto (tgt := 2) hx hb dX3_unite_36 (by decide) ?_
          exact ih2 (i + 1) (by omega) (by omega)   _ _ Z ls (lv_sub hl [1, 0] rfl)
  exact L2 (mc + 1) 0 (by omega) (by omega)   _ _ Z ls (lv_sub hl [1, 0] rfl)
abbrev rm_k_X3_grow : Room := { frames := 5, cells := 0, slots := 0, locals := 120 }
set_option maxHeartbeats 4000000 in
set_option maxRecDepth 100000 in
theorem k_X3_grow (l : Launch) (D : va_G) (cA : ClassId) (q : Nat) (qh : Nat) (mc : Nat) (t : TS) (hp : Nat → Nat) (pq : Nat) (ps : Nat) (pa : Nat) (size : Nat) (ch : Nat) (sets : Nat → Nat) (M : Nat) (jn : Nat) (hP : size ≤ 8) (hch : ch < 256) (hs : ∀ j, sets j < 128) (hh : ∀ j, hp j < 8) (h7 : M ≤ 7) (ht : tok t) (hj : jn < 8) : Ctv l yX3_grow cX3_grow 5 none rm_k_X3_grow D cA [.ref q, .ref pq, .int (nI M), .int (nI jn)] ([oT q qh mc t, aN cA qh 7 hp, oP pq ps pa size ch, aN cA ps 16 sets]) (fun (_ : Unit) => True) (fun _ => [oT q qh M ((gj size sets ch M (hin hp M) t jn).2), aN cA qh 7 ((gj size sets ch M (hin hp M) t jn).1), oP pq ps pa size ch, aN cA ps 16 sets]) := by
  refine st_v (by decide) (Nat.le_of_ble_eq_true rfl) ?_
  intro p e s m args below meth c A Q E ret Z ls hl
  have hx := E.1.1
  have hb := E.1.2.1
  have hl : lv_has ls 5 [(0, .ref q), (1, .ref pq), (2, .int (nI M)), (3, .int (nI jn))] := hl
  refine lv_aload_n hx hb dX3_grow_0 rfl (lv_at hl 0 rfl) ?_
  refine lv_iload_n hx hb dX3_grow_1 rfl (lv_at hl 2 rfl) ?_
  refine pF_X3_15 (w1 := [oT q qh M t, aN cA qh 7 hp, oP pq ps pa size ch, aN cA ps 16 sets]) E Z dX3_grow_2 0 rfl (Nat.le_of_ble_eq_true rfl) rfl (fun H locs Z => ?_)
  refine lv_iconst (v := nI 0) hx hb dX3_grow_5 (by decide) ?_
  refine lv_istore (lv' := [(4, .int (nI 0)), (0, .ref q), (1, .ref pq), (2, .int (nI M)), (3, .int (nI jn))]) hx hb dX3_grow_6 hl (by decide) rfl (fun ls hl => ?_)
  have L8 : ∀ (n8 i : Nat), M + 1 ≤ i + n8 → i ≤ M → ∀ (H : Heap) (locs : List Loc), Wd D A s ([oT q qh M t, aN cA qh 7 (hin hp i), oP pq ps pa size ch, aN cA ps 16 sets]) H locs → ∀ (ls : Array Slot), lv_has ls 5 [(0, .ref q), (1, .ref pq), (2, .int (nI M)), (3, .int (nI jn)), (4, .int (nI i))] → W p l e rm_k_X3_grow s m args below meth c H locs 0 0 Q (F0 m 8 ls []) := by
    intro n8
    induction n8 with
    | zero => exact fun i h1 h2 => absurd h1 (by omega)
    | succ n8 ih8 =>
      intro i hn8 hi8  H locs Z ls hl
      refine lv_iload hx hb dX3_grow_8 (lv_at hl 4 rfl) ?_
      refine lv_aload_n hx hb dX3_grow_10 rfl (lv_at hl 0 rfl) ?_
      refine gF_X3_15 E Z dX3_grow_11 0 rfl rfl ?_
      refine n_icmp_ge (tgt := 32) hx hb dX3_grow_14 (by decide) (by omega) (by omega) (fun c14 => ?_) (fun c14 => ?_)
      · obtain rfl : M = i := by omega
        refine lv_iconst (v := nI 0) hx hb dX3_grow_32 (by decide) ?_
        refine lv_istore (lv' := [(4, .int (nI 0)), (0, .ref q), (1, .ref pq), (2, .int (nI M)), (3, .int (nI jn))]) hx hb dX3_grow_33 hl (by decide) rfl (fun ls hl => ?_)
        have L35 : ∀ (n35 k : Nat), jn + 1 ≤ k + n35 → k ≤ jn → ∀ (H : Heap) (locs : List Loc), Wd D A s ([oT q qh M ((gj size sets ch M (hin hp M) t k).2), aN cA qh 7 ((gj size sets ch M (hin hp M) t k).1), oP pq ps pa size ch, aN cA ps 16 sets]) H locs → ∀ (ls : Array Slot), lv_has ls 5 [(0, .ref q), (1, .ref pq), (2, .int (nI M)), (3, .int (nI jn)), (4, .int (nI k))] → W p l e rm_k_X3_grow s m args below meth c H locs 0 0 Q (F0 m 35 ls []) := by
          intro n35
          induction n35 with
          | zero => exact fun k h1 h2 => absurd h1 (by omega)
          | succ n35 ih35 =>
            intro k hn35 hi35  H locs Z ls hl
            have hgj := gj_ok (P := size) (sets := sets) (ch := ch) M ht (hin_lt hh M (by omega)) k
            refine lv_iload hx hb dX3_grow_35 (lv_at hl 4 rfl) ?_
            refine lv_iload_n hx hb dX3_grow_37 rfl (lv_at hl 3 rfl) ?_
            refine n_icmp_ge (tgt := 56) hx hb dX3_grow_38 (by decide) (by omega) (by omega) (fun c38 => ?_) (fun c38 => ?_)
            · obtain rfl : jn = k := by omega
              exact ret () Z dX3_grow_56 rfl trivial
            · refine lv_aload_n hx hb dX3_grow_41 rfl (lv_at hl 0 rfl) ?_
              refine lv_aload_n hx hb dX3_grow_42 rfl (lv_at hl 1 rfl) ?_
              refine c_Vv (As := [.ref pq]) (rest := []) (w2 := fun _ => [oT q qh M (spj size sets ch ((gj size sets ch M (hin hp M) t k).1) M ((gj size sets ch M (hin hp M) t k).2)), aN cA qh 7 ((gj size sets ch M (hin hp M) t k).1), oP pq ps pa size ch, aN cA ps 16 sets]) E Z (k_X3_seekPair l D cA q qh M ((gj size sets ch M (hin hp M) t k).2) ((gj size sets ch M (hin hp M) t k).1) pq ps pa size ch sets (by first | assumption | omega) (by first | assumption | omega) (by first | assumption | omega) hgj.1 (by first | assumption | omega)) wv_X3_19 ⟨rfl, rfl, Nat.le_of_ble_eq_true rfl, Nat.le_of_ble_eq_true rfl⟩ [0, 1, 2, 3] rfl rfl rfl rfl (q0 := 0) rfl (fun _ => rfl) (fun _ => rfl) rfl hl.1 rfl (Nat.le_of_ble_eq_true rfl) dX3_grow_43 ⟨Nat.zero_le _, Nat.zero_le _⟩ (fun _ H locs hp43 Z => ?_)
              refine lv_aload_n hx hb dX3_grow_46 rfl (lv_at hl 0 rfl) ?_
              refine c_Vv (As := []) (rest := []) (w2 := fun _ => [oT q qh M (spj size sets ch ((gj size sets ch M (hin hp M) t k).1) M ((gj size sets ch M (hin hp M) t k).2)), aN cA qh 7 (un (spj size sets ch ((gj size sets ch M (hin hp M) t k).1) M ((gj size sets ch M (hin hp M) t k).2)).1 (spj size sets ch ((gj size sets ch M (hin hp M) t k).1) M ((gj size sets ch M (hin hp M) t k).2)).2.1 ((gj size sets ch M (hin hp M) t k).1) M), oP pq ps pa size ch, aN cA ps 16 sets]) E Z (k_X3_unite l D cA q qh M (spj size sets ch ((gj size sets ch M (hin hp M) t k).1) M ((gj size sets ch M (hin hp M) t k).2)) ((gj size sets ch M (hin hp M) t k).1) hgj.1 (by first | assumption | omega) (spj_ok M hgj.2 hgj.1)) wv_X3_23 ⟨rfl, rfl, Nat.le_of_ble_eq_true rfl, Nat.le_of_ble_eq_true rfl⟩ [0, 1] rfl rfl rfl rfl (q0 := 0) rfl (fun _ => rfl) (fun _ => rfl) rfl hl.1 rfl (Nat.le_of_ble_eq_true rfl) dX3_grow_47 ⟨Nat.zero_le _, Nat.zero_le _⟩ (fun _ H locs hp47 Z => ?_)
              refine lv_iinc (v := nI (k + 1)) (lv' := [(4, .int (nI (k + 1))), (0, .ref q), (1, .ref pq), (2, .int (nI M)), (3, .int (nI jn))]) hx hb dX3_grow_50 hl (k := 4) rfl (n_inc _ _ (by decide)) (by decide) rfl (fun ls hl => ?_)
              refine lv_goto (tgt := 35) hx hb dX3_grow_53 (by decide) ?_
              exact ih35 (k + 1) (by omega) (by omega)   _ _ Z ls (lv_sub hl [1, 2, 3, 4, 0] rfl)
        exact L35 (jn + 1) 0 (by omega) (by omega)   _ _ Z ls (lv_sub hl [1, 2, 3, 4, 0] rfl)
      · refine lv_aload_n hx hb dX3_grow_17 rfl (lv_at hl 0 rfl) ?_
        refine gF_X3_9 E Z dX3_grow_18 0 rfl rfl ?_
        refine lv_iload hx hb dX3_grow_21 (lv_at hl 4 rfl) ?_
        refine lv_iload hx hb dX3_grow_23 (lv_at hl 4 rfl) ?_
        refine r_ast (w1 := [oT q qh M t, aN cA qh 7 (up (hin hp i) i i), oP pq ps pa size ch, aN cA ps 16 sets]) E Z dX3_grow_25 1 rfl (by omega) (by decide) rfl (fun H locs Z => ?_)
        refine lv_iinc (v := nI (i + 1)) (lv' := [(4, .int (nI (i + 1))), (0, .ref q), (1, .ref pq), (2, .int (nI M)), (3, .int (nI jn))]) hx hb dX3_grow_26 hl (k := 4) rfl (n_inc _ _ (by decide)) (by decide) rfl (fun ls hl => ?_)
        refine lv_goto (tgt := 8) hx hb dX3_grow_29 (by decide) ?_
        exact ih8 (i + 1) (by omega) (by omega)   _ _ Z ls (lv_sub hl [1, 2, 3, 4, 0] rfl)
  exact L8 (M + 1) 0 (by omega) (by omega)   _ _ Z ls (lv_sub hl [1, 2, 3, 4, 0] rfl)
abbrev rm_k_X3_tell : Room := { frames := 0, cells := 0, slots := 0, locals := 0 }
set_option maxHeartbeats 4000000 in
set_option maxRecDepth 100000 in
theorem k_X3_tell (l : Launch) (D : va_G) (cA : ClassId) (q : Nat) (qh : Nat) (mc : Nat) (t : TS) (w : Nat) (hw : w < 4) : Cti l yX3_tell cX3_tell 2 (some .int) rm_k_X3_tell D cA [.ref q, .int (nI w)] ([oT q qh mc t]) (fun (r : Int32) (_ : Unit) => r = (tel t w)) (fun _ => [oT q qh mc t]) := by
  refine st_i (by decide) (Nat.le_of_ble_eq_true rfl) ?_
  intro p e s m args below meth c A Q E ret Z ls hl
  have hx := E.1.1
  have hb := E.1.2.1
  have hl : lv_has ls 2 [(0, .ref q), (1, .int (nI w))] := hl
  refine lv_iload_n hx hb dX3_tell_0 rfl (lv_at hl 1 rfl) ?_
  rcases tsw (nI w) 3 (by decide) with ⟨jS, hjS, eS⟩ | oS
  · obtain rfl | rfl | rfl : jS = 0 ∨ jS = 1 ∨ jS = 2 := by omega
    · refine r_top (y := nI 0) eS ?_
      refine lv_tableIn (tgt := 28) hx hb dX3_tell_1 (by decide) (by decide) rfl (by decide) ?_
      have ew : w = 0 := (nI_eq (by omega) (by decide)).mp eS
      refine lv_aload_n hx hb dX3_tell_28 rfl (lv_at hl 0 rfl) ?_
      refine gF_X3_26 E Z dX3_tell_29 0 rfl rfl ?_
      exact ret () Z dX3_tell_32 rfl (by subst ew; rfl)
    · refine r_top (y := nI 1) eS ?_
      refine lv_tableIn (tgt := 33) hx hb dX3_tell_1 (by decide) (by decide) rfl (by decide) ?_
      have ew : w = 1 := (nI_eq (by omega) (by decide)).mp eS
      refine lv_aload_n hx hb dX3_tell_33 rfl (lv_at hl 0 rfl) ?_
      refine gF_X3_29 E Z dX3_tell_34 0 rfl rfl ?_
      exact ret () Z dX3_tell_37 rfl (by subst ew; rfl)
    · refine r_top (y := nI 2) eS ?_
      refine lv_tableIn (tgt := 38) hx hb dX3_tell_1 (by decide) (by decide) rfl (by decide) ?_
      have ew : w = 2 := (nI_eq (by omega) (by decide)).mp eS
      refine lv_aload_n hx hb dX3_tell_38 rfl (lv_at hl 0 rfl) ?_
      refine gF_X3_32 E Z dX3_tell_39 0 rfl rfl ?_
      exact ret () Z dX3_tell_42 rfl (by subst ew; rfl)
  · refine lv_tableOut (tgt := 43) hx hb dX3_tell_1 oS (by decide) ?_
    have ew : w = 3 := by rw [nI_toInt (by omega)] at oS; omega
    refine lv_aload_n hx hb dX3_tell_43 rfl (lv_at hl 0 rfl) ?_
    refine gF_X3_35 E Z dX3_tell_44 0 rfl rfl ?_
    exact ret () Z dX3_tell_47 rfl (by subst ew; rfl)

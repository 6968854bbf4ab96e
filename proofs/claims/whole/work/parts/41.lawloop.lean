set_option maxHeartbeats 4000000 in
set_option maxRecDepth 100000 in
/-- the law's loop -/
theorem law_loop {p : Program} {l : Launch} {e : Env} {s : State} {m : MethodId} {below : List Frame} {meth : Method} {c : Code} {D : va_G} {cA : ClassId} {A : Nat → Prop} {b L : Nat} {xs : Nat → Int32} {q q2 : Nat → Nat} (E : Ev p s m #[Value.ref b] c cL_law 4 RL D cA A) (hXs : XZ A s s.heap) (SC : va_X b L xs s s.heap ∧ b < s.heap.size ∧ ¬ A b) (hL : L ≤ 2560) (hAs : ∀ z, A z → s.heap.size ≤ z) (hr : meth.sig.returnType = ret) (hlocks : meth.locks = false) :
    ∀ (n i : Nat), i ≤ L → L < i + n → ∀ (mc size ch num ny cg bn bl tmc tn tm : Nat) (sets amts hp wt bo pr sh tmem tp pl co nc sw sv mo pl2 co2 nx : Nat → Nat) (t : TS) (tr : Int64) (be : Nat → Int32), LInv mc size ch num ny cg sets amts hp wt bo pr sh mo t → ∀ (H : Heap) (locs : List Loc), Wd D A s (LW cA q q2 mc size ch num ny cg bn bl tmc tn tm sets amts hp wt bo pr sh tmem tp pl co nc sw sv mo pl2 co2 nx t tr be) H locs → ∀ (ls : Array Slot), lv_has ls 4 [(0, .ref b), (1, .ref (q 0)), (2, .ref (q2 0)), (3, .int (nI i))] → W p l e room_1 s m #[Value.ref b] below meth c H locs 37 640 (lw_Z below #[Value.ref b] s) (F0 m 18 ls []) := by
  have hx := E.1.1
  have hb := E.1.2.1
  intro n
  induction n with
  | zero => exact fun i h1 h2 => absurd h2 (by omega)
  | succ n ih =>
    intro i hi0 hn mc size ch num ny cg bn bl tmc tn tm sets amts hp wt bo pr sh tmem tp pl co nc sw sv mo pl2 co2 nx t tr be hI H locs Z ls hl
    refine lv_iload_n hx hb dL_law_18 rfl (lv_at hl 3 rfl) ?_
    refine lv_aload_n hx hb dL_law_19 rfl (lv_at hl 0 rfl) ?_
    refine r_slen E Z SC dL_law_20 ?_
    refine lv_iconst (v := nI 5) hx hb dL_law_21 (by decide) ?_
    refine lv_isub hx hb dL_law_22 ?_
    refine lv_icmp_gt (tgt := 907) hx hb dL_law_23 (by decide) (fun c23 => ?_) (fun c23 => ?_)
    · refine lv_iconst (v := 1) hx hb dL_law_907 (by decide) ?_
      refine va_forget (fun z hz => hAs _ (Z.2.2.2.2 z hz)) ?_
      exact lw_ret hx hb hr hlocks dL_law_908
    · have hi5 : i + 5 ≤ L := by
        have h1 := Int32.le_iff_toInt_le.mp (Int32.not_lt.mp c23)
        rw [nI_toInt (by omega), pk_sub_toInt (by omega) (by decide)] at h1
        omega
      have N901 : LN p l e s m below meth c D cA A b (lw_Z below #[Value.ref b] s) q q2 i := by
        intro mc size ch num ny cg bn bl tmc tn tm sets amts hp wt bo pr sh tmem tp pl co nc sw sv mo pl2 co2 nx t tr be hI H locs Z ls hl
        refine lv_iinc (v := nI (i + 5)) (lv' := [(3, .int (nI (i + 5))), (0, .ref b), (1, .ref (q 0)), (2, .ref (q2 0))]) hx hb dL_law_901 hl (k := 3) rfl (n_inc _ _ (by decide)) (by decide) rfl (fun ls hl => ?_)
        refine lv_goto (tgt := 18) hx hb dL_law_904 (by decide) ?_
        exact ih (i + 5) hi5 (by omega) _ _ _ _ _ _ _ _ _ _ _ _ _ _ _ _ _ _ _ _ _ _ _ _ _ _ _ _ _ _ _ _ hI _ _ Z ls (lv_sub hl [1, 2, 3, 0] rfl)
      refine lv_aload_n hx hb dL_law_26 rfl (lv_at hl 0 rfl) ?_
      refine lv_iload_n hx hb dL_law_27 rfl (lv_at hl 3 rfl) ?_
      refine r_sld E Z SC (by omega) hL dL_law_28 ?_
      refine lv_bipush (v := nI 31) hx hb dL_law_29 (by decide) ?_
      refine lv_iand hx hb dL_law_31 ?_
      refine r_top (y := nI ((xs i).toBitVec.toNat % 32)) (nI_and31 _) ?_
      have hw32 : (xs i).toBitVec.toNat % 32 < 32 := Nat.mod_lt _ (by decide)
      generalize (xs i).toBitVec.toNat % 32 = w at hw32 ⊢
      rcases Nat.lt_or_ge w 26 with h26 | h26
      · obtain rfl | rfl | rfl | rfl | rfl | rfl | rfl | rfl | rfl | rfl | rfl | rfl | rfl | rfl | rfl | rfl | rfl | rfl | rfl | rfl | rfl | rfl | rfl | rfl | rfl | rfl : w = 0 ∨ w = 1 ∨ w = 2 ∨ w = 3 ∨ w = 4 ∨ w = 5 ∨ w = 6 ∨ w = 7 ∨ w = 8 ∨ w = 9 ∨ w = 10 ∨ w = 11 ∨ w = 12 ∨ w = 13 ∨ w = 14 ∨ w = 15 ∨ w = 16 ∨ w = 17 ∨ w = 18 ∨ w = 19 ∨ w = 20 ∨ w = 21 ∨ w = 22 ∨ w = 23 ∨ w = 24 ∨ w = 25 := by omega
        · exact lv_tableIn (tgt := 152) hx hb dL_law_32 (by decide) (by decide) rfl (by decide) (lc_works E hXs SC hi5 hL N901 hI Z hl)
        · exact lv_tableIn (tgt := 185) hx hb dL_law_32 (by decide) (by decide) rfl (by decide) (lc_route E hXs SC hi5 hL N901 hI Z hl)
        · exact lv_tableIn (tgt := 228) hx hb dL_law_32 (by decide) (by decide) rfl (by decide) (lc_goes E hXs SC hi5 hL N901 hI Z hl)
        · exact lv_tableIn (tgt := 261) hx hb dL_law_32 (by decide) (by decide) rfl (by decide) (lc_pieces E hXs SC hi5 hL N901 hI Z hl)
        · exact lv_tableIn (tgt := 294) hx hb dL_law_32 (by decide) (by decide) rfl (by decide) (lc_cell E hXs SC hi5 hL N901 hI Z hl)
        · exact lv_tableIn (tgt := 327) hx hb dL_law_32 (by decide) (by decide) rfl (by decide) (lc_group E hXs SC hi5 hL N901 hI Z hl)
        · exact lv_tableIn (tgt := 350) hx hb dL_law_32 (by decide) (by decide) rfl (by decide) (lc_about E hXs SC hi5 hL N901 hI Z hl)
        · exact lv_tableIn (tgt := 383) hx hb dL_law_32 (by decide) (by decide) rfl (by decide) (lc_loss E hXs SC hi5 hL N901 hI Z hl)
        · exact lv_tableIn (tgt := 406) hx hb dL_law_32 (by decide) (by decide) rfl (by decide) (lc_best E hXs SC hi5 hL N901 hI Z hl)
        · exact lv_tableIn (tgt := 449) hx hb dL_law_32 (by decide) (by decide) rfl (by decide) (lc_plain E hXs SC hi5 hL N901 hI Z hl)
        · exact lv_tableIn (tgt := 462) hx hb dL_law_32 (by decide) (by decide) rfl (by decide) (lc_like E hXs SC hi5 hL N901 hI Z hl)
        · exact lv_tableIn (tgt := 505) hx hb dL_law_32 (by decide) (by decide) rfl (by decide) (lc_join E hXs SC hi5 hL N901 hI Z hl)
        · exact lv_tableIn (tgt := 538) hx hb dL_law_32 (by decide) (by decide) rfl (by decide) (lc_bears E hXs SC hi5 hL N901 hI Z hl)
        · exact lv_tableIn (tgt := 571) hx hb dL_law_32 (by decide) (by decide) rfl (by decide) (lc_load E hXs SC hi5 hL N901 hI Z hl)
        · exact lv_tableIn (tgt := 594) hx hb dL_law_32 (by decide) (by decide) rfl (by decide) (lc_routes E hXs SC hi5 hL N901 hI Z hl)
        · exact lv_tableIn (tgt := 617) hx hb dL_law_32 (by decide) (by decide) rfl (by decide) (lc_price E hXs SC hi5 hL N901 hI Z hl)
        · exact lv_tableIn (tgt := 650) hx hb dL_law_32 (by decide) (by decide) rfl (by decide) (lc_copy E hXs SC hi5 hL N901 hI Z hl)
        · exact lv_tableIn (tgt := 683) hx hb dL_law_32 (by decide) (by decide) rfl (by decide) (lc_saved E hXs SC hi5 hL N901 hI Z hl)
        · exact lv_tableIn (tgt := 706) hx hb dL_law_32 (by decide) (by decide) rfl (by decide) (lc_way E hXs SC hi5 hL N901 hI Z hl)
        · exact lv_tableIn (tgt := 759) hx hb dL_law_32 (by decide) (by decide) rfl (by decide) (lc_floor E hXs SC hi5 hL N901 hI Z hl)
        · exact lv_tableIn (tgt := 782) hx hb dL_law_32 (by decide) (by decide) rfl (by decide) (lc_keep E hXs SC hi5 hL N901 hI Z hl)
        · exact lv_tableIn (tgt := 805) hx hb dL_law_32 (by decide) (by decide) rfl (by decide) (lc_year E hXs SC hi5 hL N901 hI Z hl)
        · exact lv_tableIn (tgt := 828) hx hb dL_law_32 (by decide) (by decide) rfl (by decide) (lc_change E hXs SC hi5 hL N901 hI Z hl)
        · exact lv_tableIn (tgt := 851) hx hb dL_law_32 (by decide) (by decide) rfl (by decide) (lc_plan E hXs SC hi5 hL N901 hI Z hl)
        · exact lv_tableIn (tgt := 864) hx hb dL_law_32 (by decide) (by decide) rfl (by decide) (lc_count E hXs SC hi5 hL N901 hI Z hl)
        · exact lv_tableIn (tgt := 887) hx hb dL_law_32 (by decide) (by decide) rfl (by decide) (lc_trace E hXs SC hi5 hL N901 hI Z hl)
      · refine lv_tableOut (tgt := 901) hx hb dL_law_32 (Or.inr (by rw [nI_toInt (by omega)]; omega)) (by decide) ?_
        exact N901 _ _ _ _ _ _ _ _ _ _ _ _ _ _ _ _ _ _ _ _ _ _ _ _ _ _ _ _ _ _ _ _ hI _ _ Z ls hl

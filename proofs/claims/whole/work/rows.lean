section
-- ===== PART A: goes FIRST, ahead of the names: the tables' words, and 'selects' of the private methods out of them =====
/-- a private method of a class that the tables say can be made, by its rows of tables_1 -/
def lw_okq (q : MethodName × Nat) : Prop := (q.1.cls ≠ "java/lang/invoke/MethodHandle" ∧ q.1.cls ≠ "java/lang/invoke/VarHandle") ∧ Cond.instantiable q.1.cls q.2 ∈ tables_1 ∧ Cond.privateMethod q.1 ∈ tables_1 ∧ Cond.instanceMethod q.1 ∈ tables_1
theorem lw_p0 : lw_okq (⟨"PartCells", "begin", "(II)V"⟩, 15) := ⟨⟨by decide +kernel, by decide +kernel⟩, List.mem_of_getElem? (i := 13) (by decide +kernel), List.mem_of_getElem? (i := 117) (by decide +kernel), List.mem_of_getElem? (i := 118) (by decide +kernel)⟩
theorem lw_p1 : lw_okq (⟨"PartCells", "isPart", "(I)Z"⟩, 15) := ⟨⟨by decide +kernel, by decide +kernel⟩, List.mem_of_getElem? (i := 13) (by decide +kernel), List.mem_of_getElem? (i := 195) (by decide +kernel), List.mem_of_getElem? (i := 196) (by decide +kernel)⟩
theorem lw_p2 : lw_okq (⟨"PartCells", "isMachine", "(I)Z"⟩, 15) := ⟨⟨by decide +kernel, by decide +kernel⟩, List.mem_of_getElem? (i := 13) (by decide +kernel), List.mem_of_getElem? (i := 239) (by decide +kernel), List.mem_of_getElem? (i := 240) (by decide +kernel)⟩
theorem lw_p3 : lw_okq (⟨"PartCells", "groupings", "()I"⟩, 15) := ⟨⟨by decide +kernel, by decide +kernel⟩, List.mem_of_getElem? (i := 13) (by decide +kernel), List.mem_of_getElem? (i := 256) (by decide +kernel), List.mem_of_getElem? (i := 257) (by decide +kernel)⟩
theorem lw_p4 : lw_okq (⟨"PartCells$Parts", "setBy", "(II)I"⟩, 4) := ⟨⟨by decide +kernel, by decide +kernel⟩, List.mem_of_getElem? (i := 21) (by decide +kernel), List.mem_of_getElem? (i := 272) (by decide +kernel), List.mem_of_getElem? (i := 273) (by decide +kernel)⟩
theorem lw_p5 : lw_okq (⟨"PartCells", "lossOf", "(LPartCells$Grouping;I)I"⟩, 15) := ⟨⟨by decide +kernel, by decide +kernel⟩, List.mem_of_getElem? (i := 13) (by decide +kernel), List.mem_of_getElem? (i := 304) (by decide +kernel), List.mem_of_getElem? (i := 305) (by decide +kernel)⟩
theorem lw_p6 : lw_okq (⟨"PartCells", "seekGrouping", "(II)V"⟩, 15) := ⟨⟨by decide +kernel, by decide +kernel⟩, List.mem_of_getElem? (i := 13) (by decide +kernel), List.mem_of_getElem? (i := 331) (by decide +kernel), List.mem_of_getElem? (i := 332) (by decide +kernel)⟩
theorem lw_p7 : lw_okq (⟨"PartCells$Tree", "seekPair", "(LPartCells$Parts;)V"⟩, 6) := ⟨⟨by decide +kernel, by decide +kernel⟩, List.mem_of_getElem? (i := 57) (by decide +kernel), List.mem_of_getElem? (i := 374) (by decide +kernel), List.mem_of_getElem? (i := 375) (by decide +kernel)⟩
theorem lw_p8 : lw_okq (⟨"PartCells$Tree", "compareHeaps", "(LPartCells$Parts;II)V"⟩, 6) := ⟨⟨by decide +kernel, by decide +kernel⟩, List.mem_of_getElem? (i := 57) (by decide +kernel), List.mem_of_getElem? (i := 378) (by decide +kernel), List.mem_of_getElem? (i := 379) (by decide +kernel)⟩
theorem lw_p9 : lw_okq (⟨"PartCells$Tree", "compareMachines", "(LPartCells$Parts;II)V"⟩, 6) := ⟨⟨by decide +kernel, by decide +kernel⟩, List.mem_of_getElem? (i := 57) (by decide +kernel), List.mem_of_getElem? (i := 382) (by decide +kernel), List.mem_of_getElem? (i := 383) (by decide +kernel)⟩
theorem lw_p10 : lw_okq (⟨"PartCells$Tree", "unite", "()V"⟩, 6) := ⟨⟨by decide +kernel, by decide +kernel⟩, List.mem_of_getElem? (i := 57) (by decide +kernel), List.mem_of_getElem? (i := 388) (by decide +kernel), List.mem_of_getElem? (i := 389) (by decide +kernel)⟩
theorem lw_p11 : lw_okq (⟨"PartCells", "bestChoice", "()I"⟩, 15) := ⟨⟨by decide +kernel, by decide +kernel⟩, List.mem_of_getElem? (i := 13) (by decide +kernel), List.mem_of_getElem? (i := 412) (by decide +kernel), List.mem_of_getElem? (i := 413) (by decide +kernel)⟩
theorem lw_p12 : lw_okq (⟨"PartCells", "isRight", "(I)Z"⟩, 15) := ⟨⟨by decide +kernel, by decide +kernel⟩, List.mem_of_getElem? (i := 13) (by decide +kernel), List.mem_of_getElem? (i := 416) (by decide +kernel), List.mem_of_getElem? (i := 417) (by decide +kernel)⟩
theorem lw_p13 : lw_okq (⟨"PartCells", "offerCopies", "(II)V"⟩, 15) := ⟨⟨by decide +kernel, by decide +kernel⟩, List.mem_of_getElem? (i := 13) (by decide +kernel), List.mem_of_getElem? (i := 437) (by decide +kernel), List.mem_of_getElem? (i := 438) (by decide +kernel)⟩
theorem lw_p14 : lw_okq (⟨"PartCells", "offerCopy", "(III)V"⟩, 15) := ⟨⟨by decide +kernel, by decide +kernel⟩, List.mem_of_getElem? (i := 13) (by decide +kernel), List.mem_of_getElem? (i := 441) (by decide +kernel), List.mem_of_getElem? (i := 442) (by decide +kernel)⟩
theorem lw_p15 : lw_okq (⟨"PartCells$Years", "leastTo", "(I[I)I"⟩, 5) := ⟨⟨by decide +kernel, by decide +kernel⟩, List.mem_of_getElem? (i := 95) (by decide +kernel), List.mem_of_getElem? (i := 525) (by decide +kernel), List.mem_of_getElem? (i := 526) (by decide +kernel)⟩
def lw_privs_1 : List (MethodName × Nat) := [(⟨"PartCells", "begin", "(II)V"⟩, 15), (⟨"PartCells", "isPart", "(I)Z"⟩, 15), (⟨"PartCells", "isMachine", "(I)Z"⟩, 15), (⟨"PartCells", "groupings", "()I"⟩, 15), (⟨"PartCells$Parts", "setBy", "(II)I"⟩, 4), (⟨"PartCells", "lossOf", "(LPartCells$Grouping;I)I"⟩, 15), (⟨"PartCells", "seekGrouping", "(II)V"⟩, 15), (⟨"PartCells$Tree", "seekPair", "(LPartCells$Parts;)V"⟩, 6), (⟨"PartCells$Tree", "compareHeaps", "(LPartCells$Parts;II)V"⟩, 6), (⟨"PartCells$Tree", "compareMachines", "(LPartCells$Parts;II)V"⟩, 6), (⟨"PartCells$Tree", "unite", "()V"⟩, 6), (⟨"PartCells", "bestChoice", "()I"⟩, 15), (⟨"PartCells", "isRight", "(I)Z"⟩, 15), (⟨"PartCells", "offerCopies", "(II)V"⟩, 15), (⟨"PartCells", "offerCopy", "(III)V"⟩, 15), (⟨"PartCells$Years", "leastTo", "(I[I)I"⟩, 5)]
theorem lw_r1 : ∀ q ∈ lw_privs_1, lw_okq q := List.forall_mem_cons.mpr ⟨lw_p0, List.forall_mem_cons.mpr ⟨lw_p1, List.forall_mem_cons.mpr ⟨lw_p2, List.forall_mem_cons.mpr ⟨lw_p3, List.forall_mem_cons.mpr ⟨lw_p4, List.forall_mem_cons.mpr ⟨lw_p5, List.forall_mem_cons.mpr ⟨lw_p6, List.forall_mem_cons.mpr ⟨lw_p7, List.forall_mem_cons.mpr ⟨lw_p8, List.forall_mem_cons.mpr ⟨lw_p9, List.forall_mem_cons.mpr ⟨lw_p10, List.forall_mem_cons.mpr ⟨lw_p11, List.forall_mem_cons.mpr ⟨lw_p12, List.forall_mem_cons.mpr ⟨lw_p13, List.forall_mem_cons.mpr ⟨lw_p14, List.forall_mem_cons.mpr ⟨lw_p15, fun _ h => absurd h List.not_mem_nil⟩⟩⟩⟩⟩⟩⟩⟩⟩⟩⟩⟩⟩⟩⟩⟩
theorem lw_p16 : lw_okq (⟨"PartCellsModel", "begins", "(II)V"⟩, 21) := ⟨⟨by decide +kernel, by decide +kernel⟩, List.mem_of_getElem? (i := 547) (by decide +kernel), List.mem_of_getElem? (i := 553) (by decide +kernel), List.mem_of_getElem? (i := 554) (by decide +kernel)⟩
theorem lw_p17 : lw_okq (⟨"PartCellsModel", "isPart", "(I)Z"⟩, 21) := ⟨⟨by decide +kernel, by decide +kernel⟩, List.mem_of_getElem? (i := 547) (by decide +kernel), List.mem_of_getElem? (i := 632) (by decide +kernel), List.mem_of_getElem? (i := 633) (by decide +kernel)⟩
theorem lw_p18 : lw_okq (⟨"PartCellsModel", "isMachine", "(I)Z"⟩, 21) := ⟨⟨by decide +kernel, by decide +kernel⟩, List.mem_of_getElem? (i := 547) (by decide +kernel), List.mem_of_getElem? (i := 648) (by decide +kernel), List.mem_of_getElem? (i := 649) (by decide +kernel)⟩
theorem lw_p19 : lw_okq (⟨"PartCellsModel", "setOf", "(I)I"⟩, 21) := ⟨⟨by decide +kernel, by decide +kernel⟩, List.mem_of_getElem? (i := 547) (by decide +kernel), List.mem_of_getElem? (i := 666) (by decide +kernel), List.mem_of_getElem? (i := 667) (by decide +kernel)⟩
theorem lw_p20 : lw_okq (⟨"PartCellsModel", "homeOf", "(II)I"⟩, 21) := ⟨⟨by decide +kernel, by decide +kernel⟩, List.mem_of_getElem? (i := 547) (by decide +kernel), List.mem_of_getElem? (i := 670) (by decide +kernel), List.mem_of_getElem? (i := 671) (by decide +kernel)⟩
theorem lw_p21 : lw_okq (⟨"PartCellsModel", "inCell", "(III)I"⟩, 21) := ⟨⟨by decide +kernel, by decide +kernel⟩, List.mem_of_getElem? (i := 547) (by decide +kernel), List.mem_of_getElem? (i := 674) (by decide +kernel), List.mem_of_getElem? (i := 675) (by decide +kernel)⟩
theorem lw_p22 : lw_okq (⟨"PartCellsModel", "wandersOf", "(II)I"⟩, 21) := ⟨⟨by decide +kernel, by decide +kernel⟩, List.mem_of_getElem? (i := 547) (by decide +kernel), List.mem_of_getElem? (i := 678) (by decide +kernel), List.mem_of_getElem? (i := 679) (by decide +kernel)⟩
theorem lw_p23 : lw_okq (⟨"PartCellsModel", "idleOf", "(II)I"⟩, 21) := ⟨⟨by decide +kernel, by decide +kernel⟩, List.mem_of_getElem? (i := 547) (by decide +kernel), List.mem_of_getElem? (i := 682) (by decide +kernel), List.mem_of_getElem? (i := 683) (by decide +kernel)⟩
theorem lw_p24 : lw_okq (⟨"PartCellsModel", "lossOf", "(II)I"⟩, 21) := ⟨⟨by decide +kernel, by decide +kernel⟩, List.mem_of_getElem? (i := 547) (by decide +kernel), List.mem_of_getElem? (i := 692) (by decide +kernel), List.mem_of_getElem? (i := 693) (by decide +kernel)⟩
theorem lw_p25 : lw_okq (⟨"PartCellsModel", "isPlain", "(I)Z"⟩, 21) := ⟨⟨by decide +kernel, by decide +kernel⟩, List.mem_of_getElem? (i := 547) (by decide +kernel), List.mem_of_getElem? (i := 700) (by decide +kernel), List.mem_of_getElem? (i := 701) (by decide +kernel)⟩
theorem lw_p26 : lw_okq (⟨"PartCellsModel", "isWithin", "(II)Z"⟩, 21) := ⟨⟨by decide +kernel, by decide +kernel⟩, List.mem_of_getElem? (i := 547) (by decide +kernel), List.mem_of_getElem? (i := 704) (by decide +kernel), List.mem_of_getElem? (i := 705) (by decide +kernel)⟩
theorem lw_p27 : lw_okq (⟨"PartCellsModel", "bothOf", "(II)I"⟩, 21) := ⟨⟨by decide +kernel, by decide +kernel⟩, List.mem_of_getElem? (i := 547) (by decide +kernel), List.mem_of_getElem? (i := 716) (by decide +kernel), List.mem_of_getElem? (i := 717) (by decide +kernel)⟩
theorem lw_p28 : lw_okq (⟨"PartCellsModel", "eitherOf", "(II)I"⟩, 21) := ⟨⟨by decide +kernel, by decide +kernel⟩, List.mem_of_getElem? (i := 547) (by decide +kernel), List.mem_of_getElem? (i := 720) (by decide +kernel), List.mem_of_getElem? (i := 721) (by decide +kernel)⟩
theorem lw_p29 : lw_okq (⟨"PartCellsModel", "joins", "()V"⟩, 21) := ⟨⟨by decide +kernel, by decide +kernel⟩, List.mem_of_getElem? (i := 547) (by decide +kernel), List.mem_of_getElem? (i := 728) (by decide +kernel), List.mem_of_getElem? (i := 729) (by decide +kernel)⟩
theorem lw_p30 : lw_okq (⟨"PartCellsModel", "bits", "()I"⟩, 21) := ⟨⟨by decide +kernel, by decide +kernel⟩, List.mem_of_getElem? (i := 547) (by decide +kernel), List.mem_of_getElem? (i := 740) (by decide +kernel), List.mem_of_getElem? (i := 741) (by decide +kernel)⟩
theorem lw_p31 : lw_okq (⟨"PartCellsModel", "loadOf", "(II)I"⟩, 21) := ⟨⟨by decide +kernel, by decide +kernel⟩, List.mem_of_getElem? (i := 547) (by decide +kernel), List.mem_of_getElem? (i := 744) (by decide +kernel), List.mem_of_getElem? (i := 745) (by decide +kernel)⟩
def lw_privs_2 : List (MethodName × Nat) := [(⟨"PartCellsModel", "begins", "(II)V"⟩, 21), (⟨"PartCellsModel", "isPart", "(I)Z"⟩, 21), (⟨"PartCellsModel", "isMachine", "(I)Z"⟩, 21), (⟨"PartCellsModel", "setOf", "(I)I"⟩, 21), (⟨"PartCellsModel", "homeOf", "(II)I"⟩, 21), (⟨"PartCellsModel", "inCell", "(III)I"⟩, 21), (⟨"PartCellsModel", "wandersOf", "(II)I"⟩, 21), (⟨"PartCellsModel", "idleOf", "(II)I"⟩, 21), (⟨"PartCellsModel", "lossOf", "(II)I"⟩, 21), (⟨"PartCellsModel", "isPlain", "(I)Z"⟩, 21), (⟨"PartCellsModel", "isWithin", "(II)Z"⟩, 21), (⟨"PartCellsModel", "bothOf", "(II)I"⟩, 21), (⟨"PartCellsModel", "eitherOf", "(II)I"⟩, 21), (⟨"PartCellsModel", "joins", "()V"⟩, 21), (⟨"PartCellsModel", "bits", "()I"⟩, 21), (⟨"PartCellsModel", "loadOf", "(II)I"⟩, 21)]
theorem lw_r2 : ∀ q ∈ lw_privs_2, lw_okq q := List.forall_mem_cons.mpr ⟨lw_p16, List.forall_mem_cons.mpr ⟨lw_p17, List.forall_mem_cons.mpr ⟨lw_p18, List.forall_mem_cons.mpr ⟨lw_p19, List.forall_mem_cons.mpr ⟨lw_p20, List.forall_mem_cons.mpr ⟨lw_p21, List.forall_mem_cons.mpr ⟨lw_p22, List.forall_mem_cons.mpr ⟨lw_p23, List.forall_mem_cons.mpr ⟨lw_p24, List.forall_mem_cons.mpr ⟨lw_p25, List.forall_mem_cons.mpr ⟨lw_p26, List.forall_mem_cons.mpr ⟨lw_p27, List.forall_mem_cons.mpr ⟨lw_p28, List.forall_mem_cons.mpr ⟨lw_p29, List.forall_mem_cons.mpr ⟨lw_p30, List.forall_mem_cons.mpr ⟨lw_p31, fun _ h => absurd h List.not_mem_nil⟩⟩⟩⟩⟩⟩⟩⟩⟩⟩⟩⟩⟩⟩⟩⟩
theorem lw_p32 : lw_okq (⟨"PartCellsModel", "copyOf", "(II)I"⟩, 21) := ⟨⟨by decide +kernel, by decide +kernel⟩, List.mem_of_getElem? (i := 547) (by decide +kernel), List.mem_of_getElem? (i := 760) (by decide +kernel), List.mem_of_getElem? (i := 761) (by decide +kernel)⟩
theorem lw_p33 : lw_okq (⟨"PartCellsModel", "lays", "(IIII)Z"⟩, 21) := ⟨⟨by decide +kernel, by decide +kernel⟩, List.mem_of_getElem? (i := 547) (by decide +kernel), List.mem_of_getElem? (i := 772) (by decide +kernel), List.mem_of_getElem? (i := 773) (by decide +kernel)⟩
theorem lw_p34 : lw_okq (⟨"PartCellsModel", "wayOf", "()I"⟩, 21) := ⟨⟨by decide +kernel, by decide +kernel⟩, List.mem_of_getElem? (i := 547) (by decide +kernel), List.mem_of_getElem? (i := 776) (by decide +kernel), List.mem_of_getElem? (i := 777) (by decide +kernel)⟩
theorem lw_p35 : lw_okq (⟨"PartCellsModel", "movedOf", "(II)I"⟩, 21) := ⟨⟨by decide +kernel, by decide +kernel⟩, List.mem_of_getElem? (i := 547) (by decide +kernel), List.mem_of_getElem? (i := 800) (by decide +kernel), List.mem_of_getElem? (i := 801) (by decide +kernel)⟩
def lw_privs_3 : List (MethodName × Nat) := [(⟨"PartCellsModel", "copyOf", "(II)I"⟩, 21), (⟨"PartCellsModel", "lays", "(IIII)Z"⟩, 21), (⟨"PartCellsModel", "wayOf", "()I"⟩, 21), (⟨"PartCellsModel", "movedOf", "(II)I"⟩, 21)]
theorem lw_r3 : ∀ q ∈ lw_privs_3, lw_okq q := List.forall_mem_cons.mpr ⟨lw_p32, List.forall_mem_cons.mpr ⟨lw_p33, List.forall_mem_cons.mpr ⟨lw_p34, List.forall_mem_cons.mpr ⟨lw_p35, fun _ h => absurd h List.not_mem_nil⟩⟩⟩⟩
def lw_privs : List (MethodName × Nat) := lw_privs_1 ++ (lw_privs_2 ++ (lw_privs_3))
def lw_tbl : List Cond := k2_sels lw_privs ++ tables_1
theorem lw_privs_ok : ∀ q ∈ lw_privs, lw_okq q := by
  show ∀ q ∈ lw_privs_1 ++ (lw_privs_2 ++ (lw_privs_3)), lw_okq q
  exact List.forall_mem_append.mpr ⟨lw_r1, List.forall_mem_append.mpr ⟨lw_r2, lw_r3⟩⟩
end
section
/-! names of classes, fields, methods (printed by the task's program) -/
def RX0 : String := "PartCells$Grouping"
def TX0 : u_T := fun k => match k with
  | 0 => ("PartCells$Grouping", "members", "[I", true)
  | 1 => ("PartCells$Grouping", "machineCount", "I", false)
  | _ => ("PartCells$Grouping", "number", "I", false)
def tyX0 : Nat → FieldType := fun k => match k with
  | 0 => .array .int
  | 1 => .int
  | _ => .int
theorem nmX0 : ∀ a, a < 3 → ∀ b, b < 3 → a ≠ b → (TX0 a).2.1 ≠ (TX0 b).2.1 := by decide +kernel
theorem tyX0_ok : ∀ k, k < 3 → parseFieldDescriptor (TX0 k).2.2.1 = some (tyX0 k) := by decide +kernel
abbrev cX0_init : ByteArray := prog_2_method_1_code
def yX0_init : MethodName := ⟨RX0, "<init>", "()V"⟩
abbrev cX0_become : ByteArray := prog_2_method_2_code
def yX0_become : MethodName := ⟨RX0, "become", "(II)V"⟩
abbrev cX0_put : ByteArray := prog_2_method_3_code
def yX0_put : MethodName := ⟨RX0, "put", "(II)V"⟩
abbrev cX0_numbered : ByteArray := prog_2_method_4_code
def yX0_numbered : MethodName := ⟨RX0, "numbered", "()I"⟩
abbrev cX0_cellOf : ByteArray := prog_2_method_5_code
def yX0_cellOf : MethodName := ⟨RX0, "cellOf", "(I)I"⟩
abbrev cX0_isPlain : ByteArray := prog_2_method_6_code
def yX0_isPlain : MethodName := ⟨RX0, "isPlain", "(II)Z"⟩
abbrev cX0_homeOf : ByteArray := prog_2_method_7_code
def yX0_homeOf : MethodName := ⟨RX0, "homeOf", "(I)I"⟩
abbrev cX0_wandersOf : ByteArray := prog_2_method_8_code
def yX0_wandersOf : MethodName := ⟨RX0, "wandersOf", "(I)I"⟩
abbrev cX0_idleOf : ByteArray := prog_2_method_9_code
def yX0_idleOf : MethodName := ⟨RX0, "idleOf", "(I)I"⟩
abbrev cX0_squares : ByteArray := prog_2_method_10_code
def yX0_squares : MethodName := ⟨RX0, "squares", "()I"⟩
abbrev cX0_largest : ByteArray := prog_2_method_11_code
def yX0_largest : MethodName := ⟨RX0, "largest", "()I"⟩
abbrev cX0_moved : ByteArray := prog_2_method_12_code
def yX0_moved : MethodName := ⟨RX0, "moved", "(II)I"⟩
def RX1 : String := "PartCells$Parts"
def TX1 : u_T := fun k => match k with
  | 0 => ("PartCells$Parts", "sets", "[I", true)
  | 1 => ("PartCells$Parts", "amounts", "[I", true)
  | 2 => ("PartCells$Parts", "size", "I", false)
  | _ => ("PartCells$Parts", "choice", "I", false)
def tyX1 : Nat → FieldType := fun k => match k with
  | 0 => .array .int
  | 1 => .array .int
  | 2 => .int
  | _ => .int
theorem nmX1 : ∀ a, a < 4 → ∀ b, b < 4 → a ≠ b → (TX1 a).2.1 ≠ (TX1 b).2.1 := by decide +kernel
theorem tyX1_ok : ∀ k, k < 4 → parseFieldDescriptor (TX1 k).2.2.1 = some (tyX1 k) := by decide +kernel
abbrev cX1_init : ByteArray := prog_3_method_1_code
def yX1_init : MethodName := ⟨RX1, "<init>", "()V"⟩
abbrev cX1_begin : ByteArray := prog_3_method_2_code
def yX1_begin : MethodName := ⟨RX1, "begin", "(I)V"⟩
abbrev cX1_howMany : ByteArray := prog_3_method_3_code
def yX1_howMany : MethodName := ⟨RX1, "howMany", "()I"⟩
abbrev cX1_chosen : ByteArray := prog_3_method_4_code
def yX1_chosen : MethodName := ⟨RX1, "chosen", "()I"⟩
abbrev cX1_chosenBy : ByteArray := prog_3_method_5_code
def yX1_chosenBy : MethodName := ⟨RX1, "chosenBy", "(I)I"⟩
abbrev cX1_choose : ByteArray := prog_3_method_6_code
def yX1_choose : MethodName := ⟨RX1, "choose", "(II)V"⟩
abbrev cX1_routeSet : ByteArray := prog_3_method_7_code
def yX1_routeSet : MethodName := ⟨RX1, "routeSet", "(II)I"⟩
abbrev cX1_putRouteSet : ByteArray := prog_3_method_8_code
def yX1_putRouteSet : MethodName := ⟨RX1, "putRouteSet", "(III)V"⟩
abbrev cX1_setOf : ByteArray := prog_3_method_9_code
def yX1_setOf : MethodName := ⟨RX1, "setOf", "(I)I"⟩
abbrev cX1_piecesOf : ByteArray := prog_3_method_10_code
def yX1_piecesOf : MethodName := ⟨RX1, "piecesOf", "(I)I"⟩
abbrev cX1_putPieces : ByteArray := prog_3_method_11_code
def yX1_putPieces : MethodName := ⟨RX1, "putPieces", "(II)V"⟩
abbrev cX1_wanderBy : ByteArray := prog_3_method_12_code
def yX1_wanderBy : MethodName := ⟨RX1, "wanderBy", "(ILPartCells$Grouping;)I"⟩
abbrev cX1_idleOf : ByteArray := prog_3_method_13_code
def yX1_idleOf : MethodName := ⟨RX1, "idleOf", "(LPartCells$Grouping;)I"⟩
abbrev cX1_loadBy : ByteArray := prog_3_method_14_code
def yX1_loadBy : MethodName := ⟨RX1, "loadBy", "(II)I"⟩
abbrev cX1_withBoth : ByteArray := prog_3_method_15_code
def yX1_withBoth : MethodName := ⟨RX1, "withBoth", "(II)I"⟩
abbrev cX1_withEither : ByteArray := prog_3_method_16_code
def yX1_withEither : MethodName := ⟨RX1, "withEither", "(II)I"⟩
abbrev cX1_keptHome : ByteArray := prog_3_method_17_code
def yX1_keptHome : MethodName := ⟨RX1, "keptHome", "(IILPartCells$Grouping;)I"⟩
abbrev cX1_setBy : ByteArray := prog_3_method_18_code
def yX1_setBy : MethodName := ⟨RX1, "setBy", "(II)I"⟩
abbrev cX1_hasMachine : ByteArray := prog_3_method_19_code
def yX1_hasMachine : MethodName := ⟨RX1, "hasMachine", "(II)Z"⟩
def RX2 : String := "PartCells$Row"
def TX2 : u_T := fun k => match k with
  | 0 => ("PartCells$Row", "trips", "[I", true)
  | _ => ("PartCells$Row", "placeOf", "[I", true)
def tyX2 : Nat → FieldType := fun k => match k with
  | 0 => .array .int
  | _ => .array .int
theorem nmX2 : ∀ a, a < 2 → ∀ b, b < 2 → a ≠ b → (TX2 a).2.1 ≠ (TX2 b).2.1 := by decide +kernel
theorem tyX2_ok : ∀ k, k < 2 → parseFieldDescriptor (TX2 k).2.2.1 = some (tyX2 k) := by decide +kernel
abbrev cX2_init : ByteArray := prog_4_method_1_code
def yX2_init : MethodName := ⟨RX2, "<init>", "()V"⟩
abbrev cX2_orderOf : ByteArray := prog_4_method_2_code
def yX2_orderOf : MethodName := ⟨RX2, "orderOf", "(IIII)I"⟩
abbrev cX2_cellAt : ByteArray := prog_4_method_3_code
def yX2_cellAt : MethodName := ⟨RX2, "cellAt", "(II)I"⟩
abbrev cX2_hasEachOnce : ByteArray := prog_4_method_4_code
def yX2_hasEachOnce : MethodName := ⟨RX2, "hasEachOnce", "(I)Z"⟩
abbrev cX2_observe : ByteArray := prog_4_method_5_code
def yX2_observe : MethodName := ⟨RX2, "observe", "(LPartCells$Parts;LPartCells$Grouping;I)V"⟩
abbrev cX2_wayOf : ByteArray := prog_4_method_6_code
def yX2_wayOf : MethodName := ⟨RX2, "wayOf", "(I)I"⟩
abbrev cX2_bestOrder : ByteArray := prog_4_method_7_code
def yX2_bestOrder : MethodName := ⟨RX2, "bestOrder", "()I"⟩
def RX3 : String := "PartCells$Tree"
def TX3 : u_T := fun k => match k with
  | 0 => ("PartCells$Tree", "heapOf", "[I", true)
  | 1 => ("PartCells$Tree", "machineCount", "I", false)
  | 2 => ("PartCells$Tree", "first", "I", false)
  | 3 => ("PartCells$Tree", "second", "I", false)
  | 4 => ("PartCells$Tree", "upper", "I", false)
  | _ => ("PartCells$Tree", "lower", "I", false)
def tyX3 : Nat → FieldType := fun k => match k with
  | 0 => .array .int
  | 1 => .int
  | 2 => .int
  | 3 => .int
  | 4 => .int
  | _ => .int
theorem nmX3 : ∀ a, a < 6 → ∀ b, b < 6 → a ≠ b → (TX3 a).2.1 ≠ (TX3 b).2.1 := by decide +kernel
theorem tyX3_ok : ∀ k, k < 6 → parseFieldDescriptor (TX3 k).2.2.1 = some (tyX3 k) := by decide +kernel
abbrev cX3_init : ByteArray := prog_5_method_1_code
def yX3_init : MethodName := ⟨RX3, "<init>", "()V"⟩
abbrev cX3_grow : ByteArray := prog_5_method_2_code
def yX3_grow : MethodName := ⟨RX3, "grow", "(LPartCells$Parts;II)V"⟩
abbrev cX3_tell : ByteArray := prog_5_method_3_code
def yX3_tell : MethodName := ⟨RX3, "tell", "(I)I"⟩
abbrev cX3_seekPair : ByteArray := prog_5_method_4_code
def yX3_seekPair : MethodName := ⟨RX3, "seekPair", "(LPartCells$Parts;)V"⟩
abbrev cX3_compareHeaps : ByteArray := prog_5_method_5_code
def yX3_compareHeaps : MethodName := ⟨RX3, "compareHeaps", "(LPartCells$Parts;II)V"⟩
abbrev cX3_compareMachines : ByteArray := prog_5_method_6_code
def yX3_compareMachines : MethodName := ⟨RX3, "compareMachines", "(LPartCells$Parts;II)V"⟩
abbrev cX3_unite : ByteArray := prog_5_method_7_code
def yX3_unite : MethodName := ⟨RX3, "unite", "()V"⟩
def RX4 : String := "PartCells$Years"
def TX4 : u_T := fun k => match k with
  | 0 => ("PartCells$Years", "weights", "[I", true)
  | 1 => ("PartCells$Years", "costs", "[I", true)
  | 2 => ("PartCells$Years", "nextCosts", "[I", true)
  | 3 => ("PartCells$Years", "size", "I", false)
  | _ => ("PartCells$Years", "moveCost", "I", false)
def tyX4 : Nat → FieldType := fun k => match k with
  | 0 => .array .int
  | 1 => .array .int
  | 2 => .array .int
  | 3 => .int
  | _ => .int
theorem nmX4 : ∀ a, a < 5 → ∀ b, b < 5 → a ≠ b → (TX4 a).2.1 ≠ (TX4 b).2.1 := by decide +kernel
theorem tyX4_ok : ∀ k, k < 5 → parseFieldDescriptor (TX4 k).2.2.1 = some (tyX4 k) := by decide +kernel
abbrev cX4_init : ByteArray := prog_6_method_1_code
def yX4_init : MethodName := ⟨RX4, "<init>", "()V"⟩
abbrev cX4_howMany : ByteArray := prog_6_method_2_code
def yX4_howMany : MethodName := ⟨RX4, "howMany", "()I"⟩
abbrev cX4_append : ByteArray := prog_6_method_3_code
def yX4_append : MethodName := ⟨RX4, "append", "(I)V"⟩
abbrev cX4_costOfMove : ByteArray := prog_6_method_4_code
def yX4_costOfMove : MethodName := ⟨RX4, "costOfMove", "()I"⟩
abbrev cX4_putCostOfMove : ByteArray := prog_6_method_5_code
def yX4_putCostOfMove : MethodName := ⟨RX4, "putCostOfMove", "(I)V"⟩
abbrev cX4_cheapest : ByteArray := prog_6_method_6_code
def yX4_cheapest : MethodName := ⟨RX4, "cheapest", "([I[I)I"⟩
abbrev cX4_leastTo : ByteArray := prog_6_method_7_code
def yX4_leastTo : MethodName := ⟨RX4, "leastTo", "(I[I)I"⟩
def RX5 : String := "PartCells"
def TX5 : u_T := fun k => match k with
  | 0 => ("PartCells", "parts", "LPartCells$Parts;", true)
  | 1 => ("PartCells", "atHand", "LPartCells$Grouping;", true)
  | 2 => ("PartCells", "trial", "LPartCells$Grouping;", true)
  | 3 => ("PartCells", "tree", "LPartCells$Tree;", true)
  | 4 => ("PartCells", "row", "LPartCells$Row;", true)
  | 5 => ("PartCells", "years", "LPartCells$Years;", true)
  | 6 => ("PartCells", "borne", "[I", true)
  | 7 => ("PartCells", "prices", "[I", true)
  | 8 => ("PartCells", "shelves", "[I", true)
  | 9 => ("PartCells", "shelfWander", "[I", true)
  | 10 => ("PartCells", "savedBy", "[I", true)
  | 11 => ("PartCells", "machines", "I", false)
  | 12 => ("PartCells", "bestNumber", "I", false)
  | 13 => ("PartCells", "bestLoss", "I", false)
  | _ => ("PartCells", "traced", "J", false)
def tyX5 : Nat → FieldType := fun k => match k with
  | 0 => .object "PartCells$Parts"
  | 1 => .object "PartCells$Grouping"
  | 2 => .object "PartCells$Grouping"
  | 3 => .object "PartCells$Tree"
  | 4 => .object "PartCells$Row"
  | 5 => .object "PartCells$Years"
  | 6 => .array .int
  | 7 => .array .int
  | 8 => .array .int
  | 9 => .array .int
  | 10 => .array .int
  | 11 => .int
  | 12 => .int
  | 13 => .int
  | _ => .long
theorem nmX5 : ∀ a, a < 15 → ∀ b, b < 15 → a ≠ b → (TX5 a).2.1 ≠ (TX5 b).2.1 := by decide +kernel
theorem tyX5_ok : ∀ k, k < 15 → parseFieldDescriptor (TX5 k).2.2.1 = some (tyX5 k) := by decide +kernel
abbrev cX5_init : ByteArray := prog_1_method_1_code
def yX5_init : MethodName := ⟨RX5, "<init>", "()V"⟩
abbrev cX5_works : ByteArray := prog_1_method_2_code
def yX5_works : MethodName := ⟨RX5, "works", "(II)I"⟩
abbrev cX5_route : ByteArray := prog_1_method_3_code
def yX5_route : MethodName := ⟨RX5, "route", "(III)I"⟩
abbrev cX5_goes : ByteArray := prog_1_method_4_code
def yX5_goes : MethodName := ⟨RX5, "goes", "(II)I"⟩
abbrev cX5_pieces : ByteArray := prog_1_method_5_code
def yX5_pieces : MethodName := ⟨RX5, "pieces", "(II)I"⟩
abbrev cX5_cell : ByteArray := prog_1_method_6_code
def yX5_cell : MethodName := ⟨RX5, "cell", "(II)I"⟩
abbrev cX5_group : ByteArray := prog_1_method_7_code
def yX5_group : MethodName := ⟨RX5, "group", "(I)I"⟩
abbrev cX5_about : ByteArray := prog_1_method_8_code
def yX5_about : MethodName := ⟨RX5, "about", "(II)I"⟩
abbrev cX5_loss : ByteArray := prog_1_method_9_code
def yX5_loss : MethodName := ⟨RX5, "loss", "(I)I"⟩
abbrev cX5_best : ByteArray := prog_1_method_10_code
def yX5_best : MethodName := ⟨RX5, "best", "(III)I"⟩
abbrev cX5_plain : ByteArray := prog_1_method_11_code
def yX5_plain : MethodName := ⟨RX5, "plain", "()I"⟩
abbrev cX5_like : ByteArray := prog_1_method_12_code
def yX5_like : MethodName := ⟨RX5, "like", "(III)I"⟩
abbrev cX5_join : ByteArray := prog_1_method_13_code
def yX5_join : MethodName := ⟨RX5, "join", "(II)I"⟩
abbrev cX5_bears : ByteArray := prog_1_method_14_code
def yX5_bears : MethodName := ⟨RX5, "bears", "(II)I"⟩
abbrev cX5_load : ByteArray := prog_1_method_15_code
def yX5_load : MethodName := ⟨RX5, "load", "(I)I"⟩
abbrev cX5_routes : ByteArray := prog_1_method_16_code
def yX5_routes : MethodName := ⟨RX5, "routes", "(I)I"⟩
abbrev cX5_price : ByteArray := prog_1_method_17_code
def yX5_price : MethodName := ⟨RX5, "price", "(II)I"⟩
abbrev cX5_copy : ByteArray := prog_1_method_18_code
def yX5_copy : MethodName := ⟨RX5, "copy", "(II)I"⟩
abbrev cX5_saved : ByteArray := prog_1_method_19_code
def yX5_saved : MethodName := ⟨RX5, "saved", "(I)I"⟩
abbrev cX5_way : ByteArray := prog_1_method_20_code
def yX5_way : MethodName := ⟨RX5, "way", "(IIII)I"⟩
abbrev cX5_floor : ByteArray := prog_1_method_21_code
def yX5_floor : MethodName := ⟨RX5, "floor", "(I)I"⟩
abbrev cX5_keep : ByteArray := prog_1_method_22_code
def yX5_keep : MethodName := ⟨RX5, "keep", "(I)I"⟩
abbrev cX5_year : ByteArray := prog_1_method_23_code
def yX5_year : MethodName := ⟨RX5, "year", "(I)I"⟩
abbrev cX5_change : ByteArray := prog_1_method_24_code
def yX5_change : MethodName := ⟨RX5, "change", "(I)I"⟩
abbrev cX5_plan : ByteArray := prog_1_method_25_code
def yX5_plan : MethodName := ⟨RX5, "plan", "()I"⟩
abbrev cX5_count : ByteArray := prog_1_method_26_code
def yX5_count : MethodName := ⟨RX5, "count", "(I)I"⟩
abbrev cX5_trace : ByteArray := prog_1_method_27_code
def yX5_trace : MethodName := ⟨RX5, "trace", "()J"⟩
abbrev cX5_begin : ByteArray := prog_1_method_28_code
def yX5_begin : MethodName := ⟨RX5, "begin", "(II)V"⟩
abbrev cX5_isWithin : ByteArray := prog_1_method_29_code
def yX5_isWithin : MethodName := ⟨RX5, "isWithin", "(III)Z"⟩
abbrev cX5_isMachine : ByteArray := prog_1_method_30_code
def yX5_isMachine : MethodName := ⟨RX5, "isMachine", "(I)Z"⟩
abbrev cX5_isPart : ByteArray := prog_1_method_31_code
def yX5_isPart : MethodName := ⟨RX5, "isPart", "(I)Z"⟩
abbrev cX5_isCell : ByteArray := prog_1_method_32_code
def yX5_isCell : MethodName := ⟨RX5, "isCell", "(I)Z"⟩
abbrev cX5_isKind : ByteArray := prog_1_method_33_code
def yX5_isKind : MethodName := ⟨RX5, "isKind", "(I)Z"⟩
abbrev cX5_groupings : ByteArray := prog_1_method_34_code
def yX5_groupings : MethodName := ⟨RX5, "groupings", "()I"⟩
abbrev cX5_lossOf : ByteArray := prog_1_method_35_code
def yX5_lossOf : MethodName := ⟨RX5, "lossOf", "(LPartCells$Grouping;I)I"⟩
abbrev cX5_seekGrouping : ByteArray := prog_1_method_36_code
def yX5_seekGrouping : MethodName := ⟨RX5, "seekGrouping", "(II)V"⟩
abbrev cX5_bestChoice : ByteArray := prog_1_method_37_code
def yX5_bestChoice : MethodName := ⟨RX5, "bestChoice", "()I"⟩
abbrev cX5_isRight : ByteArray := prog_1_method_38_code
def yX5_isRight : MethodName := ⟨RX5, "isRight", "(I)Z"⟩
abbrev cX5_offerCopies : ByteArray := prog_1_method_39_code
def yX5_offerCopies : MethodName := ⟨RX5, "offerCopies", "(II)V"⟩
abbrev cX5_offerCopy : ByteArray := prog_1_method_40_code
def yX5_offerCopy : MethodName := ⟨RX5, "offerCopy", "(III)V"⟩
def RX6 : String := "PartCellsModel"
def TX6 : u_T := fun k => match k with
  | 0 => ("PartCellsModel", "thrown", "I", false)
  | 1 => ("PartCellsModel", "trace", "J", false)
  | 2 => ("PartCellsModel", "machines", "I", false)
  | 3 => ("PartCellsModel", "parts", "I", false)
  | 4 => ("PartCellsModel", "route", "[I", true)
  | 5 => ("PartCellsModel", "which", "[I", true)
  | 6 => ("PartCellsModel", "pieces", "[I", true)
  | 7 => ("PartCellsModel", "bears", "[I", true)
  | 8 => ("PartCellsModel", "price", "[I", true)
  | 9 => ("PartCellsModel", "number", "I", false)
  | 10 => ("PartCellsModel", "shelf", "[I", true)
  | 11 => ("PartCellsModel", "years", "I", false)
  | 12 => ("PartCellsModel", "weight", "[I", true)
  | 13 => ("PartCellsModel", "change", "I", false)
  | 14 => ("PartCellsModel", "heap", "[I", true)
  | 15 => ("PartCellsModel", "told", "[I", true)
  | 16 => ("PartCellsModel", "most", "[I", true)
  | 17 => ("PartCellsModel", "place", "[I", true)
  | 18 => ("PartCellsModel", "best", "[I", true)
  | 19 => ("PartCellsModel", "cost", "[I", true)
  | _ => ("PartCellsModel", "next", "[I", true)
def tyX6 : Nat → FieldType := fun k => match k with
  | 0 => .int
  | 1 => .long
  | 2 => .int
  | 3 => .int
  | 4 => .array .int
  | 5 => .array .int
  | 6 => .array .int
  | 7 => .array .int
  | 8 => .array .int
  | 9 => .int
  | 10 => .array .int
  | 11 => .int
  | 12 => .array .int
  | 13 => .int
  | 14 => .array .int
  | 15 => .array .int
  | 16 => .array .int
  | 17 => .array .int
  | 18 => .array .int
  | 19 => .array .int
  | _ => .array .int
theorem nmX6 : ∀ a, a < 21 → ∀ b, b < 21 → a ≠ b → (TX6 a).2.1 ≠ (TX6 b).2.1 := by decide +kernel
theorem tyX6_ok : ∀ k, k < 21 → parseFieldDescriptor (TX6 k).2.2.1 = some (tyX6 k) := by decide +kernel
abbrev cX6_init : ByteArray := prog_8_method_1_code
def yX6_init : MethodName := ⟨RX6, "<init>", "()V"⟩
abbrev cX6_in : ByteArray := prog_8_method_3_code
def yX6_in : MethodName := ⟨RX6, "in", "(III)Z"⟩
abbrev cX6_begins : ByteArray := prog_8_method_4_code
def yX6_begins : MethodName := ⟨RX6, "begins", "(II)V"⟩
abbrev cX6_works : ByteArray := prog_8_method_5_code
def yX6_works : MethodName := ⟨RX6, "works", "(II)I"⟩
abbrev cX6_isPart : ByteArray := prog_8_method_6_code
def yX6_isPart : MethodName := ⟨RX6, "isPart", "(I)Z"⟩
abbrev cX6_isMachine : ByteArray := prog_8_method_7_code
def yX6_isMachine : MethodName := ⟨RX6, "isMachine", "(I)Z"⟩
abbrev cX6_route : ByteArray := prog_8_method_8_code
def yX6_route : MethodName := ⟨RX6, "route", "(III)I"⟩
abbrev cX6_goes : ByteArray := prog_8_method_9_code
def yX6_goes : MethodName := ⟨RX6, "goes", "(II)I"⟩
abbrev cX6_pieces : ByteArray := prog_8_method_10_code
def yX6_pieces : MethodName := ⟨RX6, "pieces", "(II)I"⟩
abbrev cX6_power : ByteArray := prog_8_method_11_code
def yX6_power : MethodName := ⟨RX6, "power", "(I)I"⟩
abbrev cX6_cellOf : ByteArray := prog_8_method_12_code
def yX6_cellOf : MethodName := ⟨RX6, "cellOf", "(II)I"⟩
abbrev cX6_cell : ByteArray := prog_8_method_13_code
def yX6_cell : MethodName := ⟨RX6, "cell", "(II)I"⟩
abbrev cX6_group : ByteArray := prog_8_method_14_code
def yX6_group : MethodName := ⟨RX6, "group", "(I)I"⟩
abbrev cX6_setOf : ByteArray := prog_8_method_15_code
def yX6_setOf : MethodName := ⟨RX6, "setOf", "(I)I"⟩
abbrev cX6_inCell : ByteArray := prog_8_method_16_code
def yX6_inCell : MethodName := ⟨RX6, "inCell", "(III)I"⟩
abbrev cX6_homeOf : ByteArray := prog_8_method_17_code
def yX6_homeOf : MethodName := ⟨RX6, "homeOf", "(II)I"⟩
abbrev cX6_wandersOf : ByteArray := prog_8_method_18_code
def yX6_wandersOf : MethodName := ⟨RX6, "wandersOf", "(II)I"⟩
abbrev cX6_idleOf : ByteArray := prog_8_method_19_code
def yX6_idleOf : MethodName := ⟨RX6, "idleOf", "(II)I"⟩
abbrev cX6_about : ByteArray := prog_8_method_20_code
def yX6_about : MethodName := ⟨RX6, "about", "(II)I"⟩
abbrev cX6_lossOf : ByteArray := prog_8_method_21_code
def yX6_lossOf : MethodName := ⟨RX6, "lossOf", "(II)I"⟩
abbrev cX6_loss : ByteArray := prog_8_method_22_code
def yX6_loss : MethodName := ⟨RX6, "loss", "(I)I"⟩
abbrev cX6_isPlain : ByteArray := prog_8_method_23_code
def yX6_isPlain : MethodName := ⟨RX6, "isPlain", "(I)Z"⟩
abbrev cX6_isWithin : ByteArray := prog_8_method_24_code
def yX6_isWithin : MethodName := ⟨RX6, "isWithin", "(II)Z"⟩
abbrev cX6_best : ByteArray := prog_8_method_25_code
def yX6_best : MethodName := ⟨RX6, "best", "(III)I"⟩
abbrev cX6_plain : ByteArray := prog_8_method_26_code
def yX6_plain : MethodName := ⟨RX6, "plain", "()I"⟩
abbrev cX6_bothOf : ByteArray := prog_8_method_27_code
def yX6_bothOf : MethodName := ⟨RX6, "bothOf", "(II)I"⟩
abbrev cX6_eitherOf : ByteArray := prog_8_method_28_code
def yX6_eitherOf : MethodName := ⟨RX6, "eitherOf", "(II)I"⟩
abbrev cX6_like : ByteArray := prog_8_method_29_code
def yX6_like : MethodName := ⟨RX6, "like", "(III)I"⟩
abbrev cX6_joins : ByteArray := prog_8_method_30_code
def yX6_joins : MethodName := ⟨RX6, "joins", "()V"⟩
abbrev cX6_join : ByteArray := prog_8_method_31_code
def yX6_join : MethodName := ⟨RX6, "join", "(II)I"⟩
abbrev cX6_bears : ByteArray := prog_8_method_32_code
def yX6_bears : MethodName := ⟨RX6, "bears", "(II)I"⟩
abbrev cX6_loadOf : ByteArray := prog_8_method_33_code
def yX6_loadOf : MethodName := ⟨RX6, "loadOf", "(II)I"⟩
abbrev cX6_bits : ByteArray := prog_8_method_34_code
def yX6_bits : MethodName := ⟨RX6, "bits", "()I"⟩
abbrev cX6_load : ByteArray := prog_8_method_35_code
def yX6_load : MethodName := ⟨RX6, "load", "(I)I"⟩
abbrev cX6_routes : ByteArray := prog_8_method_36_code
def yX6_routes : MethodName := ⟨RX6, "routes", "(I)I"⟩
abbrev cX6_price : ByteArray := prog_8_method_37_code
def yX6_price : MethodName := ⟨RX6, "price", "(II)I"⟩
abbrev cX6_copyOf : ByteArray := prog_8_method_38_code
def yX6_copyOf : MethodName := ⟨RX6, "copyOf", "(II)I"⟩
abbrev cX6_copy : ByteArray := prog_8_method_39_code
def yX6_copy : MethodName := ⟨RX6, "copy", "(II)I"⟩
abbrev cX6_saved : ByteArray := prog_8_method_40_code
def yX6_saved : MethodName := ⟨RX6, "saved", "(I)I"⟩
abbrev cX6_wayOf : ByteArray := prog_8_method_41_code
def yX6_wayOf : MethodName := ⟨RX6, "wayOf", "()I"⟩
abbrev cX6_lays : ByteArray := prog_8_method_42_code
def yX6_lays : MethodName := ⟨RX6, "lays", "(IIII)Z"⟩
abbrev cX6_way : ByteArray := prog_8_method_43_code
def yX6_way : MethodName := ⟨RX6, "way", "(IIII)I"⟩
abbrev cX6_floor : ByteArray := prog_8_method_44_code
def yX6_floor : MethodName := ⟨RX6, "floor", "(I)I"⟩
abbrev cX6_keep : ByteArray := prog_8_method_45_code
def yX6_keep : MethodName := ⟨RX6, "keep", "(I)I"⟩
abbrev cX6_year : ByteArray := prog_8_method_46_code
def yX6_year : MethodName := ⟨RX6, "year", "(I)I"⟩
abbrev cX6_change : ByteArray := prog_8_method_47_code
def yX6_change : MethodName := ⟨RX6, "change", "(I)I"⟩
abbrev cX6_movedOf : ByteArray := prog_8_method_48_code
def yX6_movedOf : MethodName := ⟨RX6, "movedOf", "(II)I"⟩
abbrev cX6_plan : ByteArray := prog_8_method_49_code
def yX6_plan : MethodName := ⟨RX6, "plan", "()I"⟩
abbrev cX6_count : ByteArray := prog_8_method_50_code
def yX6_count : MethodName := ⟨RX6, "count", "(I)I"⟩
abbrev cX6_trace : ByteArray := prog_8_method_51_code
def yX6_trace : MethodName := ⟨RX6, "trace", "()J"⟩
def RJ6 : String := "java/lang/Integer"
def TJ6 : u_T := fun k => match k with
  | _ => ("", "", "", false)
def tyJ6 : Nat → FieldType := fun k => match k with
  | _ => .int
theorem nmJ6 : ∀ a, a < 0 → ∀ b, b < 0 → a ≠ b → (TJ6 a).2.1 ≠ (TJ6 b).2.1 := by decide +kernel
theorem tyJ6_ok : ∀ k, k < 0 → parseFieldDescriptor (TJ6 k).2.2.1 = some (tyJ6 k) := by decide +kernel
abbrev cJ6_bitCount_0f7a4 : ByteArray := prog_9_method_49_code
def yJ6_bitCount_0f7a4 : MethodName := ⟨RJ6, "bitCount", "(I)I"⟩
def RJ9 : String := "java/lang/Math"
def TJ9 : u_T := fun k => match k with
  | _ => ("", "", "", false)
def tyJ9 : Nat → FieldType := fun k => match k with
  | _ => .int
theorem nmJ9 : ∀ a, a < 0 → ∀ b, b < 0 → a ≠ b → (TJ9 a).2.1 ≠ (TJ9 b).2.1 := by decide +kernel
theorem tyJ9_ok : ∀ k, k < 0 → parseFieldDescriptor (TJ9 k).2.2.1 = some (tyJ9 k) := by decide +kernel
abbrev cJ9_abs_0f7a4 : ByteArray := prog_10_method_59_code
def yJ9_abs_0f7a4 : MethodName := ⟨RJ9, "abs", "(I)I"⟩
abbrev cJ9_max_7cf53 : ByteArray := prog_10_method_65_code
def yJ9_max_7cf53 : MethodName := ⟨RJ9, "max", "(II)I"⟩
abbrev cJ9_min_7cf53 : ByteArray := prog_10_method_69_code
def yJ9_min_7cf53 : MethodName := ⟨RJ9, "min", "(II)I"⟩
def RJ10 : String := "java/lang/System"
def TJ10 : u_T := fun k => match k with
  | _ => ("", "", "", false)
def tyJ10 : Nat → FieldType := fun k => match k with
  | _ => .int
theorem nmJ10 : ∀ a, a < 0 → ∀ b, b < 0 → a ≠ b → (TJ10 a).2.1 ≠ (TJ10 b).2.1 := by decide +kernel
theorem tyJ10_ok : ∀ k, k < 0 → parseFieldDescriptor (TJ10 k).2.2.1 = some (tyJ10 k) := by decide +kernel
def RJ7 : String := "java/util/Arrays"
def TJ7 : u_T := fun k => match k with
  | _ => ("", "", "", false)
def tyJ7 : Nat → FieldType := fun k => match k with
  | _ => .int
theorem nmJ7 : ∀ a, a < 0 → ∀ b, b < 0 → a ≠ b → (TJ7 a).2.1 ≠ (TJ7 b).2.1 := by decide +kernel
theorem tyJ7_ok : ∀ k, k < 0 → parseFieldDescriptor (TJ7 k).2.2.1 = some (tyJ7 k) := by decide +kernel
abbrev cJ7_fill_53178 : ByteArray := prog_12_method_103_code
def yJ7_fill_53178 : MethodName := ⟨RJ7, "fill", "([II)V"⟩
def RL : String := "PartCellsLaw"
abbrev cL_law : ByteArray := code
def yL_law : MethodName := ⟨RL, "law", "([I)Z"⟩
abbrev vwCl : List vw_C := [(RX0, TX0, 3), (RX1, TX1, 4), (RX2, TX2, 2), (RX3, TX3, 6), (RX4, TX4, 5), (RX5, TX5, 15), (RX6, TX6, 21)]
end
section
theorem dX0_init_0 : decode cX0_init 0 = .ok (.aload_n 0, 1) := by decide +kernel
theorem dX0_init_1 : decode cX0_init 1 = .ok (.invokespecial 3, 3) := by decide +kernel
theorem dX0_init_4 : decode cX0_init 4 = .ok (.aload_n 0, 1) := by decide +kernel
theorem dX0_init_5 : decode cX0_init 5 = .ok (.iconst 4, 1) := by decide +kernel
theorem dX0_init_6 : decode cX0_init 6 = .ok (.newarray .int, 2) := by decide +kernel
theorem dX0_init_8 : decode cX0_init 8 = .ok (.putfield 9, 3) := by decide +kernel
theorem dX0_init_11 : decode cX0_init 11 = .ok (.return_, 1) := by decide +kernel
theorem dX0_become_0 : decode cX0_become 0 = .ok (.aload_n 0, 1) := by decide +kernel
theorem dX0_become_1 : decode cX0_become 1 = .ok (.iload_n 1, 1) := by decide +kernel
theorem dX0_become_2 : decode cX0_become 2 = .ok (.putfield 15, 3) := by decide +kernel
theorem dX0_become_5 : decode cX0_become 5 = .ok (.aload_n 0, 1) := by decide +kernel
theorem dX0_become_6 : decode cX0_become 6 = .ok (.iload_n 2, 1) := by decide +kernel
theorem dX0_become_7 : decode cX0_become 7 = .ok (.putfield 19, 3) := by decide +kernel
theorem dX0_become_10 : decode cX0_become 10 = .ok (.aload_n 0, 1) := by decide +kernel
theorem dX0_become_11 : decode cX0_become 11 = .ok (.getfield 9, 3) := by decide +kernel
theorem dX0_become_14 : decode cX0_become 14 = .ok (.iconst 0, 1) := by decide +kernel
theorem dX0_become_15 : decode cX0_become 15 = .ok (.invokestatic 22, 3) := by decide +kernel
theorem dX0_become_18 : decode cX0_become 18 = .ok (.iconst 0, 1) := by decide +kernel
theorem dX0_become_19 : decode cX0_become 19 = .ok (.istore_n 3, 1) := by decide +kernel
theorem dX0_become_20 : decode cX0_become 20 = .ok (.iload_n 3, 1) := by decide +kernel
theorem dX0_become_21 : decode cX0_become 21 = .ok (.aload_n 0, 1) := by decide +kernel
theorem dX0_become_22 : decode cX0_become 22 = .ok (.getfield 19, 3) := by decide +kernel
theorem dX0_become_25 : decode cX0_become 25 = .ok (.if_icmp .ge 25, 3) := by decide +kernel
theorem dX0_become_28 : decode cX0_become 28 = .ok (.aload_n 0, 1) := by decide +kernel
theorem dX0_become_29 : decode cX0_become 29 = .ok (.getfield 9, 3) := by decide +kernel
theorem dX0_become_32 : decode cX0_become 32 = .ok (.aload_n 0, 1) := by decide +kernel
theorem dX0_become_33 : decode cX0_become 33 = .ok (.iload_n 3, 1) := by decide +kernel
theorem dX0_become_34 : decode cX0_become 34 = .ok (.invokevirtual 28, 3) := by decide +kernel
theorem dX0_become_37 : decode cX0_become 37 = .ok (.dup2, 1) := by decide +kernel
theorem dX0_become_38 : decode cX0_become 38 = .ok (.iaload, 1) := by decide +kernel
theorem dX0_become_39 : decode cX0_become 39 = .ok (.iconst 1, 1) := by decide +kernel
theorem dX0_become_40 : decode cX0_become 40 = .ok (.iload_n 3, 1) := by decide +kernel
theorem dX0_become_41 : decode cX0_become 41 = .ok (.ishl, 1) := by decide +kernel
theorem dX0_become_42 : decode cX0_become 42 = .ok (.ior, 1) := by decide +kernel
theorem dX0_become_43 : decode cX0_become 43 = .ok (.iastore, 1) := by decide +kernel
theorem dX0_become_44 : decode cX0_become 44 = .ok (.iinc 3 1, 3) := by decide +kernel
theorem dX0_become_47 : decode cX0_become 47 = .ok (.goto (-27), 3) := by decide +kernel
theorem dX0_become_50 : decode cX0_become 50 = .ok (.return_, 1) := by decide +kernel
theorem dX0_put_0 : decode cX0_put 0 = .ok (.aload_n 0, 1) := by decide +kernel
theorem dX0_put_1 : decode cX0_put 1 = .ok (.getfield 15, 3) := by decide +kernel
theorem dX0_put_4 : decode cX0_put 4 = .ok (.iconst 3, 1) := by decide +kernel
theorem dX0_put_5 : decode cX0_put 5 = .ok (.iconst 2, 1) := by decide +kernel
theorem dX0_put_6 : decode cX0_put 6 = .ok (.iload_n 1, 1) := by decide +kernel
theorem dX0_put_7 : decode cX0_put 7 = .ok (.imul, 1) := by decide +kernel
theorem dX0_put_8 : decode cX0_put 8 = .ok (.ishl, 1) := by decide +kernel
theorem dX0_put_9 : decode cX0_put 9 = .ok (.iconst (-1), 1) := by decide +kernel
theorem dX0_put_10 : decode cX0_put 10 = .ok (.ixor, 1) := by decide +kernel
theorem dX0_put_11 : decode cX0_put 11 = .ok (.iand, 1) := by decide +kernel
theorem dX0_put_12 : decode cX0_put 12 = .ok (.istore_n 3, 1) := by decide +kernel
theorem dX0_put_13 : decode cX0_put 13 = .ok (.aload_n 0, 1) := by decide +kernel
theorem dX0_put_14 : decode cX0_put 14 = .ok (.iload_n 3, 1) := by decide +kernel
theorem dX0_put_15 : decode cX0_put 15 = .ok (.iload_n 2, 1) := by decide +kernel
theorem dX0_put_16 : decode cX0_put 16 = .ok (.iconst 2, 1) := by decide +kernel
theorem dX0_put_17 : decode cX0_put 17 = .ok (.iload_n 1, 1) := by decide +kernel
theorem dX0_put_18 : decode cX0_put 18 = .ok (.imul, 1) := by decide +kernel
theorem dX0_put_19 : decode cX0_put 19 = .ok (.ishl, 1) := by decide +kernel
theorem dX0_put_20 : decode cX0_put 20 = .ok (.ior, 1) := by decide +kernel
theorem dX0_put_21 : decode cX0_put 21 = .ok (.aload_n 0, 1) := by decide +kernel
theorem dX0_put_22 : decode cX0_put 22 = .ok (.getfield 19, 3) := by decide +kernel
theorem dX0_put_25 : decode cX0_put 25 = .ok (.invokevirtual 32, 3) := by decide +kernel
theorem dX0_put_28 : decode cX0_put 28 = .ok (.return_, 1) := by decide +kernel
theorem dX0_numbered_0 : decode cX0_numbered 0 = .ok (.aload_n 0, 1) := by decide +kernel
theorem dX0_numbered_1 : decode cX0_numbered 1 = .ok (.getfield 15, 3) := by decide +kernel
theorem dX0_numbered_4 : decode cX0_numbered 4 = .ok (.ireturn, 1) := by decide +kernel
theorem dX0_cellOf_0 : decode cX0_cellOf 0 = .ok (.aload_n 0, 1) := by decide +kernel
theorem dX0_cellOf_1 : decode cX0_cellOf 1 = .ok (.getfield 15, 3) := by decide +kernel
theorem dX0_cellOf_4 : decode cX0_cellOf 4 = .ok (.iconst 2, 1) := by decide +kernel
theorem dX0_cellOf_5 : decode cX0_cellOf 5 = .ok (.iload_n 1, 1) := by decide +kernel
theorem dX0_cellOf_6 : decode cX0_cellOf 6 = .ok (.imul, 1) := by decide +kernel
theorem dX0_cellOf_7 : decode cX0_cellOf 7 = .ok (.ishr, 1) := by decide +kernel
theorem dX0_cellOf_8 : decode cX0_cellOf 8 = .ok (.iconst 3, 1) := by decide +kernel
theorem dX0_cellOf_9 : decode cX0_cellOf 9 = .ok (.iand, 1) := by decide +kernel
theorem dX0_cellOf_10 : decode cX0_cellOf 10 = .ok (.ireturn, 1) := by decide +kernel
theorem dX0_isPlain_0 : decode cX0_isPlain 0 = .ok (.iconst 0, 1) := by decide +kernel
theorem dX0_isPlain_1 : decode cX0_isPlain 1 = .ok (.istore_n 2, 1) := by decide +kernel
theorem dX0_isPlain_2 : decode cX0_isPlain 2 = .ok (.iconst 0, 1) := by decide +kernel
theorem dX0_isPlain_3 : decode cX0_isPlain 3 = .ok (.istore_n 3, 1) := by decide +kernel
theorem dX0_isPlain_4 : decode cX0_isPlain 4 = .ok (.iload_n 3, 1) := by decide +kernel
theorem dX0_isPlain_5 : decode cX0_isPlain 5 = .ok (.iload_n 1, 1) := by decide +kernel
theorem dX0_isPlain_6 : decode cX0_isPlain 6 = .ok (.if_icmp .ge 35, 3) := by decide +kernel
theorem dX0_isPlain_9 : decode cX0_isPlain 9 = .ok (.iload_n 0, 1) := by decide +kernel
theorem dX0_isPlain_10 : decode cX0_isPlain 10 = .ok (.iconst 2, 1) := by decide +kernel
theorem dX0_isPlain_11 : decode cX0_isPlain 11 = .ok (.iload_n 3, 1) := by decide +kernel
theorem dX0_isPlain_12 : decode cX0_isPlain 12 = .ok (.imul, 1) := by decide +kernel
theorem dX0_isPlain_13 : decode cX0_isPlain 13 = .ok (.ishr, 1) := by decide +kernel
theorem dX0_isPlain_14 : decode cX0_isPlain 14 = .ok (.iconst 3, 1) := by decide +kernel
theorem dX0_isPlain_15 : decode cX0_isPlain 15 = .ok (.iand, 1) := by decide +kernel
theorem dX0_isPlain_16 : decode cX0_isPlain 16 = .ok (.istore 4, 2) := by decide +kernel
theorem dX0_isPlain_18 : decode cX0_isPlain 18 = .ok (.iload 4, 2) := by decide +kernel
theorem dX0_isPlain_20 : decode cX0_isPlain 20 = .ok (.iload_n 2, 1) := by decide +kernel
theorem dX0_isPlain_21 : decode cX0_isPlain 21 = .ok (.if_icmp .le 5, 3) := by decide +kernel
theorem dX0_isPlain_24 : decode cX0_isPlain 24 = .ok (.iconst 0, 1) := by decide +kernel
theorem dX0_isPlain_25 : decode cX0_isPlain 25 = .ok (.ireturn, 1) := by decide +kernel
theorem dX0_isPlain_26 : decode cX0_isPlain 26 = .ok (.iload 4, 2) := by decide +kernel
theorem dX0_isPlain_28 : decode cX0_isPlain 28 = .ok (.iload_n 2, 1) := by decide +kernel
theorem dX0_isPlain_29 : decode cX0_isPlain 29 = .ok (.if_icmp .ne 6, 3) := by decide +kernel
theorem dX0_isPlain_32 : decode cX0_isPlain 32 = .ok (.iinc 2 1, 3) := by decide +kernel
theorem dX0_isPlain_35 : decode cX0_isPlain 35 = .ok (.iinc 3 1, 3) := by decide +kernel
theorem dX0_isPlain_38 : decode cX0_isPlain 38 = .ok (.goto (-34), 3) := by decide +kernel
theorem dX0_isPlain_41 : decode cX0_isPlain 41 = .ok (.iconst 1, 1) := by decide +kernel
theorem dX0_isPlain_42 : decode cX0_isPlain 42 = .ok (.ireturn, 1) := by decide +kernel
theorem dX0_homeOf_0 : decode cX0_homeOf 0 = .ok (.iconst 0, 1) := by decide +kernel
theorem dX0_homeOf_1 : decode cX0_homeOf 1 = .ok (.istore_n 2, 1) := by decide +kernel
theorem dX0_homeOf_2 : decode cX0_homeOf 2 = .ok (.iconst 0, 1) := by decide +kernel
theorem dX0_homeOf_3 : decode cX0_homeOf 3 = .ok (.istore_n 3, 1) := by decide +kernel
theorem dX0_homeOf_4 : decode cX0_homeOf 4 = .ok (.iconst 0, 1) := by decide +kernel
theorem dX0_homeOf_5 : decode cX0_homeOf 5 = .ok (.istore 4, 2) := by decide +kernel
theorem dX0_homeOf_7 : decode cX0_homeOf 7 = .ok (.iload 4, 2) := by decide +kernel
theorem dX0_homeOf_9 : decode cX0_homeOf 9 = .ok (.iconst 4, 1) := by decide +kernel
theorem dX0_homeOf_10 : decode cX0_homeOf 10 = .ok (.if_icmp .ge 35, 3) := by decide +kernel
theorem dX0_homeOf_13 : decode cX0_homeOf 13 = .ok (.aload_n 0, 1) := by decide +kernel
theorem dX0_homeOf_14 : decode cX0_homeOf 14 = .ok (.getfield 9, 3) := by decide +kernel
theorem dX0_homeOf_17 : decode cX0_homeOf 17 = .ok (.iload 4, 2) := by decide +kernel
theorem dX0_homeOf_19 : decode cX0_homeOf 19 = .ok (.iaload, 1) := by decide +kernel
theorem dX0_homeOf_20 : decode cX0_homeOf 20 = .ok (.iload_n 1, 1) := by decide +kernel
theorem dX0_homeOf_21 : decode cX0_homeOf 21 = .ok (.iand, 1) := by decide +kernel
theorem dX0_homeOf_22 : decode cX0_homeOf 22 = .ok (.invokestatic 36, 3) := by decide +kernel
theorem dX0_homeOf_25 : decode cX0_homeOf 25 = .ok (.istore 5, 2) := by decide +kernel
theorem dX0_homeOf_27 : decode cX0_homeOf 27 = .ok (.iload 5, 2) := by decide +kernel
theorem dX0_homeOf_29 : decode cX0_homeOf 29 = .ok (.iload_n 3, 1) := by decide +kernel
theorem dX0_homeOf_30 : decode cX0_homeOf 30 = .ok (.if_icmp .le 9, 3) := by decide +kernel
theorem dX0_homeOf_33 : decode cX0_homeOf 33 = .ok (.iload 5, 2) := by decide +kernel
theorem dX0_homeOf_35 : decode cX0_homeOf 35 = .ok (.istore_n 3, 1) := by decide +kernel
theorem dX0_homeOf_36 : decode cX0_homeOf 36 = .ok (.iload 4, 2) := by decide +kernel
theorem dX0_homeOf_38 : decode cX0_homeOf 38 = .ok (.istore_n 2, 1) := by decide +kernel
theorem dX0_homeOf_39 : decode cX0_homeOf 39 = .ok (.iinc 4 1, 3) := by decide +kernel
theorem dX0_homeOf_42 : decode cX0_homeOf 42 = .ok (.goto (-35), 3) := by decide +kernel
theorem dX0_homeOf_45 : decode cX0_homeOf 45 = .ok (.iload_n 2, 1) := by decide +kernel
theorem dX0_homeOf_46 : decode cX0_homeOf 46 = .ok (.ireturn, 1) := by decide +kernel
theorem dX0_wandersOf_0 : decode cX0_wandersOf 0 = .ok (.iload_n 1, 1) := by decide +kernel
theorem dX0_wandersOf_1 : decode cX0_wandersOf 1 = .ok (.aload_n 0, 1) := by decide +kernel
theorem dX0_wandersOf_2 : decode cX0_wandersOf 2 = .ok (.getfield 9, 3) := by decide +kernel
theorem dX0_wandersOf_5 : decode cX0_wandersOf 5 = .ok (.aload_n 0, 1) := by decide +kernel
theorem dX0_wandersOf_6 : decode cX0_wandersOf 6 = .ok (.iload_n 1, 1) := by decide +kernel
theorem dX0_wandersOf_7 : decode cX0_wandersOf 7 = .ok (.invokevirtual 41, 3) := by decide +kernel
theorem dX0_wandersOf_10 : decode cX0_wandersOf 10 = .ok (.iaload, 1) := by decide +kernel
theorem dX0_wandersOf_11 : decode cX0_wandersOf 11 = .ok (.iconst (-1), 1) := by decide +kernel
theorem dX0_wandersOf_12 : decode cX0_wandersOf 12 = .ok (.ixor, 1) := by decide +kernel
theorem dX0_wandersOf_13 : decode cX0_wandersOf 13 = .ok (.iand, 1) := by decide +kernel
theorem dX0_wandersOf_14 : decode cX0_wandersOf 14 = .ok (.invokestatic 36, 3) := by decide +kernel
theorem dX0_wandersOf_17 : decode cX0_wandersOf 17 = .ok (.ireturn, 1) := by decide +kernel
theorem dX0_idleOf_0 : decode cX0_idleOf 0 = .ok (.aload_n 0, 1) := by decide +kernel
theorem dX0_idleOf_1 : decode cX0_idleOf 1 = .ok (.getfield 9, 3) := by decide +kernel
theorem dX0_idleOf_4 : decode cX0_idleOf 4 = .ok (.aload_n 0, 1) := by decide +kernel
theorem dX0_idleOf_5 : decode cX0_idleOf 5 = .ok (.iload_n 1, 1) := by decide +kernel
theorem dX0_idleOf_6 : decode cX0_idleOf 6 = .ok (.invokevirtual 41, 3) := by decide +kernel
theorem dX0_idleOf_9 : decode cX0_idleOf 9 = .ok (.iaload, 1) := by decide +kernel
theorem dX0_idleOf_10 : decode cX0_idleOf 10 = .ok (.iload_n 1, 1) := by decide +kernel
theorem dX0_idleOf_11 : decode cX0_idleOf 11 = .ok (.iconst (-1), 1) := by decide +kernel
theorem dX0_idleOf_12 : decode cX0_idleOf 12 = .ok (.ixor, 1) := by decide +kernel
theorem dX0_idleOf_13 : decode cX0_idleOf 13 = .ok (.iand, 1) := by decide +kernel
theorem dX0_idleOf_14 : decode cX0_idleOf 14 = .ok (.invokestatic 36, 3) := by decide +kernel
theorem dX0_idleOf_17 : decode cX0_idleOf 17 = .ok (.ireturn, 1) := by decide +kernel
theorem dX0_squares_0 : decode cX0_squares 0 = .ok (.iconst 0, 1) := by decide +kernel
theorem dX0_squares_1 : decode cX0_squares 1 = .ok (.istore_n 1, 1) := by decide +kernel
theorem dX0_squares_2 : decode cX0_squares 2 = .ok (.iconst 0, 1) := by decide +kernel
theorem dX0_squares_3 : decode cX0_squares 3 = .ok (.istore_n 2, 1) := by decide +kernel
theorem dX0_squares_4 : decode cX0_squares 4 = .ok (.iload_n 2, 1) := by decide +kernel
theorem dX0_squares_5 : decode cX0_squares 5 = .ok (.iconst 4, 1) := by decide +kernel
theorem dX0_squares_6 : decode cX0_squares 6 = .ok (.if_icmp .ge 25, 3) := by decide +kernel
theorem dX0_squares_9 : decode cX0_squares 9 = .ok (.aload_n 0, 1) := by decide +kernel
theorem dX0_squares_10 : decode cX0_squares 10 = .ok (.getfield 9, 3) := by decide +kernel
theorem dX0_squares_13 : decode cX0_squares 13 = .ok (.iload_n 2, 1) := by decide +kernel
theorem dX0_squares_14 : decode cX0_squares 14 = .ok (.iaload, 1) := by decide +kernel
theorem dX0_squares_15 : decode cX0_squares 15 = .ok (.invokestatic 36, 3) := by decide +kernel
theorem dX0_squares_18 : decode cX0_squares 18 = .ok (.istore_n 3, 1) := by decide +kernel
theorem dX0_squares_19 : decode cX0_squares 19 = .ok (.iload_n 1, 1) := by decide +kernel
theorem dX0_squares_20 : decode cX0_squares 20 = .ok (.iload_n 3, 1) := by decide +kernel
theorem dX0_squares_21 : decode cX0_squares 21 = .ok (.iload_n 3, 1) := by decide +kernel
theorem dX0_squares_22 : decode cX0_squares 22 = .ok (.imul, 1) := by decide +kernel
theorem dX0_squares_23 : decode cX0_squares 23 = .ok (.iadd, 1) := by decide +kernel
theorem dX0_squares_24 : decode cX0_squares 24 = .ok (.istore_n 1, 1) := by decide +kernel
theorem dX0_squares_25 : decode cX0_squares 25 = .ok (.iinc 2 1, 3) := by decide +kernel
theorem dX0_squares_28 : decode cX0_squares 28 = .ok (.goto (-24), 3) := by decide +kernel
theorem dX0_squares_31 : decode cX0_squares 31 = .ok (.iload_n 1, 1) := by decide +kernel
theorem dX0_squares_32 : decode cX0_squares 32 = .ok (.ireturn, 1) := by decide +kernel
theorem dX0_largest_0 : decode cX0_largest 0 = .ok (.iconst 0, 1) := by decide +kernel
theorem dX0_largest_1 : decode cX0_largest 1 = .ok (.istore_n 1, 1) := by decide +kernel
theorem dX0_largest_2 : decode cX0_largest 2 = .ok (.iconst 0, 1) := by decide +kernel
theorem dX0_largest_3 : decode cX0_largest 3 = .ok (.istore_n 2, 1) := by decide +kernel
theorem dX0_largest_4 : decode cX0_largest 4 = .ok (.iload_n 2, 1) := by decide +kernel
theorem dX0_largest_5 : decode cX0_largest 5 = .ok (.iconst 4, 1) := by decide +kernel
theorem dX0_largest_6 : decode cX0_largest 6 = .ok (.if_icmp .ge 23, 3) := by decide +kernel
theorem dX0_largest_9 : decode cX0_largest 9 = .ok (.iload_n 1, 1) := by decide +kernel
theorem dX0_largest_10 : decode cX0_largest 10 = .ok (.aload_n 0, 1) := by decide +kernel
theorem dX0_largest_11 : decode cX0_largest 11 = .ok (.getfield 9, 3) := by decide +kernel
theorem dX0_largest_14 : decode cX0_largest 14 = .ok (.iload_n 2, 1) := by decide +kernel
theorem dX0_largest_15 : decode cX0_largest 15 = .ok (.iaload, 1) := by decide +kernel
theorem dX0_largest_16 : decode cX0_largest 16 = .ok (.invokestatic 36, 3) := by decide +kernel
theorem dX0_largest_19 : decode cX0_largest 19 = .ok (.invokestatic 44, 3) := by decide +kernel
theorem dX0_largest_22 : decode cX0_largest 22 = .ok (.istore_n 1, 1) := by decide +kernel
theorem dX0_largest_23 : decode cX0_largest 23 = .ok (.iinc 2 1, 3) := by decide +kernel
theorem dX0_largest_26 : decode cX0_largest 26 = .ok (.goto (-22), 3) := by decide +kernel
theorem dX0_largest_29 : decode cX0_largest 29 = .ok (.iload_n 1, 1) := by decide +kernel
theorem dX0_largest_30 : decode cX0_largest 30 = .ok (.ireturn, 1) := by decide +kernel
theorem dX0_moved_0 : decode cX0_moved 0 = .ok (.iconst 0, 1) := by decide +kernel
theorem dX0_moved_1 : decode cX0_moved 1 = .ok (.istore_n 2, 1) := by decide +kernel
theorem dX0_moved_2 : decode cX0_moved 2 = .ok (.iconst 0, 1) := by decide +kernel
theorem dX0_moved_3 : decode cX0_moved 3 = .ok (.istore_n 3, 1) := by decide +kernel
theorem dX0_moved_4 : decode cX0_moved 4 = .ok (.iload_n 3, 1) := by decide +kernel
theorem dX0_moved_5 : decode cX0_moved 5 = .ok (.bipush 7, 2) := by decide +kernel
theorem dX0_moved_7 : decode cX0_moved 7 = .ok (.if_icmp .ge 24, 3) := by decide +kernel
theorem dX0_moved_10 : decode cX0_moved 10 = .ok (.iload_n 0, 1) := by decide +kernel
theorem dX0_moved_11 : decode cX0_moved 11 = .ok (.iload_n 1, 1) := by decide +kernel
theorem dX0_moved_12 : decode cX0_moved 12 = .ok (.ixor, 1) := by decide +kernel
theorem dX0_moved_13 : decode cX0_moved 13 = .ok (.iconst 2, 1) := by decide +kernel
theorem dX0_moved_14 : decode cX0_moved 14 = .ok (.iload_n 3, 1) := by decide +kernel
theorem dX0_moved_15 : decode cX0_moved 15 = .ok (.imul, 1) := by decide +kernel
theorem dX0_moved_16 : decode cX0_moved 16 = .ok (.ishr, 1) := by decide +kernel
theorem dX0_moved_17 : decode cX0_moved 17 = .ok (.iconst 3, 1) := by decide +kernel
theorem dX0_moved_18 : decode cX0_moved 18 = .ok (.iand, 1) := by decide +kernel
theorem dX0_moved_19 : decode cX0_moved 19 = .ok (.ifCond .eq 6, 3) := by decide +kernel
theorem dX0_moved_22 : decode cX0_moved 22 = .ok (.iinc 2 1, 3) := by decide +kernel
theorem dX0_moved_25 : decode cX0_moved 25 = .ok (.iinc 3 1, 3) := by decide +kernel
theorem dX0_moved_28 : decode cX0_moved 28 = .ok (.goto (-24), 3) := by decide +kernel
theorem dX0_moved_31 : decode cX0_moved 31 = .ok (.iload_n 2, 1) := by decide +kernel
theorem dX0_moved_32 : decode cX0_moved 32 = .ok (.ireturn, 1) := by decide +kernel
theorem dX1_init_0 : decode cX1_init 0 = .ok (.aload_n 0, 1) := by decide +kernel
theorem dX1_init_1 : decode cX1_init 1 = .ok (.invokespecial 3, 3) := by decide +kernel
theorem dX1_init_4 : decode cX1_init 4 = .ok (.aload_n 0, 1) := by decide +kernel
theorem dX1_init_5 : decode cX1_init 5 = .ok (.bipush 16, 2) := by decide +kernel
theorem dX1_init_7 : decode cX1_init 7 = .ok (.newarray .int, 2) := by decide +kernel
theorem dX1_init_9 : decode cX1_init 9 = .ok (.putfield 9, 3) := by decide +kernel
theorem dX1_init_12 : decode cX1_init 12 = .ok (.aload_n 0, 1) := by decide +kernel
theorem dX1_init_13 : decode cX1_init 13 = .ok (.bipush 8, 2) := by decide +kernel
theorem dX1_init_15 : decode cX1_init 15 = .ok (.newarray .int, 2) := by decide +kernel
theorem dX1_init_17 : decode cX1_init 17 = .ok (.putfield 15, 3) := by decide +kernel
theorem dX1_init_20 : decode cX1_init 20 = .ok (.return_, 1) := by decide +kernel
theorem dX1_begin_0 : decode cX1_begin 0 = .ok (.aload_n 0, 1) := by decide +kernel
theorem dX1_begin_1 : decode cX1_begin 1 = .ok (.iload_n 1, 1) := by decide +kernel
theorem dX1_begin_2 : decode cX1_begin 2 = .ok (.putfield 18, 3) := by decide +kernel
theorem dX1_begin_5 : decode cX1_begin 5 = .ok (.aload_n 0, 1) := by decide +kernel
theorem dX1_begin_6 : decode cX1_begin 6 = .ok (.iconst 0, 1) := by decide +kernel
theorem dX1_begin_7 : decode cX1_begin 7 = .ok (.putfield 22, 3) := by decide +kernel
theorem dX1_begin_10 : decode cX1_begin 10 = .ok (.aload_n 0, 1) := by decide +kernel
theorem dX1_begin_11 : decode cX1_begin 11 = .ok (.getfield 9, 3) := by decide +kernel
theorem dX1_begin_14 : decode cX1_begin 14 = .ok (.iconst 0, 1) := by decide +kernel
theorem dX1_begin_15 : decode cX1_begin 15 = .ok (.invokestatic 25, 3) := by decide +kernel
theorem dX1_begin_18 : decode cX1_begin 18 = .ok (.aload_n 0, 1) := by decide +kernel
theorem dX1_begin_19 : decode cX1_begin 19 = .ok (.getfield 15, 3) := by decide +kernel
theorem dX1_begin_22 : decode cX1_begin 22 = .ok (.iconst 1, 1) := by decide +kernel
theorem dX1_begin_23 : decode cX1_begin 23 = .ok (.invokestatic 25, 3) := by decide +kernel
theorem dX1_begin_26 : decode cX1_begin 26 = .ok (.return_, 1) := by decide +kernel
theorem dX1_howMany_0 : decode cX1_howMany 0 = .ok (.aload_n 0, 1) := by decide +kernel
theorem dX1_howMany_1 : decode cX1_howMany 1 = .ok (.getfield 18, 3) := by decide +kernel
theorem dX1_howMany_4 : decode cX1_howMany 4 = .ok (.ireturn, 1) := by decide +kernel
theorem dX1_chosen_0 : decode cX1_chosen 0 = .ok (.aload_n 0, 1) := by decide +kernel
theorem dX1_chosen_1 : decode cX1_chosen 1 = .ok (.getfield 22, 3) := by decide +kernel
theorem dX1_chosen_4 : decode cX1_chosen 4 = .ok (.ireturn, 1) := by decide +kernel
theorem dX1_chosenBy_0 : decode cX1_chosenBy 0 = .ok (.aload_n 0, 1) := by decide +kernel
theorem dX1_chosenBy_1 : decode cX1_chosenBy 1 = .ok (.getfield 22, 3) := by decide +kernel
theorem dX1_chosenBy_4 : decode cX1_chosenBy 4 = .ok (.iload_n 1, 1) := by decide +kernel
theorem dX1_chosenBy_5 : decode cX1_chosenBy 5 = .ok (.ishr, 1) := by decide +kernel
theorem dX1_chosenBy_6 : decode cX1_chosenBy 6 = .ok (.iconst 1, 1) := by decide +kernel
theorem dX1_chosenBy_7 : decode cX1_chosenBy 7 = .ok (.iand, 1) := by decide +kernel
theorem dX1_chosenBy_8 : decode cX1_chosenBy 8 = .ok (.ireturn, 1) := by decide +kernel
theorem dX1_choose_0 : decode cX1_choose 0 = .ok (.aload_n 0, 1) := by decide +kernel
theorem dX1_choose_1 : decode cX1_choose 1 = .ok (.aload_n 0, 1) := by decide +kernel
theorem dX1_choose_2 : decode cX1_choose 2 = .ok (.getfield 22, 3) := by decide +kernel
theorem dX1_choose_5 : decode cX1_choose 5 = .ok (.iconst 1, 1) := by decide +kernel
theorem dX1_choose_6 : decode cX1_choose 6 = .ok (.iload_n 1, 1) := by decide +kernel
theorem dX1_choose_7 : decode cX1_choose 7 = .ok (.ishl, 1) := by decide +kernel
theorem dX1_choose_8 : decode cX1_choose 8 = .ok (.iconst (-1), 1) := by decide +kernel
theorem dX1_choose_9 : decode cX1_choose 9 = .ok (.ixor, 1) := by decide +kernel
theorem dX1_choose_10 : decode cX1_choose 10 = .ok (.iand, 1) := by decide +kernel
theorem dX1_choose_11 : decode cX1_choose 11 = .ok (.iload_n 2, 1) := by decide +kernel
theorem dX1_choose_12 : decode cX1_choose 12 = .ok (.iload_n 1, 1) := by decide +kernel
theorem dX1_choose_13 : decode cX1_choose 13 = .ok (.ishl, 1) := by decide +kernel
theorem dX1_choose_14 : decode cX1_choose 14 = .ok (.ior, 1) := by decide +kernel
theorem dX1_choose_15 : decode cX1_choose 15 = .ok (.putfield 22, 3) := by decide +kernel
theorem dX1_choose_18 : decode cX1_choose 18 = .ok (.return_, 1) := by decide +kernel
theorem dX1_routeSet_0 : decode cX1_routeSet 0 = .ok (.aload_n 0, 1) := by decide +kernel
theorem dX1_routeSet_1 : decode cX1_routeSet 1 = .ok (.getfield 9, 3) := by decide +kernel
theorem dX1_routeSet_4 : decode cX1_routeSet 4 = .ok (.iconst 2, 1) := by decide +kernel
theorem dX1_routeSet_5 : decode cX1_routeSet 5 = .ok (.iload_n 1, 1) := by decide +kernel
theorem dX1_routeSet_6 : decode cX1_routeSet 6 = .ok (.imul, 1) := by decide +kernel
theorem dX1_routeSet_7 : decode cX1_routeSet 7 = .ok (.iload_n 2, 1) := by decide +kernel
theorem dX1_routeSet_8 : decode cX1_routeSet 8 = .ok (.iadd, 1) := by decide +kernel
theorem dX1_routeSet_9 : decode cX1_routeSet 9 = .ok (.iaload, 1) := by decide +kernel
theorem dX1_routeSet_10 : decode cX1_routeSet 10 = .ok (.ireturn, 1) := by decide +kernel
theorem dX1_putRouteSet_0 : decode cX1_putRouteSet 0 = .ok (.aload_n 0, 1) := by decide +kernel
theorem dX1_putRouteSet_1 : decode cX1_putRouteSet 1 = .ok (.getfield 9, 3) := by decide +kernel
theorem dX1_putRouteSet_4 : decode cX1_putRouteSet 4 = .ok (.iconst 2, 1) := by decide +kernel
theorem dX1_putRouteSet_5 : decode cX1_putRouteSet 5 = .ok (.iload_n 1, 1) := by decide +kernel
theorem dX1_putRouteSet_6 : decode cX1_putRouteSet 6 = .ok (.imul, 1) := by decide +kernel
theorem dX1_putRouteSet_7 : decode cX1_putRouteSet 7 = .ok (.iload_n 2, 1) := by decide +kernel
theorem dX1_putRouteSet_8 : decode cX1_putRouteSet 8 = .ok (.iadd, 1) := by decide +kernel
theorem dX1_putRouteSet_9 : decode cX1_putRouteSet 9 = .ok (.iload_n 3, 1) := by decide +kernel
theorem dX1_putRouteSet_10 : decode cX1_putRouteSet 10 = .ok (.iastore, 1) := by decide +kernel
theorem dX1_putRouteSet_11 : decode cX1_putRouteSet 11 = .ok (.return_, 1) := by decide +kernel
theorem dX1_setOf_0 : decode cX1_setOf 0 = .ok (.aload_n 0, 1) := by decide +kernel
theorem dX1_setOf_1 : decode cX1_setOf 1 = .ok (.aload_n 0, 1) := by decide +kernel
theorem dX1_setOf_2 : decode cX1_setOf 2 = .ok (.getfield 22, 3) := by decide +kernel
theorem dX1_setOf_5 : decode cX1_setOf 5 = .ok (.iload_n 1, 1) := by decide +kernel
theorem dX1_setOf_6 : decode cX1_setOf 6 = .ok (.invokevirtual 31, 3) := by decide +kernel
theorem dX1_setOf_9 : decode cX1_setOf 9 = .ok (.ireturn, 1) := by decide +kernel
theorem dX1_piecesOf_0 : decode cX1_piecesOf 0 = .ok (.aload_n 0, 1) := by decide +kernel
theorem dX1_piecesOf_1 : decode cX1_piecesOf 1 = .ok (.getfield 15, 3) := by decide +kernel
theorem dX1_piecesOf_4 : decode cX1_piecesOf 4 = .ok (.iload_n 1, 1) := by decide +kernel
theorem dX1_piecesOf_5 : decode cX1_piecesOf 5 = .ok (.iaload, 1) := by decide +kernel
theorem dX1_piecesOf_6 : decode cX1_piecesOf 6 = .ok (.ireturn, 1) := by decide +kernel
theorem dX1_putPieces_0 : decode cX1_putPieces 0 = .ok (.aload_n 0, 1) := by decide +kernel
theorem dX1_putPieces_1 : decode cX1_putPieces 1 = .ok (.getfield 15, 3) := by decide +kernel
theorem dX1_putPieces_4 : decode cX1_putPieces 4 = .ok (.iload_n 1, 1) := by decide +kernel
theorem dX1_putPieces_5 : decode cX1_putPieces 5 = .ok (.iload_n 2, 1) := by decide +kernel
theorem dX1_putPieces_6 : decode cX1_putPieces 6 = .ok (.iastore, 1) := by decide +kernel
theorem dX1_putPieces_7 : decode cX1_putPieces 7 = .ok (.return_, 1) := by decide +kernel
theorem dX1_wanderBy_0 : decode cX1_wanderBy 0 = .ok (.iconst 0, 1) := by decide +kernel
theorem dX1_wanderBy_1 : decode cX1_wanderBy 1 = .ok (.istore_n 3, 1) := by decide +kernel
theorem dX1_wanderBy_2 : decode cX1_wanderBy 2 = .ok (.iconst 0, 1) := by decide +kernel
theorem dX1_wanderBy_3 : decode cX1_wanderBy 3 = .ok (.istore 4, 2) := by decide +kernel
theorem dX1_wanderBy_5 : decode cX1_wanderBy 5 = .ok (.iload 4, 2) := by decide +kernel
theorem dX1_wanderBy_7 : decode cX1_wanderBy 7 = .ok (.aload_n 0, 1) := by decide +kernel
theorem dX1_wanderBy_8 : decode cX1_wanderBy 8 = .ok (.getfield 18, 3) := by decide +kernel
theorem dX1_wanderBy_11 : decode cX1_wanderBy 11 = .ok (.if_icmp .ge 31, 3) := by decide +kernel
theorem dX1_wanderBy_14 : decode cX1_wanderBy 14 = .ok (.iload_n 3, 1) := by decide +kernel
theorem dX1_wanderBy_15 : decode cX1_wanderBy 15 = .ok (.aload_n 0, 1) := by decide +kernel
theorem dX1_wanderBy_16 : decode cX1_wanderBy 16 = .ok (.getfield 15, 3) := by decide +kernel
theorem dX1_wanderBy_19 : decode cX1_wanderBy 19 = .ok (.iload 4, 2) := by decide +kernel
theorem dX1_wanderBy_21 : decode cX1_wanderBy 21 = .ok (.iaload, 1) := by decide +kernel
theorem dX1_wanderBy_22 : decode cX1_wanderBy 22 = .ok (.aload_n 2, 1) := by decide +kernel
theorem dX1_wanderBy_23 : decode cX1_wanderBy 23 = .ok (.aload_n 0, 1) := by decide +kernel
theorem dX1_wanderBy_24 : decode cX1_wanderBy 24 = .ok (.iload_n 1, 1) := by decide +kernel
theorem dX1_wanderBy_25 : decode cX1_wanderBy 25 = .ok (.iload 4, 2) := by decide +kernel
theorem dX1_wanderBy_27 : decode cX1_wanderBy 27 = .ok (.invokevirtual 31, 3) := by decide +kernel
theorem dX1_wanderBy_30 : decode cX1_wanderBy 30 = .ok (.invokevirtual 35, 3) := by decide +kernel
theorem dX1_wanderBy_33 : decode cX1_wanderBy 33 = .ok (.imul, 1) := by decide +kernel
theorem dX1_wanderBy_34 : decode cX1_wanderBy 34 = .ok (.iadd, 1) := by decide +kernel
theorem dX1_wanderBy_35 : decode cX1_wanderBy 35 = .ok (.istore_n 3, 1) := by decide +kernel
theorem dX1_wanderBy_36 : decode cX1_wanderBy 36 = .ok (.iinc 4 1, 3) := by decide +kernel
theorem dX1_wanderBy_39 : decode cX1_wanderBy 39 = .ok (.goto (-34), 3) := by decide +kernel
theorem dX1_wanderBy_42 : decode cX1_wanderBy 42 = .ok (.iload_n 3, 1) := by decide +kernel
theorem dX1_wanderBy_43 : decode cX1_wanderBy 43 = .ok (.ireturn, 1) := by decide +kernel
theorem dX1_idleOf_0 : decode cX1_idleOf 0 = .ok (.iconst 0, 1) := by decide +kernel
theorem dX1_idleOf_1 : decode cX1_idleOf 1 = .ok (.istore_n 2, 1) := by decide +kernel
theorem dX1_idleOf_2 : decode cX1_idleOf 2 = .ok (.iconst 0, 1) := by decide +kernel
theorem dX1_idleOf_3 : decode cX1_idleOf 3 = .ok (.istore_n 3, 1) := by decide +kernel
theorem dX1_idleOf_4 : decode cX1_idleOf 4 = .ok (.iload_n 3, 1) := by decide +kernel
theorem dX1_idleOf_5 : decode cX1_idleOf 5 = .ok (.aload_n 0, 1) := by decide +kernel
theorem dX1_idleOf_6 : decode cX1_idleOf 6 = .ok (.getfield 18, 3) := by decide +kernel
theorem dX1_idleOf_9 : decode cX1_idleOf 9 = .ok (.if_icmp .ge 21, 3) := by decide +kernel
theorem dX1_idleOf_12 : decode cX1_idleOf 12 = .ok (.iload_n 2, 1) := by decide +kernel
theorem dX1_idleOf_13 : decode cX1_idleOf 13 = .ok (.aload_n 1, 1) := by decide +kernel
theorem dX1_idleOf_14 : decode cX1_idleOf 14 = .ok (.aload_n 0, 1) := by decide +kernel
theorem dX1_idleOf_15 : decode cX1_idleOf 15 = .ok (.iload_n 3, 1) := by decide +kernel
theorem dX1_idleOf_16 : decode cX1_idleOf 16 = .ok (.invokevirtual 41, 3) := by decide +kernel
theorem dX1_idleOf_19 : decode cX1_idleOf 19 = .ok (.invokevirtual 44, 3) := by decide +kernel
theorem dX1_idleOf_22 : decode cX1_idleOf 22 = .ok (.iadd, 1) := by decide +kernel
theorem dX1_idleOf_23 : decode cX1_idleOf 23 = .ok (.istore_n 2, 1) := by decide +kernel
theorem dX1_idleOf_24 : decode cX1_idleOf 24 = .ok (.iinc 3 1, 3) := by decide +kernel
theorem dX1_idleOf_27 : decode cX1_idleOf 27 = .ok (.goto (-23), 3) := by decide +kernel
theorem dX1_idleOf_30 : decode cX1_idleOf 30 = .ok (.iload_n 2, 1) := by decide +kernel
theorem dX1_idleOf_31 : decode cX1_idleOf 31 = .ok (.ireturn, 1) := by decide +kernel
theorem dX1_loadBy_0 : decode cX1_loadBy 0 = .ok (.iconst 0, 1) := by decide +kernel
theorem dX1_loadBy_1 : decode cX1_loadBy 1 = .ok (.istore_n 3, 1) := by decide +kernel
theorem dX1_loadBy_2 : decode cX1_loadBy 2 = .ok (.iconst 0, 1) := by decide +kernel
theorem dX1_loadBy_3 : decode cX1_loadBy 3 = .ok (.istore 4, 2) := by decide +kernel
theorem dX1_loadBy_5 : decode cX1_loadBy 5 = .ok (.iload 4, 2) := by decide +kernel
theorem dX1_loadBy_7 : decode cX1_loadBy 7 = .ok (.aload_n 0, 1) := by decide +kernel
theorem dX1_loadBy_8 : decode cX1_loadBy 8 = .ok (.getfield 18, 3) := by decide +kernel
theorem dX1_loadBy_11 : decode cX1_loadBy 11 = .ok (.if_icmp .ge 33, 3) := by decide +kernel
theorem dX1_loadBy_14 : decode cX1_loadBy 14 = .ok (.aload_n 0, 1) := by decide +kernel
theorem dX1_loadBy_15 : decode cX1_loadBy 15 = .ok (.iload_n 1, 1) := by decide +kernel
theorem dX1_loadBy_16 : decode cX1_loadBy 16 = .ok (.iload 4, 2) := by decide +kernel
theorem dX1_loadBy_18 : decode cX1_loadBy 18 = .ok (.invokevirtual 31, 3) := by decide +kernel
theorem dX1_loadBy_21 : decode cX1_loadBy 21 = .ok (.iload_n 2, 1) := by decide +kernel
theorem dX1_loadBy_22 : decode cX1_loadBy 22 = .ok (.invokestatic 47, 3) := by decide +kernel
theorem dX1_loadBy_25 : decode cX1_loadBy 25 = .ok (.ifCond .eq 13, 3) := by decide +kernel
theorem dX1_loadBy_28 : decode cX1_loadBy 28 = .ok (.iload_n 3, 1) := by decide +kernel
theorem dX1_loadBy_29 : decode cX1_loadBy 29 = .ok (.aload_n 0, 1) := by decide +kernel
theorem dX1_loadBy_30 : decode cX1_loadBy 30 = .ok (.getfield 15, 3) := by decide +kernel
theorem dX1_loadBy_33 : decode cX1_loadBy 33 = .ok (.iload 4, 2) := by decide +kernel
theorem dX1_loadBy_35 : decode cX1_loadBy 35 = .ok (.iaload, 1) := by decide +kernel
theorem dX1_loadBy_36 : decode cX1_loadBy 36 = .ok (.iadd, 1) := by decide +kernel
theorem dX1_loadBy_37 : decode cX1_loadBy 37 = .ok (.istore_n 3, 1) := by decide +kernel
theorem dX1_loadBy_38 : decode cX1_loadBy 38 = .ok (.iinc 4 1, 3) := by decide +kernel
theorem dX1_loadBy_41 : decode cX1_loadBy 41 = .ok (.goto (-36), 3) := by decide +kernel
theorem dX1_loadBy_44 : decode cX1_loadBy 44 = .ok (.iload_n 3, 1) := by decide +kernel
theorem dX1_loadBy_45 : decode cX1_loadBy 45 = .ok (.ireturn, 1) := by decide +kernel
theorem dX1_withBoth_0 : decode cX1_withBoth 0 = .ok (.iconst 0, 1) := by decide +kernel
theorem dX1_withBoth_1 : decode cX1_withBoth 1 = .ok (.istore_n 3, 1) := by decide +kernel
theorem dX1_withBoth_2 : decode cX1_withBoth 2 = .ok (.iconst 0, 1) := by decide +kernel
theorem dX1_withBoth_3 : decode cX1_withBoth 3 = .ok (.istore 4, 2) := by decide +kernel
theorem dX1_withBoth_5 : decode cX1_withBoth 5 = .ok (.iload 4, 2) := by decide +kernel
theorem dX1_withBoth_7 : decode cX1_withBoth 7 = .ok (.aload_n 0, 1) := by decide +kernel
theorem dX1_withBoth_8 : decode cX1_withBoth 8 = .ok (.getfield 18, 3) := by decide +kernel
theorem dX1_withBoth_11 : decode cX1_withBoth 11 = .ok (.if_icmp .ge 42, 3) := by decide +kernel
theorem dX1_withBoth_14 : decode cX1_withBoth 14 = .ok (.aload_n 0, 1) := by decide +kernel
theorem dX1_withBoth_15 : decode cX1_withBoth 15 = .ok (.aload_n 0, 1) := by decide +kernel
theorem dX1_withBoth_16 : decode cX1_withBoth 16 = .ok (.getfield 22, 3) := by decide +kernel
theorem dX1_withBoth_19 : decode cX1_withBoth 19 = .ok (.iload 4, 2) := by decide +kernel
theorem dX1_withBoth_21 : decode cX1_withBoth 21 = .ok (.invokevirtual 31, 3) := by decide +kernel
theorem dX1_withBoth_24 : decode cX1_withBoth 24 = .ok (.istore 5, 2) := by decide +kernel
theorem dX1_withBoth_26 : decode cX1_withBoth 26 = .ok (.iload 5, 2) := by decide +kernel
theorem dX1_withBoth_28 : decode cX1_withBoth 28 = .ok (.iload_n 1, 1) := by decide +kernel
theorem dX1_withBoth_29 : decode cX1_withBoth 29 = .ok (.invokestatic 47, 3) := by decide +kernel
theorem dX1_withBoth_32 : decode cX1_withBoth 32 = .ok (.ifCond .eq 15, 3) := by decide +kernel
theorem dX1_withBoth_35 : decode cX1_withBoth 35 = .ok (.iload 5, 2) := by decide +kernel
theorem dX1_withBoth_37 : decode cX1_withBoth 37 = .ok (.iload_n 2, 1) := by decide +kernel
theorem dX1_withBoth_38 : decode cX1_withBoth 38 = .ok (.invokestatic 47, 3) := by decide +kernel
theorem dX1_withBoth_41 : decode cX1_withBoth 41 = .ok (.ifCond .eq 6, 3) := by decide +kernel
theorem dX1_withBoth_44 : decode cX1_withBoth 44 = .ok (.iinc 3 1, 3) := by decide +kernel
theorem dX1_withBoth_47 : decode cX1_withBoth 47 = .ok (.iinc 4 1, 3) := by decide +kernel
theorem dX1_withBoth_50 : decode cX1_withBoth 50 = .ok (.goto (-45), 3) := by decide +kernel
theorem dX1_withBoth_53 : decode cX1_withBoth 53 = .ok (.iload_n 3, 1) := by decide +kernel
theorem dX1_withBoth_54 : decode cX1_withBoth 54 = .ok (.ireturn, 1) := by decide +kernel
theorem dX1_withEither_0 : decode cX1_withEither 0 = .ok (.iconst 0, 1) := by decide +kernel
theorem dX1_withEither_1 : decode cX1_withEither 1 = .ok (.istore_n 3, 1) := by decide +kernel
theorem dX1_withEither_2 : decode cX1_withEither 2 = .ok (.iconst 0, 1) := by decide +kernel
theorem dX1_withEither_3 : decode cX1_withEither 3 = .ok (.istore 4, 2) := by decide +kernel
theorem dX1_withEither_5 : decode cX1_withEither 5 = .ok (.iload 4, 2) := by decide +kernel
theorem dX1_withEither_7 : decode cX1_withEither 7 = .ok (.aload_n 0, 1) := by decide +kernel
theorem dX1_withEither_8 : decode cX1_withEither 8 = .ok (.getfield 18, 3) := by decide +kernel
theorem dX1_withEither_11 : decode cX1_withEither 11 = .ok (.if_icmp .ge 42, 3) := by decide +kernel
theorem dX1_withEither_14 : decode cX1_withEither 14 = .ok (.aload_n 0, 1) := by decide +kernel
theorem dX1_withEither_15 : decode cX1_withEither 15 = .ok (.aload_n 0, 1) := by decide +kernel
theorem dX1_withEither_16 : decode cX1_withEither 16 = .ok (.getfield 22, 3) := by decide +kernel
theorem dX1_withEither_19 : decode cX1_withEither 19 = .ok (.iload 4, 2) := by decide +kernel
theorem dX1_withEither_21 : decode cX1_withEither 21 = .ok (.invokevirtual 31, 3) := by decide +kernel
theorem dX1_withEither_24 : decode cX1_withEither 24 = .ok (.istore 5, 2) := by decide +kernel
theorem dX1_withEither_26 : decode cX1_withEither 26 = .ok (.iload 5, 2) := by decide +kernel
theorem dX1_withEither_28 : decode cX1_withEither 28 = .ok (.iload_n 1, 1) := by decide +kernel
theorem dX1_withEither_29 : decode cX1_withEither 29 = .ok (.invokestatic 47, 3) := by decide +kernel
theorem dX1_withEither_32 : decode cX1_withEither 32 = .ok (.ifCond .ne 12, 3) := by decide +kernel
theorem dX1_withEither_35 : decode cX1_withEither 35 = .ok (.iload 5, 2) := by decide +kernel
theorem dX1_withEither_37 : decode cX1_withEither 37 = .ok (.iload_n 2, 1) := by decide +kernel
theorem dX1_withEither_38 : decode cX1_withEither 38 = .ok (.invokestatic 47, 3) := by decide +kernel
theorem dX1_withEither_41 : decode cX1_withEither 41 = .ok (.ifCond .eq 6, 3) := by decide +kernel
theorem dX1_withEither_44 : decode cX1_withEither 44 = .ok (.iinc 3 1, 3) := by decide +kernel
theorem dX1_withEither_47 : decode cX1_withEither 47 = .ok (.iinc 4 1, 3) := by decide +kernel
theorem dX1_withEither_50 : decode cX1_withEither 50 = .ok (.goto (-45), 3) := by decide +kernel
theorem dX1_withEither_53 : decode cX1_withEither 53 = .ok (.iload_n 3, 1) := by decide +kernel
theorem dX1_withEither_54 : decode cX1_withEither 54 = .ok (.iconst 1, 1) := by decide +kernel
theorem dX1_withEither_55 : decode cX1_withEither 55 = .ok (.invokestatic 51, 3) := by decide +kernel
theorem dX1_withEither_58 : decode cX1_withEither 58 = .ok (.ireturn, 1) := by decide +kernel
theorem dX1_keptHome_0 : decode cX1_keptHome 0 = .ok (.iconst 0, 1) := by decide +kernel
theorem dX1_keptHome_1 : decode cX1_keptHome 1 = .ok (.istore 4, 2) := by decide +kernel
theorem dX1_keptHome_3 : decode cX1_keptHome 3 = .ok (.iconst 0, 1) := by decide +kernel
theorem dX1_keptHome_4 : decode cX1_keptHome 4 = .ok (.istore 5, 2) := by decide +kernel
theorem dX1_keptHome_6 : decode cX1_keptHome 6 = .ok (.iload 5, 2) := by decide +kernel
theorem dX1_keptHome_8 : decode cX1_keptHome 8 = .ok (.aload_n 0, 1) := by decide +kernel
theorem dX1_keptHome_9 : decode cX1_keptHome 9 = .ok (.getfield 18, 3) := by decide +kernel
theorem dX1_keptHome_12 : decode cX1_keptHome 12 = .ok (.if_icmp .ge 48, 3) := by decide +kernel
theorem dX1_keptHome_15 : decode cX1_keptHome 15 = .ok (.aload_n 0, 1) := by decide +kernel
theorem dX1_keptHome_16 : decode cX1_keptHome 16 = .ok (.iload 5, 2) := by decide +kernel
theorem dX1_keptHome_18 : decode cX1_keptHome 18 = .ok (.invokevirtual 41, 3) := by decide +kernel
theorem dX1_keptHome_21 : decode cX1_keptHome 21 = .ok (.istore 6, 2) := by decide +kernel
theorem dX1_keptHome_23 : decode cX1_keptHome 23 = .ok (.iload 6, 2) := by decide +kernel
theorem dX1_keptHome_25 : decode cX1_keptHome 25 = .ok (.iload_n 1, 1) := by decide +kernel
theorem dX1_keptHome_26 : decode cX1_keptHome 26 = .ok (.invokestatic 47, 3) := by decide +kernel
theorem dX1_keptHome_29 : decode cX1_keptHome 29 = .ok (.ifCond .eq 25, 3) := by decide +kernel
theorem dX1_keptHome_32 : decode cX1_keptHome 32 = .ok (.aload_n 3, 1) := by decide +kernel
theorem dX1_keptHome_33 : decode cX1_keptHome 33 = .ok (.iload 6, 2) := by decide +kernel
theorem dX1_keptHome_35 : decode cX1_keptHome 35 = .ok (.invokevirtual 56, 3) := by decide +kernel
theorem dX1_keptHome_38 : decode cX1_keptHome 38 = .ok (.iload_n 2, 1) := by decide +kernel
theorem dX1_keptHome_39 : decode cX1_keptHome 39 = .ok (.if_icmp .ne 15, 3) := by decide +kernel
theorem dX1_keptHome_42 : decode cX1_keptHome 42 = .ok (.iload 4, 2) := by decide +kernel
theorem dX1_keptHome_44 : decode cX1_keptHome 44 = .ok (.aload_n 0, 1) := by decide +kernel
theorem dX1_keptHome_45 : decode cX1_keptHome 45 = .ok (.getfield 15, 3) := by decide +kernel
theorem dX1_keptHome_48 : decode cX1_keptHome 48 = .ok (.iload 5, 2) := by decide +kernel
theorem dX1_keptHome_50 : decode cX1_keptHome 50 = .ok (.iaload, 1) := by decide +kernel
theorem dX1_keptHome_51 : decode cX1_keptHome 51 = .ok (.iadd, 1) := by decide +kernel
theorem dX1_keptHome_52 : decode cX1_keptHome 52 = .ok (.istore 4, 2) := by decide +kernel
theorem dX1_keptHome_54 : decode cX1_keptHome 54 = .ok (.iinc 5 1, 3) := by decide +kernel
theorem dX1_keptHome_57 : decode cX1_keptHome 57 = .ok (.goto (-51), 3) := by decide +kernel
theorem dX1_keptHome_60 : decode cX1_keptHome 60 = .ok (.iload 4, 2) := by decide +kernel
theorem dX1_keptHome_62 : decode cX1_keptHome 62 = .ok (.ireturn, 1) := by decide +kernel
theorem dX1_setBy_0 : decode cX1_setBy 0 = .ok (.aload_n 0, 1) := by decide +kernel
theorem dX1_setBy_1 : decode cX1_setBy 1 = .ok (.getfield 9, 3) := by decide +kernel
theorem dX1_setBy_4 : decode cX1_setBy 4 = .ok (.iconst 2, 1) := by decide +kernel
theorem dX1_setBy_5 : decode cX1_setBy 5 = .ok (.iload_n 2, 1) := by decide +kernel
theorem dX1_setBy_6 : decode cX1_setBy 6 = .ok (.imul, 1) := by decide +kernel
theorem dX1_setBy_7 : decode cX1_setBy 7 = .ok (.iload_n 1, 1) := by decide +kernel
theorem dX1_setBy_8 : decode cX1_setBy 8 = .ok (.iload_n 2, 1) := by decide +kernel
theorem dX1_setBy_9 : decode cX1_setBy 9 = .ok (.ishr, 1) := by decide +kernel
theorem dX1_setBy_10 : decode cX1_setBy 10 = .ok (.iconst 1, 1) := by decide +kernel
theorem dX1_setBy_11 : decode cX1_setBy 11 = .ok (.iand, 1) := by decide +kernel
theorem dX1_setBy_12 : decode cX1_setBy 12 = .ok (.iadd, 1) := by decide +kernel
theorem dX1_setBy_13 : decode cX1_setBy 13 = .ok (.iaload, 1) := by decide +kernel
theorem dX1_setBy_14 : decode cX1_setBy 14 = .ok (.ireturn, 1) := by decide +kernel
theorem dX1_hasMachine_0 : decode cX1_hasMachine 0 = .ok (.iload_n 0, 1) := by decide +kernel
theorem dX1_hasMachine_1 : decode cX1_hasMachine 1 = .ok (.iload_n 1, 1) := by decide +kernel
theorem dX1_hasMachine_2 : decode cX1_hasMachine 2 = .ok (.ishr, 1) := by decide +kernel
theorem dX1_hasMachine_3 : decode cX1_hasMachine 3 = .ok (.iconst 1, 1) := by decide +kernel
theorem dX1_hasMachine_4 : decode cX1_hasMachine 4 = .ok (.iand, 1) := by decide +kernel
theorem dX1_hasMachine_5 : decode cX1_hasMachine 5 = .ok (.iconst 1, 1) := by decide +kernel
theorem dX1_hasMachine_6 : decode cX1_hasMachine 6 = .ok (.if_icmp .ne 7, 3) := by decide +kernel
theorem dX1_hasMachine_9 : decode cX1_hasMachine 9 = .ok (.iconst 1, 1) := by decide +kernel
theorem dX1_hasMachine_10 : decode cX1_hasMachine 10 = .ok (.goto 4, 3) := by decide +kernel
theorem dX1_hasMachine_13 : decode cX1_hasMachine 13 = .ok (.iconst 0, 1) := by decide +kernel
theorem dX1_hasMachine_14 : decode cX1_hasMachine 14 = .ok (.ireturn, 1) := by decide +kernel
theorem dX2_init_0 : decode cX2_init 0 = .ok (.aload_n 0, 1) := by decide +kernel
theorem dX2_init_1 : decode cX2_init 1 = .ok (.invokespecial 3, 3) := by decide +kernel
theorem dX2_init_4 : decode cX2_init 4 = .ok (.aload_n 0, 1) := by decide +kernel
theorem dX2_init_5 : decode cX2_init 5 = .ok (.bipush 16, 2) := by decide +kernel
theorem dX2_init_7 : decode cX2_init 7 = .ok (.newarray .int, 2) := by decide +kernel
theorem dX2_init_9 : decode cX2_init 9 = .ok (.putfield 9, 3) := by decide +kernel
theorem dX2_init_12 : decode cX2_init 12 = .ok (.aload_n 0, 1) := by decide +kernel
theorem dX2_init_13 : decode cX2_init 13 = .ok (.iconst 4, 1) := by decide +kernel
theorem dX2_init_14 : decode cX2_init 14 = .ok (.newarray .int, 2) := by decide +kernel
theorem dX2_init_16 : decode cX2_init 16 = .ok (.putfield 15, 3) := by decide +kernel
theorem dX2_init_19 : decode cX2_init 19 = .ok (.return_, 1) := by decide +kernel
theorem dX2_orderOf_0 : decode cX2_orderOf 0 = .ok (.iload_n 0, 1) := by decide +kernel
theorem dX2_orderOf_1 : decode cX2_orderOf 1 = .ok (.bipush 6, 2) := by decide +kernel
theorem dX2_orderOf_3 : decode cX2_orderOf 3 = .ok (.ishl, 1) := by decide +kernel
theorem dX2_orderOf_4 : decode cX2_orderOf 4 = .ok (.iload_n 1, 1) := by decide +kernel
theorem dX2_orderOf_5 : decode cX2_orderOf 5 = .ok (.iconst 4, 1) := by decide +kernel
theorem dX2_orderOf_6 : decode cX2_orderOf 6 = .ok (.ishl, 1) := by decide +kernel
theorem dX2_orderOf_7 : decode cX2_orderOf 7 = .ok (.ior, 1) := by decide +kernel
theorem dX2_orderOf_8 : decode cX2_orderOf 8 = .ok (.iload_n 2, 1) := by decide +kernel
theorem dX2_orderOf_9 : decode cX2_orderOf 9 = .ok (.iconst 2, 1) := by decide +kernel
theorem dX2_orderOf_10 : decode cX2_orderOf 10 = .ok (.ishl, 1) := by decide +kernel
theorem dX2_orderOf_11 : decode cX2_orderOf 11 = .ok (.ior, 1) := by decide +kernel
theorem dX2_orderOf_12 : decode cX2_orderOf 12 = .ok (.iload_n 3, 1) := by decide +kernel
theorem dX2_orderOf_13 : decode cX2_orderOf 13 = .ok (.ior, 1) := by decide +kernel
theorem dX2_orderOf_14 : decode cX2_orderOf 14 = .ok (.ireturn, 1) := by decide +kernel
theorem dX2_cellAt_0 : decode cX2_cellAt 0 = .ok (.iload_n 0, 1) := by decide +kernel
theorem dX2_cellAt_1 : decode cX2_cellAt 1 = .ok (.iconst 2, 1) := by decide +kernel
theorem dX2_cellAt_2 : decode cX2_cellAt 2 = .ok (.iconst 3, 1) := by decide +kernel
theorem dX2_cellAt_3 : decode cX2_cellAt 3 = .ok (.iload_n 1, 1) := by decide +kernel
theorem dX2_cellAt_4 : decode cX2_cellAt 4 = .ok (.isub, 1) := by decide +kernel
theorem dX2_cellAt_5 : decode cX2_cellAt 5 = .ok (.imul, 1) := by decide +kernel
theorem dX2_cellAt_6 : decode cX2_cellAt 6 = .ok (.ishr, 1) := by decide +kernel
theorem dX2_cellAt_7 : decode cX2_cellAt 7 = .ok (.iconst 3, 1) := by decide +kernel
theorem dX2_cellAt_8 : decode cX2_cellAt 8 = .ok (.iand, 1) := by decide +kernel
theorem dX2_cellAt_9 : decode cX2_cellAt 9 = .ok (.ireturn, 1) := by decide +kernel
theorem dX2_hasEachOnce_0 : decode cX2_hasEachOnce 0 = .ok (.iconst 0, 1) := by decide +kernel
theorem dX2_hasEachOnce_1 : decode cX2_hasEachOnce 1 = .ok (.istore_n 1, 1) := by decide +kernel
theorem dX2_hasEachOnce_2 : decode cX2_hasEachOnce 2 = .ok (.iconst 0, 1) := by decide +kernel
theorem dX2_hasEachOnce_3 : decode cX2_hasEachOnce 3 = .ok (.istore_n 2, 1) := by decide +kernel
theorem dX2_hasEachOnce_4 : decode cX2_hasEachOnce 4 = .ok (.iload_n 2, 1) := by decide +kernel
theorem dX2_hasEachOnce_5 : decode cX2_hasEachOnce 5 = .ok (.iconst 4, 1) := by decide +kernel
theorem dX2_hasEachOnce_6 : decode cX2_hasEachOnce 6 = .ok (.if_icmp .ge 19, 3) := by decide +kernel
theorem dX2_hasEachOnce_9 : decode cX2_hasEachOnce 9 = .ok (.iload_n 1, 1) := by decide +kernel
theorem dX2_hasEachOnce_10 : decode cX2_hasEachOnce 10 = .ok (.iconst 1, 1) := by decide +kernel
theorem dX2_hasEachOnce_11 : decode cX2_hasEachOnce 11 = .ok (.iload_n 0, 1) := by decide +kernel
theorem dX2_hasEachOnce_12 : decode cX2_hasEachOnce 12 = .ok (.iload_n 2, 1) := by decide +kernel
theorem dX2_hasEachOnce_13 : decode cX2_hasEachOnce 13 = .ok (.invokestatic 18, 3) := by decide +kernel
theorem dX2_hasEachOnce_16 : decode cX2_hasEachOnce 16 = .ok (.ishl, 1) := by decide +kernel
theorem dX2_hasEachOnce_17 : decode cX2_hasEachOnce 17 = .ok (.ior, 1) := by decide +kernel
theorem dX2_hasEachOnce_18 : decode cX2_hasEachOnce 18 = .ok (.istore_n 1, 1) := by decide +kernel
theorem dX2_hasEachOnce_19 : decode cX2_hasEachOnce 19 = .ok (.iinc 2 1, 3) := by decide +kernel
theorem dX2_hasEachOnce_22 : decode cX2_hasEachOnce 22 = .ok (.goto (-18), 3) := by decide +kernel
theorem dX2_hasEachOnce_25 : decode cX2_hasEachOnce 25 = .ok (.iload_n 1, 1) := by decide +kernel
theorem dX2_hasEachOnce_26 : decode cX2_hasEachOnce 26 = .ok (.bipush 15, 2) := by decide +kernel
theorem dX2_hasEachOnce_28 : decode cX2_hasEachOnce 28 = .ok (.if_icmp .ne 7, 3) := by decide +kernel
theorem dX2_hasEachOnce_31 : decode cX2_hasEachOnce 31 = .ok (.iconst 1, 1) := by decide +kernel
theorem dX2_hasEachOnce_32 : decode cX2_hasEachOnce 32 = .ok (.goto 4, 3) := by decide +kernel
theorem dX2_hasEachOnce_35 : decode cX2_hasEachOnce 35 = .ok (.iconst 0, 1) := by decide +kernel
theorem dX2_hasEachOnce_36 : decode cX2_hasEachOnce 36 = .ok (.ireturn, 1) := by decide +kernel
theorem dX2_observe_0 : decode cX2_observe 0 = .ok (.aload_n 0, 1) := by decide +kernel
theorem dX2_observe_1 : decode cX2_observe 1 = .ok (.getfield 9, 3) := by decide +kernel
theorem dX2_observe_4 : decode cX2_observe 4 = .ok (.iconst 0, 1) := by decide +kernel
theorem dX2_observe_5 : decode cX2_observe 5 = .ok (.invokestatic 22, 3) := by decide +kernel
theorem dX2_observe_8 : decode cX2_observe 8 = .ok (.iconst 0, 1) := by decide +kernel
theorem dX2_observe_9 : decode cX2_observe 9 = .ok (.istore 4, 2) := by decide +kernel
theorem dX2_observe_11 : decode cX2_observe 11 = .ok (.iload 4, 2) := by decide +kernel
theorem dX2_observe_13 : decode cX2_observe 13 = .ok (.aload_n 1, 1) := by decide +kernel
theorem dX2_observe_14 : decode cX2_observe 14 = .ok (.invokevirtual 28, 3) := by decide +kernel
theorem dX2_observe_17 : decode cX2_observe 17 = .ok (.if_icmp .ge 75, 3) := by decide +kernel
theorem dX2_observe_20 : decode cX2_observe 20 = .ok (.aload_n 1, 1) := by decide +kernel
theorem dX2_observe_21 : decode cX2_observe 21 = .ok (.iload 4, 2) := by decide +kernel
theorem dX2_observe_23 : decode cX2_observe 23 = .ok (.invokevirtual 34, 3) := by decide +kernel
theorem dX2_observe_26 : decode cX2_observe 26 = .ok (.istore 5, 2) := by decide +kernel
theorem dX2_observe_28 : decode cX2_observe 28 = .ok (.aload_n 2, 1) := by decide +kernel
theorem dX2_observe_29 : decode cX2_observe 29 = .ok (.iload 5, 2) := by decide +kernel
theorem dX2_observe_31 : decode cX2_observe 31 = .ok (.invokevirtual 38, 3) := by decide +kernel
theorem dX2_observe_34 : decode cX2_observe 34 = .ok (.istore 6, 2) := by decide +kernel
theorem dX2_observe_36 : decode cX2_observe 36 = .ok (.iconst 0, 1) := by decide +kernel
theorem dX2_observe_37 : decode cX2_observe 37 = .ok (.istore 7, 2) := by decide +kernel
theorem dX2_observe_39 : decode cX2_observe 39 = .ok (.iload 7, 2) := by decide +kernel
theorem dX2_observe_41 : decode cX2_observe 41 = .ok (.iload_n 3, 1) := by decide +kernel
theorem dX2_observe_42 : decode cX2_observe 42 = .ok (.if_icmp .ge 44, 3) := by decide +kernel
theorem dX2_observe_45 : decode cX2_observe 45 = .ok (.iload 5, 2) := by decide +kernel
theorem dX2_observe_47 : decode cX2_observe 47 = .ok (.iload 7, 2) := by decide +kernel
theorem dX2_observe_49 : decode cX2_observe 49 = .ok (.invokestatic 43, 3) := by decide +kernel
theorem dX2_observe_52 : decode cX2_observe 52 = .ok (.ifCond .eq 28, 3) := by decide +kernel
theorem dX2_observe_55 : decode cX2_observe 55 = .ok (.aload_n 0, 1) := by decide +kernel
theorem dX2_observe_56 : decode cX2_observe 56 = .ok (.getfield 9, 3) := by decide +kernel
theorem dX2_observe_59 : decode cX2_observe 59 = .ok (.iconst 4, 1) := by decide +kernel
theorem dX2_observe_60 : decode cX2_observe 60 = .ok (.iload 6, 2) := by decide +kernel
theorem dX2_observe_62 : decode cX2_observe 62 = .ok (.imul, 1) := by decide +kernel
theorem dX2_observe_63 : decode cX2_observe 63 = .ok (.aload_n 2, 1) := by decide +kernel
theorem dX2_observe_64 : decode cX2_observe 64 = .ok (.iload 7, 2) := by decide +kernel
theorem dX2_observe_66 : decode cX2_observe 66 = .ok (.invokevirtual 47, 3) := by decide +kernel
theorem dX2_observe_69 : decode cX2_observe 69 = .ok (.iadd, 1) := by decide +kernel
theorem dX2_observe_70 : decode cX2_observe 70 = .ok (.dup2, 1) := by decide +kernel
theorem dX2_observe_71 : decode cX2_observe 71 = .ok (.iaload, 1) := by decide +kernel
theorem dX2_observe_72 : decode cX2_observe 72 = .ok (.aload_n 1, 1) := by decide +kernel
theorem dX2_observe_73 : decode cX2_observe 73 = .ok (.iload 4, 2) := by decide +kernel
theorem dX2_observe_75 : decode cX2_observe 75 = .ok (.invokevirtual 50, 3) := by decide +kernel
theorem dX2_observe_78 : decode cX2_observe 78 = .ok (.iadd, 1) := by decide +kernel
theorem dX2_observe_79 : decode cX2_observe 79 = .ok (.iastore, 1) := by decide +kernel
theorem dX2_observe_80 : decode cX2_observe 80 = .ok (.iinc 7 1, 3) := by decide +kernel
theorem dX2_observe_83 : decode cX2_observe 83 = .ok (.goto (-44), 3) := by decide +kernel
theorem dX2_observe_86 : decode cX2_observe 86 = .ok (.iinc 4 1, 3) := by decide +kernel
theorem dX2_observe_89 : decode cX2_observe 89 = .ok (.goto (-78), 3) := by decide +kernel
theorem dX2_observe_92 : decode cX2_observe 92 = .ok (.return_, 1) := by decide +kernel
theorem dX2_wayOf_0 : decode cX2_wayOf 0 = .ok (.iconst 0, 1) := by decide +kernel
theorem dX2_wayOf_1 : decode cX2_wayOf 1 = .ok (.istore_n 2, 1) := by decide +kernel
theorem dX2_wayOf_2 : decode cX2_wayOf 2 = .ok (.iload_n 2, 1) := by decide +kernel
theorem dX2_wayOf_3 : decode cX2_wayOf 3 = .ok (.iconst 4, 1) := by decide +kernel
theorem dX2_wayOf_4 : decode cX2_wayOf 4 = .ok (.if_icmp .ge 20, 3) := by decide +kernel
theorem dX2_wayOf_7 : decode cX2_wayOf 7 = .ok (.aload_n 0, 1) := by decide +kernel
theorem dX2_wayOf_8 : decode cX2_wayOf 8 = .ok (.getfield 15, 3) := by decide +kernel
theorem dX2_wayOf_11 : decode cX2_wayOf 11 = .ok (.iload_n 1, 1) := by decide +kernel
theorem dX2_wayOf_12 : decode cX2_wayOf 12 = .ok (.iload_n 2, 1) := by decide +kernel
theorem dX2_wayOf_13 : decode cX2_wayOf 13 = .ok (.invokestatic 18, 3) := by decide +kernel
theorem dX2_wayOf_16 : decode cX2_wayOf 16 = .ok (.iload_n 2, 1) := by decide +kernel
theorem dX2_wayOf_17 : decode cX2_wayOf 17 = .ok (.iastore, 1) := by decide +kernel
theorem dX2_wayOf_18 : decode cX2_wayOf 18 = .ok (.iinc 2 1, 3) := by decide +kernel
theorem dX2_wayOf_21 : decode cX2_wayOf 21 = .ok (.goto (-19), 3) := by decide +kernel
theorem dX2_wayOf_24 : decode cX2_wayOf 24 = .ok (.iconst 0, 1) := by decide +kernel
theorem dX2_wayOf_25 : decode cX2_wayOf 25 = .ok (.istore_n 2, 1) := by decide +kernel
theorem dX2_wayOf_26 : decode cX2_wayOf 26 = .ok (.iconst 0, 1) := by decide +kernel
theorem dX2_wayOf_27 : decode cX2_wayOf 27 = .ok (.istore_n 3, 1) := by decide +kernel
theorem dX2_wayOf_28 : decode cX2_wayOf 28 = .ok (.iload_n 3, 1) := by decide +kernel
theorem dX2_wayOf_29 : decode cX2_wayOf 29 = .ok (.iconst 4, 1) := by decide +kernel
theorem dX2_wayOf_30 : decode cX2_wayOf 30 = .ok (.if_icmp .ge 56, 3) := by decide +kernel
theorem dX2_wayOf_33 : decode cX2_wayOf 33 = .ok (.iconst 0, 1) := by decide +kernel
theorem dX2_wayOf_34 : decode cX2_wayOf 34 = .ok (.istore 4, 2) := by decide +kernel
theorem dX2_wayOf_36 : decode cX2_wayOf 36 = .ok (.iload 4, 2) := by decide +kernel
theorem dX2_wayOf_38 : decode cX2_wayOf 38 = .ok (.iconst 4, 1) := by decide +kernel
theorem dX2_wayOf_39 : decode cX2_wayOf 39 = .ok (.if_icmp .ge 41, 3) := by decide +kernel
theorem dX2_wayOf_42 : decode cX2_wayOf 42 = .ok (.iload_n 2, 1) := by decide +kernel
theorem dX2_wayOf_43 : decode cX2_wayOf 43 = .ok (.aload_n 0, 1) := by decide +kernel
theorem dX2_wayOf_44 : decode cX2_wayOf 44 = .ok (.getfield 9, 3) := by decide +kernel
theorem dX2_wayOf_47 : decode cX2_wayOf 47 = .ok (.iconst 4, 1) := by decide +kernel
theorem dX2_wayOf_48 : decode cX2_wayOf 48 = .ok (.iload_n 3, 1) := by decide +kernel
theorem dX2_wayOf_49 : decode cX2_wayOf 49 = .ok (.imul, 1) := by decide +kernel
theorem dX2_wayOf_50 : decode cX2_wayOf 50 = .ok (.iload 4, 2) := by decide +kernel
theorem dX2_wayOf_52 : decode cX2_wayOf 52 = .ok (.iadd, 1) := by decide +kernel
theorem dX2_wayOf_53 : decode cX2_wayOf 53 = .ok (.iaload, 1) := by decide +kernel
theorem dX2_wayOf_54 : decode cX2_wayOf 54 = .ok (.aload_n 0, 1) := by decide +kernel
theorem dX2_wayOf_55 : decode cX2_wayOf 55 = .ok (.getfield 15, 3) := by decide +kernel
theorem dX2_wayOf_58 : decode cX2_wayOf 58 = .ok (.iload_n 3, 1) := by decide +kernel
theorem dX2_wayOf_59 : decode cX2_wayOf 59 = .ok (.iaload, 1) := by decide +kernel
theorem dX2_wayOf_60 : decode cX2_wayOf 60 = .ok (.aload_n 0, 1) := by decide +kernel
theorem dX2_wayOf_61 : decode cX2_wayOf 61 = .ok (.getfield 15, 3) := by decide +kernel
theorem dX2_wayOf_64 : decode cX2_wayOf 64 = .ok (.iload 4, 2) := by decide +kernel
theorem dX2_wayOf_66 : decode cX2_wayOf 66 = .ok (.iaload, 1) := by decide +kernel
theorem dX2_wayOf_67 : decode cX2_wayOf 67 = .ok (.isub, 1) := by decide +kernel
theorem dX2_wayOf_68 : decode cX2_wayOf 68 = .ok (.invokestatic 53, 3) := by decide +kernel
theorem dX2_wayOf_71 : decode cX2_wayOf 71 = .ok (.imul, 1) := by decide +kernel
theorem dX2_wayOf_72 : decode cX2_wayOf 72 = .ok (.iadd, 1) := by decide +kernel
theorem dX2_wayOf_73 : decode cX2_wayOf 73 = .ok (.istore_n 2, 1) := by decide +kernel
theorem dX2_wayOf_74 : decode cX2_wayOf 74 = .ok (.iinc 4 1, 3) := by decide +kernel
theorem dX2_wayOf_77 : decode cX2_wayOf 77 = .ok (.goto (-41), 3) := by decide +kernel
theorem dX2_wayOf_80 : decode cX2_wayOf 80 = .ok (.iinc 3 1, 3) := by decide +kernel
theorem dX2_wayOf_83 : decode cX2_wayOf 83 = .ok (.goto (-55), 3) := by decide +kernel
theorem dX2_wayOf_86 : decode cX2_wayOf 86 = .ok (.iload_n 2, 1) := by decide +kernel
theorem dX2_wayOf_87 : decode cX2_wayOf 87 = .ok (.ireturn, 1) := by decide +kernel
theorem dX2_bestOrder_0 : decode cX2_bestOrder 0 = .ok (.iconst 0, 1) := by decide +kernel
theorem dX2_bestOrder_1 : decode cX2_bestOrder 1 = .ok (.istore_n 1, 1) := by decide +kernel
theorem dX2_bestOrder_2 : decode cX2_bestOrder 2 = .ok (.ldc 58, 2) := by decide +kernel
theorem dX2_bestOrder_4 : decode cX2_bestOrder 4 = .ok (.istore_n 2, 1) := by decide +kernel
theorem dX2_bestOrder_5 : decode cX2_bestOrder 5 = .ok (.iconst 0, 1) := by decide +kernel
theorem dX2_bestOrder_6 : decode cX2_bestOrder 6 = .ok (.istore_n 3, 1) := by decide +kernel
theorem dX2_bestOrder_7 : decode cX2_bestOrder 7 = .ok (.iload_n 3, 1) := by decide +kernel
theorem dX2_bestOrder_8 : decode cX2_bestOrder 8 = .ok (.sipush 256, 3) := by decide +kernel
theorem dX2_bestOrder_11 : decode cX2_bestOrder 11 = .ok (.if_icmp .ge 34, 3) := by decide +kernel
theorem dX2_bestOrder_14 : decode cX2_bestOrder 14 = .ok (.iload_n 3, 1) := by decide +kernel
theorem dX2_bestOrder_15 : decode cX2_bestOrder 15 = .ok (.invokestatic 59, 3) := by decide +kernel
theorem dX2_bestOrder_18 : decode cX2_bestOrder 18 = .ok (.ifCond .eq 21, 3) := by decide +kernel
theorem dX2_bestOrder_21 : decode cX2_bestOrder 21 = .ok (.aload_n 0, 1) := by decide +kernel
theorem dX2_bestOrder_22 : decode cX2_bestOrder 22 = .ok (.iload_n 3, 1) := by decide +kernel
theorem dX2_bestOrder_23 : decode cX2_bestOrder 23 = .ok (.invokevirtual 63, 3) := by decide +kernel
theorem dX2_bestOrder_26 : decode cX2_bestOrder 26 = .ok (.istore 4, 2) := by decide +kernel
theorem dX2_bestOrder_28 : decode cX2_bestOrder 28 = .ok (.iload 4, 2) := by decide +kernel
theorem dX2_bestOrder_30 : decode cX2_bestOrder 30 = .ok (.iload_n 2, 1) := by decide +kernel
theorem dX2_bestOrder_31 : decode cX2_bestOrder 31 = .ok (.if_icmp .ge 8, 3) := by decide +kernel
theorem dX2_bestOrder_34 : decode cX2_bestOrder 34 = .ok (.iload 4, 2) := by decide +kernel
theorem dX2_bestOrder_36 : decode cX2_bestOrder 36 = .ok (.istore_n 2, 1) := by decide +kernel
theorem dX2_bestOrder_37 : decode cX2_bestOrder 37 = .ok (.iload_n 3, 1) := by decide +kernel
theorem dX2_bestOrder_38 : decode cX2_bestOrder 38 = .ok (.istore_n 1, 1) := by decide +kernel
theorem dX2_bestOrder_39 : decode cX2_bestOrder 39 = .ok (.iinc 3 1, 3) := by decide +kernel
theorem dX2_bestOrder_42 : decode cX2_bestOrder 42 = .ok (.goto (-35), 3) := by decide +kernel
theorem dX2_bestOrder_45 : decode cX2_bestOrder 45 = .ok (.iload_n 1, 1) := by decide +kernel
theorem dX2_bestOrder_46 : decode cX2_bestOrder 46 = .ok (.ireturn, 1) := by decide +kernel
theorem dX3_init_0 : decode cX3_init 0 = .ok (.aload_n 0, 1) := by decide +kernel
theorem dX3_init_1 : decode cX3_init 1 = .ok (.invokespecial 3, 3) := by decide +kernel
theorem dX3_init_4 : decode cX3_init 4 = .ok (.aload_n 0, 1) := by decide +kernel
theorem dX3_init_5 : decode cX3_init 5 = .ok (.bipush 7, 2) := by decide +kernel
theorem dX3_init_7 : decode cX3_init 7 = .ok (.newarray .int, 2) := by decide +kernel
theorem dX3_init_9 : decode cX3_init 9 = .ok (.putfield 9, 3) := by decide +kernel
theorem dX3_init_12 : decode cX3_init 12 = .ok (.return_, 1) := by decide +kernel
theorem dX3_grow_0 : decode cX3_grow 0 = .ok (.aload_n 0, 1) := by decide +kernel
theorem dX3_grow_1 : decode cX3_grow 1 = .ok (.iload_n 2, 1) := by decide +kernel
theorem dX3_grow_2 : decode cX3_grow 2 = .ok (.putfield 15, 3) := by decide +kernel
theorem dX3_grow_5 : decode cX3_grow 5 = .ok (.iconst 0, 1) := by decide +kernel
theorem dX3_grow_6 : decode cX3_grow 6 = .ok (.istore 4, 2) := by decide +kernel
theorem dX3_grow_8 : decode cX3_grow 8 = .ok (.iload 4, 2) := by decide +kernel
theorem dX3_grow_10 : decode cX3_grow 10 = .ok (.aload_n 0, 1) := by decide +kernel
theorem dX3_grow_11 : decode cX3_grow 11 = .ok (.getfield 15, 3) := by decide +kernel
theorem dX3_grow_14 : decode cX3_grow 14 = .ok (.if_icmp .ge 18, 3) := by decide +kernel
theorem dX3_grow_17 : decode cX3_grow 17 = .ok (.aload_n 0, 1) := by decide +kernel
theorem dX3_grow_18 : decode cX3_grow 18 = .ok (.getfield 9, 3) := by decide +kernel
theorem dX3_grow_21 : decode cX3_grow 21 = .ok (.iload 4, 2) := by decide +kernel
theorem dX3_grow_23 : decode cX3_grow 23 = .ok (.iload 4, 2) := by decide +kernel
theorem dX3_grow_25 : decode cX3_grow 25 = .ok (.iastore, 1) := by decide +kernel
theorem dX3_grow_26 : decode cX3_grow 26 = .ok (.iinc 4 1, 3) := by decide +kernel
theorem dX3_grow_29 : decode cX3_grow 29 = .ok (.goto (-21), 3) := by decide +kernel
theorem dX3_grow_32 : decode cX3_grow 32 = .ok (.iconst 0, 1) := by decide +kernel
theorem dX3_grow_33 : decode cX3_grow 33 = .ok (.istore 4, 2) := by decide +kernel
theorem dX3_grow_35 : decode cX3_grow 35 = .ok (.iload 4, 2) := by decide +kernel
theorem dX3_grow_37 : decode cX3_grow 37 = .ok (.iload_n 3, 1) := by decide +kernel
theorem dX3_grow_38 : decode cX3_grow 38 = .ok (.if_icmp .ge 18, 3) := by decide +kernel
theorem dX3_grow_41 : decode cX3_grow 41 = .ok (.aload_n 0, 1) := by decide +kernel
theorem dX3_grow_42 : decode cX3_grow 42 = .ok (.aload_n 1, 1) := by decide +kernel
theorem dX3_grow_43 : decode cX3_grow 43 = .ok (.invokevirtual 19, 3) := by decide +kernel
theorem dX3_grow_46 : decode cX3_grow 46 = .ok (.aload_n 0, 1) := by decide +kernel
theorem dX3_grow_47 : decode cX3_grow 47 = .ok (.invokevirtual 23, 3) := by decide +kernel
theorem dX3_grow_50 : decode cX3_grow 50 = .ok (.iinc 4 1, 3) := by decide +kernel
theorem dX3_grow_53 : decode cX3_grow 53 = .ok (.goto (-18), 3) := by decide +kernel
theorem dX3_grow_56 : decode cX3_grow 56 = .ok (.return_, 1) := by decide +kernel
theorem dX3_tell_0 : decode cX3_tell 0 = .ok (.iload_n 1, 1) := by decide +kernel
theorem dX3_tell_1 : decode cX3_tell 1 = .ok (.tableswitch 42 0 2 #[27, 32, 37], 27) := by decide +kernel
theorem dX3_tell_28 : decode cX3_tell 28 = .ok (.aload_n 0, 1) := by decide +kernel
theorem dX3_tell_29 : decode cX3_tell 29 = .ok (.getfield 26, 3) := by decide +kernel
theorem dX3_tell_32 : decode cX3_tell 32 = .ok (.ireturn, 1) := by decide +kernel
theorem dX3_tell_33 : decode cX3_tell 33 = .ok (.aload_n 0, 1) := by decide +kernel
theorem dX3_tell_34 : decode cX3_tell 34 = .ok (.getfield 29, 3) := by decide +kernel
theorem dX3_tell_37 : decode cX3_tell 37 = .ok (.ireturn, 1) := by decide +kernel
theorem dX3_tell_38 : decode cX3_tell 38 = .ok (.aload_n 0, 1) := by decide +kernel
theorem dX3_tell_39 : decode cX3_tell 39 = .ok (.getfield 32, 3) := by decide +kernel
theorem dX3_tell_42 : decode cX3_tell 42 = .ok (.ireturn, 1) := by decide +kernel
theorem dX3_tell_43 : decode cX3_tell 43 = .ok (.aload_n 0, 1) := by decide +kernel
theorem dX3_tell_44 : decode cX3_tell 44 = .ok (.getfield 35, 3) := by decide +kernel
theorem dX3_tell_47 : decode cX3_tell 47 = .ok (.ireturn, 1) := by decide +kernel
theorem dX3_seekPair_0 : decode cX3_seekPair 0 = .ok (.aload_n 0, 1) := by decide +kernel
theorem dX3_seekPair_1 : decode cX3_seekPair 1 = .ok (.iconst (-1), 1) := by decide +kernel
theorem dX3_seekPair_2 : decode cX3_seekPair 2 = .ok (.putfield 32, 3) := by decide +kernel
theorem dX3_seekPair_5 : decode cX3_seekPair 5 = .ok (.aload_n 0, 1) := by decide +kernel
theorem dX3_seekPair_6 : decode cX3_seekPair 6 = .ok (.iconst 1, 1) := by decide +kernel
theorem dX3_seekPair_7 : decode cX3_seekPair 7 = .ok (.putfield 35, 3) := by decide +kernel
theorem dX3_seekPair_10 : decode cX3_seekPair 10 = .ok (.iconst 0, 1) := by decide +kernel
theorem dX3_seekPair_11 : decode cX3_seekPair 11 = .ok (.istore_n 2, 1) := by decide +kernel
theorem dX3_seekPair_12 : decode cX3_seekPair 12 = .ok (.iload_n 2, 1) := by decide +kernel
theorem dX3_seekPair_13 : decode cX3_seekPair 13 = .ok (.aload_n 0, 1) := by decide +kernel
theorem dX3_seekPair_14 : decode cX3_seekPair 14 = .ok (.getfield 15, 3) := by decide +kernel
theorem dX3_seekPair_17 : decode cX3_seekPair 17 = .ok (.if_icmp .ge 54, 3) := by decide +kernel
theorem dX3_seekPair_20 : decode cX3_seekPair 20 = .ok (.iload_n 2, 1) := by decide +kernel
theorem dX3_seekPair_21 : decode cX3_seekPair 21 = .ok (.iconst 1, 1) := by decide +kernel
theorem dX3_seekPair_22 : decode cX3_seekPair 22 = .ok (.iadd, 1) := by decide +kernel
theorem dX3_seekPair_23 : decode cX3_seekPair 23 = .ok (.istore_n 3, 1) := by decide +kernel
theorem dX3_seekPair_24 : decode cX3_seekPair 24 = .ok (.iload_n 3, 1) := by decide +kernel
theorem dX3_seekPair_25 : decode cX3_seekPair 25 = .ok (.aload_n 0, 1) := by decide +kernel
theorem dX3_seekPair_26 : decode cX3_seekPair 26 = .ok (.getfield 15, 3) := by decide +kernel
theorem dX3_seekPair_29 : decode cX3_seekPair 29 = .ok (.if_icmp .ge 36, 3) := by decide +kernel
theorem dX3_seekPair_32 : decode cX3_seekPair 32 = .ok (.aload_n 0, 1) := by decide +kernel
theorem dX3_seekPair_33 : decode cX3_seekPair 33 = .ok (.getfield 9, 3) := by decide +kernel
theorem dX3_seekPair_36 : decode cX3_seekPair 36 = .ok (.iload_n 2, 1) := by decide +kernel
theorem dX3_seekPair_37 : decode cX3_seekPair 37 = .ok (.iaload, 1) := by decide +kernel
theorem dX3_seekPair_38 : decode cX3_seekPair 38 = .ok (.iload_n 2, 1) := by decide +kernel
theorem dX3_seekPair_39 : decode cX3_seekPair 39 = .ok (.if_icmp .ne 20, 3) := by decide +kernel
theorem dX3_seekPair_42 : decode cX3_seekPair 42 = .ok (.aload_n 0, 1) := by decide +kernel
theorem dX3_seekPair_43 : decode cX3_seekPair 43 = .ok (.getfield 9, 3) := by decide +kernel
theorem dX3_seekPair_46 : decode cX3_seekPair 46 = .ok (.iload_n 3, 1) := by decide +kernel
theorem dX3_seekPair_47 : decode cX3_seekPair 47 = .ok (.iaload, 1) := by decide +kernel
theorem dX3_seekPair_48 : decode cX3_seekPair 48 = .ok (.iload_n 3, 1) := by decide +kernel
theorem dX3_seekPair_49 : decode cX3_seekPair 49 = .ok (.if_icmp .ne 10, 3) := by decide +kernel
theorem dX3_seekPair_52 : decode cX3_seekPair 52 = .ok (.aload_n 0, 1) := by decide +kernel
theorem dX3_seekPair_53 : decode cX3_seekPair 53 = .ok (.aload_n 1, 1) := by decide +kernel
theorem dX3_seekPair_54 : decode cX3_seekPair 54 = .ok (.iload_n 2, 1) := by decide +kernel
theorem dX3_seekPair_55 : decode cX3_seekPair 55 = .ok (.iload_n 3, 1) := by decide +kernel
theorem dX3_seekPair_56 : decode cX3_seekPair 56 = .ok (.invokevirtual 38, 3) := by decide +kernel
theorem dX3_seekPair_59 : decode cX3_seekPair 59 = .ok (.iinc 3 1, 3) := by decide +kernel
theorem dX3_seekPair_62 : decode cX3_seekPair 62 = .ok (.goto (-38), 3) := by decide +kernel
theorem dX3_seekPair_65 : decode cX3_seekPair 65 = .ok (.iinc 2 1, 3) := by decide +kernel
theorem dX3_seekPair_68 : decode cX3_seekPair 68 = .ok (.goto (-56), 3) := by decide +kernel
theorem dX3_seekPair_71 : decode cX3_seekPair 71 = .ok (.return_, 1) := by decide +kernel
theorem dX3_compareHeaps_0 : decode cX3_compareHeaps 0 = .ok (.iconst 0, 1) := by decide +kernel
theorem dX3_compareHeaps_1 : decode cX3_compareHeaps 1 = .ok (.istore 4, 2) := by decide +kernel
theorem dX3_compareHeaps_3 : decode cX3_compareHeaps 3 = .ok (.iload 4, 2) := by decide +kernel
theorem dX3_compareHeaps_5 : decode cX3_compareHeaps 5 = .ok (.aload_n 0, 1) := by decide +kernel
theorem dX3_compareHeaps_6 : decode cX3_compareHeaps 6 = .ok (.getfield 15, 3) := by decide +kernel
theorem dX3_compareHeaps_9 : decode cX3_compareHeaps 9 = .ok (.if_icmp .ge 58, 3) := by decide +kernel
theorem dX3_compareHeaps_12 : decode cX3_compareHeaps 12 = .ok (.iconst 0, 1) := by decide +kernel
theorem dX3_compareHeaps_13 : decode cX3_compareHeaps 13 = .ok (.istore 5, 2) := by decide +kernel
theorem dX3_compareHeaps_15 : decode cX3_compareHeaps 15 = .ok (.iload 5, 2) := by decide +kernel
theorem dX3_compareHeaps_17 : decode cX3_compareHeaps 17 = .ok (.aload_n 0, 1) := by decide +kernel
theorem dX3_compareHeaps_18 : decode cX3_compareHeaps 18 = .ok (.getfield 15, 3) := by decide +kernel
theorem dX3_compareHeaps_21 : decode cX3_compareHeaps 21 = .ok (.if_icmp .ge 40, 3) := by decide +kernel
theorem dX3_compareHeaps_24 : decode cX3_compareHeaps 24 = .ok (.aload_n 0, 1) := by decide +kernel
theorem dX3_compareHeaps_25 : decode cX3_compareHeaps 25 = .ok (.getfield 9, 3) := by decide +kernel
theorem dX3_compareHeaps_28 : decode cX3_compareHeaps 28 = .ok (.iload 4, 2) := by decide +kernel
theorem dX3_compareHeaps_30 : decode cX3_compareHeaps 30 = .ok (.iaload, 1) := by decide +kernel
theorem dX3_compareHeaps_31 : decode cX3_compareHeaps 31 = .ok (.iload_n 2, 1) := by decide +kernel
theorem dX3_compareHeaps_32 : decode cX3_compareHeaps 32 = .ok (.if_icmp .ne 23, 3) := by decide +kernel
theorem dX3_compareHeaps_35 : decode cX3_compareHeaps 35 = .ok (.aload_n 0, 1) := by decide +kernel
theorem dX3_compareHeaps_36 : decode cX3_compareHeaps 36 = .ok (.getfield 9, 3) := by decide +kernel
theorem dX3_compareHeaps_39 : decode cX3_compareHeaps 39 = .ok (.iload 5, 2) := by decide +kernel
theorem dX3_compareHeaps_41 : decode cX3_compareHeaps 41 = .ok (.iaload, 1) := by decide +kernel
theorem dX3_compareHeaps_42 : decode cX3_compareHeaps 42 = .ok (.iload_n 3, 1) := by decide +kernel
theorem dX3_compareHeaps_43 : decode cX3_compareHeaps 43 = .ok (.if_icmp .ne 12, 3) := by decide +kernel
theorem dX3_compareHeaps_46 : decode cX3_compareHeaps 46 = .ok (.aload_n 0, 1) := by decide +kernel
theorem dX3_compareHeaps_47 : decode cX3_compareHeaps 47 = .ok (.aload_n 1, 1) := by decide +kernel
theorem dX3_compareHeaps_48 : decode cX3_compareHeaps 48 = .ok (.iload 4, 2) := by decide +kernel
theorem dX3_compareHeaps_50 : decode cX3_compareHeaps 50 = .ok (.iload 5, 2) := by decide +kernel
theorem dX3_compareHeaps_52 : decode cX3_compareHeaps 52 = .ok (.invokevirtual 42, 3) := by decide +kernel
theorem dX3_compareHeaps_55 : decode cX3_compareHeaps 55 = .ok (.iinc 5 1, 3) := by decide +kernel
theorem dX3_compareHeaps_58 : decode cX3_compareHeaps 58 = .ok (.goto (-43), 3) := by decide +kernel
theorem dX3_compareHeaps_61 : decode cX3_compareHeaps 61 = .ok (.iinc 4 1, 3) := by decide +kernel
theorem dX3_compareHeaps_64 : decode cX3_compareHeaps 64 = .ok (.goto (-61), 3) := by decide +kernel
theorem dX3_compareHeaps_67 : decode cX3_compareHeaps 67 = .ok (.return_, 1) := by decide +kernel
theorem dX3_compareMachines_0 : decode cX3_compareMachines 0 = .ok (.aload_n 1, 1) := by decide +kernel
theorem dX3_compareMachines_1 : decode cX3_compareMachines 1 = .ok (.iload_n 2, 1) := by decide +kernel
theorem dX3_compareMachines_2 : decode cX3_compareMachines 2 = .ok (.iload_n 3, 1) := by decide +kernel
theorem dX3_compareMachines_3 : decode cX3_compareMachines 3 = .ok (.invokevirtual 45, 3) := by decide +kernel
theorem dX3_compareMachines_6 : decode cX3_compareMachines 6 = .ok (.istore 4, 2) := by decide +kernel
theorem dX3_compareMachines_8 : decode cX3_compareMachines 8 = .ok (.aload_n 1, 1) := by decide +kernel
theorem dX3_compareMachines_9 : decode cX3_compareMachines 9 = .ok (.iload_n 2, 1) := by decide +kernel
theorem dX3_compareMachines_10 : decode cX3_compareMachines 10 = .ok (.iload_n 3, 1) := by decide +kernel
theorem dX3_compareMachines_11 : decode cX3_compareMachines 11 = .ok (.invokevirtual 51, 3) := by decide +kernel
theorem dX3_compareMachines_14 : decode cX3_compareMachines 14 = .ok (.istore 5, 2) := by decide +kernel
theorem dX3_compareMachines_16 : decode cX3_compareMachines 16 = .ok (.iload 4, 2) := by decide +kernel
theorem dX3_compareMachines_18 : decode cX3_compareMachines 18 = .ok (.aload_n 0, 1) := by decide +kernel
theorem dX3_compareMachines_19 : decode cX3_compareMachines 19 = .ok (.getfield 35, 3) := by decide +kernel
theorem dX3_compareMachines_22 : decode cX3_compareMachines 22 = .ok (.imul, 1) := by decide +kernel
theorem dX3_compareMachines_23 : decode cX3_compareMachines 23 = .ok (.aload_n 0, 1) := by decide +kernel
theorem dX3_compareMachines_24 : decode cX3_compareMachines 24 = .ok (.getfield 32, 3) := by decide +kernel
theorem dX3_compareMachines_27 : decode cX3_compareMachines 27 = .ok (.iload 5, 2) := by decide +kernel
theorem dX3_compareMachines_29 : decode cX3_compareMachines 29 = .ok (.imul, 1) := by decide +kernel
theorem dX3_compareMachines_30 : decode cX3_compareMachines 30 = .ok (.if_icmp .le 35, 3) := by decide +kernel
theorem dX3_compareMachines_33 : decode cX3_compareMachines 33 = .ok (.aload_n 0, 1) := by decide +kernel
theorem dX3_compareMachines_34 : decode cX3_compareMachines 34 = .ok (.aload_n 0, 1) := by decide +kernel
theorem dX3_compareMachines_35 : decode cX3_compareMachines 35 = .ok (.getfield 9, 3) := by decide +kernel
theorem dX3_compareMachines_38 : decode cX3_compareMachines 38 = .ok (.iload_n 2, 1) := by decide +kernel
theorem dX3_compareMachines_39 : decode cX3_compareMachines 39 = .ok (.iaload, 1) := by decide +kernel
theorem dX3_compareMachines_40 : decode cX3_compareMachines 40 = .ok (.putfield 26, 3) := by decide +kernel
theorem dX3_compareMachines_43 : decode cX3_compareMachines 43 = .ok (.aload_n 0, 1) := by decide +kernel
theorem dX3_compareMachines_44 : decode cX3_compareMachines 44 = .ok (.aload_n 0, 1) := by decide +kernel
theorem dX3_compareMachines_45 : decode cX3_compareMachines 45 = .ok (.getfield 9, 3) := by decide +kernel
theorem dX3_compareMachines_48 : decode cX3_compareMachines 48 = .ok (.iload_n 3, 1) := by decide +kernel
theorem dX3_compareMachines_49 : decode cX3_compareMachines 49 = .ok (.iaload, 1) := by decide +kernel
theorem dX3_compareMachines_50 : decode cX3_compareMachines 50 = .ok (.putfield 29, 3) := by decide +kernel
theorem dX3_compareMachines_53 : decode cX3_compareMachines 53 = .ok (.aload_n 0, 1) := by decide +kernel
theorem dX3_compareMachines_54 : decode cX3_compareMachines 54 = .ok (.iload 4, 2) := by decide +kernel
theorem dX3_compareMachines_56 : decode cX3_compareMachines 56 = .ok (.putfield 32, 3) := by decide +kernel
theorem dX3_compareMachines_59 : decode cX3_compareMachines 59 = .ok (.aload_n 0, 1) := by decide +kernel
theorem dX3_compareMachines_60 : decode cX3_compareMachines 60 = .ok (.iload 5, 2) := by decide +kernel
theorem dX3_compareMachines_62 : decode cX3_compareMachines 62 = .ok (.putfield 35, 3) := by decide +kernel
theorem dX3_compareMachines_65 : decode cX3_compareMachines 65 = .ok (.return_, 1) := by decide +kernel
theorem dX3_unite_0 : decode cX3_unite 0 = .ok (.iconst 0, 1) := by decide +kernel
theorem dX3_unite_1 : decode cX3_unite 1 = .ok (.istore_n 1, 1) := by decide +kernel
theorem dX3_unite_2 : decode cX3_unite 2 = .ok (.iload_n 1, 1) := by decide +kernel
theorem dX3_unite_3 : decode cX3_unite 3 = .ok (.aload_n 0, 1) := by decide +kernel
theorem dX3_unite_4 : decode cX3_unite 4 = .ok (.getfield 15, 3) := by decide +kernel
theorem dX3_unite_7 : decode cX3_unite 7 = .ok (.if_icmp .ge 32, 3) := by decide +kernel
theorem dX3_unite_10 : decode cX3_unite 10 = .ok (.aload_n 0, 1) := by decide +kernel
theorem dX3_unite_11 : decode cX3_unite 11 = .ok (.getfield 9, 3) := by decide +kernel
theorem dX3_unite_14 : decode cX3_unite 14 = .ok (.iload_n 1, 1) := by decide +kernel
theorem dX3_unite_15 : decode cX3_unite 15 = .ok (.iaload, 1) := by decide +kernel
theorem dX3_unite_16 : decode cX3_unite 16 = .ok (.aload_n 0, 1) := by decide +kernel
theorem dX3_unite_17 : decode cX3_unite 17 = .ok (.getfield 29, 3) := by decide +kernel
theorem dX3_unite_20 : decode cX3_unite 20 = .ok (.if_icmp .ne 13, 3) := by decide +kernel
theorem dX3_unite_23 : decode cX3_unite 23 = .ok (.aload_n 0, 1) := by decide +kernel
theorem dX3_unite_24 : decode cX3_unite 24 = .ok (.getfield 9, 3) := by decide +kernel
theorem dX3_unite_27 : decode cX3_unite 27 = .ok (.iload_n 1, 1) := by decide +kernel
theorem dX3_unite_28 : decode cX3_unite 28 = .ok (.aload_n 0, 1) := by decide +kernel
theorem dX3_unite_29 : decode cX3_unite 29 = .ok (.getfield 26, 3) := by decide +kernel
theorem dX3_unite_32 : decode cX3_unite 32 = .ok (.iastore, 1) := by decide +kernel
theorem dX3_unite_33 : decode cX3_unite 33 = .ok (.iinc 1 1, 3) := by decide +kernel
theorem dX3_unite_36 : decode cX3_unite 36 = .ok (.goto (-34), 3) := by decide +kernel
theorem dX3_unite_39 : decode cX3_unite 39 = .ok (.return_, 1) := by decide +kernel
theorem dX4_init_0 : decode cX4_init 0 = .ok (.aload_n 0, 1) := by decide +kernel
theorem dX4_init_1 : decode cX4_init 1 = .ok (.invokespecial 3, 3) := by decide +kernel
theorem dX4_init_4 : decode cX4_init 4 = .ok (.aload_n 0, 1) := by decide +kernel
theorem dX4_init_5 : decode cX4_init 5 = .ok (.bipush 6, 2) := by decide +kernel
theorem dX4_init_7 : decode cX4_init 7 = .ok (.newarray .int, 2) := by decide +kernel
theorem dX4_init_9 : decode cX4_init 9 = .ok (.putfield 9, 3) := by decide +kernel
theorem dX4_init_12 : decode cX4_init 12 = .ok (.aload_n 0, 1) := by decide +kernel
theorem dX4_init_13 : decode cX4_init 13 = .ok (.iconst 4, 1) := by decide +kernel
theorem dX4_init_14 : decode cX4_init 14 = .ok (.newarray .int, 2) := by decide +kernel
theorem dX4_init_16 : decode cX4_init 16 = .ok (.putfield 15, 3) := by decide +kernel
theorem dX4_init_19 : decode cX4_init 19 = .ok (.aload_n 0, 1) := by decide +kernel
theorem dX4_init_20 : decode cX4_init 20 = .ok (.iconst 4, 1) := by decide +kernel
theorem dX4_init_21 : decode cX4_init 21 = .ok (.newarray .int, 2) := by decide +kernel
theorem dX4_init_23 : decode cX4_init 23 = .ok (.putfield 18, 3) := by decide +kernel
theorem dX4_init_26 : decode cX4_init 26 = .ok (.aload_n 0, 1) := by decide +kernel
theorem dX4_init_27 : decode cX4_init 27 = .ok (.iconst 5, 1) := by decide +kernel
theorem dX4_init_28 : decode cX4_init 28 = .ok (.putfield 21, 3) := by decide +kernel
theorem dX4_init_31 : decode cX4_init 31 = .ok (.return_, 1) := by decide +kernel
theorem dX4_howMany_0 : decode cX4_howMany 0 = .ok (.aload_n 0, 1) := by decide +kernel
theorem dX4_howMany_1 : decode cX4_howMany 1 = .ok (.getfield 25, 3) := by decide +kernel
theorem dX4_howMany_4 : decode cX4_howMany 4 = .ok (.ireturn, 1) := by decide +kernel
theorem dX4_append_0 : decode cX4_append 0 = .ok (.aload_n 0, 1) := by decide +kernel
theorem dX4_append_1 : decode cX4_append 1 = .ok (.getfield 25, 3) := by decide +kernel
theorem dX4_append_4 : decode cX4_append 4 = .ok (.bipush 6, 2) := by decide +kernel
theorem dX4_append_6 : decode cX4_append 6 = .ok (.if_icmp .ge 23, 3) := by decide +kernel
theorem dX4_append_9 : decode cX4_append 9 = .ok (.aload_n 0, 1) := by decide +kernel
theorem dX4_append_10 : decode cX4_append 10 = .ok (.getfield 9, 3) := by decide +kernel
theorem dX4_append_13 : decode cX4_append 13 = .ok (.aload_n 0, 1) := by decide +kernel
theorem dX4_append_14 : decode cX4_append 14 = .ok (.getfield 25, 3) := by decide +kernel
theorem dX4_append_17 : decode cX4_append 17 = .ok (.iload_n 1, 1) := by decide +kernel
theorem dX4_append_18 : decode cX4_append 18 = .ok (.iastore, 1) := by decide +kernel
theorem dX4_append_19 : decode cX4_append 19 = .ok (.aload_n 0, 1) := by decide +kernel
theorem dX4_append_20 : decode cX4_append 20 = .ok (.dup, 1) := by decide +kernel
theorem dX4_append_21 : decode cX4_append 21 = .ok (.getfield 25, 3) := by decide +kernel
theorem dX4_append_24 : decode cX4_append 24 = .ok (.iconst 1, 1) := by decide +kernel
theorem dX4_append_25 : decode cX4_append 25 = .ok (.iadd, 1) := by decide +kernel
theorem dX4_append_26 : decode cX4_append 26 = .ok (.putfield 25, 3) := by decide +kernel
theorem dX4_append_29 : decode cX4_append 29 = .ok (.return_, 1) := by decide +kernel
theorem dX4_costOfMove_0 : decode cX4_costOfMove 0 = .ok (.aload_n 0, 1) := by decide +kernel
theorem dX4_costOfMove_1 : decode cX4_costOfMove 1 = .ok (.getfield 21, 3) := by decide +kernel
theorem dX4_costOfMove_4 : decode cX4_costOfMove 4 = .ok (.ireturn, 1) := by decide +kernel
theorem dX4_putCostOfMove_0 : decode cX4_putCostOfMove 0 = .ok (.aload_n 0, 1) := by decide +kernel
theorem dX4_putCostOfMove_1 : decode cX4_putCostOfMove 1 = .ok (.iload_n 1, 1) := by decide +kernel
theorem dX4_putCostOfMove_2 : decode cX4_putCostOfMove 2 = .ok (.putfield 21, 3) := by decide +kernel
theorem dX4_putCostOfMove_5 : decode cX4_putCostOfMove 5 = .ok (.return_, 1) := by decide +kernel
theorem dX4_cheapest_0 : decode cX4_cheapest 0 = .ok (.iconst 0, 1) := by decide +kernel
theorem dX4_cheapest_1 : decode cX4_cheapest 1 = .ok (.istore_n 3, 1) := by decide +kernel
theorem dX4_cheapest_2 : decode cX4_cheapest 2 = .ok (.iload_n 3, 1) := by decide +kernel
theorem dX4_cheapest_3 : decode cX4_cheapest 3 = .ok (.iconst 4, 1) := by decide +kernel
theorem dX4_cheapest_4 : decode cX4_cheapest 4 = .ok (.if_icmp .ge 25, 3) := by decide +kernel
theorem dX4_cheapest_7 : decode cX4_cheapest 7 = .ok (.aload_n 0, 1) := by decide +kernel
theorem dX4_cheapest_8 : decode cX4_cheapest 8 = .ok (.getfield 15, 3) := by decide +kernel
theorem dX4_cheapest_11 : decode cX4_cheapest 11 = .ok (.iload_n 3, 1) := by decide +kernel
theorem dX4_cheapest_12 : decode cX4_cheapest 12 = .ok (.aload_n 0, 1) := by decide +kernel
theorem dX4_cheapest_13 : decode cX4_cheapest 13 = .ok (.getfield 9, 3) := by decide +kernel
theorem dX4_cheapest_16 : decode cX4_cheapest 16 = .ok (.iconst 0, 1) := by decide +kernel
theorem dX4_cheapest_17 : decode cX4_cheapest 17 = .ok (.iaload, 1) := by decide +kernel
theorem dX4_cheapest_18 : decode cX4_cheapest 18 = .ok (.aload_n 2, 1) := by decide +kernel
theorem dX4_cheapest_19 : decode cX4_cheapest 19 = .ok (.iload_n 3, 1) := by decide +kernel
theorem dX4_cheapest_20 : decode cX4_cheapest 20 = .ok (.iaload, 1) := by decide +kernel
theorem dX4_cheapest_21 : decode cX4_cheapest 21 = .ok (.imul, 1) := by decide +kernel
theorem dX4_cheapest_22 : decode cX4_cheapest 22 = .ok (.iastore, 1) := by decide +kernel
theorem dX4_cheapest_23 : decode cX4_cheapest 23 = .ok (.iinc 3 1, 3) := by decide +kernel
theorem dX4_cheapest_26 : decode cX4_cheapest 26 = .ok (.goto (-24), 3) := by decide +kernel
theorem dX4_cheapest_29 : decode cX4_cheapest 29 = .ok (.iconst 1, 1) := by decide +kernel
theorem dX4_cheapest_30 : decode cX4_cheapest 30 = .ok (.istore_n 3, 1) := by decide +kernel
theorem dX4_cheapest_31 : decode cX4_cheapest 31 = .ok (.iload_n 3, 1) := by decide +kernel
theorem dX4_cheapest_32 : decode cX4_cheapest 32 = .ok (.aload_n 0, 1) := by decide +kernel
theorem dX4_cheapest_33 : decode cX4_cheapest 33 = .ok (.getfield 25, 3) := by decide +kernel
theorem dX4_cheapest_36 : decode cX4_cheapest 36 = .ok (.if_icmp .ge 64, 3) := by decide +kernel
theorem dX4_cheapest_39 : decode cX4_cheapest 39 = .ok (.iconst 0, 1) := by decide +kernel
theorem dX4_cheapest_40 : decode cX4_cheapest 40 = .ok (.istore 4, 2) := by decide +kernel
theorem dX4_cheapest_42 : decode cX4_cheapest 42 = .ok (.iload 4, 2) := by decide +kernel
theorem dX4_cheapest_44 : decode cX4_cheapest 44 = .ok (.iconst 4, 1) := by decide +kernel
theorem dX4_cheapest_45 : decode cX4_cheapest 45 = .ok (.if_icmp .ge 35, 3) := by decide +kernel
theorem dX4_cheapest_48 : decode cX4_cheapest 48 = .ok (.aload_n 0, 1) := by decide +kernel
theorem dX4_cheapest_49 : decode cX4_cheapest 49 = .ok (.getfield 18, 3) := by decide +kernel
theorem dX4_cheapest_52 : decode cX4_cheapest 52 = .ok (.iload 4, 2) := by decide +kernel
theorem dX4_cheapest_54 : decode cX4_cheapest 54 = .ok (.aload_n 0, 1) := by decide +kernel
theorem dX4_cheapest_55 : decode cX4_cheapest 55 = .ok (.iload 4, 2) := by decide +kernel
theorem dX4_cheapest_57 : decode cX4_cheapest 57 = .ok (.aload_n 1, 1) := by decide +kernel
theorem dX4_cheapest_58 : decode cX4_cheapest 58 = .ok (.invokevirtual 28, 3) := by decide +kernel
theorem dX4_cheapest_61 : decode cX4_cheapest 61 = .ok (.aload_n 0, 1) := by decide +kernel
theorem dX4_cheapest_62 : decode cX4_cheapest 62 = .ok (.getfield 9, 3) := by decide +kernel
theorem dX4_cheapest_65 : decode cX4_cheapest 65 = .ok (.iload_n 3, 1) := by decide +kernel
theorem dX4_cheapest_66 : decode cX4_cheapest 66 = .ok (.iaload, 1) := by decide +kernel
theorem dX4_cheapest_67 : decode cX4_cheapest 67 = .ok (.aload_n 2, 1) := by decide +kernel
theorem dX4_cheapest_68 : decode cX4_cheapest 68 = .ok (.iload 4, 2) := by decide +kernel
theorem dX4_cheapest_70 : decode cX4_cheapest 70 = .ok (.iaload, 1) := by decide +kernel
theorem dX4_cheapest_71 : decode cX4_cheapest 71 = .ok (.imul, 1) := by decide +kernel
theorem dX4_cheapest_72 : decode cX4_cheapest 72 = .ok (.iadd, 1) := by decide +kernel
theorem dX4_cheapest_73 : decode cX4_cheapest 73 = .ok (.iastore, 1) := by decide +kernel
theorem dX4_cheapest_74 : decode cX4_cheapest 74 = .ok (.iinc 4 1, 3) := by decide +kernel
theorem dX4_cheapest_77 : decode cX4_cheapest 77 = .ok (.goto (-35), 3) := by decide +kernel
theorem dX4_cheapest_80 : decode cX4_cheapest 80 = .ok (.aload_n 0, 1) := by decide +kernel
theorem dX4_cheapest_81 : decode cX4_cheapest 81 = .ok (.getfield 18, 3) := by decide +kernel
theorem dX4_cheapest_84 : decode cX4_cheapest 84 = .ok (.iconst 0, 1) := by decide +kernel
theorem dX4_cheapest_85 : decode cX4_cheapest 85 = .ok (.aload_n 0, 1) := by decide +kernel
theorem dX4_cheapest_86 : decode cX4_cheapest 86 = .ok (.getfield 15, 3) := by decide +kernel
theorem dX4_cheapest_89 : decode cX4_cheapest 89 = .ok (.iconst 0, 1) := by decide +kernel
theorem dX4_cheapest_90 : decode cX4_cheapest 90 = .ok (.iconst 4, 1) := by decide +kernel
theorem dX4_cheapest_91 : decode cX4_cheapest 91 = .ok (.invokestatic 32, 3) := by decide +kernel
theorem dX4_cheapest_94 : decode cX4_cheapest 94 = .ok (.iinc 3 1, 3) := by decide +kernel
theorem dX4_cheapest_97 : decode cX4_cheapest 97 = .ok (.goto (-66), 3) := by decide +kernel
theorem dX4_cheapest_100 : decode cX4_cheapest 100 = .ok (.aload_n 0, 1) := by decide +kernel
theorem dX4_cheapest_101 : decode cX4_cheapest 101 = .ok (.getfield 15, 3) := by decide +kernel
theorem dX4_cheapest_104 : decode cX4_cheapest 104 = .ok (.iconst 0, 1) := by decide +kernel
theorem dX4_cheapest_105 : decode cX4_cheapest 105 = .ok (.iaload, 1) := by decide +kernel
theorem dX4_cheapest_106 : decode cX4_cheapest 106 = .ok (.istore_n 3, 1) := by decide +kernel
theorem dX4_cheapest_107 : decode cX4_cheapest 107 = .ok (.iconst 1, 1) := by decide +kernel
theorem dX4_cheapest_108 : decode cX4_cheapest 108 = .ok (.istore 4, 2) := by decide +kernel
theorem dX4_cheapest_110 : decode cX4_cheapest 110 = .ok (.iload 4, 2) := by decide +kernel
theorem dX4_cheapest_112 : decode cX4_cheapest 112 = .ok (.iconst 4, 1) := by decide +kernel
theorem dX4_cheapest_113 : decode cX4_cheapest 113 = .ok (.if_icmp .ge 21, 3) := by decide +kernel
theorem dX4_cheapest_116 : decode cX4_cheapest 116 = .ok (.iload_n 3, 1) := by decide +kernel
theorem dX4_cheapest_117 : decode cX4_cheapest 117 = .ok (.aload_n 0, 1) := by decide +kernel
theorem dX4_cheapest_118 : decode cX4_cheapest 118 = .ok (.getfield 15, 3) := by decide +kernel
theorem dX4_cheapest_121 : decode cX4_cheapest 121 = .ok (.iload 4, 2) := by decide +kernel
theorem dX4_cheapest_123 : decode cX4_cheapest 123 = .ok (.iaload, 1) := by decide +kernel
theorem dX4_cheapest_124 : decode cX4_cheapest 124 = .ok (.invokestatic 38, 3) := by decide +kernel
theorem dX4_cheapest_127 : decode cX4_cheapest 127 = .ok (.istore_n 3, 1) := by decide +kernel
theorem dX4_cheapest_128 : decode cX4_cheapest 128 = .ok (.iinc 4 1, 3) := by decide +kernel
theorem dX4_cheapest_131 : decode cX4_cheapest 131 = .ok (.goto (-21), 3) := by decide +kernel
theorem dX4_cheapest_134 : decode cX4_cheapest 134 = .ok (.iload_n 3, 1) := by decide +kernel
theorem dX4_cheapest_135 : decode cX4_cheapest 135 = .ok (.ireturn, 1) := by decide +kernel
theorem dX4_leastTo_0 : decode cX4_leastTo 0 = .ok (.ldc 44, 2) := by decide +kernel
theorem dX4_leastTo_2 : decode cX4_leastTo 2 = .ok (.istore_n 3, 1) := by decide +kernel
theorem dX4_leastTo_3 : decode cX4_leastTo 3 = .ok (.iconst 0, 1) := by decide +kernel
theorem dX4_leastTo_4 : decode cX4_leastTo 4 = .ok (.istore 4, 2) := by decide +kernel
theorem dX4_leastTo_6 : decode cX4_leastTo 6 = .ok (.iload 4, 2) := by decide +kernel
theorem dX4_leastTo_8 : decode cX4_leastTo 8 = .ok (.iconst 4, 1) := by decide +kernel
theorem dX4_leastTo_9 : decode cX4_leastTo 9 = .ok (.if_icmp .ge 41, 3) := by decide +kernel
theorem dX4_leastTo_12 : decode cX4_leastTo 12 = .ok (.aload_n 2, 1) := by decide +kernel
theorem dX4_leastTo_13 : decode cX4_leastTo 13 = .ok (.iload 4, 2) := by decide +kernel
theorem dX4_leastTo_15 : decode cX4_leastTo 15 = .ok (.iaload, 1) := by decide +kernel
theorem dX4_leastTo_16 : decode cX4_leastTo 16 = .ok (.aload_n 2, 1) := by decide +kernel
theorem dX4_leastTo_17 : decode cX4_leastTo 17 = .ok (.iload_n 1, 1) := by decide +kernel
theorem dX4_leastTo_18 : decode cX4_leastTo 18 = .ok (.iaload, 1) := by decide +kernel
theorem dX4_leastTo_19 : decode cX4_leastTo 19 = .ok (.invokestatic 45, 3) := by decide +kernel
theorem dX4_leastTo_22 : decode cX4_leastTo 22 = .ok (.istore 5, 2) := by decide +kernel
theorem dX4_leastTo_24 : decode cX4_leastTo 24 = .ok (.iload_n 3, 1) := by decide +kernel
theorem dX4_leastTo_25 : decode cX4_leastTo 25 = .ok (.aload_n 0, 1) := by decide +kernel
theorem dX4_leastTo_26 : decode cX4_leastTo 26 = .ok (.getfield 15, 3) := by decide +kernel
theorem dX4_leastTo_29 : decode cX4_leastTo 29 = .ok (.iload 4, 2) := by decide +kernel
theorem dX4_leastTo_31 : decode cX4_leastTo 31 = .ok (.iaload, 1) := by decide +kernel
theorem dX4_leastTo_32 : decode cX4_leastTo 32 = .ok (.aload_n 0, 1) := by decide +kernel
theorem dX4_leastTo_33 : decode cX4_leastTo 33 = .ok (.getfield 21, 3) := by decide +kernel
theorem dX4_leastTo_36 : decode cX4_leastTo 36 = .ok (.iload 5, 2) := by decide +kernel
theorem dX4_leastTo_38 : decode cX4_leastTo 38 = .ok (.imul, 1) := by decide +kernel
theorem dX4_leastTo_39 : decode cX4_leastTo 39 = .ok (.iadd, 1) := by decide +kernel
theorem dX4_leastTo_40 : decode cX4_leastTo 40 = .ok (.invokestatic 38, 3) := by decide +kernel
theorem dX4_leastTo_43 : decode cX4_leastTo 43 = .ok (.istore_n 3, 1) := by decide +kernel
theorem dX4_leastTo_44 : decode cX4_leastTo 44 = .ok (.iinc 4 1, 3) := by decide +kernel
theorem dX4_leastTo_47 : decode cX4_leastTo 47 = .ok (.goto (-41), 3) := by decide +kernel
theorem dX4_leastTo_50 : decode cX4_leastTo 50 = .ok (.iload_n 3, 1) := by decide +kernel
theorem dX4_leastTo_51 : decode cX4_leastTo 51 = .ok (.ireturn, 1) := by decide +kernel
theorem dX5_init_0 : decode cX5_init 0 = .ok (.aload_n 0, 1) := by decide +kernel
theorem dX5_init_1 : decode cX5_init 1 = .ok (.invokespecial 1, 3) := by decide +kernel
theorem dX5_init_4 : decode cX5_init 4 = .ok (.aload_n 0, 1) := by decide +kernel
theorem dX5_init_5 : decode cX5_init 5 = .ok (.new 7, 3) := by decide +kernel
theorem dX5_init_8 : decode cX5_init 8 = .ok (.dup, 1) := by decide +kernel
theorem dX5_init_9 : decode cX5_init 9 = .ok (.invokespecial 9, 3) := by decide +kernel
theorem dX5_init_12 : decode cX5_init 12 = .ok (.putfield 10, 3) := by decide +kernel
theorem dX5_init_15 : decode cX5_init 15 = .ok (.aload_n 0, 1) := by decide +kernel
theorem dX5_init_16 : decode cX5_init 16 = .ok (.new 16, 3) := by decide +kernel
theorem dX5_init_19 : decode cX5_init 19 = .ok (.dup, 1) := by decide +kernel
theorem dX5_init_20 : decode cX5_init 20 = .ok (.invokespecial 18, 3) := by decide +kernel
theorem dX5_init_23 : decode cX5_init 23 = .ok (.putfield 19, 3) := by decide +kernel
theorem dX5_init_26 : decode cX5_init 26 = .ok (.aload_n 0, 1) := by decide +kernel
theorem dX5_init_27 : decode cX5_init 27 = .ok (.new 16, 3) := by decide +kernel
theorem dX5_init_30 : decode cX5_init 30 = .ok (.dup, 1) := by decide +kernel
theorem dX5_init_31 : decode cX5_init 31 = .ok (.invokespecial 18, 3) := by decide +kernel
theorem dX5_init_34 : decode cX5_init 34 = .ok (.putfield 23, 3) := by decide +kernel
theorem dX5_init_37 : decode cX5_init 37 = .ok (.aload_n 0, 1) := by decide +kernel
theorem dX5_init_38 : decode cX5_init 38 = .ok (.new 26, 3) := by decide +kernel
theorem dX5_init_41 : decode cX5_init 41 = .ok (.dup, 1) := by decide +kernel
theorem dX5_init_42 : decode cX5_init 42 = .ok (.invokespecial 28, 3) := by decide +kernel
theorem dX5_init_45 : decode cX5_init 45 = .ok (.putfield 29, 3) := by decide +kernel
theorem dX5_init_48 : decode cX5_init 48 = .ok (.aload_n 0, 1) := by decide +kernel
theorem dX5_init_49 : decode cX5_init 49 = .ok (.new 33, 3) := by decide +kernel
theorem dX5_init_52 : decode cX5_init 52 = .ok (.dup, 1) := by decide +kernel
theorem dX5_init_53 : decode cX5_init 53 = .ok (.invokespecial 35, 3) := by decide +kernel
theorem dX5_init_56 : decode cX5_init 56 = .ok (.putfield 36, 3) := by decide +kernel
theorem dX5_init_59 : decode cX5_init 59 = .ok (.aload_n 0, 1) := by decide +kernel
theorem dX5_init_60 : decode cX5_init 60 = .ok (.new 40, 3) := by decide +kernel
theorem dX5_init_63 : decode cX5_init 63 = .ok (.dup, 1) := by decide +kernel
theorem dX5_init_64 : decode cX5_init 64 = .ok (.invokespecial 42, 3) := by decide +kernel
theorem dX5_init_67 : decode cX5_init 67 = .ok (.putfield 43, 3) := by decide +kernel
theorem dX5_init_70 : decode cX5_init 70 = .ok (.aload_n 0, 1) := by decide +kernel
theorem dX5_init_71 : decode cX5_init 71 = .ok (.bipush 7, 2) := by decide +kernel
theorem dX5_init_73 : decode cX5_init 73 = .ok (.newarray .int, 2) := by decide +kernel
theorem dX5_init_75 : decode cX5_init 75 = .ok (.putfield 47, 3) := by decide +kernel
theorem dX5_init_78 : decode cX5_init 78 = .ok (.aload_n 0, 1) := by decide +kernel
theorem dX5_init_79 : decode cX5_init 79 = .ok (.bipush 7, 2) := by decide +kernel
theorem dX5_init_81 : decode cX5_init 81 = .ok (.newarray .int, 2) := by decide +kernel
theorem dX5_init_83 : decode cX5_init 83 = .ok (.putfield 51, 3) := by decide +kernel
theorem dX5_init_86 : decode cX5_init 86 = .ok (.aload_n 0, 1) := by decide +kernel
theorem dX5_init_87 : decode cX5_init 87 = .ok (.iconst 4, 1) := by decide +kernel
theorem dX5_init_88 : decode cX5_init 88 = .ok (.newarray .int, 2) := by decide +kernel
theorem dX5_init_90 : decode cX5_init 90 = .ok (.putfield 54, 3) := by decide +kernel
theorem dX5_init_93 : decode cX5_init 93 = .ok (.aload_n 0, 1) := by decide +kernel
theorem dX5_init_94 : decode cX5_init 94 = .ok (.iconst 4, 1) := by decide +kernel
theorem dX5_init_95 : decode cX5_init 95 = .ok (.newarray .int, 2) := by decide +kernel
theorem dX5_init_97 : decode cX5_init 97 = .ok (.putfield 57, 3) := by decide +kernel
theorem dX5_init_100 : decode cX5_init 100 = .ok (.aload_n 0, 1) := by decide +kernel
theorem dX5_init_101 : decode cX5_init 101 = .ok (.sipush 201, 3) := by decide +kernel
theorem dX5_init_104 : decode cX5_init 104 = .ok (.newarray .int, 2) := by decide +kernel
theorem dX5_init_106 : decode cX5_init 106 = .ok (.putfield 60, 3) := by decide +kernel
theorem dX5_init_109 : decode cX5_init 109 = .ok (.aload_n 0, 1) := by decide +kernel
theorem dX5_init_110 : decode cX5_init 110 = .ok (.iconst 4, 1) := by decide +kernel
theorem dX5_init_111 : decode cX5_init 111 = .ok (.iconst 4, 1) := by decide +kernel
theorem dX5_init_112 : decode cX5_init 112 = .ok (.invokevirtual 63, 3) := by decide +kernel
theorem dX5_init_115 : decode cX5_init 115 = .ok (.return_, 1) := by decide +kernel
theorem dX5_works_0 : decode cX5_works 0 = .ok (.iload_n 1, 1) := by decide +kernel
theorem dX5_works_1 : decode cX5_works 1 = .ok (.iconst 1, 1) := by decide +kernel
theorem dX5_works_2 : decode cX5_works 2 = .ok (.bipush 7, 2) := by decide +kernel
theorem dX5_works_4 : decode cX5_works 4 = .ok (.invokestatic 67, 3) := by decide +kernel
theorem dX5_works_7 : decode cX5_works 7 = .ok (.ifCond .eq 13, 3) := by decide +kernel
theorem dX5_works_10 : decode cX5_works 10 = .ok (.iload_n 2, 1) := by decide +kernel
theorem dX5_works_11 : decode cX5_works 11 = .ok (.iconst 1, 1) := by decide +kernel
theorem dX5_works_12 : decode cX5_works 12 = .ok (.bipush 8, 2) := by decide +kernel
theorem dX5_works_14 : decode cX5_works 14 = .ok (.invokestatic 67, 3) := by decide +kernel
theorem dX5_works_17 : decode cX5_works 17 = .ok (.ifCond .ne 5, 3) := by decide +kernel
theorem dX5_works_20 : decode cX5_works 20 = .ok (.iconst (-1), 1) := by decide +kernel
theorem dX5_works_21 : decode cX5_works 21 = .ok (.ireturn, 1) := by decide +kernel
theorem dX5_works_22 : decode cX5_works 22 = .ok (.aload_n 0, 1) := by decide +kernel
theorem dX5_works_23 : decode cX5_works 23 = .ok (.getfield 71, 3) := by decide +kernel
theorem dX5_works_26 : decode cX5_works 26 = .ok (.istore_n 3, 1) := by decide +kernel
theorem dX5_works_27 : decode cX5_works 27 = .ok (.aload_n 0, 1) := by decide +kernel
theorem dX5_works_28 : decode cX5_works 28 = .ok (.iload_n 1, 1) := by decide +kernel
theorem dX5_works_29 : decode cX5_works 29 = .ok (.iload_n 2, 1) := by decide +kernel
theorem dX5_works_30 : decode cX5_works 30 = .ok (.invokevirtual 63, 3) := by decide +kernel
theorem dX5_works_33 : decode cX5_works 33 = .ok (.iload_n 3, 1) := by decide +kernel
theorem dX5_works_34 : decode cX5_works 34 = .ok (.ireturn, 1) := by decide +kernel
theorem dX5_route_0 : decode cX5_route 0 = .ok (.aload_n 0, 1) := by decide +kernel
theorem dX5_route_1 : decode cX5_route 1 = .ok (.iload_n 1, 1) := by decide +kernel
theorem dX5_route_2 : decode cX5_route 2 = .ok (.invokevirtual 75, 3) := by decide +kernel
theorem dX5_route_5 : decode cX5_route 5 = .ok (.ifCond .eq 28, 3) := by decide +kernel
theorem dX5_route_8 : decode cX5_route 8 = .ok (.iload_n 2, 1) := by decide +kernel
theorem dX5_route_9 : decode cX5_route 9 = .ok (.iconst 0, 1) := by decide +kernel
theorem dX5_route_10 : decode cX5_route 10 = .ok (.iconst 1, 1) := by decide +kernel
theorem dX5_route_11 : decode cX5_route 11 = .ok (.invokestatic 67, 3) := by decide +kernel
theorem dX5_route_14 : decode cX5_route 14 = .ok (.ifCond .eq 19, 3) := by decide +kernel
theorem dX5_route_17 : decode cX5_route 17 = .ok (.iload_n 3, 1) := by decide +kernel
theorem dX5_route_18 : decode cX5_route 18 = .ok (.iconst 0, 1) := by decide +kernel
theorem dX5_route_19 : decode cX5_route 19 = .ok (.iconst 1, 1) := by decide +kernel
theorem dX5_route_20 : decode cX5_route 20 = .ok (.aload_n 0, 1) := by decide +kernel
theorem dX5_route_21 : decode cX5_route 21 = .ok (.getfield 71, 3) := by decide +kernel
theorem dX5_route_24 : decode cX5_route 24 = .ok (.ishl, 1) := by decide +kernel
theorem dX5_route_25 : decode cX5_route 25 = .ok (.iconst 1, 1) := by decide +kernel
theorem dX5_route_26 : decode cX5_route 26 = .ok (.isub, 1) := by decide +kernel
theorem dX5_route_27 : decode cX5_route 27 = .ok (.invokestatic 67, 3) := by decide +kernel
theorem dX5_route_30 : decode cX5_route 30 = .ok (.ifCond .ne 5, 3) := by decide +kernel
theorem dX5_route_33 : decode cX5_route 33 = .ok (.iconst (-1), 1) := by decide +kernel
theorem dX5_route_34 : decode cX5_route 34 = .ok (.ireturn, 1) := by decide +kernel
theorem dX5_route_35 : decode cX5_route 35 = .ok (.aload_n 0, 1) := by decide +kernel
theorem dX5_route_36 : decode cX5_route 36 = .ok (.getfield 10, 3) := by decide +kernel
theorem dX5_route_39 : decode cX5_route 39 = .ok (.iload_n 1, 1) := by decide +kernel
theorem dX5_route_40 : decode cX5_route 40 = .ok (.iload_n 2, 1) := by decide +kernel
theorem dX5_route_41 : decode cX5_route 41 = .ok (.invokevirtual 79, 3) := by decide +kernel
theorem dX5_route_44 : decode cX5_route 44 = .ok (.istore 4, 2) := by decide +kernel
theorem dX5_route_46 : decode cX5_route 46 = .ok (.aload_n 0, 1) := by decide +kernel
theorem dX5_route_47 : decode cX5_route 47 = .ok (.getfield 10, 3) := by decide +kernel
theorem dX5_route_50 : decode cX5_route 50 = .ok (.iload_n 1, 1) := by decide +kernel
theorem dX5_route_51 : decode cX5_route 51 = .ok (.iload_n 2, 1) := by decide +kernel
theorem dX5_route_52 : decode cX5_route 52 = .ok (.iload_n 3, 1) := by decide +kernel
theorem dX5_route_53 : decode cX5_route 53 = .ok (.invokevirtual 83, 3) := by decide +kernel
theorem dX5_route_56 : decode cX5_route 56 = .ok (.iload 4, 2) := by decide +kernel
theorem dX5_route_58 : decode cX5_route 58 = .ok (.ireturn, 1) := by decide +kernel
theorem dX5_goes_0 : decode cX5_goes 0 = .ok (.aload_n 0, 1) := by decide +kernel
theorem dX5_goes_1 : decode cX5_goes 1 = .ok (.iload_n 1, 1) := by decide +kernel
theorem dX5_goes_2 : decode cX5_goes 2 = .ok (.invokevirtual 75, 3) := by decide +kernel
theorem dX5_goes_5 : decode cX5_goes 5 = .ok (.ifCond .eq 12, 3) := by decide +kernel
theorem dX5_goes_8 : decode cX5_goes 8 = .ok (.iload_n 2, 1) := by decide +kernel
theorem dX5_goes_9 : decode cX5_goes 9 = .ok (.iconst 0, 1) := by decide +kernel
theorem dX5_goes_10 : decode cX5_goes 10 = .ok (.iconst 1, 1) := by decide +kernel
theorem dX5_goes_11 : decode cX5_goes 11 = .ok (.invokestatic 67, 3) := by decide +kernel
theorem dX5_goes_14 : decode cX5_goes 14 = .ok (.ifCond .ne 5, 3) := by decide +kernel
theorem dX5_goes_17 : decode cX5_goes 17 = .ok (.iconst (-1), 1) := by decide +kernel
theorem dX5_goes_18 : decode cX5_goes 18 = .ok (.ireturn, 1) := by decide +kernel
theorem dX5_goes_19 : decode cX5_goes 19 = .ok (.aload_n 0, 1) := by decide +kernel
theorem dX5_goes_20 : decode cX5_goes 20 = .ok (.getfield 10, 3) := by decide +kernel
theorem dX5_goes_23 : decode cX5_goes 23 = .ok (.iload_n 1, 1) := by decide +kernel
theorem dX5_goes_24 : decode cX5_goes 24 = .ok (.invokevirtual 87, 3) := by decide +kernel
theorem dX5_goes_27 : decode cX5_goes 27 = .ok (.istore_n 3, 1) := by decide +kernel
theorem dX5_goes_28 : decode cX5_goes 28 = .ok (.aload_n 0, 1) := by decide +kernel
theorem dX5_goes_29 : decode cX5_goes 29 = .ok (.getfield 10, 3) := by decide +kernel
theorem dX5_goes_32 : decode cX5_goes 32 = .ok (.iload_n 1, 1) := by decide +kernel
theorem dX5_goes_33 : decode cX5_goes 33 = .ok (.iload_n 2, 1) := by decide +kernel
theorem dX5_goes_34 : decode cX5_goes 34 = .ok (.invokevirtual 91, 3) := by decide +kernel
theorem dX5_goes_37 : decode cX5_goes 37 = .ok (.iload_n 3, 1) := by decide +kernel
theorem dX5_goes_38 : decode cX5_goes 38 = .ok (.ireturn, 1) := by decide +kernel
theorem dX5_pieces_0 : decode cX5_pieces 0 = .ok (.aload_n 0, 1) := by decide +kernel
theorem dX5_pieces_1 : decode cX5_pieces 1 = .ok (.iload_n 1, 1) := by decide +kernel
theorem dX5_pieces_2 : decode cX5_pieces 2 = .ok (.invokevirtual 75, 3) := by decide +kernel
theorem dX5_pieces_5 : decode cX5_pieces 5 = .ok (.ifCond .eq 13, 3) := by decide +kernel
theorem dX5_pieces_8 : decode cX5_pieces 8 = .ok (.iload_n 2, 1) := by decide +kernel
theorem dX5_pieces_9 : decode cX5_pieces 9 = .ok (.iconst 1, 1) := by decide +kernel
theorem dX5_pieces_10 : decode cX5_pieces 10 = .ok (.bipush 9, 2) := by decide +kernel
theorem dX5_pieces_12 : decode cX5_pieces 12 = .ok (.invokestatic 67, 3) := by decide +kernel
theorem dX5_pieces_15 : decode cX5_pieces 15 = .ok (.ifCond .ne 5, 3) := by decide +kernel
theorem dX5_pieces_18 : decode cX5_pieces 18 = .ok (.iconst (-1), 1) := by decide +kernel
theorem dX5_pieces_19 : decode cX5_pieces 19 = .ok (.ireturn, 1) := by decide +kernel
theorem dX5_pieces_20 : decode cX5_pieces 20 = .ok (.aload_n 0, 1) := by decide +kernel
theorem dX5_pieces_21 : decode cX5_pieces 21 = .ok (.getfield 10, 3) := by decide +kernel
theorem dX5_pieces_24 : decode cX5_pieces 24 = .ok (.iload_n 1, 1) := by decide +kernel
theorem dX5_pieces_25 : decode cX5_pieces 25 = .ok (.invokevirtual 94, 3) := by decide +kernel
theorem dX5_pieces_28 : decode cX5_pieces 28 = .ok (.istore_n 3, 1) := by decide +kernel
theorem dX5_pieces_29 : decode cX5_pieces 29 = .ok (.aload_n 0, 1) := by decide +kernel
theorem dX5_pieces_30 : decode cX5_pieces 30 = .ok (.getfield 10, 3) := by decide +kernel
theorem dX5_pieces_33 : decode cX5_pieces 33 = .ok (.iload_n 1, 1) := by decide +kernel
theorem dX5_pieces_34 : decode cX5_pieces 34 = .ok (.iload_n 2, 1) := by decide +kernel
theorem dX5_pieces_35 : decode cX5_pieces 35 = .ok (.invokevirtual 97, 3) := by decide +kernel
theorem dX5_pieces_38 : decode cX5_pieces 38 = .ok (.iload_n 3, 1) := by decide +kernel
theorem dX5_pieces_39 : decode cX5_pieces 39 = .ok (.ireturn, 1) := by decide +kernel
theorem dX5_cell_0 : decode cX5_cell 0 = .ok (.aload_n 0, 1) := by decide +kernel
theorem dX5_cell_1 : decode cX5_cell 1 = .ok (.iload_n 1, 1) := by decide +kernel
theorem dX5_cell_2 : decode cX5_cell 2 = .ok (.invokevirtual 100, 3) := by decide +kernel
theorem dX5_cell_5 : decode cX5_cell 5 = .ok (.ifCond .eq 10, 3) := by decide +kernel
theorem dX5_cell_8 : decode cX5_cell 8 = .ok (.iload_n 2, 1) := by decide +kernel
theorem dX5_cell_9 : decode cX5_cell 9 = .ok (.invokestatic 103, 3) := by decide +kernel
theorem dX5_cell_12 : decode cX5_cell 12 = .ok (.ifCond .ne 5, 3) := by decide +kernel
theorem dX5_cell_15 : decode cX5_cell 15 = .ok (.iconst (-1), 1) := by decide +kernel
theorem dX5_cell_16 : decode cX5_cell 16 = .ok (.ireturn, 1) := by decide +kernel
theorem dX5_cell_17 : decode cX5_cell 17 = .ok (.aload_n 0, 1) := by decide +kernel
theorem dX5_cell_18 : decode cX5_cell 18 = .ok (.getfield 19, 3) := by decide +kernel
theorem dX5_cell_21 : decode cX5_cell 21 = .ok (.iload_n 1, 1) := by decide +kernel
theorem dX5_cell_22 : decode cX5_cell 22 = .ok (.invokevirtual 106, 3) := by decide +kernel
theorem dX5_cell_25 : decode cX5_cell 25 = .ok (.istore_n 3, 1) := by decide +kernel
theorem dX5_cell_26 : decode cX5_cell 26 = .ok (.aload_n 0, 1) := by decide +kernel
theorem dX5_cell_27 : decode cX5_cell 27 = .ok (.getfield 19, 3) := by decide +kernel
theorem dX5_cell_30 : decode cX5_cell 30 = .ok (.iload_n 1, 1) := by decide +kernel
theorem dX5_cell_31 : decode cX5_cell 31 = .ok (.iload_n 2, 1) := by decide +kernel
theorem dX5_cell_32 : decode cX5_cell 32 = .ok (.invokevirtual 109, 3) := by decide +kernel
theorem dX5_cell_35 : decode cX5_cell 35 = .ok (.iload_n 3, 1) := by decide +kernel
theorem dX5_cell_36 : decode cX5_cell 36 = .ok (.ireturn, 1) := by decide +kernel
theorem dX5_group_0 : decode cX5_group 0 = .ok (.iload_n 1, 1) := by decide +kernel
theorem dX5_group_1 : decode cX5_group 1 = .ok (.iconst 0, 1) := by decide +kernel
theorem dX5_group_2 : decode cX5_group 2 = .ok (.aload_n 0, 1) := by decide +kernel
theorem dX5_group_3 : decode cX5_group 3 = .ok (.invokevirtual 112, 3) := by decide +kernel
theorem dX5_group_6 : decode cX5_group 6 = .ok (.iconst 1, 1) := by decide +kernel
theorem dX5_group_7 : decode cX5_group 7 = .ok (.isub, 1) := by decide +kernel
theorem dX5_group_8 : decode cX5_group 8 = .ok (.invokestatic 67, 3) := by decide +kernel
theorem dX5_group_11 : decode cX5_group 11 = .ok (.ifCond .ne 5, 3) := by decide +kernel
theorem dX5_group_14 : decode cX5_group 14 = .ok (.iconst (-1), 1) := by decide +kernel
theorem dX5_group_15 : decode cX5_group 15 = .ok (.ireturn, 1) := by decide +kernel
theorem dX5_group_16 : decode cX5_group 16 = .ok (.aload_n 0, 1) := by decide +kernel
theorem dX5_group_17 : decode cX5_group 17 = .ok (.getfield 19, 3) := by decide +kernel
theorem dX5_group_20 : decode cX5_group 20 = .ok (.invokevirtual 116, 3) := by decide +kernel
theorem dX5_group_23 : decode cX5_group 23 = .ok (.istore_n 2, 1) := by decide +kernel
theorem dX5_group_24 : decode cX5_group 24 = .ok (.aload_n 0, 1) := by decide +kernel
theorem dX5_group_25 : decode cX5_group 25 = .ok (.getfield 19, 3) := by decide +kernel
theorem dX5_group_28 : decode cX5_group 28 = .ok (.iload_n 1, 1) := by decide +kernel
theorem dX5_group_29 : decode cX5_group 29 = .ok (.aload_n 0, 1) := by decide +kernel
theorem dX5_group_30 : decode cX5_group 30 = .ok (.getfield 71, 3) := by decide +kernel
theorem dX5_group_33 : decode cX5_group 33 = .ok (.invokevirtual 119, 3) := by decide +kernel
theorem dX5_group_36 : decode cX5_group 36 = .ok (.iload_n 2, 1) := by decide +kernel
theorem dX5_group_37 : decode cX5_group 37 = .ok (.ireturn, 1) := by decide +kernel
theorem dX5_about_0 : decode cX5_about 0 = .ok (.aload_n 0, 1) := by decide +kernel
theorem dX5_about_1 : decode cX5_about 1 = .ok (.iload_n 1, 1) := by decide +kernel
theorem dX5_about_2 : decode cX5_about 2 = .ok (.invokevirtual 75, 3) := by decide +kernel
theorem dX5_about_5 : decode cX5_about 5 = .ok (.ifCond .ne 5, 3) := by decide +kernel
theorem dX5_about_8 : decode cX5_about 8 = .ok (.iconst (-1), 1) := by decide +kernel
theorem dX5_about_9 : decode cX5_about 9 = .ok (.ireturn, 1) := by decide +kernel
theorem dX5_about_10 : decode cX5_about 10 = .ok (.aload_n 0, 1) := by decide +kernel
theorem dX5_about_11 : decode cX5_about 11 = .ok (.getfield 10, 3) := by decide +kernel
theorem dX5_about_14 : decode cX5_about 14 = .ok (.iload_n 1, 1) := by decide +kernel
theorem dX5_about_15 : decode cX5_about 15 = .ok (.invokevirtual 122, 3) := by decide +kernel
theorem dX5_about_18 : decode cX5_about 18 = .ok (.istore_n 3, 1) := by decide +kernel
theorem dX5_about_19 : decode cX5_about 19 = .ok (.iload_n 2, 1) := by decide +kernel
theorem dX5_about_20 : decode cX5_about 20 = .ok (.tableswitch 87 0 5 #[40, 49, 58, 67, 76, 85], 40) := by decide +kernel
theorem dX5_about_60 : decode cX5_about 60 = .ok (.aload_n 0, 1) := by decide +kernel
theorem dX5_about_61 : decode cX5_about 61 = .ok (.getfield 19, 3) := by decide +kernel
theorem dX5_about_64 : decode cX5_about 64 = .ok (.iload_n 3, 1) := by decide +kernel
theorem dX5_about_65 : decode cX5_about 65 = .ok (.invokevirtual 125, 3) := by decide +kernel
theorem dX5_about_68 : decode cX5_about 68 = .ok (.ireturn, 1) := by decide +kernel
theorem dX5_about_69 : decode cX5_about 69 = .ok (.aload_n 0, 1) := by decide +kernel
theorem dX5_about_70 : decode cX5_about 70 = .ok (.getfield 19, 3) := by decide +kernel
theorem dX5_about_73 : decode cX5_about 73 = .ok (.iload_n 3, 1) := by decide +kernel
theorem dX5_about_74 : decode cX5_about 74 = .ok (.invokevirtual 128, 3) := by decide +kernel
theorem dX5_about_77 : decode cX5_about 77 = .ok (.ireturn, 1) := by decide +kernel
theorem dX5_about_78 : decode cX5_about 78 = .ok (.aload_n 0, 1) := by decide +kernel
theorem dX5_about_79 : decode cX5_about 79 = .ok (.getfield 19, 3) := by decide +kernel
theorem dX5_about_82 : decode cX5_about 82 = .ok (.iload_n 3, 1) := by decide +kernel
theorem dX5_about_83 : decode cX5_about 83 = .ok (.invokevirtual 131, 3) := by decide +kernel
theorem dX5_about_86 : decode cX5_about 86 = .ok (.ireturn, 1) := by decide +kernel
theorem dX5_about_87 : decode cX5_about 87 = .ok (.aload_n 0, 1) := by decide +kernel
theorem dX5_about_88 : decode cX5_about 88 = .ok (.getfield 10, 3) := by decide +kernel
theorem dX5_about_91 : decode cX5_about 91 = .ok (.iload_n 1, 1) := by decide +kernel
theorem dX5_about_92 : decode cX5_about 92 = .ok (.invokevirtual 94, 3) := by decide +kernel
theorem dX5_about_95 : decode cX5_about 95 = .ok (.ireturn, 1) := by decide +kernel
theorem dX5_about_96 : decode cX5_about 96 = .ok (.aload_n 0, 1) := by decide +kernel
theorem dX5_about_97 : decode cX5_about 97 = .ok (.getfield 10, 3) := by decide +kernel
theorem dX5_about_100 : decode cX5_about 100 = .ok (.iload_n 1, 1) := by decide +kernel
theorem dX5_about_101 : decode cX5_about 101 = .ok (.invokevirtual 87, 3) := by decide +kernel
theorem dX5_about_104 : decode cX5_about 104 = .ok (.ireturn, 1) := by decide +kernel
theorem dX5_about_105 : decode cX5_about 105 = .ok (.iload_n 3, 1) := by decide +kernel
theorem dX5_about_106 : decode cX5_about 106 = .ok (.ireturn, 1) := by decide +kernel
theorem dX5_about_107 : decode cX5_about 107 = .ok (.iconst (-1), 1) := by decide +kernel
theorem dX5_about_108 : decode cX5_about 108 = .ok (.ireturn, 1) := by decide +kernel
theorem dX5_loss_0 : decode cX5_loss 0 = .ok (.iload_n 1, 1) := by decide +kernel
theorem dX5_loss_1 : decode cX5_loss 1 = .ok (.invokestatic 134, 3) := by decide +kernel
theorem dX5_loss_4 : decode cX5_loss 4 = .ok (.ifCond .ne 5, 3) := by decide +kernel
theorem dX5_loss_7 : decode cX5_loss 7 = .ok (.iconst (-1), 1) := by decide +kernel
theorem dX5_loss_8 : decode cX5_loss 8 = .ok (.ireturn, 1) := by decide +kernel
theorem dX5_loss_9 : decode cX5_loss 9 = .ok (.aload_n 0, 1) := by decide +kernel
theorem dX5_loss_10 : decode cX5_loss 10 = .ok (.dup, 1) := by decide +kernel
theorem dX5_loss_11 : decode cX5_loss 11 = .ok (.getfield 137, 3) := by decide +kernel
theorem dX5_loss_14 : decode cX5_loss 14 = .ok (.getstatic 141, 3) := by decide +kernel
theorem dX5_loss_17 : decode cX5_loss 17 = .ok (.iload_n 1, 1) := by decide +kernel
theorem dX5_loss_18 : decode cX5_loss 18 = .ok (.iaload, 1) := by decide +kernel
theorem dX5_loss_19 : decode cX5_loss 19 = .ok (.i2l, 1) := by decide +kernel
theorem dX5_loss_20 : decode cX5_loss 20 = .ok (.ladd, 1) := by decide +kernel
theorem dX5_loss_21 : decode cX5_loss 21 = .ok (.putfield 137, 3) := by decide +kernel
theorem dX5_loss_24 : decode cX5_loss 24 = .ok (.aload_n 0, 1) := by decide +kernel
theorem dX5_loss_25 : decode cX5_loss 25 = .ok (.aload_n 0, 1) := by decide +kernel
theorem dX5_loss_26 : decode cX5_loss 26 = .ok (.getfield 19, 3) := by decide +kernel
theorem dX5_loss_29 : decode cX5_loss 29 = .ok (.iload_n 1, 1) := by decide +kernel
theorem dX5_loss_30 : decode cX5_loss 30 = .ok (.invokevirtual 144, 3) := by decide +kernel
theorem dX5_loss_33 : decode cX5_loss 33 = .ok (.ireturn, 1) := by decide +kernel
theorem dX5_best_0 : decode cX5_best 0 = .ok (.iload_n 1, 1) := by decide +kernel
theorem dX5_best_1 : decode cX5_best 1 = .ok (.invokestatic 134, 3) := by decide +kernel
theorem dX5_best_4 : decode cX5_best 4 = .ok (.ifCond .eq 22, 3) := by decide +kernel
theorem dX5_best_7 : decode cX5_best 7 = .ok (.iload_n 2, 1) := by decide +kernel
theorem dX5_best_8 : decode cX5_best 8 = .ok (.iconst 1, 1) := by decide +kernel
theorem dX5_best_9 : decode cX5_best 9 = .ok (.bipush 7, 2) := by decide +kernel
theorem dX5_best_11 : decode cX5_best 11 = .ok (.invokestatic 67, 3) := by decide +kernel
theorem dX5_best_14 : decode cX5_best 14 = .ok (.ifCond .eq 12, 3) := by decide +kernel
theorem dX5_best_17 : decode cX5_best 17 = .ok (.iload_n 3, 1) := by decide +kernel
theorem dX5_best_18 : decode cX5_best 18 = .ok (.iconst 0, 1) := by decide +kernel
theorem dX5_best_19 : decode cX5_best 19 = .ok (.iconst 1, 1) := by decide +kernel
theorem dX5_best_20 : decode cX5_best 20 = .ok (.invokestatic 67, 3) := by decide +kernel
theorem dX5_best_23 : decode cX5_best 23 = .ok (.ifCond .ne 5, 3) := by decide +kernel
theorem dX5_best_26 : decode cX5_best 26 = .ok (.iconst (-1), 1) := by decide +kernel
theorem dX5_best_27 : decode cX5_best 27 = .ok (.ireturn, 1) := by decide +kernel
theorem dX5_best_28 : decode cX5_best 28 = .ok (.iconst 4, 1) := by decide +kernel
theorem dX5_best_29 : decode cX5_best 29 = .ok (.iload_n 2, 1) := by decide +kernel
theorem dX5_best_30 : decode cX5_best 30 = .ok (.imul, 1) := by decide +kernel
theorem dX5_best_31 : decode cX5_best 31 = .ok (.aload_n 0, 1) := by decide +kernel
theorem dX5_best_32 : decode cX5_best 32 = .ok (.getfield 71, 3) := by decide +kernel
theorem dX5_best_35 : decode cX5_best 35 = .ok (.if_icmp .ge 6, 3) := by decide +kernel
theorem dX5_best_38 : decode cX5_best 38 = .ok (.bipush (-2), 2) := by decide +kernel
theorem dX5_best_40 : decode cX5_best 40 = .ok (.ireturn, 1) := by decide +kernel
theorem dX5_best_41 : decode cX5_best 41 = .ok (.aload_n 0, 1) := by decide +kernel
theorem dX5_best_42 : decode cX5_best 42 = .ok (.iload_n 1, 1) := by decide +kernel
theorem dX5_best_43 : decode cX5_best 43 = .ok (.iload_n 2, 1) := by decide +kernel
theorem dX5_best_44 : decode cX5_best 44 = .ok (.invokevirtual 148, 3) := by decide +kernel
theorem dX5_best_47 : decode cX5_best 47 = .ok (.iload_n 3, 1) := by decide +kernel
theorem dX5_best_48 : decode cX5_best 48 = .ok (.ifCond .ne 10, 3) := by decide +kernel
theorem dX5_best_51 : decode cX5_best 51 = .ok (.aload_n 0, 1) := by decide +kernel
theorem dX5_best_52 : decode cX5_best 52 = .ok (.getfield 151, 3) := by decide +kernel
theorem dX5_best_55 : decode cX5_best 55 = .ok (.goto 7, 3) := by decide +kernel
theorem dX5_best_58 : decode cX5_best 58 = .ok (.aload_n 0, 1) := by decide +kernel
theorem dX5_best_59 : decode cX5_best 59 = .ok (.getfield 154, 3) := by decide +kernel
theorem dX5_best_62 : decode cX5_best 62 = .ok (.ireturn, 1) := by decide +kernel
theorem dX5_plain_0 : decode cX5_plain 0 = .ok (.aload_n 0, 1) := by decide +kernel
theorem dX5_plain_1 : decode cX5_plain 1 = .ok (.getfield 19, 3) := by decide +kernel
theorem dX5_plain_4 : decode cX5_plain 4 = .ok (.invokevirtual 116, 3) := by decide +kernel
theorem dX5_plain_7 : decode cX5_plain 7 = .ok (.aload_n 0, 1) := by decide +kernel
theorem dX5_plain_8 : decode cX5_plain 8 = .ok (.getfield 71, 3) := by decide +kernel
theorem dX5_plain_11 : decode cX5_plain 11 = .ok (.invokestatic 157, 3) := by decide +kernel
theorem dX5_plain_14 : decode cX5_plain 14 = .ok (.ifCond .eq 7, 3) := by decide +kernel
theorem dX5_plain_17 : decode cX5_plain 17 = .ok (.iconst 1, 1) := by decide +kernel
theorem dX5_plain_18 : decode cX5_plain 18 = .ok (.goto 4, 3) := by decide +kernel
theorem dX5_plain_21 : decode cX5_plain 21 = .ok (.iconst 0, 1) := by decide +kernel
theorem dX5_plain_22 : decode cX5_plain 22 = .ok (.ireturn, 1) := by decide +kernel
theorem dX5_like_0 : decode cX5_like 0 = .ok (.aload_n 0, 1) := by decide +kernel
theorem dX5_like_1 : decode cX5_like 1 = .ok (.iload_n 1, 1) := by decide +kernel
theorem dX5_like_2 : decode cX5_like 2 = .ok (.invokevirtual 100, 3) := by decide +kernel
theorem dX5_like_5 : decode cX5_like 5 = .ok (.ifCond .eq 25, 3) := by decide +kernel
theorem dX5_like_8 : decode cX5_like 8 = .ok (.aload_n 0, 1) := by decide +kernel
theorem dX5_like_9 : decode cX5_like 9 = .ok (.iload_n 2, 1) := by decide +kernel
theorem dX5_like_10 : decode cX5_like 10 = .ok (.invokevirtual 100, 3) := by decide +kernel
theorem dX5_like_13 : decode cX5_like 13 = .ok (.ifCond .eq 17, 3) := by decide +kernel
theorem dX5_like_16 : decode cX5_like 16 = .ok (.iload_n 1, 1) := by decide +kernel
theorem dX5_like_17 : decode cX5_like 17 = .ok (.iload_n 2, 1) := by decide +kernel
theorem dX5_like_18 : decode cX5_like 18 = .ok (.if_icmp .eq 12, 3) := by decide +kernel
theorem dX5_like_21 : decode cX5_like 21 = .ok (.iload_n 3, 1) := by decide +kernel
theorem dX5_like_22 : decode cX5_like 22 = .ok (.iconst 0, 1) := by decide +kernel
theorem dX5_like_23 : decode cX5_like 23 = .ok (.iconst 1, 1) := by decide +kernel
theorem dX5_like_24 : decode cX5_like 24 = .ok (.invokestatic 67, 3) := by decide +kernel
theorem dX5_like_27 : decode cX5_like 27 = .ok (.ifCond .ne 5, 3) := by decide +kernel
theorem dX5_like_30 : decode cX5_like 30 = .ok (.iconst (-1), 1) := by decide +kernel
theorem dX5_like_31 : decode cX5_like 31 = .ok (.ireturn, 1) := by decide +kernel
theorem dX5_like_32 : decode cX5_like 32 = .ok (.iload_n 3, 1) := by decide +kernel
theorem dX5_like_33 : decode cX5_like 33 = .ok (.ifCond .ne 15, 3) := by decide +kernel
theorem dX5_like_36 : decode cX5_like 36 = .ok (.aload_n 0, 1) := by decide +kernel
theorem dX5_like_37 : decode cX5_like 37 = .ok (.getfield 10, 3) := by decide +kernel
theorem dX5_like_40 : decode cX5_like 40 = .ok (.iload_n 1, 1) := by decide +kernel
theorem dX5_like_41 : decode cX5_like 41 = .ok (.iload_n 2, 1) := by decide +kernel
theorem dX5_like_42 : decode cX5_like 42 = .ok (.invokevirtual 161, 3) := by decide +kernel
theorem dX5_like_45 : decode cX5_like 45 = .ok (.goto 12, 3) := by decide +kernel
theorem dX5_like_48 : decode cX5_like 48 = .ok (.aload_n 0, 1) := by decide +kernel
theorem dX5_like_49 : decode cX5_like 49 = .ok (.getfield 10, 3) := by decide +kernel
theorem dX5_like_52 : decode cX5_like 52 = .ok (.iload_n 1, 1) := by decide +kernel
theorem dX5_like_53 : decode cX5_like 53 = .ok (.iload_n 2, 1) := by decide +kernel
theorem dX5_like_54 : decode cX5_like 54 = .ok (.invokevirtual 164, 3) := by decide +kernel
theorem dX5_like_57 : decode cX5_like 57 = .ok (.ireturn, 1) := by decide +kernel
theorem dX5_join_0 : decode cX5_join 0 = .ok (.iload_n 1, 1) := by decide +kernel
theorem dX5_join_1 : decode cX5_join 1 = .ok (.iconst 0, 1) := by decide +kernel
theorem dX5_join_2 : decode cX5_join 2 = .ok (.aload_n 0, 1) := by decide +kernel
theorem dX5_join_3 : decode cX5_join 3 = .ok (.getfield 71, 3) := by decide +kernel
theorem dX5_join_6 : decode cX5_join 6 = .ok (.iconst 2, 1) := by decide +kernel
theorem dX5_join_7 : decode cX5_join 7 = .ok (.isub, 1) := by decide +kernel
theorem dX5_join_8 : decode cX5_join 8 = .ok (.invokestatic 67, 3) := by decide +kernel
theorem dX5_join_11 : decode cX5_join 11 = .ok (.ifCond .eq 12, 3) := by decide +kernel
theorem dX5_join_14 : decode cX5_join 14 = .ok (.iload_n 2, 1) := by decide +kernel
theorem dX5_join_15 : decode cX5_join 15 = .ok (.iconst 0, 1) := by decide +kernel
theorem dX5_join_16 : decode cX5_join 16 = .ok (.iconst 3, 1) := by decide +kernel
theorem dX5_join_17 : decode cX5_join 17 = .ok (.invokestatic 67, 3) := by decide +kernel
theorem dX5_join_20 : decode cX5_join 20 = .ok (.ifCond .ne 5, 3) := by decide +kernel
theorem dX5_join_23 : decode cX5_join 23 = .ok (.iconst (-1), 1) := by decide +kernel
theorem dX5_join_24 : decode cX5_join 24 = .ok (.ireturn, 1) := by decide +kernel
theorem dX5_join_25 : decode cX5_join 25 = .ok (.aload_n 0, 1) := by decide +kernel
theorem dX5_join_26 : decode cX5_join 26 = .ok (.getfield 29, 3) := by decide +kernel
theorem dX5_join_29 : decode cX5_join 29 = .ok (.aload_n 0, 1) := by decide +kernel
theorem dX5_join_30 : decode cX5_join 30 = .ok (.getfield 10, 3) := by decide +kernel
theorem dX5_join_33 : decode cX5_join 33 = .ok (.aload_n 0, 1) := by decide +kernel
theorem dX5_join_34 : decode cX5_join 34 = .ok (.getfield 71, 3) := by decide +kernel
theorem dX5_join_37 : decode cX5_join 37 = .ok (.iload_n 1, 1) := by decide +kernel
theorem dX5_join_38 : decode cX5_join 38 = .ok (.iconst 1, 1) := by decide +kernel
theorem dX5_join_39 : decode cX5_join 39 = .ok (.iadd, 1) := by decide +kernel
theorem dX5_join_40 : decode cX5_join 40 = .ok (.invokevirtual 167, 3) := by decide +kernel
theorem dX5_join_43 : decode cX5_join 43 = .ok (.aload_n 0, 1) := by decide +kernel
theorem dX5_join_44 : decode cX5_join 44 = .ok (.getfield 29, 3) := by decide +kernel
theorem dX5_join_47 : decode cX5_join 47 = .ok (.iload_n 2, 1) := by decide +kernel
theorem dX5_join_48 : decode cX5_join 48 = .ok (.invokevirtual 171, 3) := by decide +kernel
theorem dX5_join_51 : decode cX5_join 51 = .ok (.ireturn, 1) := by decide +kernel
theorem dX5_bears_0 : decode cX5_bears 0 = .ok (.aload_n 0, 1) := by decide +kernel
theorem dX5_bears_1 : decode cX5_bears 1 = .ok (.iload_n 1, 1) := by decide +kernel
theorem dX5_bears_2 : decode cX5_bears 2 = .ok (.invokevirtual 100, 3) := by decide +kernel
theorem dX5_bears_5 : decode cX5_bears 5 = .ok (.ifCond .eq 13, 3) := by decide +kernel
theorem dX5_bears_8 : decode cX5_bears 8 = .ok (.iload_n 2, 1) := by decide +kernel
theorem dX5_bears_9 : decode cX5_bears 9 = .ok (.iconst 0, 1) := by decide +kernel
theorem dX5_bears_10 : decode cX5_bears 10 = .ok (.bipush 99, 2) := by decide +kernel
theorem dX5_bears_12 : decode cX5_bears 12 = .ok (.invokestatic 67, 3) := by decide +kernel
theorem dX5_bears_15 : decode cX5_bears 15 = .ok (.ifCond .ne 5, 3) := by decide +kernel
theorem dX5_bears_18 : decode cX5_bears 18 = .ok (.iconst (-1), 1) := by decide +kernel
theorem dX5_bears_19 : decode cX5_bears 19 = .ok (.ireturn, 1) := by decide +kernel
theorem dX5_bears_20 : decode cX5_bears 20 = .ok (.aload_n 0, 1) := by decide +kernel
theorem dX5_bears_21 : decode cX5_bears 21 = .ok (.getfield 47, 3) := by decide +kernel
theorem dX5_bears_24 : decode cX5_bears 24 = .ok (.iload_n 1, 1) := by decide +kernel
theorem dX5_bears_25 : decode cX5_bears 25 = .ok (.iaload, 1) := by decide +kernel
theorem dX5_bears_26 : decode cX5_bears 26 = .ok (.istore_n 3, 1) := by decide +kernel
theorem dX5_bears_27 : decode cX5_bears 27 = .ok (.aload_n 0, 1) := by decide +kernel
theorem dX5_bears_28 : decode cX5_bears 28 = .ok (.getfield 47, 3) := by decide +kernel
theorem dX5_bears_31 : decode cX5_bears 31 = .ok (.iload_n 1, 1) := by decide +kernel
theorem dX5_bears_32 : decode cX5_bears 32 = .ok (.iload_n 2, 1) := by decide +kernel
theorem dX5_bears_33 : decode cX5_bears 33 = .ok (.iastore, 1) := by decide +kernel
theorem dX5_bears_34 : decode cX5_bears 34 = .ok (.iload_n 3, 1) := by decide +kernel
theorem dX5_bears_35 : decode cX5_bears 35 = .ok (.ireturn, 1) := by decide +kernel
theorem dX5_load_0 : decode cX5_load 0 = .ok (.aload_n 0, 1) := by decide +kernel
theorem dX5_load_1 : decode cX5_load 1 = .ok (.iload_n 1, 1) := by decide +kernel
theorem dX5_load_2 : decode cX5_load 2 = .ok (.invokevirtual 100, 3) := by decide +kernel
theorem dX5_load_5 : decode cX5_load 5 = .ok (.ifCond .ne 5, 3) := by decide +kernel
theorem dX5_load_8 : decode cX5_load 8 = .ok (.iconst (-1), 1) := by decide +kernel
theorem dX5_load_9 : decode cX5_load 9 = .ok (.ireturn, 1) := by decide +kernel
theorem dX5_load_10 : decode cX5_load 10 = .ok (.aload_n 0, 1) := by decide +kernel
theorem dX5_load_11 : decode cX5_load 11 = .ok (.getfield 10, 3) := by decide +kernel
theorem dX5_load_14 : decode cX5_load 14 = .ok (.aload_n 0, 1) := by decide +kernel
theorem dX5_load_15 : decode cX5_load 15 = .ok (.getfield 10, 3) := by decide +kernel
theorem dX5_load_18 : decode cX5_load 18 = .ok (.invokevirtual 174, 3) := by decide +kernel
theorem dX5_load_21 : decode cX5_load 21 = .ok (.iload_n 1, 1) := by decide +kernel
theorem dX5_load_22 : decode cX5_load 22 = .ok (.invokevirtual 177, 3) := by decide +kernel
theorem dX5_load_25 : decode cX5_load 25 = .ok (.ireturn, 1) := by decide +kernel
theorem dX5_routes_0 : decode cX5_routes 0 = .ok (.iload_n 1, 1) := by decide +kernel
theorem dX5_routes_1 : decode cX5_routes 1 = .ok (.iconst 0, 1) := by decide +kernel
theorem dX5_routes_2 : decode cX5_routes 2 = .ok (.iconst 1, 1) := by decide +kernel
theorem dX5_routes_3 : decode cX5_routes 3 = .ok (.invokestatic 67, 3) := by decide +kernel
theorem dX5_routes_6 : decode cX5_routes 6 = .ok (.ifCond .ne 5, 3) := by decide +kernel
theorem dX5_routes_9 : decode cX5_routes 9 = .ok (.iconst (-1), 1) := by decide +kernel
theorem dX5_routes_10 : decode cX5_routes 10 = .ok (.ireturn, 1) := by decide +kernel
theorem dX5_routes_11 : decode cX5_routes 11 = .ok (.aload_n 0, 1) := by decide +kernel
theorem dX5_routes_12 : decode cX5_routes 12 = .ok (.invokevirtual 180, 3) := by decide +kernel
theorem dX5_routes_15 : decode cX5_routes 15 = .ok (.istore_n 2, 1) := by decide +kernel
theorem dX5_routes_16 : decode cX5_routes 16 = .ok (.iload_n 2, 1) := by decide +kernel
theorem dX5_routes_17 : decode cX5_routes 17 = .ok (.ifCond .ge 6, 3) := by decide +kernel
theorem dX5_routes_20 : decode cX5_routes 20 = .ok (.bipush (-2), 2) := by decide +kernel
theorem dX5_routes_22 : decode cX5_routes 22 = .ok (.ireturn, 1) := by decide +kernel
theorem dX5_routes_23 : decode cX5_routes 23 = .ok (.iload_n 1, 1) := by decide +kernel
theorem dX5_routes_24 : decode cX5_routes 24 = .ok (.ifCond .ne 7, 3) := by decide +kernel
theorem dX5_routes_27 : decode cX5_routes 27 = .ok (.iload_n 2, 1) := by decide +kernel
theorem dX5_routes_28 : decode cX5_routes 28 = .ok (.goto 15, 3) := by decide +kernel
theorem dX5_routes_31 : decode cX5_routes 31 = .ok (.aload_n 0, 1) := by decide +kernel
theorem dX5_routes_32 : decode cX5_routes 32 = .ok (.getfield 10, 3) := by decide +kernel
theorem dX5_routes_35 : decode cX5_routes 35 = .ok (.iload_n 2, 1) := by decide +kernel
theorem dX5_routes_36 : decode cX5_routes 36 = .ok (.aload_n 0, 1) := by decide +kernel
theorem dX5_routes_37 : decode cX5_routes 37 = .ok (.getfield 19, 3) := by decide +kernel
theorem dX5_routes_40 : decode cX5_routes 40 = .ok (.invokevirtual 183, 3) := by decide +kernel
theorem dX5_routes_43 : decode cX5_routes 43 = .ok (.ireturn, 1) := by decide +kernel
theorem dX5_price_0 : decode cX5_price 0 = .ok (.aload_n 0, 1) := by decide +kernel
theorem dX5_price_1 : decode cX5_price 1 = .ok (.iload_n 1, 1) := by decide +kernel
theorem dX5_price_2 : decode cX5_price 2 = .ok (.invokevirtual 100, 3) := by decide +kernel
theorem dX5_price_5 : decode cX5_price 5 = .ok (.ifCond .eq 13, 3) := by decide +kernel
theorem dX5_price_8 : decode cX5_price 8 = .ok (.iload_n 2, 1) := by decide +kernel
theorem dX5_price_9 : decode cX5_price 9 = .ok (.iconst 1, 1) := by decide +kernel
theorem dX5_price_10 : decode cX5_price 10 = .ok (.bipush 50, 2) := by decide +kernel
theorem dX5_price_12 : decode cX5_price 12 = .ok (.invokestatic 67, 3) := by decide +kernel
theorem dX5_price_15 : decode cX5_price 15 = .ok (.ifCond .ne 5, 3) := by decide +kernel
theorem dX5_price_18 : decode cX5_price 18 = .ok (.iconst (-1), 1) := by decide +kernel
theorem dX5_price_19 : decode cX5_price 19 = .ok (.ireturn, 1) := by decide +kernel
theorem dX5_price_20 : decode cX5_price 20 = .ok (.aload_n 0, 1) := by decide +kernel
theorem dX5_price_21 : decode cX5_price 21 = .ok (.getfield 51, 3) := by decide +kernel
theorem dX5_price_24 : decode cX5_price 24 = .ok (.iload_n 1, 1) := by decide +kernel
theorem dX5_price_25 : decode cX5_price 25 = .ok (.iaload, 1) := by decide +kernel
theorem dX5_price_26 : decode cX5_price 26 = .ok (.istore_n 3, 1) := by decide +kernel
theorem dX5_price_27 : decode cX5_price 27 = .ok (.aload_n 0, 1) := by decide +kernel
theorem dX5_price_28 : decode cX5_price 28 = .ok (.getfield 51, 3) := by decide +kernel
theorem dX5_price_31 : decode cX5_price 31 = .ok (.iload_n 1, 1) := by decide +kernel
theorem dX5_price_32 : decode cX5_price 32 = .ok (.iload_n 2, 1) := by decide +kernel
theorem dX5_price_33 : decode cX5_price 33 = .ok (.iastore, 1) := by decide +kernel
theorem dX5_price_34 : decode cX5_price 34 = .ok (.iload_n 3, 1) := by decide +kernel
theorem dX5_price_35 : decode cX5_price 35 = .ok (.ireturn, 1) := by decide +kernel
theorem dX5_copy_0 : decode cX5_copy 0 = .ok (.aload_n 0, 1) := by decide +kernel
theorem dX5_copy_1 : decode cX5_copy 1 = .ok (.iload_n 1, 1) := by decide +kernel
theorem dX5_copy_2 : decode cX5_copy 2 = .ok (.invokevirtual 100, 3) := by decide +kernel
theorem dX5_copy_5 : decode cX5_copy 5 = .ok (.ifCond .eq 22, 3) := by decide +kernel
theorem dX5_copy_8 : decode cX5_copy 8 = .ok (.iload_n 2, 1) := by decide +kernel
theorem dX5_copy_9 : decode cX5_copy 9 = .ok (.invokestatic 103, 3) := by decide +kernel
theorem dX5_copy_12 : decode cX5_copy 12 = .ok (.ifCond .eq 15, 3) := by decide +kernel
theorem dX5_copy_15 : decode cX5_copy 15 = .ok (.aload_n 0, 1) := by decide +kernel
theorem dX5_copy_16 : decode cX5_copy 16 = .ok (.getfield 19, 3) := by decide +kernel
theorem dX5_copy_19 : decode cX5_copy 19 = .ok (.iload_n 1, 1) := by decide +kernel
theorem dX5_copy_20 : decode cX5_copy 20 = .ok (.invokevirtual 106, 3) := by decide +kernel
theorem dX5_copy_23 : decode cX5_copy 23 = .ok (.iload_n 2, 1) := by decide +kernel
theorem dX5_copy_24 : decode cX5_copy 24 = .ok (.if_icmp .ne 5, 3) := by decide +kernel
theorem dX5_copy_27 : decode cX5_copy 27 = .ok (.iconst (-1), 1) := by decide +kernel
theorem dX5_copy_28 : decode cX5_copy 28 = .ok (.ireturn, 1) := by decide +kernel
theorem dX5_copy_29 : decode cX5_copy 29 = .ok (.aload_n 0, 1) := by decide +kernel
theorem dX5_copy_30 : decode cX5_copy 30 = .ok (.getfield 10, 3) := by decide +kernel
theorem dX5_copy_33 : decode cX5_copy 33 = .ok (.iload_n 1, 1) := by decide +kernel
theorem dX5_copy_34 : decode cX5_copy 34 = .ok (.iload_n 2, 1) := by decide +kernel
theorem dX5_copy_35 : decode cX5_copy 35 = .ok (.aload_n 0, 1) := by decide +kernel
theorem dX5_copy_36 : decode cX5_copy 36 = .ok (.getfield 19, 3) := by decide +kernel
theorem dX5_copy_39 : decode cX5_copy 39 = .ok (.invokevirtual 187, 3) := by decide +kernel
theorem dX5_copy_42 : decode cX5_copy 42 = .ok (.ireturn, 1) := by decide +kernel
theorem dX5_saved_0 : decode cX5_saved 0 = .ok (.iload_n 1, 1) := by decide +kernel
theorem dX5_saved_1 : decode cX5_saved 1 = .ok (.iconst 0, 1) := by decide +kernel
theorem dX5_saved_2 : decode cX5_saved 2 = .ok (.sipush 200, 3) := by decide +kernel
theorem dX5_saved_5 : decode cX5_saved 5 = .ok (.invokestatic 67, 3) := by decide +kernel
theorem dX5_saved_8 : decode cX5_saved 8 = .ok (.ifCond .ne 5, 3) := by decide +kernel
theorem dX5_saved_11 : decode cX5_saved 11 = .ok (.iconst (-1), 1) := by decide +kernel
theorem dX5_saved_12 : decode cX5_saved 12 = .ok (.ireturn, 1) := by decide +kernel
theorem dX5_saved_13 : decode cX5_saved 13 = .ok (.aload_n 0, 1) := by decide +kernel
theorem dX5_saved_14 : decode cX5_saved 14 = .ok (.getfield 60, 3) := by decide +kernel
theorem dX5_saved_17 : decode cX5_saved 17 = .ok (.iconst 0, 1) := by decide +kernel
theorem dX5_saved_18 : decode cX5_saved 18 = .ok (.invokestatic 191, 3) := by decide +kernel
theorem dX5_saved_21 : decode cX5_saved 21 = .ok (.iconst 0, 1) := by decide +kernel
theorem dX5_saved_22 : decode cX5_saved 22 = .ok (.istore_n 2, 1) := by decide +kernel
theorem dX5_saved_23 : decode cX5_saved 23 = .ok (.iload_n 2, 1) := by decide +kernel
theorem dX5_saved_24 : decode cX5_saved 24 = .ok (.aload_n 0, 1) := by decide +kernel
theorem dX5_saved_25 : decode cX5_saved 25 = .ok (.getfield 71, 3) := by decide +kernel
theorem dX5_saved_28 : decode cX5_saved 28 = .ok (.if_icmp .ge 15, 3) := by decide +kernel
theorem dX5_saved_31 : decode cX5_saved 31 = .ok (.aload_n 0, 1) := by decide +kernel
theorem dX5_saved_32 : decode cX5_saved 32 = .ok (.iload_n 2, 1) := by decide +kernel
theorem dX5_saved_33 : decode cX5_saved 33 = .ok (.iload_n 1, 1) := by decide +kernel
theorem dX5_saved_34 : decode cX5_saved 34 = .ok (.invokevirtual 197, 3) := by decide +kernel
theorem dX5_saved_37 : decode cX5_saved 37 = .ok (.iinc 2 1, 3) := by decide +kernel
theorem dX5_saved_40 : decode cX5_saved 40 = .ok (.goto (-17), 3) := by decide +kernel
theorem dX5_saved_43 : decode cX5_saved 43 = .ok (.aload_n 0, 1) := by decide +kernel
theorem dX5_saved_44 : decode cX5_saved 44 = .ok (.getfield 60, 3) := by decide +kernel
theorem dX5_saved_47 : decode cX5_saved 47 = .ok (.iload_n 1, 1) := by decide +kernel
theorem dX5_saved_48 : decode cX5_saved 48 = .ok (.iaload, 1) := by decide +kernel
theorem dX5_saved_49 : decode cX5_saved 49 = .ok (.ireturn, 1) := by decide +kernel
theorem dX5_way_0 : decode cX5_way 0 = .ok (.iload_n 1, 1) := by decide +kernel
theorem dX5_way_1 : decode cX5_way 1 = .ok (.invokestatic 103, 3) := by decide +kernel
theorem dX5_way_4 : decode cX5_way 4 = .ok (.ifCond .eq 25, 3) := by decide +kernel
theorem dX5_way_7 : decode cX5_way 7 = .ok (.iload_n 2, 1) := by decide +kernel
theorem dX5_way_8 : decode cX5_way 8 = .ok (.invokestatic 103, 3) := by decide +kernel
theorem dX5_way_11 : decode cX5_way 11 = .ok (.ifCond .eq 18, 3) := by decide +kernel
theorem dX5_way_14 : decode cX5_way 14 = .ok (.iload_n 3, 1) := by decide +kernel
theorem dX5_way_15 : decode cX5_way 15 = .ok (.invokestatic 103, 3) := by decide +kernel
theorem dX5_way_18 : decode cX5_way 18 = .ok (.ifCond .eq 11, 3) := by decide +kernel
theorem dX5_way_21 : decode cX5_way 21 = .ok (.iload 4, 2) := by decide +kernel
theorem dX5_way_23 : decode cX5_way 23 = .ok (.invokestatic 103, 3) := by decide +kernel
theorem dX5_way_26 : decode cX5_way 26 = .ok (.ifCond .ne 5, 3) := by decide +kernel
theorem dX5_way_29 : decode cX5_way 29 = .ok (.iconst (-1), 1) := by decide +kernel
theorem dX5_way_30 : decode cX5_way 30 = .ok (.ireturn, 1) := by decide +kernel
theorem dX5_way_31 : decode cX5_way 31 = .ok (.iload_n 1, 1) := by decide +kernel
theorem dX5_way_32 : decode cX5_way 32 = .ok (.iload_n 2, 1) := by decide +kernel
theorem dX5_way_33 : decode cX5_way 33 = .ok (.iload_n 3, 1) := by decide +kernel
theorem dX5_way_34 : decode cX5_way 34 = .ok (.iload 4, 2) := by decide +kernel
end
section
theorem dX5_way_36 : decode cX5_way 36 = .ok (.invokestatic 200, 3) := by decide +kernel
theorem dX5_way_39 : decode cX5_way 39 = .ok (.istore 5, 2) := by decide +kernel
theorem dX5_way_41 : decode cX5_way 41 = .ok (.iload 5, 2) := by decide +kernel
theorem dX5_way_43 : decode cX5_way 43 = .ok (.invokestatic 204, 3) := by decide +kernel
theorem dX5_way_46 : decode cX5_way 46 = .ok (.ifCond .ne 5, 3) := by decide +kernel
theorem dX5_way_49 : decode cX5_way 49 = .ok (.iconst (-1), 1) := by decide +kernel
theorem dX5_way_50 : decode cX5_way 50 = .ok (.ireturn, 1) := by decide +kernel
theorem dX5_way_51 : decode cX5_way 51 = .ok (.aload_n 0, 1) := by decide +kernel
theorem dX5_way_52 : decode cX5_way 52 = .ok (.getfield 36, 3) := by decide +kernel
theorem dX5_way_55 : decode cX5_way 55 = .ok (.aload_n 0, 1) := by decide +kernel
theorem dX5_way_56 : decode cX5_way 56 = .ok (.getfield 10, 3) := by decide +kernel
theorem dX5_way_59 : decode cX5_way 59 = .ok (.aload_n 0, 1) := by decide +kernel
theorem dX5_way_60 : decode cX5_way 60 = .ok (.getfield 19, 3) := by decide +kernel
theorem dX5_way_63 : decode cX5_way 63 = .ok (.aload_n 0, 1) := by decide +kernel
theorem dX5_way_64 : decode cX5_way 64 = .ok (.getfield 71, 3) := by decide +kernel
theorem dX5_way_67 : decode cX5_way 67 = .ok (.invokevirtual 207, 3) := by decide +kernel
theorem dX5_way_70 : decode cX5_way 70 = .ok (.aload_n 0, 1) := by decide +kernel
theorem dX5_way_71 : decode cX5_way 71 = .ok (.getfield 36, 3) := by decide +kernel
theorem dX5_way_74 : decode cX5_way 74 = .ok (.iload 5, 2) := by decide +kernel
theorem dX5_way_76 : decode cX5_way 76 = .ok (.invokevirtual 211, 3) := by decide +kernel
theorem dX5_way_79 : decode cX5_way 79 = .ok (.ireturn, 1) := by decide +kernel
theorem dX5_floor_0 : decode cX5_floor 0 = .ok (.iload_n 1, 1) := by decide +kernel
theorem dX5_floor_1 : decode cX5_floor 1 = .ok (.iconst 0, 1) := by decide +kernel
theorem dX5_floor_2 : decode cX5_floor 2 = .ok (.iconst 4, 1) := by decide +kernel
theorem dX5_floor_3 : decode cX5_floor 3 = .ok (.invokestatic 67, 3) := by decide +kernel
theorem dX5_floor_6 : decode cX5_floor 6 = .ok (.ifCond .ne 5, 3) := by decide +kernel
theorem dX5_floor_9 : decode cX5_floor 9 = .ok (.iconst (-1), 1) := by decide +kernel
theorem dX5_floor_10 : decode cX5_floor 10 = .ok (.ireturn, 1) := by decide +kernel
theorem dX5_floor_11 : decode cX5_floor 11 = .ok (.aload_n 0, 1) := by decide +kernel
theorem dX5_floor_12 : decode cX5_floor 12 = .ok (.getfield 36, 3) := by decide +kernel
theorem dX5_floor_15 : decode cX5_floor 15 = .ok (.aload_n 0, 1) := by decide +kernel
theorem dX5_floor_16 : decode cX5_floor 16 = .ok (.getfield 10, 3) := by decide +kernel
theorem dX5_floor_19 : decode cX5_floor 19 = .ok (.aload_n 0, 1) := by decide +kernel
theorem dX5_floor_20 : decode cX5_floor 20 = .ok (.getfield 19, 3) := by decide +kernel
theorem dX5_floor_23 : decode cX5_floor 23 = .ok (.aload_n 0, 1) := by decide +kernel
theorem dX5_floor_24 : decode cX5_floor 24 = .ok (.getfield 71, 3) := by decide +kernel
theorem dX5_floor_27 : decode cX5_floor 27 = .ok (.invokevirtual 207, 3) := by decide +kernel
theorem dX5_floor_30 : decode cX5_floor 30 = .ok (.aload_n 0, 1) := by decide +kernel
theorem dX5_floor_31 : decode cX5_floor 31 = .ok (.getfield 36, 3) := by decide +kernel
theorem dX5_floor_34 : decode cX5_floor 34 = .ok (.invokevirtual 214, 3) := by decide +kernel
theorem dX5_floor_37 : decode cX5_floor 37 = .ok (.istore_n 2, 1) := by decide +kernel
theorem dX5_floor_38 : decode cX5_floor 38 = .ok (.iload_n 1, 1) := by decide +kernel
theorem dX5_floor_39 : decode cX5_floor 39 = .ok (.iconst 4, 1) := by decide +kernel
theorem dX5_floor_40 : decode cX5_floor 40 = .ok (.if_icmp .ne 14, 3) := by decide +kernel
theorem dX5_floor_43 : decode cX5_floor 43 = .ok (.aload_n 0, 1) := by decide +kernel
theorem dX5_floor_44 : decode cX5_floor 44 = .ok (.getfield 36, 3) := by decide +kernel
theorem dX5_floor_47 : decode cX5_floor 47 = .ok (.iload_n 2, 1) := by decide +kernel
theorem dX5_floor_48 : decode cX5_floor 48 = .ok (.invokevirtual 211, 3) := by decide +kernel
theorem dX5_floor_51 : decode cX5_floor 51 = .ok (.goto 8, 3) := by decide +kernel
theorem dX5_floor_54 : decode cX5_floor 54 = .ok (.iload_n 2, 1) := by decide +kernel
theorem dX5_floor_55 : decode cX5_floor 55 = .ok (.iload_n 1, 1) := by decide +kernel
theorem dX5_floor_56 : decode cX5_floor 56 = .ok (.invokestatic 217, 3) := by decide +kernel
theorem dX5_floor_59 : decode cX5_floor 59 = .ok (.ireturn, 1) := by decide +kernel
theorem dX5_keep_0 : decode cX5_keep 0 = .ok (.iload_n 1, 1) := by decide +kernel
theorem dX5_keep_1 : decode cX5_keep 1 = .ok (.iconst 0, 1) := by decide +kernel
theorem dX5_keep_2 : decode cX5_keep 2 = .ok (.iconst 3, 1) := by decide +kernel
theorem dX5_keep_3 : decode cX5_keep 3 = .ok (.invokestatic 67, 3) := by decide +kernel
theorem dX5_keep_6 : decode cX5_keep 6 = .ok (.ifCond .ne 5, 3) := by decide +kernel
theorem dX5_keep_9 : decode cX5_keep 9 = .ok (.iconst (-1), 1) := by decide +kernel
theorem dX5_keep_10 : decode cX5_keep 10 = .ok (.ireturn, 1) := by decide +kernel
theorem dX5_keep_11 : decode cX5_keep 11 = .ok (.aload_n 0, 1) := by decide +kernel
theorem dX5_keep_12 : decode cX5_keep 12 = .ok (.getfield 54, 3) := by decide +kernel
theorem dX5_keep_15 : decode cX5_keep 15 = .ok (.iload_n 1, 1) := by decide +kernel
theorem dX5_keep_16 : decode cX5_keep 16 = .ok (.aload_n 0, 1) := by decide +kernel
theorem dX5_keep_17 : decode cX5_keep 17 = .ok (.getfield 19, 3) := by decide +kernel
theorem dX5_keep_20 : decode cX5_keep 20 = .ok (.invokevirtual 116, 3) := by decide +kernel
theorem dX5_keep_23 : decode cX5_keep 23 = .ok (.iastore, 1) := by decide +kernel
theorem dX5_keep_24 : decode cX5_keep 24 = .ok (.aload_n 0, 1) := by decide +kernel
theorem dX5_keep_25 : decode cX5_keep 25 = .ok (.getfield 54, 3) := by decide +kernel
theorem dX5_keep_28 : decode cX5_keep 28 = .ok (.iload_n 1, 1) := by decide +kernel
theorem dX5_keep_29 : decode cX5_keep 29 = .ok (.iaload, 1) := by decide +kernel
theorem dX5_keep_30 : decode cX5_keep 30 = .ok (.ireturn, 1) := by decide +kernel
theorem dX5_year_0 : decode cX5_year 0 = .ok (.iload_n 1, 1) := by decide +kernel
theorem dX5_year_1 : decode cX5_year 1 = .ok (.iconst 0, 1) := by decide +kernel
theorem dX5_year_2 : decode cX5_year 2 = .ok (.bipush 9, 2) := by decide +kernel
theorem dX5_year_4 : decode cX5_year 4 = .ok (.invokestatic 67, 3) := by decide +kernel
theorem dX5_year_7 : decode cX5_year 7 = .ok (.ifCond .ne 5, 3) := by decide +kernel
theorem dX5_year_10 : decode cX5_year 10 = .ok (.iconst (-1), 1) := by decide +kernel
theorem dX5_year_11 : decode cX5_year 11 = .ok (.ireturn, 1) := by decide +kernel
theorem dX5_year_12 : decode cX5_year 12 = .ok (.aload_n 0, 1) := by decide +kernel
theorem dX5_year_13 : decode cX5_year 13 = .ok (.getfield 43, 3) := by decide +kernel
theorem dX5_year_16 : decode cX5_year 16 = .ok (.invokevirtual 220, 3) := by decide +kernel
theorem dX5_year_19 : decode cX5_year 19 = .ok (.bipush 6, 2) := by decide +kernel
theorem dX5_year_21 : decode cX5_year 21 = .ok (.if_icmp .lt 6, 3) := by decide +kernel
theorem dX5_year_24 : decode cX5_year 24 = .ok (.bipush (-3), 2) := by decide +kernel
theorem dX5_year_26 : decode cX5_year 26 = .ok (.ireturn, 1) := by decide +kernel
theorem dX5_year_27 : decode cX5_year 27 = .ok (.aload_n 0, 1) := by decide +kernel
theorem dX5_year_28 : decode cX5_year 28 = .ok (.getfield 43, 3) := by decide +kernel
theorem dX5_year_31 : decode cX5_year 31 = .ok (.iload_n 1, 1) := by decide +kernel
theorem dX5_year_32 : decode cX5_year 32 = .ok (.invokevirtual 223, 3) := by decide +kernel
theorem dX5_year_35 : decode cX5_year 35 = .ok (.aload_n 0, 1) := by decide +kernel
theorem dX5_year_36 : decode cX5_year 36 = .ok (.getfield 43, 3) := by decide +kernel
theorem dX5_year_39 : decode cX5_year 39 = .ok (.invokevirtual 220, 3) := by decide +kernel
theorem dX5_year_42 : decode cX5_year 42 = .ok (.ireturn, 1) := by decide +kernel
theorem dX5_change_0 : decode cX5_change 0 = .ok (.iload_n 1, 1) := by decide +kernel
theorem dX5_change_1 : decode cX5_change 1 = .ok (.iconst 0, 1) := by decide +kernel
theorem dX5_change_2 : decode cX5_change 2 = .ok (.bipush 50, 2) := by decide +kernel
theorem dX5_change_4 : decode cX5_change 4 = .ok (.invokestatic 67, 3) := by decide +kernel
theorem dX5_change_7 : decode cX5_change 7 = .ok (.ifCond .ne 5, 3) := by decide +kernel
theorem dX5_change_10 : decode cX5_change 10 = .ok (.iconst (-1), 1) := by decide +kernel
theorem dX5_change_11 : decode cX5_change 11 = .ok (.ireturn, 1) := by decide +kernel
theorem dX5_change_12 : decode cX5_change 12 = .ok (.aload_n 0, 1) := by decide +kernel
theorem dX5_change_13 : decode cX5_change 13 = .ok (.getfield 43, 3) := by decide +kernel
theorem dX5_change_16 : decode cX5_change 16 = .ok (.invokevirtual 227, 3) := by decide +kernel
theorem dX5_change_19 : decode cX5_change 19 = .ok (.istore_n 2, 1) := by decide +kernel
theorem dX5_change_20 : decode cX5_change 20 = .ok (.aload_n 0, 1) := by decide +kernel
theorem dX5_change_21 : decode cX5_change 21 = .ok (.getfield 43, 3) := by decide +kernel
theorem dX5_change_24 : decode cX5_change 24 = .ok (.iload_n 1, 1) := by decide +kernel
theorem dX5_change_25 : decode cX5_change 25 = .ok (.invokevirtual 230, 3) := by decide +kernel
theorem dX5_change_28 : decode cX5_change 28 = .ok (.iload_n 2, 1) := by decide +kernel
theorem dX5_change_29 : decode cX5_change 29 = .ok (.ireturn, 1) := by decide +kernel
theorem dX5_plan_0 : decode cX5_plan 0 = .ok (.aload_n 0, 1) := by decide +kernel
theorem dX5_plan_1 : decode cX5_plan 1 = .ok (.getfield 43, 3) := by decide +kernel
theorem dX5_plan_4 : decode cX5_plan 4 = .ok (.invokevirtual 220, 3) := by decide +kernel
theorem dX5_plan_7 : decode cX5_plan 7 = .ok (.ifCond .ne 6, 3) := by decide +kernel
theorem dX5_plan_10 : decode cX5_plan 10 = .ok (.bipush (-2), 2) := by decide +kernel
theorem dX5_plan_12 : decode cX5_plan 12 = .ok (.ireturn, 1) := by decide +kernel
theorem dX5_plan_13 : decode cX5_plan 13 = .ok (.iconst 0, 1) := by decide +kernel
theorem dX5_plan_14 : decode cX5_plan 14 = .ok (.istore_n 1, 1) := by decide +kernel
theorem dX5_plan_15 : decode cX5_plan 15 = .ok (.iload_n 1, 1) := by decide +kernel
theorem dX5_plan_16 : decode cX5_plan 16 = .ok (.iconst 4, 1) := by decide +kernel
theorem dX5_plan_17 : decode cX5_plan 17 = .ok (.if_icmp .ge 50, 3) := by decide +kernel
theorem dX5_plan_20 : decode cX5_plan 20 = .ok (.aload_n 0, 1) := by decide +kernel
theorem dX5_plan_21 : decode cX5_plan 21 = .ok (.getfield 23, 3) := by decide +kernel
theorem dX5_plan_24 : decode cX5_plan 24 = .ok (.aload_n 0, 1) := by decide +kernel
theorem dX5_plan_25 : decode cX5_plan 25 = .ok (.getfield 54, 3) := by decide +kernel
theorem dX5_plan_28 : decode cX5_plan 28 = .ok (.iload_n 1, 1) := by decide +kernel
theorem dX5_plan_29 : decode cX5_plan 29 = .ok (.iaload, 1) := by decide +kernel
theorem dX5_plan_30 : decode cX5_plan 30 = .ok (.aload_n 0, 1) := by decide +kernel
theorem dX5_plan_31 : decode cX5_plan 31 = .ok (.getfield 71, 3) := by decide +kernel
theorem dX5_plan_34 : decode cX5_plan 34 = .ok (.invokevirtual 119, 3) := by decide +kernel
theorem dX5_plan_37 : decode cX5_plan 37 = .ok (.aload_n 0, 1) := by decide +kernel
theorem dX5_plan_38 : decode cX5_plan 38 = .ok (.getfield 57, 3) := by decide +kernel
theorem dX5_plan_41 : decode cX5_plan 41 = .ok (.iload_n 1, 1) := by decide +kernel
theorem dX5_plan_42 : decode cX5_plan 42 = .ok (.aload_n 0, 1) := by decide +kernel
theorem dX5_plan_43 : decode cX5_plan 43 = .ok (.getfield 10, 3) := by decide +kernel
theorem dX5_plan_46 : decode cX5_plan 46 = .ok (.aload_n 0, 1) := by decide +kernel
theorem dX5_plan_47 : decode cX5_plan 47 = .ok (.getfield 10, 3) := by decide +kernel
theorem dX5_plan_50 : decode cX5_plan 50 = .ok (.invokevirtual 174, 3) := by decide +kernel
theorem dX5_plan_53 : decode cX5_plan 53 = .ok (.aload_n 0, 1) := by decide +kernel
theorem dX5_plan_54 : decode cX5_plan 54 = .ok (.getfield 23, 3) := by decide +kernel
theorem dX5_plan_57 : decode cX5_plan 57 = .ok (.invokevirtual 183, 3) := by decide +kernel
theorem dX5_plan_60 : decode cX5_plan 60 = .ok (.iastore, 1) := by decide +kernel
theorem dX5_plan_61 : decode cX5_plan 61 = .ok (.iinc 1 1, 3) := by decide +kernel
theorem dX5_plan_64 : decode cX5_plan 64 = .ok (.goto (-49), 3) := by decide +kernel
theorem dX5_plan_67 : decode cX5_plan 67 = .ok (.aload_n 0, 1) := by decide +kernel
theorem dX5_plan_68 : decode cX5_plan 68 = .ok (.getfield 43, 3) := by decide +kernel
theorem dX5_plan_71 : decode cX5_plan 71 = .ok (.aload_n 0, 1) := by decide +kernel
theorem dX5_plan_72 : decode cX5_plan 72 = .ok (.getfield 54, 3) := by decide +kernel
theorem dX5_plan_75 : decode cX5_plan 75 = .ok (.aload_n 0, 1) := by decide +kernel
theorem dX5_plan_76 : decode cX5_plan 76 = .ok (.getfield 57, 3) := by decide +kernel
theorem dX5_plan_79 : decode cX5_plan 79 = .ok (.invokevirtual 233, 3) := by decide +kernel
theorem dX5_plan_82 : decode cX5_plan 82 = .ok (.ireturn, 1) := by decide +kernel
theorem dX5_count_0 : decode cX5_count 0 = .ok (.iload_n 1, 1) := by decide +kernel
theorem dX5_count_1 : decode cX5_count 1 = .ok (.tableswitch 71 0 4 #[35, 40, 48, 56, 64], 35) := by decide +kernel
theorem dX5_count_36 : decode cX5_count 36 = .ok (.aload_n 0, 1) := by decide +kernel
theorem dX5_count_37 : decode cX5_count 37 = .ok (.getfield 71, 3) := by decide +kernel
theorem dX5_count_40 : decode cX5_count 40 = .ok (.ireturn, 1) := by decide +kernel
theorem dX5_count_41 : decode cX5_count 41 = .ok (.aload_n 0, 1) := by decide +kernel
theorem dX5_count_42 : decode cX5_count 42 = .ok (.getfield 10, 3) := by decide +kernel
theorem dX5_count_45 : decode cX5_count 45 = .ok (.invokevirtual 237, 3) := by decide +kernel
theorem dX5_count_48 : decode cX5_count 48 = .ok (.ireturn, 1) := by decide +kernel
theorem dX5_count_49 : decode cX5_count 49 = .ok (.aload_n 0, 1) := by decide +kernel
theorem dX5_count_50 : decode cX5_count 50 = .ok (.getfield 19, 3) := by decide +kernel
theorem dX5_count_53 : decode cX5_count 53 = .ok (.invokevirtual 116, 3) := by decide +kernel
theorem dX5_count_56 : decode cX5_count 56 = .ok (.ireturn, 1) := by decide +kernel
theorem dX5_count_57 : decode cX5_count 57 = .ok (.aload_n 0, 1) := by decide +kernel
theorem dX5_count_58 : decode cX5_count 58 = .ok (.getfield 43, 3) := by decide +kernel
theorem dX5_count_61 : decode cX5_count 61 = .ok (.invokevirtual 220, 3) := by decide +kernel
theorem dX5_count_64 : decode cX5_count 64 = .ok (.ireturn, 1) := by decide +kernel
theorem dX5_count_65 : decode cX5_count 65 = .ok (.aload_n 0, 1) := by decide +kernel
theorem dX5_count_66 : decode cX5_count 66 = .ok (.getfield 54, 3) := by decide +kernel
theorem dX5_count_69 : decode cX5_count 69 = .ok (.iconst 0, 1) := by decide +kernel
theorem dX5_count_70 : decode cX5_count 70 = .ok (.iaload, 1) := by decide +kernel
theorem dX5_count_71 : decode cX5_count 71 = .ok (.ireturn, 1) := by decide +kernel
theorem dX5_count_72 : decode cX5_count 72 = .ok (.iconst (-1), 1) := by decide +kernel
theorem dX5_count_73 : decode cX5_count 73 = .ok (.ireturn, 1) := by decide +kernel
theorem dX5_trace_0 : decode cX5_trace 0 = .ok (.aload_n 0, 1) := by decide +kernel
theorem dX5_trace_1 : decode cX5_trace 1 = .ok (.getfield 137, 3) := by decide +kernel
theorem dX5_trace_4 : decode cX5_trace 4 = .ok (.lreturn, 1) := by decide +kernel
theorem dX5_begin_0 : decode cX5_begin 0 = .ok (.aload_n 0, 1) := by decide +kernel
theorem dX5_begin_1 : decode cX5_begin 1 = .ok (.iload_n 1, 1) := by decide +kernel
theorem dX5_begin_2 : decode cX5_begin 2 = .ok (.putfield 71, 3) := by decide +kernel
theorem dX5_begin_5 : decode cX5_begin 5 = .ok (.aload_n 0, 1) := by decide +kernel
theorem dX5_begin_6 : decode cX5_begin 6 = .ok (.getfield 10, 3) := by decide +kernel
theorem dX5_begin_9 : decode cX5_begin 9 = .ok (.iload_n 2, 1) := by decide +kernel
theorem dX5_begin_10 : decode cX5_begin 10 = .ok (.invokevirtual 238, 3) := by decide +kernel
theorem dX5_begin_13 : decode cX5_begin 13 = .ok (.aload_n 0, 1) := by decide +kernel
theorem dX5_begin_14 : decode cX5_begin 14 = .ok (.getfield 19, 3) := by decide +kernel
theorem dX5_begin_17 : decode cX5_begin 17 = .ok (.iconst 0, 1) := by decide +kernel
theorem dX5_begin_18 : decode cX5_begin 18 = .ok (.iload_n 1, 1) := by decide +kernel
theorem dX5_begin_19 : decode cX5_begin 19 = .ok (.invokevirtual 119, 3) := by decide +kernel
theorem dX5_begin_22 : decode cX5_begin 22 = .ok (.aload_n 0, 1) := by decide +kernel
theorem dX5_begin_23 : decode cX5_begin 23 = .ok (.getfield 47, 3) := by decide +kernel
theorem dX5_begin_26 : decode cX5_begin 26 = .ok (.bipush 99, 2) := by decide +kernel
theorem dX5_begin_28 : decode cX5_begin 28 = .ok (.invokestatic 191, 3) := by decide +kernel
theorem dX5_begin_31 : decode cX5_begin 31 = .ok (.aload_n 0, 1) := by decide +kernel
theorem dX5_begin_32 : decode cX5_begin 32 = .ok (.getfield 51, 3) := by decide +kernel
theorem dX5_begin_35 : decode cX5_begin 35 = .ok (.bipush 10, 2) := by decide +kernel
theorem dX5_begin_37 : decode cX5_begin 37 = .ok (.invokestatic 191, 3) := by decide +kernel
theorem dX5_begin_40 : decode cX5_begin 40 = .ok (.aload_n 0, 1) := by decide +kernel
theorem dX5_begin_41 : decode cX5_begin 41 = .ok (.getfield 54, 3) := by decide +kernel
theorem dX5_begin_44 : decode cX5_begin 44 = .ok (.iconst 0, 1) := by decide +kernel
theorem dX5_begin_45 : decode cX5_begin 45 = .ok (.invokestatic 191, 3) := by decide +kernel
theorem dX5_begin_48 : decode cX5_begin 48 = .ok (.return_, 1) := by decide +kernel
theorem dX5_isWithin_0 : decode cX5_isWithin 0 = .ok (.iload_n 0, 1) := by decide +kernel
theorem dX5_isWithin_1 : decode cX5_isWithin 1 = .ok (.iload_n 1, 1) := by decide +kernel
theorem dX5_isWithin_2 : decode cX5_isWithin 2 = .ok (.if_icmp .lt 12, 3) := by decide +kernel
theorem dX5_isWithin_5 : decode cX5_isWithin 5 = .ok (.iload_n 0, 1) := by decide +kernel
theorem dX5_isWithin_6 : decode cX5_isWithin 6 = .ok (.iload_n 2, 1) := by decide +kernel
theorem dX5_isWithin_7 : decode cX5_isWithin 7 = .ok (.if_icmp .gt 7, 3) := by decide +kernel
theorem dX5_isWithin_10 : decode cX5_isWithin 10 = .ok (.iconst 1, 1) := by decide +kernel
theorem dX5_isWithin_11 : decode cX5_isWithin 11 = .ok (.goto 4, 3) := by decide +kernel
theorem dX5_isWithin_14 : decode cX5_isWithin 14 = .ok (.iconst 0, 1) := by decide +kernel
theorem dX5_isWithin_15 : decode cX5_isWithin 15 = .ok (.ireturn, 1) := by decide +kernel
theorem dX5_isMachine_0 : decode cX5_isMachine 0 = .ok (.iload_n 1, 1) := by decide +kernel
theorem dX5_isMachine_1 : decode cX5_isMachine 1 = .ok (.iconst 0, 1) := by decide +kernel
theorem dX5_isMachine_2 : decode cX5_isMachine 2 = .ok (.aload_n 0, 1) := by decide +kernel
theorem dX5_isMachine_3 : decode cX5_isMachine 3 = .ok (.getfield 71, 3) := by decide +kernel
theorem dX5_isMachine_6 : decode cX5_isMachine 6 = .ok (.iconst 1, 1) := by decide +kernel
theorem dX5_isMachine_7 : decode cX5_isMachine 7 = .ok (.isub, 1) := by decide +kernel
theorem dX5_isMachine_8 : decode cX5_isMachine 8 = .ok (.invokestatic 67, 3) := by decide +kernel
theorem dX5_isMachine_11 : decode cX5_isMachine 11 = .ok (.ireturn, 1) := by decide +kernel
theorem dX5_isPart_0 : decode cX5_isPart 0 = .ok (.iload_n 1, 1) := by decide +kernel
theorem dX5_isPart_1 : decode cX5_isPart 1 = .ok (.iconst 0, 1) := by decide +kernel
theorem dX5_isPart_2 : decode cX5_isPart 2 = .ok (.aload_n 0, 1) := by decide +kernel
theorem dX5_isPart_3 : decode cX5_isPart 3 = .ok (.getfield 10, 3) := by decide +kernel
theorem dX5_isPart_6 : decode cX5_isPart 6 = .ok (.invokevirtual 237, 3) := by decide +kernel
theorem dX5_isPart_9 : decode cX5_isPart 9 = .ok (.iconst 1, 1) := by decide +kernel
theorem dX5_isPart_10 : decode cX5_isPart 10 = .ok (.isub, 1) := by decide +kernel
theorem dX5_isPart_11 : decode cX5_isPart 11 = .ok (.invokestatic 67, 3) := by decide +kernel
theorem dX5_isPart_14 : decode cX5_isPart 14 = .ok (.ireturn, 1) := by decide +kernel
theorem dX5_isCell_0 : decode cX5_isCell 0 = .ok (.iload_n 0, 1) := by decide +kernel
theorem dX5_isCell_1 : decode cX5_isCell 1 = .ok (.iconst 0, 1) := by decide +kernel
theorem dX5_isCell_2 : decode cX5_isCell 2 = .ok (.iconst 3, 1) := by decide +kernel
theorem dX5_isCell_3 : decode cX5_isCell 3 = .ok (.invokestatic 67, 3) := by decide +kernel
theorem dX5_isCell_6 : decode cX5_isCell 6 = .ok (.ireturn, 1) := by decide +kernel
theorem dX5_isKind_0 : decode cX5_isKind 0 = .ok (.iload_n 0, 1) := by decide +kernel
theorem dX5_isKind_1 : decode cX5_isKind 1 = .ok (.iconst 0, 1) := by decide +kernel
theorem dX5_isKind_2 : decode cX5_isKind 2 = .ok (.iconst 2, 1) := by decide +kernel
theorem dX5_isKind_3 : decode cX5_isKind 3 = .ok (.invokestatic 67, 3) := by decide +kernel
theorem dX5_isKind_6 : decode cX5_isKind 6 = .ok (.ireturn, 1) := by decide +kernel
theorem dX5_groupings_0 : decode cX5_groupings 0 = .ok (.iconst 1, 1) := by decide +kernel
theorem dX5_groupings_1 : decode cX5_groupings 1 = .ok (.iconst 2, 1) := by decide +kernel
theorem dX5_groupings_2 : decode cX5_groupings 2 = .ok (.aload_n 0, 1) := by decide +kernel
theorem dX5_groupings_3 : decode cX5_groupings 3 = .ok (.getfield 71, 3) := by decide +kernel
theorem dX5_groupings_6 : decode cX5_groupings 6 = .ok (.imul, 1) := by decide +kernel
theorem dX5_groupings_7 : decode cX5_groupings 7 = .ok (.ishl, 1) := by decide +kernel
theorem dX5_groupings_8 : decode cX5_groupings 8 = .ok (.ireturn, 1) := by decide +kernel
theorem dX5_lossOf_0 : decode cX5_lossOf 0 = .ok (.aload_n 0, 1) := by decide +kernel
theorem dX5_lossOf_1 : decode cX5_lossOf 1 = .ok (.getfield 10, 3) := by decide +kernel
theorem dX5_lossOf_4 : decode cX5_lossOf 4 = .ok (.aload_n 0, 1) := by decide +kernel
theorem dX5_lossOf_5 : decode cX5_lossOf 5 = .ok (.getfield 10, 3) := by decide +kernel
theorem dX5_lossOf_8 : decode cX5_lossOf 8 = .ok (.invokevirtual 174, 3) := by decide +kernel
theorem dX5_lossOf_11 : decode cX5_lossOf 11 = .ok (.aload_n 1, 1) := by decide +kernel
theorem dX5_lossOf_12 : decode cX5_lossOf 12 = .ok (.invokevirtual 183, 3) := by decide +kernel
theorem dX5_lossOf_15 : decode cX5_lossOf 15 = .ok (.istore_n 3, 1) := by decide +kernel
theorem dX5_lossOf_16 : decode cX5_lossOf 16 = .ok (.iload_n 2, 1) := by decide +kernel
theorem dX5_lossOf_17 : decode cX5_lossOf 17 = .ok (.iconst 1, 1) := by decide +kernel
theorem dX5_lossOf_18 : decode cX5_lossOf 18 = .ok (.if_icmp .lt 14, 3) := by decide +kernel
theorem dX5_lossOf_21 : decode cX5_lossOf 21 = .ok (.iload_n 3, 1) := by decide +kernel
theorem dX5_lossOf_22 : decode cX5_lossOf 22 = .ok (.aload_n 0, 1) := by decide +kernel
theorem dX5_lossOf_23 : decode cX5_lossOf 23 = .ok (.getfield 10, 3) := by decide +kernel
theorem dX5_lossOf_26 : decode cX5_lossOf 26 = .ok (.aload_n 1, 1) := by decide +kernel
theorem dX5_lossOf_27 : decode cX5_lossOf 27 = .ok (.invokevirtual 240, 3) := by decide +kernel
theorem dX5_lossOf_30 : decode cX5_lossOf 30 = .ok (.iadd, 1) := by decide +kernel
theorem dX5_lossOf_31 : decode cX5_lossOf 31 = .ok (.istore_n 3, 1) := by decide +kernel
theorem dX5_lossOf_32 : decode cX5_lossOf 32 = .ok (.iload_n 2, 1) := by decide +kernel
theorem dX5_lossOf_33 : decode cX5_lossOf 33 = .ok (.iconst 2, 1) := by decide +kernel
theorem dX5_lossOf_34 : decode cX5_lossOf 34 = .ok (.if_icmp .lt 10, 3) := by decide +kernel
theorem dX5_lossOf_37 : decode cX5_lossOf 37 = .ok (.iload_n 3, 1) := by decide +kernel
theorem dX5_lossOf_38 : decode cX5_lossOf 38 = .ok (.aload_n 1, 1) := by decide +kernel
theorem dX5_lossOf_39 : decode cX5_lossOf 39 = .ok (.invokevirtual 243, 3) := by decide +kernel
theorem dX5_lossOf_42 : decode cX5_lossOf 42 = .ok (.iadd, 1) := by decide +kernel
theorem dX5_lossOf_43 : decode cX5_lossOf 43 = .ok (.istore_n 3, 1) := by decide +kernel
theorem dX5_lossOf_44 : decode cX5_lossOf 44 = .ok (.iload_n 3, 1) := by decide +kernel
theorem dX5_lossOf_45 : decode cX5_lossOf 45 = .ok (.ireturn, 1) := by decide +kernel
theorem dX5_seekGrouping_0 : decode cX5_seekGrouping 0 = .ok (.aload_n 0, 1) := by decide +kernel
theorem dX5_seekGrouping_1 : decode cX5_seekGrouping 1 = .ok (.iconst 0, 1) := by decide +kernel
theorem dX5_seekGrouping_2 : decode cX5_seekGrouping 2 = .ok (.putfield 151, 3) := by decide +kernel
theorem dX5_seekGrouping_5 : decode cX5_seekGrouping 5 = .ok (.aload_n 0, 1) := by decide +kernel
theorem dX5_seekGrouping_6 : decode cX5_seekGrouping 6 = .ok (.ldc 246, 2) := by decide +kernel
theorem dX5_seekGrouping_8 : decode cX5_seekGrouping 8 = .ok (.putfield 154, 3) := by decide +kernel
theorem dX5_seekGrouping_11 : decode cX5_seekGrouping 11 = .ok (.aload_n 0, 1) := by decide +kernel
theorem dX5_seekGrouping_12 : decode cX5_seekGrouping 12 = .ok (.invokevirtual 112, 3) := by decide +kernel
theorem dX5_seekGrouping_15 : decode cX5_seekGrouping 15 = .ok (.istore_n 3, 1) := by decide +kernel
theorem dX5_seekGrouping_16 : decode cX5_seekGrouping 16 = .ok (.iconst 0, 1) := by decide +kernel
theorem dX5_seekGrouping_17 : decode cX5_seekGrouping 17 = .ok (.istore 4, 2) := by decide +kernel
theorem dX5_seekGrouping_19 : decode cX5_seekGrouping 19 = .ok (.iload 4, 2) := by decide +kernel
theorem dX5_seekGrouping_21 : decode cX5_seekGrouping 21 = .ok (.iload_n 3, 1) := by decide +kernel
theorem dX5_seekGrouping_22 : decode cX5_seekGrouping 22 = .ok (.if_icmp .ge 83, 3) := by decide +kernel
theorem dX5_seekGrouping_25 : decode cX5_seekGrouping 25 = .ok (.iload 4, 2) := by decide +kernel
theorem dX5_seekGrouping_27 : decode cX5_seekGrouping 27 = .ok (.aload_n 0, 1) := by decide +kernel
theorem dX5_seekGrouping_28 : decode cX5_seekGrouping 28 = .ok (.getfield 71, 3) := by decide +kernel
theorem dX5_seekGrouping_31 : decode cX5_seekGrouping 31 = .ok (.invokestatic 157, 3) := by decide +kernel
theorem dX5_seekGrouping_34 : decode cX5_seekGrouping 34 = .ok (.ifCond .ne 6, 3) := by decide +kernel
theorem dX5_seekGrouping_37 : decode cX5_seekGrouping 37 = .ok (.goto 62, 3) := by decide +kernel
theorem dX5_seekGrouping_40 : decode cX5_seekGrouping 40 = .ok (.aload_n 0, 1) := by decide +kernel
theorem dX5_seekGrouping_41 : decode cX5_seekGrouping 41 = .ok (.getfield 23, 3) := by decide +kernel
theorem dX5_seekGrouping_44 : decode cX5_seekGrouping 44 = .ok (.iload 4, 2) := by decide +kernel
theorem dX5_seekGrouping_46 : decode cX5_seekGrouping 46 = .ok (.aload_n 0, 1) := by decide +kernel
theorem dX5_seekGrouping_47 : decode cX5_seekGrouping 47 = .ok (.getfield 71, 3) := by decide +kernel
theorem dX5_seekGrouping_50 : decode cX5_seekGrouping 50 = .ok (.invokevirtual 119, 3) := by decide +kernel
theorem dX5_seekGrouping_53 : decode cX5_seekGrouping 53 = .ok (.aload_n 0, 1) := by decide +kernel
theorem dX5_seekGrouping_54 : decode cX5_seekGrouping 54 = .ok (.getfield 23, 3) := by decide +kernel
theorem dX5_seekGrouping_57 : decode cX5_seekGrouping 57 = .ok (.invokevirtual 247, 3) := by decide +kernel
theorem dX5_seekGrouping_60 : decode cX5_seekGrouping 60 = .ok (.iload_n 2, 1) := by decide +kernel
theorem dX5_seekGrouping_61 : decode cX5_seekGrouping 61 = .ok (.if_icmp .le 6, 3) := by decide +kernel
theorem dX5_seekGrouping_64 : decode cX5_seekGrouping 64 = .ok (.goto 35, 3) := by decide +kernel
theorem dX5_seekGrouping_67 : decode cX5_seekGrouping 67 = .ok (.aload_n 0, 1) := by decide +kernel
theorem dX5_seekGrouping_68 : decode cX5_seekGrouping 68 = .ok (.aload_n 0, 1) := by decide +kernel
theorem dX5_seekGrouping_69 : decode cX5_seekGrouping 69 = .ok (.getfield 23, 3) := by decide +kernel
theorem dX5_seekGrouping_72 : decode cX5_seekGrouping 72 = .ok (.iload_n 1, 1) := by decide +kernel
theorem dX5_seekGrouping_73 : decode cX5_seekGrouping 73 = .ok (.invokevirtual 144, 3) := by decide +kernel
theorem dX5_seekGrouping_76 : decode cX5_seekGrouping 76 = .ok (.istore 5, 2) := by decide +kernel
theorem dX5_seekGrouping_78 : decode cX5_seekGrouping 78 = .ok (.iload 5, 2) := by decide +kernel
theorem dX5_seekGrouping_80 : decode cX5_seekGrouping 80 = .ok (.aload_n 0, 1) := by decide +kernel
theorem dX5_seekGrouping_81 : decode cX5_seekGrouping 81 = .ok (.getfield 154, 3) := by decide +kernel
theorem dX5_seekGrouping_84 : decode cX5_seekGrouping 84 = .ok (.if_icmp .ge 15, 3) := by decide +kernel
theorem dX5_seekGrouping_87 : decode cX5_seekGrouping 87 = .ok (.aload_n 0, 1) := by decide +kernel
theorem dX5_seekGrouping_88 : decode cX5_seekGrouping 88 = .ok (.iload 5, 2) := by decide +kernel
theorem dX5_seekGrouping_90 : decode cX5_seekGrouping 90 = .ok (.putfield 154, 3) := by decide +kernel
theorem dX5_seekGrouping_93 : decode cX5_seekGrouping 93 = .ok (.aload_n 0, 1) := by decide +kernel
theorem dX5_seekGrouping_94 : decode cX5_seekGrouping 94 = .ok (.iload 4, 2) := by decide +kernel
theorem dX5_seekGrouping_96 : decode cX5_seekGrouping 96 = .ok (.putfield 151, 3) := by decide +kernel
theorem dX5_seekGrouping_99 : decode cX5_seekGrouping 99 = .ok (.iinc 4 4, 3) := by decide +kernel
theorem dX5_seekGrouping_102 : decode cX5_seekGrouping 102 = .ok (.goto (-83), 3) := by decide +kernel
theorem dX5_seekGrouping_105 : decode cX5_seekGrouping 105 = .ok (.return_, 1) := by decide +kernel
theorem dX5_bestChoice_0 : decode cX5_bestChoice 0 = .ok (.bipush (-9), 2) := by decide +kernel
theorem dX5_bestChoice_2 : decode cX5_bestChoice 2 = .ok (.istore_n 1, 1) := by decide +kernel
theorem dX5_bestChoice_3 : decode cX5_bestChoice 3 = .ok (.ldc 246, 2) := by decide +kernel
theorem dX5_bestChoice_5 : decode cX5_bestChoice 5 = .ok (.istore_n 2, 1) := by decide +kernel
theorem dX5_bestChoice_6 : decode cX5_bestChoice 6 = .ok (.iconst 1, 1) := by decide +kernel
theorem dX5_bestChoice_7 : decode cX5_bestChoice 7 = .ok (.aload_n 0, 1) := by decide +kernel
theorem dX5_bestChoice_8 : decode cX5_bestChoice 8 = .ok (.getfield 10, 3) := by decide +kernel
theorem dX5_bestChoice_11 : decode cX5_bestChoice 11 = .ok (.invokevirtual 237, 3) := by decide +kernel
theorem dX5_bestChoice_14 : decode cX5_bestChoice 14 = .ok (.ishl, 1) := by decide +kernel
theorem dX5_bestChoice_15 : decode cX5_bestChoice 15 = .ok (.istore_n 3, 1) := by decide +kernel
theorem dX5_bestChoice_16 : decode cX5_bestChoice 16 = .ok (.iconst 0, 1) := by decide +kernel
theorem dX5_bestChoice_17 : decode cX5_bestChoice 17 = .ok (.istore 4, 2) := by decide +kernel
theorem dX5_bestChoice_19 : decode cX5_bestChoice 19 = .ok (.iload 4, 2) := by decide +kernel
theorem dX5_bestChoice_21 : decode cX5_bestChoice 21 = .ok (.iload_n 3, 1) := by decide +kernel
theorem dX5_bestChoice_22 : decode cX5_bestChoice 22 = .ok (.if_icmp .ge 45, 3) := by decide +kernel
theorem dX5_bestChoice_25 : decode cX5_bestChoice 25 = .ok (.aload_n 0, 1) := by decide +kernel
theorem dX5_bestChoice_26 : decode cX5_bestChoice 26 = .ok (.getfield 10, 3) := by decide +kernel
theorem dX5_bestChoice_29 : decode cX5_bestChoice 29 = .ok (.iload 4, 2) := by decide +kernel
theorem dX5_bestChoice_31 : decode cX5_bestChoice 31 = .ok (.aload_n 0, 1) := by decide +kernel
theorem dX5_bestChoice_32 : decode cX5_bestChoice 32 = .ok (.getfield 19, 3) := by decide +kernel
theorem dX5_bestChoice_35 : decode cX5_bestChoice 35 = .ok (.invokevirtual 183, 3) := by decide +kernel
theorem dX5_bestChoice_38 : decode cX5_bestChoice 38 = .ok (.istore 5, 2) := by decide +kernel
theorem dX5_bestChoice_40 : decode cX5_bestChoice 40 = .ok (.iload 5, 2) := by decide +kernel
theorem dX5_bestChoice_42 : decode cX5_bestChoice 42 = .ok (.iload_n 2, 1) := by decide +kernel
theorem dX5_bestChoice_43 : decode cX5_bestChoice 43 = .ok (.if_icmp .ge 18, 3) := by decide +kernel
theorem dX5_bestChoice_46 : decode cX5_bestChoice 46 = .ok (.aload_n 0, 1) := by decide +kernel
theorem dX5_bestChoice_47 : decode cX5_bestChoice 47 = .ok (.iload 4, 2) := by decide +kernel
theorem dX5_bestChoice_49 : decode cX5_bestChoice 49 = .ok (.invokevirtual 250, 3) := by decide +kernel
theorem dX5_bestChoice_52 : decode cX5_bestChoice 52 = .ok (.ifCond .eq 9, 3) := by decide +kernel
theorem dX5_bestChoice_55 : decode cX5_bestChoice 55 = .ok (.iload 5, 2) := by decide +kernel
theorem dX5_bestChoice_57 : decode cX5_bestChoice 57 = .ok (.istore_n 2, 1) := by decide +kernel
theorem dX5_bestChoice_58 : decode cX5_bestChoice 58 = .ok (.iload 4, 2) := by decide +kernel
theorem dX5_bestChoice_60 : decode cX5_bestChoice 60 = .ok (.istore_n 1, 1) := by decide +kernel
theorem dX5_bestChoice_61 : decode cX5_bestChoice 61 = .ok (.iinc 4 1, 3) := by decide +kernel
theorem dX5_bestChoice_64 : decode cX5_bestChoice 64 = .ok (.goto (-45), 3) := by decide +kernel
theorem dX5_bestChoice_67 : decode cX5_bestChoice 67 = .ok (.iload_n 1, 1) := by decide +kernel
theorem dX5_bestChoice_68 : decode cX5_bestChoice 68 = .ok (.ireturn, 1) := by decide +kernel
theorem dX5_isRight_0 : decode cX5_isRight 0 = .ok (.iconst 0, 1) := by decide +kernel
theorem dX5_isRight_1 : decode cX5_isRight 1 = .ok (.istore_n 2, 1) := by decide +kernel
theorem dX5_isRight_2 : decode cX5_isRight 2 = .ok (.iload_n 2, 1) := by decide +kernel
theorem dX5_isRight_3 : decode cX5_isRight 3 = .ok (.aload_n 0, 1) := by decide +kernel
theorem dX5_isRight_4 : decode cX5_isRight 4 = .ok (.getfield 71, 3) := by decide +kernel
theorem dX5_isRight_7 : decode cX5_isRight 7 = .ok (.if_icmp .ge 29, 3) := by decide +kernel
theorem dX5_isRight_10 : decode cX5_isRight 10 = .ok (.aload_n 0, 1) := by decide +kernel
theorem dX5_isRight_11 : decode cX5_isRight 11 = .ok (.getfield 10, 3) := by decide +kernel
theorem dX5_isRight_14 : decode cX5_isRight 14 = .ok (.iload_n 1, 1) := by decide +kernel
theorem dX5_isRight_15 : decode cX5_isRight 15 = .ok (.iload_n 2, 1) := by decide +kernel
theorem dX5_isRight_16 : decode cX5_isRight 16 = .ok (.invokevirtual 177, 3) := by decide +kernel
theorem dX5_isRight_19 : decode cX5_isRight 19 = .ok (.aload_n 0, 1) := by decide +kernel
theorem dX5_isRight_20 : decode cX5_isRight 20 = .ok (.getfield 47, 3) := by decide +kernel
theorem dX5_isRight_23 : decode cX5_isRight 23 = .ok (.iload_n 2, 1) := by decide +kernel
theorem dX5_isRight_24 : decode cX5_isRight 24 = .ok (.iaload, 1) := by decide +kernel
theorem dX5_isRight_25 : decode cX5_isRight 25 = .ok (.if_icmp .le 5, 3) := by decide +kernel
theorem dX5_isRight_28 : decode cX5_isRight 28 = .ok (.iconst 0, 1) := by decide +kernel
theorem dX5_isRight_29 : decode cX5_isRight 29 = .ok (.ireturn, 1) := by decide +kernel
theorem dX5_isRight_30 : decode cX5_isRight 30 = .ok (.iinc 2 1, 3) := by decide +kernel
theorem dX5_isRight_33 : decode cX5_isRight 33 = .ok (.goto (-31), 3) := by decide +kernel
theorem dX5_isRight_36 : decode cX5_isRight 36 = .ok (.iconst 1, 1) := by decide +kernel
theorem dX5_isRight_37 : decode cX5_isRight 37 = .ok (.ireturn, 1) := by decide +kernel
theorem dX5_offerCopies_0 : decode cX5_offerCopies 0 = .ok (.iconst 0, 1) := by decide +kernel
theorem dX5_offerCopies_1 : decode cX5_offerCopies 1 = .ok (.istore_n 3, 1) := by decide +kernel
theorem dX5_offerCopies_2 : decode cX5_offerCopies 2 = .ok (.iload_n 3, 1) := by decide +kernel
theorem dX5_offerCopies_3 : decode cX5_offerCopies 3 = .ok (.iconst 4, 1) := by decide +kernel
theorem dX5_offerCopies_4 : decode cX5_offerCopies 4 = .ok (.if_icmp .ge 45, 3) := by decide +kernel
theorem dX5_offerCopies_7 : decode cX5_offerCopies 7 = .ok (.iload_n 3, 1) := by decide +kernel
theorem dX5_offerCopies_8 : decode cX5_offerCopies 8 = .ok (.aload_n 0, 1) := by decide +kernel
theorem dX5_offerCopies_9 : decode cX5_offerCopies 9 = .ok (.getfield 19, 3) := by decide +kernel
theorem dX5_offerCopies_12 : decode cX5_offerCopies 12 = .ok (.iload_n 1, 1) := by decide +kernel
theorem dX5_offerCopies_13 : decode cX5_offerCopies 13 = .ok (.invokevirtual 106, 3) := by decide +kernel
theorem dX5_offerCopies_16 : decode cX5_offerCopies 16 = .ok (.if_icmp .eq 27, 3) := by decide +kernel
theorem dX5_offerCopies_19 : decode cX5_offerCopies 19 = .ok (.aload_n 0, 1) := by decide +kernel
theorem dX5_offerCopies_20 : decode cX5_offerCopies 20 = .ok (.aload_n 0, 1) := by decide +kernel
theorem dX5_offerCopies_21 : decode cX5_offerCopies 21 = .ok (.getfield 51, 3) := by decide +kernel
theorem dX5_offerCopies_24 : decode cX5_offerCopies 24 = .ok (.iload_n 1, 1) := by decide +kernel
theorem dX5_offerCopies_25 : decode cX5_offerCopies 25 = .ok (.iaload, 1) := by decide +kernel
theorem dX5_offerCopies_26 : decode cX5_offerCopies 26 = .ok (.aload_n 0, 1) := by decide +kernel
theorem dX5_offerCopies_27 : decode cX5_offerCopies 27 = .ok (.getfield 10, 3) := by decide +kernel
theorem dX5_offerCopies_30 : decode cX5_offerCopies 30 = .ok (.iload_n 1, 1) := by decide +kernel
theorem dX5_offerCopies_31 : decode cX5_offerCopies 31 = .ok (.iload_n 3, 1) := by decide +kernel
theorem dX5_offerCopies_32 : decode cX5_offerCopies 32 = .ok (.aload_n 0, 1) := by decide +kernel
theorem dX5_offerCopies_33 : decode cX5_offerCopies 33 = .ok (.getfield 19, 3) := by decide +kernel
theorem dX5_offerCopies_36 : decode cX5_offerCopies 36 = .ok (.invokevirtual 187, 3) := by decide +kernel
theorem dX5_offerCopies_39 : decode cX5_offerCopies 39 = .ok (.iload_n 2, 1) := by decide +kernel
theorem dX5_offerCopies_40 : decode cX5_offerCopies 40 = .ok (.invokevirtual 253, 3) := by decide +kernel
theorem dX5_offerCopies_43 : decode cX5_offerCopies 43 = .ok (.iinc 3 1, 3) := by decide +kernel
theorem dX5_offerCopies_46 : decode cX5_offerCopies 46 = .ok (.goto (-44), 3) := by decide +kernel
theorem dX5_offerCopies_49 : decode cX5_offerCopies 49 = .ok (.return_, 1) := by decide +kernel
theorem dX5_offerCopy_0 : decode cX5_offerCopy 0 = .ok (.iload_n 3, 1) := by decide +kernel
theorem dX5_offerCopy_1 : decode cX5_offerCopy 1 = .ok (.istore 4, 2) := by decide +kernel
theorem dX5_offerCopy_3 : decode cX5_offerCopy 3 = .ok (.iload 4, 2) := by decide +kernel
theorem dX5_offerCopy_5 : decode cX5_offerCopy 5 = .ok (.iload_n 1, 1) := by decide +kernel
theorem dX5_offerCopy_6 : decode cX5_offerCopy 6 = .ok (.if_icmp .lt 37, 3) := by decide +kernel
theorem dX5_offerCopy_9 : decode cX5_offerCopy 9 = .ok (.aload_n 0, 1) := by decide +kernel
theorem dX5_offerCopy_10 : decode cX5_offerCopy 10 = .ok (.getfield 60, 3) := by decide +kernel
theorem dX5_offerCopy_13 : decode cX5_offerCopy 13 = .ok (.iload 4, 2) := by decide +kernel
theorem dX5_offerCopy_15 : decode cX5_offerCopy 15 = .ok (.aload_n 0, 1) := by decide +kernel
theorem dX5_offerCopy_16 : decode cX5_offerCopy 16 = .ok (.getfield 60, 3) := by decide +kernel
theorem dX5_offerCopy_19 : decode cX5_offerCopy 19 = .ok (.iload 4, 2) := by decide +kernel
theorem dX5_offerCopy_21 : decode cX5_offerCopy 21 = .ok (.iaload, 1) := by decide +kernel
theorem dX5_offerCopy_22 : decode cX5_offerCopy 22 = .ok (.aload_n 0, 1) := by decide +kernel
theorem dX5_offerCopy_23 : decode cX5_offerCopy 23 = .ok (.getfield 60, 3) := by decide +kernel
theorem dX5_offerCopy_26 : decode cX5_offerCopy 26 = .ok (.iload 4, 2) := by decide +kernel
theorem dX5_offerCopy_28 : decode cX5_offerCopy 28 = .ok (.iload_n 1, 1) := by decide +kernel
theorem dX5_offerCopy_29 : decode cX5_offerCopy 29 = .ok (.isub, 1) := by decide +kernel
theorem dX5_offerCopy_30 : decode cX5_offerCopy 30 = .ok (.iaload, 1) := by decide +kernel
theorem dX5_offerCopy_31 : decode cX5_offerCopy 31 = .ok (.iload_n 2, 1) := by decide +kernel
theorem dX5_offerCopy_32 : decode cX5_offerCopy 32 = .ok (.iadd, 1) := by decide +kernel
theorem dX5_offerCopy_33 : decode cX5_offerCopy 33 = .ok (.invokestatic 256, 3) := by decide +kernel
theorem dX5_offerCopy_36 : decode cX5_offerCopy 36 = .ok (.iastore, 1) := by decide +kernel
theorem dX5_offerCopy_37 : decode cX5_offerCopy 37 = .ok (.iinc 4 (-1), 3) := by decide +kernel
theorem dX5_offerCopy_40 : decode cX5_offerCopy 40 = .ok (.goto (-37), 3) := by decide +kernel
theorem dX5_offerCopy_43 : decode cX5_offerCopy 43 = .ok (.return_, 1) := by decide +kernel
theorem dX6_init_0 : decode cX6_init 0 = .ok (.aload_n 0, 1) := by decide +kernel
theorem dX6_init_1 : decode cX6_init 1 = .ok (.invokespecial 1, 3) := by decide +kernel
theorem dX6_init_4 : decode cX6_init 4 = .ok (.aload_n 0, 1) := by decide +kernel
theorem dX6_init_5 : decode cX6_init 5 = .ok (.iconst 4, 1) := by decide +kernel
theorem dX6_init_6 : decode cX6_init 6 = .ok (.putfield 7, 3) := by decide +kernel
theorem dX6_init_9 : decode cX6_init 9 = .ok (.aload_n 0, 1) := by decide +kernel
theorem dX6_init_10 : decode cX6_init 10 = .ok (.iconst 4, 1) := by decide +kernel
theorem dX6_init_11 : decode cX6_init 11 = .ok (.putfield 13, 3) := by decide +kernel
theorem dX6_init_14 : decode cX6_init 14 = .ok (.aload_n 0, 1) := by decide +kernel
theorem dX6_init_15 : decode cX6_init 15 = .ok (.bipush 16, 2) := by decide +kernel
theorem dX6_init_17 : decode cX6_init 17 = .ok (.newarray .int, 2) := by decide +kernel
theorem dX6_init_19 : decode cX6_init 19 = .ok (.putfield 16, 3) := by decide +kernel
theorem dX6_init_22 : decode cX6_init 22 = .ok (.aload_n 0, 1) := by decide +kernel
theorem dX6_init_23 : decode cX6_init 23 = .ok (.bipush 8, 2) := by decide +kernel
theorem dX6_init_25 : decode cX6_init 25 = .ok (.newarray .int, 2) := by decide +kernel
theorem dX6_init_27 : decode cX6_init 27 = .ok (.putfield 20, 3) := by decide +kernel
theorem dX6_init_30 : decode cX6_init 30 = .ok (.aload_n 0, 1) := by decide +kernel
theorem dX6_init_31 : decode cX6_init 31 = .ok (.bipush 8, 2) := by decide +kernel
theorem dX6_init_33 : decode cX6_init 33 = .ok (.newarray .int, 2) := by decide +kernel
theorem dX6_init_35 : decode cX6_init 35 = .ok (.putfield 23, 3) := by decide +kernel
theorem dX6_init_38 : decode cX6_init 38 = .ok (.aload_n 0, 1) := by decide +kernel
theorem dX6_init_39 : decode cX6_init 39 = .ok (.bipush 7, 2) := by decide +kernel
theorem dX6_init_41 : decode cX6_init 41 = .ok (.newarray .int, 2) := by decide +kernel
theorem dX6_init_43 : decode cX6_init 43 = .ok (.putfield 26, 3) := by decide +kernel
theorem dX6_init_46 : decode cX6_init 46 = .ok (.aload_n 0, 1) := by decide +kernel
theorem dX6_init_47 : decode cX6_init 47 = .ok (.bipush 7, 2) := by decide +kernel
theorem dX6_init_49 : decode cX6_init 49 = .ok (.newarray .int, 2) := by decide +kernel
theorem dX6_init_51 : decode cX6_init 51 = .ok (.putfield 29, 3) := by decide +kernel
theorem dX6_init_54 : decode cX6_init 54 = .ok (.aload_n 0, 1) := by decide +kernel
theorem dX6_init_55 : decode cX6_init 55 = .ok (.iconst 4, 1) := by decide +kernel
theorem dX6_init_56 : decode cX6_init 56 = .ok (.newarray .int, 2) := by decide +kernel
theorem dX6_init_58 : decode cX6_init 58 = .ok (.putfield 32, 3) := by decide +kernel
theorem dX6_init_61 : decode cX6_init 61 = .ok (.aload_n 0, 1) := by decide +kernel
theorem dX6_init_62 : decode cX6_init 62 = .ok (.bipush 6, 2) := by decide +kernel
theorem dX6_init_64 : decode cX6_init 64 = .ok (.newarray .int, 2) := by decide +kernel
theorem dX6_init_66 : decode cX6_init 66 = .ok (.putfield 35, 3) := by decide +kernel
theorem dX6_init_69 : decode cX6_init 69 = .ok (.aload_n 0, 1) := by decide +kernel
theorem dX6_init_70 : decode cX6_init 70 = .ok (.iconst 5, 1) := by decide +kernel
theorem dX6_init_71 : decode cX6_init 71 = .ok (.putfield 38, 3) := by decide +kernel
theorem dX6_init_74 : decode cX6_init 74 = .ok (.aload_n 0, 1) := by decide +kernel
theorem dX6_init_75 : decode cX6_init 75 = .ok (.bipush 7, 2) := by decide +kernel
theorem dX6_init_77 : decode cX6_init 77 = .ok (.newarray .int, 2) := by decide +kernel
theorem dX6_init_79 : decode cX6_init 79 = .ok (.putfield 41, 3) := by decide +kernel
theorem dX6_init_82 : decode cX6_init 82 = .ok (.aload_n 0, 1) := by decide +kernel
theorem dX6_init_83 : decode cX6_init 83 = .ok (.iconst 4, 1) := by decide +kernel
theorem dX6_init_84 : decode cX6_init 84 = .ok (.newarray .int, 2) := by decide +kernel
theorem dX6_init_86 : decode cX6_init 86 = .ok (.putfield 44, 3) := by decide +kernel
theorem dX6_init_89 : decode cX6_init 89 = .ok (.aload_n 0, 1) := by decide +kernel
theorem dX6_init_90 : decode cX6_init 90 = .ok (.sipush 201, 3) := by decide +kernel
theorem dX6_init_93 : decode cX6_init 93 = .ok (.newarray .int, 2) := by decide +kernel
theorem dX6_init_95 : decode cX6_init 95 = .ok (.putfield 47, 3) := by decide +kernel
theorem dX6_init_98 : decode cX6_init 98 = .ok (.aload_n 0, 1) := by decide +kernel
theorem dX6_init_99 : decode cX6_init 99 = .ok (.iconst 4, 1) := by decide +kernel
theorem dX6_init_100 : decode cX6_init 100 = .ok (.newarray .int, 2) := by decide +kernel
theorem dX6_init_102 : decode cX6_init 102 = .ok (.putfield 50, 3) := by decide +kernel
theorem dX6_init_105 : decode cX6_init 105 = .ok (.aload_n 0, 1) := by decide +kernel
theorem dX6_init_106 : decode cX6_init 106 = .ok (.iconst 5, 1) := by decide +kernel
theorem dX6_init_107 : decode cX6_init 107 = .ok (.newarray .int, 2) := by decide +kernel
theorem dX6_init_109 : decode cX6_init 109 = .ok (.putfield 53, 3) := by decide +kernel
theorem dX6_init_112 : decode cX6_init 112 = .ok (.aload_n 0, 1) := by decide +kernel
theorem dX6_init_113 : decode cX6_init 113 = .ok (.iconst 4, 1) := by decide +kernel
theorem dX6_init_114 : decode cX6_init 114 = .ok (.newarray .int, 2) := by decide +kernel
theorem dX6_init_116 : decode cX6_init 116 = .ok (.putfield 56, 3) := by decide +kernel
theorem dX6_init_119 : decode cX6_init 119 = .ok (.aload_n 0, 1) := by decide +kernel
theorem dX6_init_120 : decode cX6_init 120 = .ok (.iconst 4, 1) := by decide +kernel
theorem dX6_init_121 : decode cX6_init 121 = .ok (.newarray .int, 2) := by decide +kernel
theorem dX6_init_123 : decode cX6_init 123 = .ok (.putfield 59, 3) := by decide +kernel
theorem dX6_init_126 : decode cX6_init 126 = .ok (.aload_n 0, 1) := by decide +kernel
theorem dX6_init_127 : decode cX6_init 127 = .ok (.iconst 4, 1) := by decide +kernel
theorem dX6_init_128 : decode cX6_init 128 = .ok (.iconst 4, 1) := by decide +kernel
theorem dX6_init_129 : decode cX6_init 129 = .ok (.invokevirtual 62, 3) := by decide +kernel
theorem dX6_init_132 : decode cX6_init 132 = .ok (.return_, 1) := by decide +kernel
theorem dX6_in_0 : decode cX6_in 0 = .ok (.iload_n 0, 1) := by decide +kernel
theorem dX6_in_1 : decode cX6_in 1 = .ok (.iload_n 1, 1) := by decide +kernel
theorem dX6_in_2 : decode cX6_in 2 = .ok (.if_icmp .lt 12, 3) := by decide +kernel
theorem dX6_in_5 : decode cX6_in 5 = .ok (.iload_n 0, 1) := by decide +kernel
theorem dX6_in_6 : decode cX6_in 6 = .ok (.iload_n 2, 1) := by decide +kernel
theorem dX6_in_7 : decode cX6_in 7 = .ok (.if_icmp .gt 7, 3) := by decide +kernel
theorem dX6_in_10 : decode cX6_in 10 = .ok (.iconst 1, 1) := by decide +kernel
theorem dX6_in_11 : decode cX6_in 11 = .ok (.goto 4, 3) := by decide +kernel
theorem dX6_in_14 : decode cX6_in 14 = .ok (.iconst 0, 1) := by decide +kernel
theorem dX6_in_15 : decode cX6_in 15 = .ok (.ireturn, 1) := by decide +kernel
theorem dX6_begins_0 : decode cX6_begins 0 = .ok (.aload_n 0, 1) := by decide +kernel
theorem dX6_begins_1 : decode cX6_begins 1 = .ok (.iload_n 1, 1) := by decide +kernel
theorem dX6_begins_2 : decode cX6_begins 2 = .ok (.putfield 7, 3) := by decide +kernel
theorem dX6_begins_5 : decode cX6_begins 5 = .ok (.aload_n 0, 1) := by decide +kernel
theorem dX6_begins_6 : decode cX6_begins 6 = .ok (.iload_n 2, 1) := by decide +kernel
theorem dX6_begins_7 : decode cX6_begins 7 = .ok (.putfield 13, 3) := by decide +kernel
theorem dX6_begins_10 : decode cX6_begins 10 = .ok (.aload_n 0, 1) := by decide +kernel
theorem dX6_begins_11 : decode cX6_begins 11 = .ok (.iconst 0, 1) := by decide +kernel
theorem dX6_begins_12 : decode cX6_begins 12 = .ok (.putfield 69, 3) := by decide +kernel
theorem dX6_begins_15 : decode cX6_begins 15 = .ok (.iconst 0, 1) := by decide +kernel
theorem dX6_begins_16 : decode cX6_begins 16 = .ok (.istore_n 3, 1) := by decide +kernel
theorem dX6_begins_17 : decode cX6_begins 17 = .ok (.iload_n 3, 1) := by decide +kernel
theorem dX6_begins_18 : decode cX6_begins 18 = .ok (.bipush 8, 2) := by decide +kernel
theorem dX6_begins_20 : decode cX6_begins 20 = .ok (.if_icmp .ge 43, 3) := by decide +kernel
theorem dX6_begins_23 : decode cX6_begins 23 = .ok (.aload_n 0, 1) := by decide +kernel
theorem dX6_begins_24 : decode cX6_begins 24 = .ok (.getfield 16, 3) := by decide +kernel
theorem dX6_begins_27 : decode cX6_begins 27 = .ok (.iconst 2, 1) := by decide +kernel
theorem dX6_begins_28 : decode cX6_begins 28 = .ok (.iload_n 3, 1) := by decide +kernel
theorem dX6_begins_29 : decode cX6_begins 29 = .ok (.imul, 1) := by decide +kernel
theorem dX6_begins_30 : decode cX6_begins 30 = .ok (.iconst 0, 1) := by decide +kernel
theorem dX6_begins_31 : decode cX6_begins 31 = .ok (.iastore, 1) := by decide +kernel
theorem dX6_begins_32 : decode cX6_begins 32 = .ok (.aload_n 0, 1) := by decide +kernel
theorem dX6_begins_33 : decode cX6_begins 33 = .ok (.getfield 16, 3) := by decide +kernel
theorem dX6_begins_36 : decode cX6_begins 36 = .ok (.iconst 2, 1) := by decide +kernel
theorem dX6_begins_37 : decode cX6_begins 37 = .ok (.iload_n 3, 1) := by decide +kernel
theorem dX6_begins_38 : decode cX6_begins 38 = .ok (.imul, 1) := by decide +kernel
theorem dX6_begins_39 : decode cX6_begins 39 = .ok (.iconst 1, 1) := by decide +kernel
theorem dX6_begins_40 : decode cX6_begins 40 = .ok (.iadd, 1) := by decide +kernel
theorem dX6_begins_41 : decode cX6_begins 41 = .ok (.iconst 0, 1) := by decide +kernel
theorem dX6_begins_42 : decode cX6_begins 42 = .ok (.iastore, 1) := by decide +kernel
theorem dX6_begins_43 : decode cX6_begins 43 = .ok (.aload_n 0, 1) := by decide +kernel
theorem dX6_begins_44 : decode cX6_begins 44 = .ok (.getfield 20, 3) := by decide +kernel
theorem dX6_begins_47 : decode cX6_begins 47 = .ok (.iload_n 3, 1) := by decide +kernel
theorem dX6_begins_48 : decode cX6_begins 48 = .ok (.iconst 0, 1) := by decide +kernel
theorem dX6_begins_49 : decode cX6_begins 49 = .ok (.iastore, 1) := by decide +kernel
theorem dX6_begins_50 : decode cX6_begins 50 = .ok (.aload_n 0, 1) := by decide +kernel
theorem dX6_begins_51 : decode cX6_begins 51 = .ok (.getfield 23, 3) := by decide +kernel
theorem dX6_begins_54 : decode cX6_begins 54 = .ok (.iload_n 3, 1) := by decide +kernel
theorem dX6_begins_55 : decode cX6_begins 55 = .ok (.iconst 1, 1) := by decide +kernel
theorem dX6_begins_56 : decode cX6_begins 56 = .ok (.iastore, 1) := by decide +kernel
theorem dX6_begins_57 : decode cX6_begins 57 = .ok (.iinc 3 1, 3) := by decide +kernel
theorem dX6_begins_60 : decode cX6_begins 60 = .ok (.goto (-43), 3) := by decide +kernel
theorem dX6_begins_63 : decode cX6_begins 63 = .ok (.iconst 0, 1) := by decide +kernel
theorem dX6_begins_64 : decode cX6_begins 64 = .ok (.istore_n 3, 1) := by decide +kernel
theorem dX6_begins_65 : decode cX6_begins 65 = .ok (.iload_n 3, 1) := by decide +kernel
theorem dX6_begins_66 : decode cX6_begins 66 = .ok (.bipush 7, 2) := by decide +kernel
theorem dX6_begins_68 : decode cX6_begins 68 = .ok (.if_icmp .ge 25, 3) := by decide +kernel
theorem dX6_begins_71 : decode cX6_begins 71 = .ok (.aload_n 0, 1) := by decide +kernel
theorem dX6_begins_72 : decode cX6_begins 72 = .ok (.getfield 26, 3) := by decide +kernel
theorem dX6_begins_75 : decode cX6_begins 75 = .ok (.iload_n 3, 1) := by decide +kernel
theorem dX6_begins_76 : decode cX6_begins 76 = .ok (.bipush 99, 2) := by decide +kernel
theorem dX6_begins_78 : decode cX6_begins 78 = .ok (.iastore, 1) := by decide +kernel
theorem dX6_begins_79 : decode cX6_begins 79 = .ok (.aload_n 0, 1) := by decide +kernel
theorem dX6_begins_80 : decode cX6_begins 80 = .ok (.getfield 29, 3) := by decide +kernel
theorem dX6_begins_83 : decode cX6_begins 83 = .ok (.iload_n 3, 1) := by decide +kernel
theorem dX6_begins_84 : decode cX6_begins 84 = .ok (.bipush 10, 2) := by decide +kernel
theorem dX6_begins_86 : decode cX6_begins 86 = .ok (.iastore, 1) := by decide +kernel
theorem dX6_begins_87 : decode cX6_begins 87 = .ok (.iinc 3 1, 3) := by decide +kernel
theorem dX6_begins_90 : decode cX6_begins 90 = .ok (.goto (-25), 3) := by decide +kernel
theorem dX6_begins_93 : decode cX6_begins 93 = .ok (.iconst 0, 1) := by decide +kernel
theorem dX6_begins_94 : decode cX6_begins 94 = .ok (.istore_n 3, 1) := by decide +kernel
theorem dX6_begins_95 : decode cX6_begins 95 = .ok (.iload_n 3, 1) := by decide +kernel
theorem dX6_begins_96 : decode cX6_begins 96 = .ok (.iconst 4, 1) := by decide +kernel
theorem dX6_begins_97 : decode cX6_begins 97 = .ok (.if_icmp .ge 16, 3) := by decide +kernel
theorem dX6_begins_100 : decode cX6_begins 100 = .ok (.aload_n 0, 1) := by decide +kernel
theorem dX6_begins_101 : decode cX6_begins 101 = .ok (.getfield 32, 3) := by decide +kernel
theorem dX6_begins_104 : decode cX6_begins 104 = .ok (.iload_n 3, 1) := by decide +kernel
theorem dX6_begins_105 : decode cX6_begins 105 = .ok (.iconst 0, 1) := by decide +kernel
theorem dX6_begins_106 : decode cX6_begins 106 = .ok (.iastore, 1) := by decide +kernel
theorem dX6_begins_107 : decode cX6_begins 107 = .ok (.iinc 3 1, 3) := by decide +kernel
theorem dX6_begins_110 : decode cX6_begins 110 = .ok (.goto (-15), 3) := by decide +kernel
theorem dX6_begins_113 : decode cX6_begins 113 = .ok (.return_, 1) := by decide +kernel
theorem dX6_works_0 : decode cX6_works 0 = .ok (.aload_n 0, 1) := by decide +kernel
theorem dX6_works_1 : decode cX6_works 1 = .ok (.iconst 0, 1) := by decide +kernel
theorem dX6_works_2 : decode cX6_works 2 = .ok (.putfield 66, 3) := by decide +kernel
theorem dX6_works_5 : decode cX6_works 5 = .ok (.iload_n 1, 1) := by decide +kernel
theorem dX6_works_6 : decode cX6_works 6 = .ok (.iconst 1, 1) := by decide +kernel
theorem dX6_works_7 : decode cX6_works 7 = .ok (.bipush 7, 2) := by decide +kernel
theorem dX6_works_9 : decode cX6_works 9 = .ok (.invokestatic 72, 3) := by decide +kernel
theorem dX6_works_12 : decode cX6_works 12 = .ok (.ifCond .eq 13, 3) := by decide +kernel
theorem dX6_works_15 : decode cX6_works 15 = .ok (.iload_n 2, 1) := by decide +kernel
theorem dX6_works_16 : decode cX6_works 16 = .ok (.iconst 1, 1) := by decide +kernel
theorem dX6_works_17 : decode cX6_works 17 = .ok (.bipush 8, 2) := by decide +kernel
theorem dX6_works_19 : decode cX6_works 19 = .ok (.invokestatic 72, 3) := by decide +kernel
theorem dX6_works_22 : decode cX6_works 22 = .ok (.ifCond .ne 5, 3) := by decide +kernel
theorem dX6_works_25 : decode cX6_works 25 = .ok (.iconst (-1), 1) := by decide +kernel
theorem dX6_works_26 : decode cX6_works 26 = .ok (.ireturn, 1) := by decide +kernel
theorem dX6_works_27 : decode cX6_works 27 = .ok (.aload_n 0, 1) := by decide +kernel
theorem dX6_works_28 : decode cX6_works 28 = .ok (.getfield 7, 3) := by decide +kernel
theorem dX6_works_31 : decode cX6_works 31 = .ok (.istore_n 3, 1) := by decide +kernel
theorem dX6_works_32 : decode cX6_works 32 = .ok (.aload_n 0, 1) := by decide +kernel
theorem dX6_works_33 : decode cX6_works 33 = .ok (.iload_n 1, 1) := by decide +kernel
theorem dX6_works_34 : decode cX6_works 34 = .ok (.iload_n 2, 1) := by decide +kernel
theorem dX6_works_35 : decode cX6_works 35 = .ok (.invokevirtual 62, 3) := by decide +kernel
theorem dX6_works_38 : decode cX6_works 38 = .ok (.iload_n 3, 1) := by decide +kernel
theorem dX6_works_39 : decode cX6_works 39 = .ok (.ireturn, 1) := by decide +kernel
theorem dX6_isPart_0 : decode cX6_isPart 0 = .ok (.iload_n 1, 1) := by decide +kernel
theorem dX6_isPart_1 : decode cX6_isPart 1 = .ok (.iconst 0, 1) := by decide +kernel
theorem dX6_isPart_2 : decode cX6_isPart 2 = .ok (.aload_n 0, 1) := by decide +kernel
theorem dX6_isPart_3 : decode cX6_isPart 3 = .ok (.getfield 13, 3) := by decide +kernel
theorem dX6_isPart_6 : decode cX6_isPart 6 = .ok (.iconst 1, 1) := by decide +kernel
theorem dX6_isPart_7 : decode cX6_isPart 7 = .ok (.isub, 1) := by decide +kernel
theorem dX6_isPart_8 : decode cX6_isPart 8 = .ok (.invokestatic 72, 3) := by decide +kernel
theorem dX6_isPart_11 : decode cX6_isPart 11 = .ok (.ireturn, 1) := by decide +kernel
theorem dX6_isMachine_0 : decode cX6_isMachine 0 = .ok (.iload_n 1, 1) := by decide +kernel
theorem dX6_isMachine_1 : decode cX6_isMachine 1 = .ok (.iconst 0, 1) := by decide +kernel
theorem dX6_isMachine_2 : decode cX6_isMachine 2 = .ok (.aload_n 0, 1) := by decide +kernel
theorem dX6_isMachine_3 : decode cX6_isMachine 3 = .ok (.getfield 7, 3) := by decide +kernel
theorem dX6_isMachine_6 : decode cX6_isMachine 6 = .ok (.iconst 1, 1) := by decide +kernel
theorem dX6_isMachine_7 : decode cX6_isMachine 7 = .ok (.isub, 1) := by decide +kernel
theorem dX6_isMachine_8 : decode cX6_isMachine 8 = .ok (.invokestatic 72, 3) := by decide +kernel
theorem dX6_isMachine_11 : decode cX6_isMachine 11 = .ok (.ireturn, 1) := by decide +kernel
theorem dX6_route_0 : decode cX6_route 0 = .ok (.aload_n 0, 1) := by decide +kernel
theorem dX6_route_1 : decode cX6_route 1 = .ok (.iconst 0, 1) := by decide +kernel
theorem dX6_route_2 : decode cX6_route 2 = .ok (.putfield 66, 3) := by decide +kernel
theorem dX6_route_5 : decode cX6_route 5 = .ok (.aload_n 0, 1) := by decide +kernel
theorem dX6_route_6 : decode cX6_route 6 = .ok (.iload_n 1, 1) := by decide +kernel
theorem dX6_route_7 : decode cX6_route 7 = .ok (.invokevirtual 76, 3) := by decide +kernel
theorem dX6_route_10 : decode cX6_route 10 = .ok (.ifCond .eq 25, 3) := by decide +kernel
theorem dX6_route_13 : decode cX6_route 13 = .ok (.iload_n 2, 1) := by decide +kernel
theorem dX6_route_14 : decode cX6_route 14 = .ok (.iconst 0, 1) := by decide +kernel
theorem dX6_route_15 : decode cX6_route 15 = .ok (.iconst 1, 1) := by decide +kernel
theorem dX6_route_16 : decode cX6_route 16 = .ok (.invokestatic 72, 3) := by decide +kernel
theorem dX6_route_19 : decode cX6_route 19 = .ok (.ifCond .eq 16, 3) := by decide +kernel
theorem dX6_route_22 : decode cX6_route 22 = .ok (.iload_n 3, 1) := by decide +kernel
theorem dX6_route_23 : decode cX6_route 23 = .ok (.ifCond .lt 12, 3) := by decide +kernel
theorem dX6_route_26 : decode cX6_route 26 = .ok (.iload_n 3, 1) := by decide +kernel
theorem dX6_route_27 : decode cX6_route 27 = .ok (.aload_n 0, 1) := by decide +kernel
theorem dX6_route_28 : decode cX6_route 28 = .ok (.getfield 7, 3) := by decide +kernel
theorem dX6_route_31 : decode cX6_route 31 = .ok (.ishr, 1) := by decide +kernel
theorem dX6_route_32 : decode cX6_route 32 = .ok (.ifCond .eq 5, 3) := by decide +kernel
theorem dX6_route_35 : decode cX6_route 35 = .ok (.iconst (-1), 1) := by decide +kernel
theorem dX6_route_36 : decode cX6_route 36 = .ok (.ireturn, 1) := by decide +kernel
theorem dX6_route_37 : decode cX6_route 37 = .ok (.aload_n 0, 1) := by decide +kernel
theorem dX6_route_38 : decode cX6_route 38 = .ok (.getfield 16, 3) := by decide +kernel
theorem dX6_route_41 : decode cX6_route 41 = .ok (.iconst 2, 1) := by decide +kernel
theorem dX6_route_42 : decode cX6_route 42 = .ok (.iload_n 1, 1) := by decide +kernel
theorem dX6_route_43 : decode cX6_route 43 = .ok (.imul, 1) := by decide +kernel
theorem dX6_route_44 : decode cX6_route 44 = .ok (.iload_n 2, 1) := by decide +kernel
theorem dX6_route_45 : decode cX6_route 45 = .ok (.iadd, 1) := by decide +kernel
theorem dX6_route_46 : decode cX6_route 46 = .ok (.iaload, 1) := by decide +kernel
theorem dX6_route_47 : decode cX6_route 47 = .ok (.istore 4, 2) := by decide +kernel
theorem dX6_route_49 : decode cX6_route 49 = .ok (.aload_n 0, 1) := by decide +kernel
theorem dX6_route_50 : decode cX6_route 50 = .ok (.getfield 16, 3) := by decide +kernel
theorem dX6_route_53 : decode cX6_route 53 = .ok (.iconst 2, 1) := by decide +kernel
theorem dX6_route_54 : decode cX6_route 54 = .ok (.iload_n 1, 1) := by decide +kernel
theorem dX6_route_55 : decode cX6_route 55 = .ok (.imul, 1) := by decide +kernel
theorem dX6_route_56 : decode cX6_route 56 = .ok (.iload_n 2, 1) := by decide +kernel
theorem dX6_route_57 : decode cX6_route 57 = .ok (.iadd, 1) := by decide +kernel
theorem dX6_route_58 : decode cX6_route 58 = .ok (.iload_n 3, 1) := by decide +kernel
theorem dX6_route_59 : decode cX6_route 59 = .ok (.iastore, 1) := by decide +kernel
theorem dX6_route_60 : decode cX6_route 60 = .ok (.iload 4, 2) := by decide +kernel
theorem dX6_route_62 : decode cX6_route 62 = .ok (.ireturn, 1) := by decide +kernel
theorem dX6_goes_0 : decode cX6_goes 0 = .ok (.aload_n 0, 1) := by decide +kernel
theorem dX6_goes_1 : decode cX6_goes 1 = .ok (.iconst 0, 1) := by decide +kernel
theorem dX6_goes_2 : decode cX6_goes 2 = .ok (.putfield 66, 3) := by decide +kernel
theorem dX6_goes_5 : decode cX6_goes 5 = .ok (.aload_n 0, 1) := by decide +kernel
theorem dX6_goes_6 : decode cX6_goes 6 = .ok (.iload_n 1, 1) := by decide +kernel
theorem dX6_goes_7 : decode cX6_goes 7 = .ok (.invokevirtual 76, 3) := by decide +kernel
theorem dX6_goes_10 : decode cX6_goes 10 = .ok (.ifCond .eq 12, 3) := by decide +kernel
theorem dX6_goes_13 : decode cX6_goes 13 = .ok (.iload_n 2, 1) := by decide +kernel
theorem dX6_goes_14 : decode cX6_goes 14 = .ok (.iconst 0, 1) := by decide +kernel
theorem dX6_goes_15 : decode cX6_goes 15 = .ok (.iconst 1, 1) := by decide +kernel
theorem dX6_goes_16 : decode cX6_goes 16 = .ok (.invokestatic 72, 3) := by decide +kernel
theorem dX6_goes_19 : decode cX6_goes 19 = .ok (.ifCond .ne 5, 3) := by decide +kernel
theorem dX6_goes_22 : decode cX6_goes 22 = .ok (.iconst (-1), 1) := by decide +kernel
theorem dX6_goes_23 : decode cX6_goes 23 = .ok (.ireturn, 1) := by decide +kernel
theorem dX6_goes_24 : decode cX6_goes 24 = .ok (.aload_n 0, 1) := by decide +kernel
theorem dX6_goes_25 : decode cX6_goes 25 = .ok (.getfield 20, 3) := by decide +kernel
theorem dX6_goes_28 : decode cX6_goes 28 = .ok (.iload_n 1, 1) := by decide +kernel
theorem dX6_goes_29 : decode cX6_goes 29 = .ok (.iaload, 1) := by decide +kernel
theorem dX6_goes_30 : decode cX6_goes 30 = .ok (.istore_n 3, 1) := by decide +kernel
theorem dX6_goes_31 : decode cX6_goes 31 = .ok (.aload_n 0, 1) := by decide +kernel
theorem dX6_goes_32 : decode cX6_goes 32 = .ok (.getfield 20, 3) := by decide +kernel
theorem dX6_goes_35 : decode cX6_goes 35 = .ok (.iload_n 1, 1) := by decide +kernel
theorem dX6_goes_36 : decode cX6_goes 36 = .ok (.iload_n 2, 1) := by decide +kernel
theorem dX6_goes_37 : decode cX6_goes 37 = .ok (.iastore, 1) := by decide +kernel
theorem dX6_goes_38 : decode cX6_goes 38 = .ok (.iload_n 3, 1) := by decide +kernel
theorem dX6_goes_39 : decode cX6_goes 39 = .ok (.ireturn, 1) := by decide +kernel
theorem dX6_pieces_0 : decode cX6_pieces 0 = .ok (.aload_n 0, 1) := by decide +kernel
theorem dX6_pieces_1 : decode cX6_pieces 1 = .ok (.iconst 0, 1) := by decide +kernel
theorem dX6_pieces_2 : decode cX6_pieces 2 = .ok (.putfield 66, 3) := by decide +kernel
theorem dX6_pieces_5 : decode cX6_pieces 5 = .ok (.aload_n 0, 1) := by decide +kernel
theorem dX6_pieces_6 : decode cX6_pieces 6 = .ok (.iload_n 1, 1) := by decide +kernel
theorem dX6_pieces_7 : decode cX6_pieces 7 = .ok (.invokevirtual 76, 3) := by decide +kernel
theorem dX6_pieces_10 : decode cX6_pieces 10 = .ok (.ifCond .eq 13, 3) := by decide +kernel
theorem dX6_pieces_13 : decode cX6_pieces 13 = .ok (.iload_n 2, 1) := by decide +kernel
theorem dX6_pieces_14 : decode cX6_pieces 14 = .ok (.iconst 1, 1) := by decide +kernel
theorem dX6_pieces_15 : decode cX6_pieces 15 = .ok (.bipush 9, 2) := by decide +kernel
theorem dX6_pieces_17 : decode cX6_pieces 17 = .ok (.invokestatic 72, 3) := by decide +kernel
theorem dX6_pieces_20 : decode cX6_pieces 20 = .ok (.ifCond .ne 5, 3) := by decide +kernel
theorem dX6_pieces_23 : decode cX6_pieces 23 = .ok (.iconst (-1), 1) := by decide +kernel
theorem dX6_pieces_24 : decode cX6_pieces 24 = .ok (.ireturn, 1) := by decide +kernel
theorem dX6_pieces_25 : decode cX6_pieces 25 = .ok (.aload_n 0, 1) := by decide +kernel
theorem dX6_pieces_26 : decode cX6_pieces 26 = .ok (.getfield 23, 3) := by decide +kernel
theorem dX6_pieces_29 : decode cX6_pieces 29 = .ok (.iload_n 1, 1) := by decide +kernel
theorem dX6_pieces_30 : decode cX6_pieces 30 = .ok (.iaload, 1) := by decide +kernel
theorem dX6_pieces_31 : decode cX6_pieces 31 = .ok (.istore_n 3, 1) := by decide +kernel
theorem dX6_pieces_32 : decode cX6_pieces 32 = .ok (.aload_n 0, 1) := by decide +kernel
theorem dX6_pieces_33 : decode cX6_pieces 33 = .ok (.getfield 23, 3) := by decide +kernel
theorem dX6_pieces_36 : decode cX6_pieces 36 = .ok (.iload_n 1, 1) := by decide +kernel
theorem dX6_pieces_37 : decode cX6_pieces 37 = .ok (.iload_n 2, 1) := by decide +kernel
theorem dX6_pieces_38 : decode cX6_pieces 38 = .ok (.iastore, 1) := by decide +kernel
theorem dX6_pieces_39 : decode cX6_pieces 39 = .ok (.iload_n 3, 1) := by decide +kernel
theorem dX6_pieces_40 : decode cX6_pieces 40 = .ok (.ireturn, 1) := by decide +kernel
theorem dX6_power_0 : decode cX6_power 0 = .ok (.iconst 1, 1) := by decide +kernel
theorem dX6_power_1 : decode cX6_power 1 = .ok (.iconst 2, 1) := by decide +kernel
theorem dX6_power_2 : decode cX6_power 2 = .ok (.iload_n 0, 1) := by decide +kernel
theorem dX6_power_3 : decode cX6_power 3 = .ok (.imul, 1) := by decide +kernel
theorem dX6_power_4 : decode cX6_power 4 = .ok (.ishl, 1) := by decide +kernel
theorem dX6_power_5 : decode cX6_power 5 = .ok (.ireturn, 1) := by decide +kernel
theorem dX6_cellOf_0 : decode cX6_cellOf 0 = .ok (.iload_n 0, 1) := by decide +kernel
theorem dX6_cellOf_1 : decode cX6_cellOf 1 = .ok (.iconst 2, 1) := by decide +kernel
theorem dX6_cellOf_2 : decode cX6_cellOf 2 = .ok (.iload_n 1, 1) := by decide +kernel
theorem dX6_cellOf_3 : decode cX6_cellOf 3 = .ok (.imul, 1) := by decide +kernel
theorem dX6_cellOf_4 : decode cX6_cellOf 4 = .ok (.ishr, 1) := by decide +kernel
theorem dX6_cellOf_5 : decode cX6_cellOf 5 = .ok (.iconst 3, 1) := by decide +kernel
theorem dX6_cellOf_6 : decode cX6_cellOf 6 = .ok (.iand, 1) := by decide +kernel
theorem dX6_cellOf_7 : decode cX6_cellOf 7 = .ok (.ireturn, 1) := by decide +kernel
theorem dX6_cell_0 : decode cX6_cell 0 = .ok (.aload_n 0, 1) := by decide +kernel
theorem dX6_cell_1 : decode cX6_cell 1 = .ok (.iconst 0, 1) := by decide +kernel
theorem dX6_cell_2 : decode cX6_cell 2 = .ok (.putfield 66, 3) := by decide +kernel
theorem dX6_cell_5 : decode cX6_cell 5 = .ok (.aload_n 0, 1) := by decide +kernel
theorem dX6_cell_6 : decode cX6_cell 6 = .ok (.iload_n 1, 1) := by decide +kernel
theorem dX6_cell_7 : decode cX6_cell 7 = .ok (.invokevirtual 80, 3) := by decide +kernel
theorem dX6_cell_10 : decode cX6_cell 10 = .ok (.ifCond .eq 12, 3) := by decide +kernel
theorem dX6_cell_13 : decode cX6_cell 13 = .ok (.iload_n 2, 1) := by decide +kernel
theorem dX6_cell_14 : decode cX6_cell 14 = .ok (.iconst 0, 1) := by decide +kernel
theorem dX6_cell_15 : decode cX6_cell 15 = .ok (.iconst 3, 1) := by decide +kernel
theorem dX6_cell_16 : decode cX6_cell 16 = .ok (.invokestatic 72, 3) := by decide +kernel
theorem dX6_cell_19 : decode cX6_cell 19 = .ok (.ifCond .ne 5, 3) := by decide +kernel
theorem dX6_cell_22 : decode cX6_cell 22 = .ok (.iconst (-1), 1) := by decide +kernel
theorem dX6_cell_23 : decode cX6_cell 23 = .ok (.ireturn, 1) := by decide +kernel
theorem dX6_cell_24 : decode cX6_cell 24 = .ok (.aload_n 0, 1) := by decide +kernel
theorem dX6_cell_25 : decode cX6_cell 25 = .ok (.getfield 69, 3) := by decide +kernel
theorem dX6_cell_28 : decode cX6_cell 28 = .ok (.iload_n 1, 1) := by decide +kernel
theorem dX6_cell_29 : decode cX6_cell 29 = .ok (.invokestatic 83, 3) := by decide +kernel
theorem dX6_cell_32 : decode cX6_cell 32 = .ok (.istore_n 3, 1) := by decide +kernel
theorem dX6_cell_33 : decode cX6_cell 33 = .ok (.aload_n 0, 1) := by decide +kernel
theorem dX6_cell_34 : decode cX6_cell 34 = .ok (.dup, 1) := by decide +kernel
theorem dX6_cell_35 : decode cX6_cell 35 = .ok (.getfield 69, 3) := by decide +kernel
theorem dX6_cell_38 : decode cX6_cell 38 = .ok (.iload_n 2, 1) := by decide +kernel
theorem dX6_cell_39 : decode cX6_cell 39 = .ok (.iload_n 3, 1) := by decide +kernel
theorem dX6_cell_40 : decode cX6_cell 40 = .ok (.isub, 1) := by decide +kernel
theorem dX6_cell_41 : decode cX6_cell 41 = .ok (.iload_n 1, 1) := by decide +kernel
theorem dX6_cell_42 : decode cX6_cell 42 = .ok (.invokestatic 87, 3) := by decide +kernel
theorem dX6_cell_45 : decode cX6_cell 45 = .ok (.imul, 1) := by decide +kernel
theorem dX6_cell_46 : decode cX6_cell 46 = .ok (.iadd, 1) := by decide +kernel
theorem dX6_cell_47 : decode cX6_cell 47 = .ok (.putfield 69, 3) := by decide +kernel
theorem dX6_cell_50 : decode cX6_cell 50 = .ok (.iload_n 3, 1) := by decide +kernel
theorem dX6_cell_51 : decode cX6_cell 51 = .ok (.ireturn, 1) := by decide +kernel
theorem dX6_group_0 : decode cX6_group 0 = .ok (.aload_n 0, 1) := by decide +kernel
theorem dX6_group_1 : decode cX6_group 1 = .ok (.iconst 0, 1) := by decide +kernel
theorem dX6_group_2 : decode cX6_group 2 = .ok (.putfield 66, 3) := by decide +kernel
theorem dX6_group_5 : decode cX6_group 5 = .ok (.iload_n 1, 1) := by decide +kernel
theorem dX6_group_6 : decode cX6_group 6 = .ok (.iconst 0, 1) := by decide +kernel
theorem dX6_group_7 : decode cX6_group 7 = .ok (.aload_n 0, 1) := by decide +kernel
theorem dX6_group_8 : decode cX6_group 8 = .ok (.getfield 7, 3) := by decide +kernel
theorem dX6_group_11 : decode cX6_group 11 = .ok (.invokestatic 87, 3) := by decide +kernel
theorem dX6_group_14 : decode cX6_group 14 = .ok (.iconst 1, 1) := by decide +kernel
theorem dX6_group_15 : decode cX6_group 15 = .ok (.isub, 1) := by decide +kernel
theorem dX6_group_16 : decode cX6_group 16 = .ok (.invokestatic 72, 3) := by decide +kernel
theorem dX6_group_19 : decode cX6_group 19 = .ok (.ifCond .ne 5, 3) := by decide +kernel
theorem dX6_group_22 : decode cX6_group 22 = .ok (.iconst (-1), 1) := by decide +kernel
theorem dX6_group_23 : decode cX6_group 23 = .ok (.ireturn, 1) := by decide +kernel
theorem dX6_group_24 : decode cX6_group 24 = .ok (.aload_n 0, 1) := by decide +kernel
theorem dX6_group_25 : decode cX6_group 25 = .ok (.getfield 69, 3) := by decide +kernel
theorem dX6_group_28 : decode cX6_group 28 = .ok (.istore_n 2, 1) := by decide +kernel
theorem dX6_group_29 : decode cX6_group 29 = .ok (.aload_n 0, 1) := by decide +kernel
theorem dX6_group_30 : decode cX6_group 30 = .ok (.iload_n 1, 1) := by decide +kernel
theorem dX6_group_31 : decode cX6_group 31 = .ok (.putfield 69, 3) := by decide +kernel
theorem dX6_group_34 : decode cX6_group 34 = .ok (.iload_n 2, 1) := by decide +kernel
theorem dX6_group_35 : decode cX6_group 35 = .ok (.ireturn, 1) := by decide +kernel
theorem dX6_setOf_0 : decode cX6_setOf 0 = .ok (.aload_n 0, 1) := by decide +kernel
theorem dX6_setOf_1 : decode cX6_setOf 1 = .ok (.getfield 16, 3) := by decide +kernel
theorem dX6_setOf_4 : decode cX6_setOf 4 = .ok (.iconst 2, 1) := by decide +kernel
theorem dX6_setOf_5 : decode cX6_setOf 5 = .ok (.iload_n 1, 1) := by decide +kernel
theorem dX6_setOf_6 : decode cX6_setOf 6 = .ok (.imul, 1) := by decide +kernel
theorem dX6_setOf_7 : decode cX6_setOf 7 = .ok (.aload_n 0, 1) := by decide +kernel
theorem dX6_setOf_8 : decode cX6_setOf 8 = .ok (.getfield 20, 3) := by decide +kernel
theorem dX6_setOf_11 : decode cX6_setOf 11 = .ok (.iload_n 1, 1) := by decide +kernel
theorem dX6_setOf_12 : decode cX6_setOf 12 = .ok (.iaload, 1) := by decide +kernel
theorem dX6_setOf_13 : decode cX6_setOf 13 = .ok (.iadd, 1) := by decide +kernel
theorem dX6_setOf_14 : decode cX6_setOf 14 = .ok (.iaload, 1) := by decide +kernel
theorem dX6_setOf_15 : decode cX6_setOf 15 = .ok (.ireturn, 1) := by decide +kernel
theorem dX6_inCell_0 : decode cX6_inCell 0 = .ok (.iconst 0, 1) := by decide +kernel
theorem dX6_inCell_1 : decode cX6_inCell 1 = .ok (.istore 4, 2) := by decide +kernel
theorem dX6_inCell_3 : decode cX6_inCell 3 = .ok (.iconst 0, 1) := by decide +kernel
theorem dX6_inCell_4 : decode cX6_inCell 4 = .ok (.istore 5, 2) := by decide +kernel
theorem dX6_inCell_6 : decode cX6_inCell 6 = .ok (.iload 5, 2) := by decide +kernel
theorem dX6_inCell_8 : decode cX6_inCell 8 = .ok (.aload_n 0, 1) := by decide +kernel
theorem dX6_inCell_9 : decode cX6_inCell 9 = .ok (.getfield 7, 3) := by decide +kernel
theorem dX6_inCell_12 : decode cX6_inCell 12 = .ok (.if_icmp .ge 39, 3) := by decide +kernel
theorem dX6_inCell_15 : decode cX6_inCell 15 = .ok (.iload 4, 2) := by decide +kernel
theorem dX6_inCell_17 : decode cX6_inCell 17 = .ok (.iload_n 2, 1) := by decide +kernel
theorem dX6_inCell_18 : decode cX6_inCell 18 = .ok (.iload 5, 2) := by decide +kernel
theorem dX6_inCell_20 : decode cX6_inCell 20 = .ok (.ishr, 1) := by decide +kernel
theorem dX6_inCell_21 : decode cX6_inCell 21 = .ok (.iconst 1, 1) := by decide +kernel
theorem dX6_inCell_22 : decode cX6_inCell 22 = .ok (.iand, 1) := by decide +kernel
theorem dX6_inCell_23 : decode cX6_inCell 23 = .ok (.iconst 1, 1) := by decide +kernel
theorem dX6_inCell_24 : decode cX6_inCell 24 = .ok (.if_icmp .ne 17, 3) := by decide +kernel
theorem dX6_inCell_27 : decode cX6_inCell 27 = .ok (.iload_n 1, 1) := by decide +kernel
theorem dX6_inCell_28 : decode cX6_inCell 28 = .ok (.iload 5, 2) := by decide +kernel
theorem dX6_inCell_30 : decode cX6_inCell 30 = .ok (.invokestatic 83, 3) := by decide +kernel
theorem dX6_inCell_33 : decode cX6_inCell 33 = .ok (.iload_n 3, 1) := by decide +kernel
theorem dX6_inCell_34 : decode cX6_inCell 34 = .ok (.if_icmp .ne 7, 3) := by decide +kernel
theorem dX6_inCell_37 : decode cX6_inCell 37 = .ok (.iconst 1, 1) := by decide +kernel
theorem dX6_inCell_38 : decode cX6_inCell 38 = .ok (.goto 4, 3) := by decide +kernel
theorem dX6_inCell_41 : decode cX6_inCell 41 = .ok (.iconst 0, 1) := by decide +kernel
theorem dX6_inCell_42 : decode cX6_inCell 42 = .ok (.iadd, 1) := by decide +kernel
theorem dX6_inCell_43 : decode cX6_inCell 43 = .ok (.istore 4, 2) := by decide +kernel
theorem dX6_inCell_45 : decode cX6_inCell 45 = .ok (.iinc 5 1, 3) := by decide +kernel
theorem dX6_inCell_48 : decode cX6_inCell 48 = .ok (.goto (-42), 3) := by decide +kernel
theorem dX6_inCell_51 : decode cX6_inCell 51 = .ok (.iload 4, 2) := by decide +kernel
theorem dX6_inCell_53 : decode cX6_inCell 53 = .ok (.ireturn, 1) := by decide +kernel
theorem dX6_homeOf_0 : decode cX6_homeOf 0 = .ok (.iconst 0, 1) := by decide +kernel
theorem dX6_homeOf_1 : decode cX6_homeOf 1 = .ok (.istore_n 3, 1) := by decide +kernel
theorem dX6_homeOf_2 : decode cX6_homeOf 2 = .ok (.iconst 1, 1) := by decide +kernel
theorem dX6_homeOf_3 : decode cX6_homeOf 3 = .ok (.istore 4, 2) := by decide +kernel
theorem dX6_homeOf_5 : decode cX6_homeOf 5 = .ok (.iload 4, 2) := by decide +kernel
theorem dX6_homeOf_7 : decode cX6_homeOf 7 = .ok (.iconst 4, 1) := by decide +kernel
theorem dX6_homeOf_8 : decode cX6_homeOf 8 = .ok (.if_icmp .ge 34, 3) := by decide +kernel
theorem dX6_homeOf_11 : decode cX6_homeOf 11 = .ok (.aload_n 0, 1) := by decide +kernel
theorem dX6_homeOf_12 : decode cX6_homeOf 12 = .ok (.iload_n 1, 1) := by decide +kernel
theorem dX6_homeOf_13 : decode cX6_homeOf 13 = .ok (.iload_n 2, 1) := by decide +kernel
theorem dX6_homeOf_14 : decode cX6_homeOf 14 = .ok (.iload 4, 2) := by decide +kernel
theorem dX6_homeOf_16 : decode cX6_homeOf 16 = .ok (.invokevirtual 91, 3) := by decide +kernel
theorem dX6_homeOf_19 : decode cX6_homeOf 19 = .ok (.aload_n 0, 1) := by decide +kernel
theorem dX6_homeOf_20 : decode cX6_homeOf 20 = .ok (.iload_n 1, 1) := by decide +kernel
theorem dX6_homeOf_21 : decode cX6_homeOf 21 = .ok (.iload_n 2, 1) := by decide +kernel
theorem dX6_homeOf_22 : decode cX6_homeOf 22 = .ok (.iload_n 3, 1) := by decide +kernel
theorem dX6_homeOf_23 : decode cX6_homeOf 23 = .ok (.invokevirtual 91, 3) := by decide +kernel
theorem dX6_homeOf_26 : decode cX6_homeOf 26 = .ok (.if_icmp .le 8, 3) := by decide +kernel
theorem dX6_homeOf_29 : decode cX6_homeOf 29 = .ok (.iload 4, 2) := by decide +kernel
theorem dX6_homeOf_31 : decode cX6_homeOf 31 = .ok (.goto 4, 3) := by decide +kernel
theorem dX6_homeOf_34 : decode cX6_homeOf 34 = .ok (.iload_n 3, 1) := by decide +kernel
theorem dX6_homeOf_35 : decode cX6_homeOf 35 = .ok (.istore_n 3, 1) := by decide +kernel
theorem dX6_homeOf_36 : decode cX6_homeOf 36 = .ok (.iinc 4 1, 3) := by decide +kernel
theorem dX6_homeOf_39 : decode cX6_homeOf 39 = .ok (.goto (-34), 3) := by decide +kernel
theorem dX6_homeOf_42 : decode cX6_homeOf 42 = .ok (.iload_n 3, 1) := by decide +kernel
theorem dX6_homeOf_43 : decode cX6_homeOf 43 = .ok (.ireturn, 1) := by decide +kernel
theorem dX6_wandersOf_0 : decode cX6_wandersOf 0 = .ok (.aload_n 0, 1) := by decide +kernel
theorem dX6_wandersOf_1 : decode cX6_wandersOf 1 = .ok (.iload_n 1, 1) := by decide +kernel
theorem dX6_wandersOf_2 : decode cX6_wandersOf 2 = .ok (.iload_n 2, 1) := by decide +kernel
theorem dX6_wandersOf_3 : decode cX6_wandersOf 3 = .ok (.invokevirtual 95, 3) := by decide +kernel
theorem dX6_wandersOf_6 : decode cX6_wandersOf 6 = .ok (.istore_n 3, 1) := by decide +kernel
theorem dX6_wandersOf_7 : decode cX6_wandersOf 7 = .ok (.iconst 0, 1) := by decide +kernel
theorem dX6_wandersOf_8 : decode cX6_wandersOf 8 = .ok (.istore 4, 2) := by decide +kernel
theorem dX6_wandersOf_10 : decode cX6_wandersOf 10 = .ok (.iconst 0, 1) := by decide +kernel
theorem dX6_wandersOf_11 : decode cX6_wandersOf 11 = .ok (.istore 5, 2) := by decide +kernel
theorem dX6_wandersOf_13 : decode cX6_wandersOf 13 = .ok (.iload 5, 2) := by decide +kernel
theorem dX6_wandersOf_15 : decode cX6_wandersOf 15 = .ok (.iconst 4, 1) := by decide +kernel
theorem dX6_wandersOf_16 : decode cX6_wandersOf 16 = .ok (.if_icmp .ge 32, 3) := by decide +kernel
theorem dX6_wandersOf_19 : decode cX6_wandersOf 19 = .ok (.iload 4, 2) := by decide +kernel
theorem dX6_wandersOf_21 : decode cX6_wandersOf 21 = .ok (.iload 5, 2) := by decide +kernel
theorem dX6_wandersOf_23 : decode cX6_wandersOf 23 = .ok (.iload_n 3, 1) := by decide +kernel
theorem dX6_wandersOf_24 : decode cX6_wandersOf 24 = .ok (.if_icmp .ne 7, 3) := by decide +kernel
theorem dX6_wandersOf_27 : decode cX6_wandersOf 27 = .ok (.iconst 0, 1) := by decide +kernel
theorem dX6_wandersOf_28 : decode cX6_wandersOf 28 = .ok (.goto 11, 3) := by decide +kernel
theorem dX6_wandersOf_31 : decode cX6_wandersOf 31 = .ok (.aload_n 0, 1) := by decide +kernel
theorem dX6_wandersOf_32 : decode cX6_wandersOf 32 = .ok (.iload_n 1, 1) := by decide +kernel
theorem dX6_wandersOf_33 : decode cX6_wandersOf 33 = .ok (.iload_n 2, 1) := by decide +kernel
theorem dX6_wandersOf_34 : decode cX6_wandersOf 34 = .ok (.iload 5, 2) := by decide +kernel
theorem dX6_wandersOf_36 : decode cX6_wandersOf 36 = .ok (.invokevirtual 91, 3) := by decide +kernel
theorem dX6_wandersOf_39 : decode cX6_wandersOf 39 = .ok (.iadd, 1) := by decide +kernel
theorem dX6_wandersOf_40 : decode cX6_wandersOf 40 = .ok (.istore 4, 2) := by decide +kernel
theorem dX6_wandersOf_42 : decode cX6_wandersOf 42 = .ok (.iinc 5 1, 3) := by decide +kernel
theorem dX6_wandersOf_45 : decode cX6_wandersOf 45 = .ok (.goto (-32), 3) := by decide +kernel
theorem dX6_wandersOf_48 : decode cX6_wandersOf 48 = .ok (.iload 4, 2) := by decide +kernel
theorem dX6_wandersOf_50 : decode cX6_wandersOf 50 = .ok (.ireturn, 1) := by decide +kernel
theorem dX6_idleOf_0 : decode cX6_idleOf 0 = .ok (.aload_n 0, 1) := by decide +kernel
theorem dX6_idleOf_1 : decode cX6_idleOf 1 = .ok (.iload_n 1, 1) := by decide +kernel
theorem dX6_idleOf_2 : decode cX6_idleOf 2 = .ok (.iconst 1, 1) := by decide +kernel
theorem dX6_idleOf_3 : decode cX6_idleOf 3 = .ok (.aload_n 0, 1) := by decide +kernel
theorem dX6_idleOf_4 : decode cX6_idleOf 4 = .ok (.getfield 7, 3) := by decide +kernel
theorem dX6_idleOf_7 : decode cX6_idleOf 7 = .ok (.ishl, 1) := by decide +kernel
theorem dX6_idleOf_8 : decode cX6_idleOf 8 = .ok (.iconst 1, 1) := by decide +kernel
theorem dX6_idleOf_9 : decode cX6_idleOf 9 = .ok (.isub, 1) := by decide +kernel
theorem dX6_idleOf_10 : decode cX6_idleOf 10 = .ok (.iload_n 2, 1) := by decide +kernel
theorem dX6_idleOf_11 : decode cX6_idleOf 11 = .ok (.isub, 1) := by decide +kernel
theorem dX6_idleOf_12 : decode cX6_idleOf 12 = .ok (.aload_n 0, 1) := by decide +kernel
theorem dX6_idleOf_13 : decode cX6_idleOf 13 = .ok (.iload_n 1, 1) := by decide +kernel
theorem dX6_idleOf_14 : decode cX6_idleOf 14 = .ok (.iload_n 2, 1) := by decide +kernel
theorem dX6_idleOf_15 : decode cX6_idleOf 15 = .ok (.invokevirtual 95, 3) := by decide +kernel
theorem dX6_idleOf_18 : decode cX6_idleOf 18 = .ok (.invokevirtual 91, 3) := by decide +kernel
theorem dX6_idleOf_21 : decode cX6_idleOf 21 = .ok (.ireturn, 1) := by decide +kernel
theorem dX6_about_0 : decode cX6_about 0 = .ok (.aload_n 0, 1) := by decide +kernel
theorem dX6_about_1 : decode cX6_about 1 = .ok (.iconst 0, 1) := by decide +kernel
theorem dX6_about_2 : decode cX6_about 2 = .ok (.putfield 66, 3) := by decide +kernel
theorem dX6_about_5 : decode cX6_about 5 = .ok (.aload_n 0, 1) := by decide +kernel
theorem dX6_about_6 : decode cX6_about 6 = .ok (.iload_n 1, 1) := by decide +kernel
theorem dX6_about_7 : decode cX6_about 7 = .ok (.invokevirtual 76, 3) := by decide +kernel
theorem dX6_about_10 : decode cX6_about 10 = .ok (.ifCond .ne 5, 3) := by decide +kernel
theorem dX6_about_13 : decode cX6_about 13 = .ok (.iconst (-1), 1) := by decide +kernel
theorem dX6_about_14 : decode cX6_about 14 = .ok (.ireturn, 1) := by decide +kernel
theorem dX6_about_15 : decode cX6_about 15 = .ok (.iload_n 2, 1) := by decide +kernel
theorem dX6_about_16 : decode cX6_about 16 = .ok (.tableswitch 102 0 5 #[40, 54, 68, 82, 89, 96], 40) := by decide +kernel
theorem dX6_about_56 : decode cX6_about 56 = .ok (.aload_n 0, 1) := by decide +kernel
theorem dX6_about_57 : decode cX6_about 57 = .ok (.aload_n 0, 1) := by decide +kernel
theorem dX6_about_58 : decode cX6_about 58 = .ok (.getfield 69, 3) := by decide +kernel
theorem dX6_about_61 : decode cX6_about 61 = .ok (.aload_n 0, 1) := by decide +kernel
theorem dX6_about_62 : decode cX6_about 62 = .ok (.iload_n 1, 1) := by decide +kernel
theorem dX6_about_63 : decode cX6_about 63 = .ok (.invokevirtual 98, 3) := by decide +kernel
theorem dX6_about_66 : decode cX6_about 66 = .ok (.invokevirtual 95, 3) := by decide +kernel
theorem dX6_about_69 : decode cX6_about 69 = .ok (.ireturn, 1) := by decide +kernel
theorem dX6_about_70 : decode cX6_about 70 = .ok (.aload_n 0, 1) := by decide +kernel
theorem dX6_about_71 : decode cX6_about 71 = .ok (.aload_n 0, 1) := by decide +kernel
theorem dX6_about_72 : decode cX6_about 72 = .ok (.getfield 69, 3) := by decide +kernel
theorem dX6_about_75 : decode cX6_about 75 = .ok (.aload_n 0, 1) := by decide +kernel
theorem dX6_about_76 : decode cX6_about 76 = .ok (.iload_n 1, 1) := by decide +kernel
theorem dX6_about_77 : decode cX6_about 77 = .ok (.invokevirtual 98, 3) := by decide +kernel
theorem dX6_about_80 : decode cX6_about 80 = .ok (.invokevirtual 101, 3) := by decide +kernel
theorem dX6_about_83 : decode cX6_about 83 = .ok (.ireturn, 1) := by decide +kernel
theorem dX6_about_84 : decode cX6_about 84 = .ok (.aload_n 0, 1) := by decide +kernel
theorem dX6_about_85 : decode cX6_about 85 = .ok (.aload_n 0, 1) := by decide +kernel
theorem dX6_about_86 : decode cX6_about 86 = .ok (.getfield 69, 3) := by decide +kernel
theorem dX6_about_89 : decode cX6_about 89 = .ok (.aload_n 0, 1) := by decide +kernel
theorem dX6_about_90 : decode cX6_about 90 = .ok (.iload_n 1, 1) := by decide +kernel
theorem dX6_about_91 : decode cX6_about 91 = .ok (.invokevirtual 98, 3) := by decide +kernel
theorem dX6_about_94 : decode cX6_about 94 = .ok (.invokevirtual 104, 3) := by decide +kernel
theorem dX6_about_97 : decode cX6_about 97 = .ok (.ireturn, 1) := by decide +kernel
theorem dX6_about_98 : decode cX6_about 98 = .ok (.aload_n 0, 1) := by decide +kernel
theorem dX6_about_99 : decode cX6_about 99 = .ok (.getfield 23, 3) := by decide +kernel
theorem dX6_about_102 : decode cX6_about 102 = .ok (.iload_n 1, 1) := by decide +kernel
theorem dX6_about_103 : decode cX6_about 103 = .ok (.iaload, 1) := by decide +kernel
theorem dX6_about_104 : decode cX6_about 104 = .ok (.ireturn, 1) := by decide +kernel
theorem dX6_about_105 : decode cX6_about 105 = .ok (.aload_n 0, 1) := by decide +kernel
theorem dX6_about_106 : decode cX6_about 106 = .ok (.getfield 20, 3) := by decide +kernel
theorem dX6_about_109 : decode cX6_about 109 = .ok (.iload_n 1, 1) := by decide +kernel
theorem dX6_about_110 : decode cX6_about 110 = .ok (.iaload, 1) := by decide +kernel
theorem dX6_about_111 : decode cX6_about 111 = .ok (.ireturn, 1) := by decide +kernel
theorem dX6_about_112 : decode cX6_about 112 = .ok (.aload_n 0, 1) := by decide +kernel
theorem dX6_about_113 : decode cX6_about 113 = .ok (.iload_n 1, 1) := by decide +kernel
theorem dX6_about_114 : decode cX6_about 114 = .ok (.invokevirtual 98, 3) := by decide +kernel
theorem dX6_about_117 : decode cX6_about 117 = .ok (.ireturn, 1) := by decide +kernel
theorem dX6_about_118 : decode cX6_about 118 = .ok (.iconst (-1), 1) := by decide +kernel
theorem dX6_about_119 : decode cX6_about 119 = .ok (.ireturn, 1) := by decide +kernel
theorem dX6_lossOf_0 : decode cX6_lossOf 0 = .ok (.iconst 0, 1) := by decide +kernel
theorem dX6_lossOf_1 : decode cX6_lossOf 1 = .ok (.istore_n 3, 1) := by decide +kernel
theorem dX6_lossOf_2 : decode cX6_lossOf 2 = .ok (.iconst 0, 1) := by decide +kernel
theorem dX6_lossOf_3 : decode cX6_lossOf 3 = .ok (.istore 4, 2) := by decide +kernel
theorem dX6_lossOf_5 : decode cX6_lossOf 5 = .ok (.iload 4, 2) := by decide +kernel
theorem dX6_lossOf_7 : decode cX6_lossOf 7 = .ok (.aload_n 0, 1) := by decide +kernel
theorem dX6_lossOf_8 : decode cX6_lossOf 8 = .ok (.getfield 13, 3) := by decide +kernel
theorem dX6_lossOf_11 : decode cX6_lossOf 11 = .ok (.if_icmp .ge 53, 3) := by decide +kernel
theorem dX6_lossOf_14 : decode cX6_lossOf 14 = .ok (.iload_n 3, 1) := by decide +kernel
theorem dX6_lossOf_15 : decode cX6_lossOf 15 = .ok (.aload_n 0, 1) := by decide +kernel
theorem dX6_lossOf_16 : decode cX6_lossOf 16 = .ok (.iload_n 1, 1) := by decide +kernel
theorem dX6_lossOf_17 : decode cX6_lossOf 17 = .ok (.aload_n 0, 1) := by decide +kernel
theorem dX6_lossOf_18 : decode cX6_lossOf 18 = .ok (.iload 4, 2) := by decide +kernel
theorem dX6_lossOf_20 : decode cX6_lossOf 20 = .ok (.invokevirtual 98, 3) := by decide +kernel
theorem dX6_lossOf_23 : decode cX6_lossOf 23 = .ok (.invokevirtual 101, 3) := by decide +kernel
theorem dX6_lossOf_26 : decode cX6_lossOf 26 = .ok (.aload_n 0, 1) := by decide +kernel
theorem dX6_lossOf_27 : decode cX6_lossOf 27 = .ok (.getfield 23, 3) := by decide +kernel
theorem dX6_lossOf_30 : decode cX6_lossOf 30 = .ok (.iload 4, 2) := by decide +kernel
theorem dX6_lossOf_32 : decode cX6_lossOf 32 = .ok (.iaload, 1) := by decide +kernel
theorem dX6_lossOf_33 : decode cX6_lossOf 33 = .ok (.imul, 1) := by decide +kernel
theorem dX6_lossOf_34 : decode cX6_lossOf 34 = .ok (.iadd, 1) := by decide +kernel
theorem dX6_lossOf_35 : decode cX6_lossOf 35 = .ok (.istore_n 3, 1) := by decide +kernel
theorem dX6_lossOf_36 : decode cX6_lossOf 36 = .ok (.iload_n 3, 1) := by decide +kernel
theorem dX6_lossOf_37 : decode cX6_lossOf 37 = .ok (.iload_n 2, 1) := by decide +kernel
theorem dX6_lossOf_38 : decode cX6_lossOf 38 = .ok (.ifCond .le 17, 3) := by decide +kernel
theorem dX6_lossOf_41 : decode cX6_lossOf 41 = .ok (.aload_n 0, 1) := by decide +kernel
theorem dX6_lossOf_42 : decode cX6_lossOf 42 = .ok (.iload_n 1, 1) := by decide +kernel
theorem dX6_lossOf_43 : decode cX6_lossOf 43 = .ok (.aload_n 0, 1) := by decide +kernel
theorem dX6_lossOf_44 : decode cX6_lossOf 44 = .ok (.iload 4, 2) := by decide +kernel
theorem dX6_lossOf_46 : decode cX6_lossOf 46 = .ok (.invokevirtual 98, 3) := by decide +kernel
theorem dX6_lossOf_49 : decode cX6_lossOf 49 = .ok (.invokevirtual 104, 3) := by decide +kernel
theorem dX6_lossOf_52 : decode cX6_lossOf 52 = .ok (.goto 4, 3) := by decide +kernel
theorem dX6_lossOf_55 : decode cX6_lossOf 55 = .ok (.iconst 0, 1) := by decide +kernel
theorem dX6_lossOf_56 : decode cX6_lossOf 56 = .ok (.iadd, 1) := by decide +kernel
theorem dX6_lossOf_57 : decode cX6_lossOf 57 = .ok (.istore_n 3, 1) := by decide +kernel
theorem dX6_lossOf_58 : decode cX6_lossOf 58 = .ok (.iinc 4 1, 3) := by decide +kernel
theorem dX6_lossOf_61 : decode cX6_lossOf 61 = .ok (.goto (-56), 3) := by decide +kernel
theorem dX6_lossOf_64 : decode cX6_lossOf 64 = .ok (.iconst 0, 1) := by decide +kernel
theorem dX6_lossOf_65 : decode cX6_lossOf 65 = .ok (.istore 4, 2) := by decide +kernel
theorem dX6_lossOf_67 : decode cX6_lossOf 67 = .ok (.iload 4, 2) := by decide +kernel
theorem dX6_lossOf_69 : decode cX6_lossOf 69 = .ok (.iconst 4, 1) := by decide +kernel
theorem dX6_lossOf_70 : decode cX6_lossOf 70 = .ok (.if_icmp .ge 39, 3) := by decide +kernel
theorem dX6_lossOf_73 : decode cX6_lossOf 73 = .ok (.iload_n 2, 1) := by decide +kernel
theorem dX6_lossOf_74 : decode cX6_lossOf 74 = .ok (.iconst 2, 1) := by decide +kernel
theorem dX6_lossOf_75 : decode cX6_lossOf 75 = .ok (.if_icmp .ne 34, 3) := by decide +kernel
theorem dX6_lossOf_78 : decode cX6_lossOf 78 = .ok (.aload_n 0, 1) := by decide +kernel
theorem dX6_lossOf_79 : decode cX6_lossOf 79 = .ok (.iload_n 1, 1) := by decide +kernel
theorem dX6_lossOf_80 : decode cX6_lossOf 80 = .ok (.iconst 1, 1) := by decide +kernel
theorem dX6_lossOf_81 : decode cX6_lossOf 81 = .ok (.aload_n 0, 1) := by decide +kernel
theorem dX6_lossOf_82 : decode cX6_lossOf 82 = .ok (.getfield 7, 3) := by decide +kernel
theorem dX6_lossOf_85 : decode cX6_lossOf 85 = .ok (.ishl, 1) := by decide +kernel
theorem dX6_lossOf_86 : decode cX6_lossOf 86 = .ok (.iconst 1, 1) := by decide +kernel
theorem dX6_lossOf_87 : decode cX6_lossOf 87 = .ok (.isub, 1) := by decide +kernel
theorem dX6_lossOf_88 : decode cX6_lossOf 88 = .ok (.iload 4, 2) := by decide +kernel
theorem dX6_lossOf_90 : decode cX6_lossOf 90 = .ok (.invokevirtual 91, 3) := by decide +kernel
theorem dX6_lossOf_93 : decode cX6_lossOf 93 = .ok (.istore 5, 2) := by decide +kernel
theorem dX6_lossOf_95 : decode cX6_lossOf 95 = .ok (.iload_n 3, 1) := by decide +kernel
theorem dX6_lossOf_96 : decode cX6_lossOf 96 = .ok (.iload 5, 2) := by decide +kernel
theorem dX6_lossOf_98 : decode cX6_lossOf 98 = .ok (.iload 5, 2) := by decide +kernel
theorem dX6_lossOf_100 : decode cX6_lossOf 100 = .ok (.imul, 1) := by decide +kernel
theorem dX6_lossOf_101 : decode cX6_lossOf 101 = .ok (.iadd, 1) := by decide +kernel
theorem dX6_lossOf_102 : decode cX6_lossOf 102 = .ok (.istore_n 3, 1) := by decide +kernel
theorem dX6_lossOf_103 : decode cX6_lossOf 103 = .ok (.iinc 4 1, 3) := by decide +kernel
theorem dX6_lossOf_106 : decode cX6_lossOf 106 = .ok (.goto (-39), 3) := by decide +kernel
theorem dX6_lossOf_109 : decode cX6_lossOf 109 = .ok (.iload_n 3, 1) := by decide +kernel
theorem dX6_lossOf_110 : decode cX6_lossOf 110 = .ok (.ireturn, 1) := by decide +kernel
theorem dX6_loss_0 : decode cX6_loss 0 = .ok (.aload_n 0, 1) := by decide +kernel
theorem dX6_loss_1 : decode cX6_loss 1 = .ok (.iconst 0, 1) := by decide +kernel
theorem dX6_loss_2 : decode cX6_loss 2 = .ok (.putfield 66, 3) := by decide +kernel
theorem dX6_loss_5 : decode cX6_loss 5 = .ok (.iload_n 1, 1) := by decide +kernel
theorem dX6_loss_6 : decode cX6_loss 6 = .ok (.iconst 0, 1) := by decide +kernel
theorem dX6_loss_7 : decode cX6_loss 7 = .ok (.iconst 2, 1) := by decide +kernel
theorem dX6_loss_8 : decode cX6_loss 8 = .ok (.invokestatic 72, 3) := by decide +kernel
theorem dX6_loss_11 : decode cX6_loss 11 = .ok (.ifCond .ne 5, 3) := by decide +kernel
theorem dX6_loss_14 : decode cX6_loss 14 = .ok (.iconst (-1), 1) := by decide +kernel
theorem dX6_loss_15 : decode cX6_loss 15 = .ok (.ireturn, 1) := by decide +kernel
theorem dX6_loss_16 : decode cX6_loss 16 = .ok (.aload_n 0, 1) := by decide +kernel
theorem dX6_loss_17 : decode cX6_loss 17 = .ok (.dup, 1) := by decide +kernel
theorem dX6_loss_18 : decode cX6_loss 18 = .ok (.getfield 107, 3) := by decide +kernel
theorem dX6_loss_21 : decode cX6_loss 21 = .ok (.iload_n 1, 1) := by decide +kernel
theorem dX6_loss_22 : decode cX6_loss 22 = .ok (.ifCond .ne 7, 3) := by decide +kernel
theorem dX6_loss_25 : decode cX6_loss 25 = .ok (.lconst 1, 1) := by decide +kernel
theorem dX6_loss_26 : decode cX6_loss 26 = .ok (.goto 17, 3) := by decide +kernel
theorem dX6_loss_29 : decode cX6_loss 29 = .ok (.iload_n 1, 1) := by decide +kernel
theorem dX6_loss_30 : decode cX6_loss 30 = .ok (.iconst 1, 1) := by decide +kernel
theorem dX6_loss_31 : decode cX6_loss 31 = .ok (.if_icmp .ne 9, 3) := by decide +kernel
theorem dX6_loss_34 : decode cX6_loss 34 = .ok (.ldc2_w 111, 3) := by decide +kernel
theorem dX6_loss_37 : decode cX6_loss 37 = .ok (.goto 6, 3) := by decide +kernel
theorem dX6_loss_40 : decode cX6_loss 40 = .ok (.ldc2_w 113, 3) := by decide +kernel
theorem dX6_loss_43 : decode cX6_loss 43 = .ok (.ladd, 1) := by decide +kernel
theorem dX6_loss_44 : decode cX6_loss 44 = .ok (.putfield 107, 3) := by decide +kernel
theorem dX6_loss_47 : decode cX6_loss 47 = .ok (.aload_n 0, 1) := by decide +kernel
theorem dX6_loss_48 : decode cX6_loss 48 = .ok (.aload_n 0, 1) := by decide +kernel
theorem dX6_loss_49 : decode cX6_loss 49 = .ok (.getfield 69, 3) := by decide +kernel
theorem dX6_loss_52 : decode cX6_loss 52 = .ok (.iload_n 1, 1) := by decide +kernel
theorem dX6_loss_53 : decode cX6_loss 53 = .ok (.invokevirtual 115, 3) := by decide +kernel
theorem dX6_loss_56 : decode cX6_loss 56 = .ok (.ireturn, 1) := by decide +kernel
theorem dX6_isPlain_0 : decode cX6_isPlain 0 = .ok (.iconst 0, 1) := by decide +kernel
theorem dX6_isPlain_1 : decode cX6_isPlain 1 = .ok (.istore_n 2, 1) := by decide +kernel
theorem dX6_isPlain_2 : decode cX6_isPlain 2 = .ok (.iconst 1, 1) := by decide +kernel
theorem dX6_isPlain_3 : decode cX6_isPlain 3 = .ok (.istore_n 3, 1) := by decide +kernel
theorem dX6_isPlain_4 : decode cX6_isPlain 4 = .ok (.iconst 0, 1) := by decide +kernel
theorem dX6_isPlain_5 : decode cX6_isPlain 5 = .ok (.istore 4, 2) := by decide +kernel
theorem dX6_isPlain_7 : decode cX6_isPlain 7 = .ok (.iload 4, 2) := by decide +kernel
theorem dX6_isPlain_9 : decode cX6_isPlain 9 = .ok (.aload_n 0, 1) := by decide +kernel
theorem dX6_isPlain_10 : decode cX6_isPlain 10 = .ok (.getfield 7, 3) := by decide +kernel
theorem dX6_isPlain_13 : decode cX6_isPlain 13 = .ok (.if_icmp .ge 45, 3) := by decide +kernel
theorem dX6_isPlain_16 : decode cX6_isPlain 16 = .ok (.iload_n 1, 1) := by decide +kernel
theorem dX6_isPlain_17 : decode cX6_isPlain 17 = .ok (.iload 4, 2) := by decide +kernel
theorem dX6_isPlain_19 : decode cX6_isPlain 19 = .ok (.invokestatic 83, 3) := by decide +kernel
theorem dX6_isPlain_22 : decode cX6_isPlain 22 = .ok (.istore 5, 2) := by decide +kernel
theorem dX6_isPlain_24 : decode cX6_isPlain 24 = .ok (.iload_n 3, 1) := by decide +kernel
theorem dX6_isPlain_25 : decode cX6_isPlain 25 = .ok (.iload 5, 2) := by decide +kernel
theorem dX6_isPlain_27 : decode cX6_isPlain 27 = .ok (.iload_n 2, 1) := by decide +kernel
theorem dX6_isPlain_28 : decode cX6_isPlain 28 = .ok (.if_icmp .gt 7, 3) := by decide +kernel
theorem dX6_isPlain_31 : decode cX6_isPlain 31 = .ok (.iconst 1, 1) := by decide +kernel
theorem dX6_isPlain_32 : decode cX6_isPlain 32 = .ok (.goto 4, 3) := by decide +kernel
theorem dX6_isPlain_35 : decode cX6_isPlain 35 = .ok (.iconst 0, 1) := by decide +kernel
theorem dX6_isPlain_36 : decode cX6_isPlain 36 = .ok (.iand, 1) := by decide +kernel
theorem dX6_isPlain_37 : decode cX6_isPlain 37 = .ok (.istore_n 3, 1) := by decide +kernel
theorem dX6_isPlain_38 : decode cX6_isPlain 38 = .ok (.iload_n 2, 1) := by decide +kernel
theorem dX6_isPlain_39 : decode cX6_isPlain 39 = .ok (.iload 5, 2) := by decide +kernel
theorem dX6_isPlain_41 : decode cX6_isPlain 41 = .ok (.iload_n 2, 1) := by decide +kernel
theorem dX6_isPlain_42 : decode cX6_isPlain 42 = .ok (.if_icmp .ne 7, 3) := by decide +kernel
theorem dX6_isPlain_45 : decode cX6_isPlain 45 = .ok (.iconst 1, 1) := by decide +kernel
theorem dX6_isPlain_46 : decode cX6_isPlain 46 = .ok (.goto 4, 3) := by decide +kernel
theorem dX6_isPlain_49 : decode cX6_isPlain 49 = .ok (.iconst 0, 1) := by decide +kernel
theorem dX6_isPlain_50 : decode cX6_isPlain 50 = .ok (.iadd, 1) := by decide +kernel
theorem dX6_isPlain_51 : decode cX6_isPlain 51 = .ok (.istore_n 2, 1) := by decide +kernel
theorem dX6_isPlain_52 : decode cX6_isPlain 52 = .ok (.iinc 4 1, 3) := by decide +kernel
theorem dX6_isPlain_55 : decode cX6_isPlain 55 = .ok (.goto (-48), 3) := by decide +kernel
theorem dX6_isPlain_58 : decode cX6_isPlain 58 = .ok (.iload_n 3, 1) := by decide +kernel
theorem dX6_isPlain_59 : decode cX6_isPlain 59 = .ok (.ireturn, 1) := by decide +kernel
theorem dX6_isWithin_0 : decode cX6_isWithin 0 = .ok (.iconst 1, 1) := by decide +kernel
theorem dX6_isWithin_1 : decode cX6_isWithin 1 = .ok (.istore_n 3, 1) := by decide +kernel
theorem dX6_isWithin_2 : decode cX6_isWithin 2 = .ok (.iconst 0, 1) := by decide +kernel
theorem dX6_isWithin_3 : decode cX6_isWithin 3 = .ok (.istore 4, 2) := by decide +kernel
theorem dX6_isWithin_5 : decode cX6_isWithin 5 = .ok (.iload 4, 2) := by decide +kernel
theorem dX6_isWithin_7 : decode cX6_isWithin 7 = .ok (.iconst 4, 1) := by decide +kernel
theorem dX6_isWithin_8 : decode cX6_isWithin 8 = .ok (.if_icmp .ge 36, 3) := by decide +kernel
theorem dX6_isWithin_11 : decode cX6_isWithin 11 = .ok (.iload_n 3, 1) := by decide +kernel
theorem dX6_isWithin_12 : decode cX6_isWithin 12 = .ok (.aload_n 0, 1) := by decide +kernel
theorem dX6_isWithin_13 : decode cX6_isWithin 13 = .ok (.iload_n 1, 1) := by decide +kernel
theorem dX6_isWithin_14 : decode cX6_isWithin 14 = .ok (.iconst 1, 1) := by decide +kernel
theorem dX6_isWithin_15 : decode cX6_isWithin 15 = .ok (.aload_n 0, 1) := by decide +kernel
theorem dX6_isWithin_16 : decode cX6_isWithin 16 = .ok (.getfield 7, 3) := by decide +kernel
theorem dX6_isWithin_19 : decode cX6_isWithin 19 = .ok (.ishl, 1) := by decide +kernel
theorem dX6_isWithin_20 : decode cX6_isWithin 20 = .ok (.iconst 1, 1) := by decide +kernel
theorem dX6_isWithin_21 : decode cX6_isWithin 21 = .ok (.isub, 1) := by decide +kernel
theorem dX6_isWithin_22 : decode cX6_isWithin 22 = .ok (.iload 4, 2) := by decide +kernel
theorem dX6_isWithin_24 : decode cX6_isWithin 24 = .ok (.invokevirtual 91, 3) := by decide +kernel
theorem dX6_isWithin_27 : decode cX6_isWithin 27 = .ok (.iload_n 2, 1) := by decide +kernel
theorem dX6_isWithin_28 : decode cX6_isWithin 28 = .ok (.if_icmp .gt 7, 3) := by decide +kernel
theorem dX6_isWithin_31 : decode cX6_isWithin 31 = .ok (.iconst 1, 1) := by decide +kernel
theorem dX6_isWithin_32 : decode cX6_isWithin 32 = .ok (.goto 4, 3) := by decide +kernel
theorem dX6_isWithin_35 : decode cX6_isWithin 35 = .ok (.iconst 0, 1) := by decide +kernel
theorem dX6_isWithin_36 : decode cX6_isWithin 36 = .ok (.iand, 1) := by decide +kernel
theorem dX6_isWithin_37 : decode cX6_isWithin 37 = .ok (.istore_n 3, 1) := by decide +kernel
theorem dX6_isWithin_38 : decode cX6_isWithin 38 = .ok (.iinc 4 1, 3) := by decide +kernel
theorem dX6_isWithin_41 : decode cX6_isWithin 41 = .ok (.goto (-36), 3) := by decide +kernel
theorem dX6_isWithin_44 : decode cX6_isWithin 44 = .ok (.iload_n 3, 1) := by decide +kernel
theorem dX6_isWithin_45 : decode cX6_isWithin 45 = .ok (.ireturn, 1) := by decide +kernel
theorem dX6_best_0 : decode cX6_best 0 = .ok (.aload_n 0, 1) := by decide +kernel
theorem dX6_best_1 : decode cX6_best 1 = .ok (.iconst 0, 1) := by decide +kernel
theorem dX6_best_2 : decode cX6_best 2 = .ok (.putfield 66, 3) := by decide +kernel
theorem dX6_best_5 : decode cX6_best 5 = .ok (.iload_n 1, 1) := by decide +kernel
theorem dX6_best_6 : decode cX6_best 6 = .ok (.iconst 0, 1) := by decide +kernel
theorem dX6_best_7 : decode cX6_best 7 = .ok (.iconst 2, 1) := by decide +kernel
theorem dX6_best_8 : decode cX6_best 8 = .ok (.invokestatic 72, 3) := by decide +kernel
theorem dX6_best_11 : decode cX6_best 11 = .ok (.ifCond .eq 22, 3) := by decide +kernel
theorem dX6_best_14 : decode cX6_best 14 = .ok (.iload_n 2, 1) := by decide +kernel
theorem dX6_best_15 : decode cX6_best 15 = .ok (.iconst 1, 1) := by decide +kernel
theorem dX6_best_16 : decode cX6_best 16 = .ok (.bipush 7, 2) := by decide +kernel
theorem dX6_best_18 : decode cX6_best 18 = .ok (.invokestatic 72, 3) := by decide +kernel
theorem dX6_best_21 : decode cX6_best 21 = .ok (.ifCond .eq 12, 3) := by decide +kernel
theorem dX6_best_24 : decode cX6_best 24 = .ok (.iload_n 3, 1) := by decide +kernel
theorem dX6_best_25 : decode cX6_best 25 = .ok (.iconst 0, 1) := by decide +kernel
theorem dX6_best_26 : decode cX6_best 26 = .ok (.iconst 1, 1) := by decide +kernel
theorem dX6_best_27 : decode cX6_best 27 = .ok (.invokestatic 72, 3) := by decide +kernel
theorem dX6_best_30 : decode cX6_best 30 = .ok (.ifCond .ne 5, 3) := by decide +kernel
theorem dX6_best_33 : decode cX6_best 33 = .ok (.iconst (-1), 1) := by decide +kernel
theorem dX6_best_34 : decode cX6_best 34 = .ok (.ireturn, 1) := by decide +kernel
theorem dX6_best_35 : decode cX6_best 35 = .ok (.bipush (-9), 2) := by decide +kernel
theorem dX6_best_37 : decode cX6_best 37 = .ok (.istore 4, 2) := by decide +kernel
theorem dX6_best_39 : decode cX6_best 39 = .ok (.iconst 0, 1) := by decide +kernel
theorem dX6_best_40 : decode cX6_best 40 = .ok (.istore 5, 2) := by decide +kernel
theorem dX6_best_42 : decode cX6_best 42 = .ok (.iconst 0, 1) := by decide +kernel
theorem dX6_best_43 : decode cX6_best 43 = .ok (.istore 6, 2) := by decide +kernel
theorem dX6_best_45 : decode cX6_best 45 = .ok (.iload 6, 2) := by decide +kernel
theorem dX6_best_47 : decode cX6_best 47 = .ok (.aload_n 0, 1) := by decide +kernel
theorem dX6_best_48 : decode cX6_best 48 = .ok (.getfield 7, 3) := by decide +kernel
theorem dX6_best_51 : decode cX6_best 51 = .ok (.invokestatic 87, 3) := by decide +kernel
theorem dX6_best_54 : decode cX6_best 54 = .ok (.if_icmp .ge 59, 3) := by decide +kernel
theorem dX6_best_57 : decode cX6_best 57 = .ok (.aload_n 0, 1) := by decide +kernel
theorem dX6_best_58 : decode cX6_best 58 = .ok (.iload 6, 2) := by decide +kernel
theorem dX6_best_60 : decode cX6_best 60 = .ok (.invokevirtual 118, 3) := by decide +kernel
theorem dX6_best_63 : decode cX6_best 63 = .ok (.ifCond .eq 44, 3) := by decide +kernel
theorem dX6_best_66 : decode cX6_best 66 = .ok (.aload_n 0, 1) := by decide +kernel
theorem dX6_best_67 : decode cX6_best 67 = .ok (.iload 6, 2) := by decide +kernel
theorem dX6_best_69 : decode cX6_best 69 = .ok (.iload_n 2, 1) := by decide +kernel
theorem dX6_best_70 : decode cX6_best 70 = .ok (.invokevirtual 121, 3) := by decide +kernel
theorem dX6_best_73 : decode cX6_best 73 = .ok (.ifCond .eq 34, 3) := by decide +kernel
theorem dX6_best_76 : decode cX6_best 76 = .ok (.aload_n 0, 1) := by decide +kernel
theorem dX6_best_77 : decode cX6_best 77 = .ok (.iload 6, 2) := by decide +kernel
theorem dX6_best_79 : decode cX6_best 79 = .ok (.iload_n 1, 1) := by decide +kernel
theorem dX6_best_80 : decode cX6_best 80 = .ok (.invokevirtual 115, 3) := by decide +kernel
theorem dX6_best_83 : decode cX6_best 83 = .ok (.istore 7, 2) := by decide +kernel
theorem dX6_best_85 : decode cX6_best 85 = .ok (.iload 4, 2) := by decide +kernel
theorem dX6_best_87 : decode cX6_best 87 = .ok (.bipush (-9), 2) := by decide +kernel
theorem dX6_best_89 : decode cX6_best 89 = .ok (.if_icmp .eq 10, 3) := by decide +kernel
theorem dX6_best_92 : decode cX6_best 92 = .ok (.iload 7, 2) := by decide +kernel
theorem dX6_best_94 : decode cX6_best 94 = .ok (.iload 5, 2) := by decide +kernel
theorem dX6_best_96 : decode cX6_best 96 = .ok (.if_icmp .ge 11, 3) := by decide +kernel
theorem dX6_best_99 : decode cX6_best 99 = .ok (.iload 6, 2) := by decide +kernel
theorem dX6_best_101 : decode cX6_best 101 = .ok (.istore 4, 2) := by decide +kernel
theorem dX6_best_103 : decode cX6_best 103 = .ok (.iload 7, 2) := by decide +kernel
theorem dX6_best_105 : decode cX6_best 105 = .ok (.istore 5, 2) := by decide +kernel
theorem dX6_best_107 : decode cX6_best 107 = .ok (.iinc 6 1, 3) := by decide +kernel
theorem dX6_best_110 : decode cX6_best 110 = .ok (.goto (-65), 3) := by decide +kernel
theorem dX6_best_113 : decode cX6_best 113 = .ok (.iload 4, 2) := by decide +kernel
theorem dX6_best_115 : decode cX6_best 115 = .ok (.bipush (-9), 2) := by decide +kernel
theorem dX6_best_117 : decode cX6_best 117 = .ok (.if_icmp .ne 8, 3) := by decide +kernel
theorem dX6_best_120 : decode cX6_best 120 = .ok (.bipush (-2), 2) := by decide +kernel
theorem dX6_best_122 : decode cX6_best 122 = .ok (.goto 14, 3) := by decide +kernel
theorem dX6_best_125 : decode cX6_best 125 = .ok (.iload_n 3, 1) := by decide +kernel
theorem dX6_best_126 : decode cX6_best 126 = .ok (.ifCond .ne 8, 3) := by decide +kernel
theorem dX6_best_129 : decode cX6_best 129 = .ok (.iload 4, 2) := by decide +kernel
theorem dX6_best_131 : decode cX6_best 131 = .ok (.goto 5, 3) := by decide +kernel
theorem dX6_best_134 : decode cX6_best 134 = .ok (.iload 5, 2) := by decide +kernel
theorem dX6_best_136 : decode cX6_best 136 = .ok (.ireturn, 1) := by decide +kernel
theorem dX6_plain_0 : decode cX6_plain 0 = .ok (.aload_n 0, 1) := by decide +kernel
theorem dX6_plain_1 : decode cX6_plain 1 = .ok (.iconst 0, 1) := by decide +kernel
theorem dX6_plain_2 : decode cX6_plain 2 = .ok (.putfield 66, 3) := by decide +kernel
theorem dX6_plain_5 : decode cX6_plain 5 = .ok (.aload_n 0, 1) := by decide +kernel
theorem dX6_plain_6 : decode cX6_plain 6 = .ok (.aload_n 0, 1) := by decide +kernel
theorem dX6_plain_7 : decode cX6_plain 7 = .ok (.getfield 69, 3) := by decide +kernel
theorem dX6_plain_10 : decode cX6_plain 10 = .ok (.invokevirtual 118, 3) := by decide +kernel
theorem dX6_plain_13 : decode cX6_plain 13 = .ok (.ifCond .eq 7, 3) := by decide +kernel
theorem dX6_plain_16 : decode cX6_plain 16 = .ok (.iconst 1, 1) := by decide +kernel
theorem dX6_plain_17 : decode cX6_plain 17 = .ok (.goto 4, 3) := by decide +kernel
theorem dX6_plain_20 : decode cX6_plain 20 = .ok (.iconst 0, 1) := by decide +kernel
theorem dX6_plain_21 : decode cX6_plain 21 = .ok (.ireturn, 1) := by decide +kernel
theorem dX6_bothOf_0 : decode cX6_bothOf 0 = .ok (.iconst 0, 1) := by decide +kernel
theorem dX6_bothOf_1 : decode cX6_bothOf 1 = .ok (.istore_n 3, 1) := by decide +kernel
theorem dX6_bothOf_2 : decode cX6_bothOf 2 = .ok (.iconst 0, 1) := by decide +kernel
theorem dX6_bothOf_3 : decode cX6_bothOf 3 = .ok (.istore 4, 2) := by decide +kernel
theorem dX6_bothOf_5 : decode cX6_bothOf 5 = .ok (.iload 4, 2) := by decide +kernel
theorem dX6_bothOf_7 : decode cX6_bothOf 7 = .ok (.aload_n 0, 1) := by decide +kernel
theorem dX6_bothOf_8 : decode cX6_bothOf 8 = .ok (.getfield 13, 3) := by decide +kernel
theorem dX6_bothOf_11 : decode cX6_bothOf 11 = .ok (.if_icmp .ge 31, 3) := by decide +kernel
theorem dX6_bothOf_14 : decode cX6_bothOf 14 = .ok (.iload_n 3, 1) := by decide +kernel
theorem dX6_bothOf_15 : decode cX6_bothOf 15 = .ok (.aload_n 0, 1) := by decide +kernel
theorem dX6_bothOf_16 : decode cX6_bothOf 16 = .ok (.iload 4, 2) := by decide +kernel
theorem dX6_bothOf_18 : decode cX6_bothOf 18 = .ok (.invokevirtual 98, 3) := by decide +kernel
theorem dX6_bothOf_21 : decode cX6_bothOf 21 = .ok (.iload_n 1, 1) := by decide +kernel
theorem dX6_bothOf_22 : decode cX6_bothOf 22 = .ok (.ishr, 1) := by decide +kernel
theorem dX6_bothOf_23 : decode cX6_bothOf 23 = .ok (.aload_n 0, 1) := by decide +kernel
theorem dX6_bothOf_24 : decode cX6_bothOf 24 = .ok (.iload 4, 2) := by decide +kernel
theorem dX6_bothOf_26 : decode cX6_bothOf 26 = .ok (.invokevirtual 98, 3) := by decide +kernel
theorem dX6_bothOf_29 : decode cX6_bothOf 29 = .ok (.iload_n 2, 1) := by decide +kernel
theorem dX6_bothOf_30 : decode cX6_bothOf 30 = .ok (.ishr, 1) := by decide +kernel
theorem dX6_bothOf_31 : decode cX6_bothOf 31 = .ok (.iand, 1) := by decide +kernel
theorem dX6_bothOf_32 : decode cX6_bothOf 32 = .ok (.iconst 1, 1) := by decide +kernel
theorem dX6_bothOf_33 : decode cX6_bothOf 33 = .ok (.iand, 1) := by decide +kernel
theorem dX6_bothOf_34 : decode cX6_bothOf 34 = .ok (.iadd, 1) := by decide +kernel
theorem dX6_bothOf_35 : decode cX6_bothOf 35 = .ok (.istore_n 3, 1) := by decide +kernel
theorem dX6_bothOf_36 : decode cX6_bothOf 36 = .ok (.iinc 4 1, 3) := by decide +kernel
theorem dX6_bothOf_39 : decode cX6_bothOf 39 = .ok (.goto (-34), 3) := by decide +kernel
theorem dX6_bothOf_42 : decode cX6_bothOf 42 = .ok (.iload_n 3, 1) := by decide +kernel
theorem dX6_bothOf_43 : decode cX6_bothOf 43 = .ok (.ireturn, 1) := by decide +kernel
theorem dX6_eitherOf_0 : decode cX6_eitherOf 0 = .ok (.iconst 0, 1) := by decide +kernel
theorem dX6_eitherOf_1 : decode cX6_eitherOf 1 = .ok (.istore_n 3, 1) := by decide +kernel
theorem dX6_eitherOf_2 : decode cX6_eitherOf 2 = .ok (.iconst 0, 1) := by decide +kernel
theorem dX6_eitherOf_3 : decode cX6_eitherOf 3 = .ok (.istore 4, 2) := by decide +kernel
theorem dX6_eitherOf_5 : decode cX6_eitherOf 5 = .ok (.iload 4, 2) := by decide +kernel
theorem dX6_eitherOf_7 : decode cX6_eitherOf 7 = .ok (.aload_n 0, 1) := by decide +kernel
theorem dX6_eitherOf_8 : decode cX6_eitherOf 8 = .ok (.getfield 13, 3) := by decide +kernel
theorem dX6_eitherOf_11 : decode cX6_eitherOf 11 = .ok (.if_icmp .ge 31, 3) := by decide +kernel
theorem dX6_eitherOf_14 : decode cX6_eitherOf 14 = .ok (.iload_n 3, 1) := by decide +kernel
theorem dX6_eitherOf_15 : decode cX6_eitherOf 15 = .ok (.aload_n 0, 1) := by decide +kernel
theorem dX6_eitherOf_16 : decode cX6_eitherOf 16 = .ok (.iload 4, 2) := by decide +kernel
theorem dX6_eitherOf_18 : decode cX6_eitherOf 18 = .ok (.invokevirtual 98, 3) := by decide +kernel
theorem dX6_eitherOf_21 : decode cX6_eitherOf 21 = .ok (.iload_n 1, 1) := by decide +kernel
theorem dX6_eitherOf_22 : decode cX6_eitherOf 22 = .ok (.ishr, 1) := by decide +kernel
theorem dX6_eitherOf_23 : decode cX6_eitherOf 23 = .ok (.aload_n 0, 1) := by decide +kernel
theorem dX6_eitherOf_24 : decode cX6_eitherOf 24 = .ok (.iload 4, 2) := by decide +kernel
theorem dX6_eitherOf_26 : decode cX6_eitherOf 26 = .ok (.invokevirtual 98, 3) := by decide +kernel
theorem dX6_eitherOf_29 : decode cX6_eitherOf 29 = .ok (.iload_n 2, 1) := by decide +kernel
theorem dX6_eitherOf_30 : decode cX6_eitherOf 30 = .ok (.ishr, 1) := by decide +kernel
theorem dX6_eitherOf_31 : decode cX6_eitherOf 31 = .ok (.ior, 1) := by decide +kernel
theorem dX6_eitherOf_32 : decode cX6_eitherOf 32 = .ok (.iconst 1, 1) := by decide +kernel
theorem dX6_eitherOf_33 : decode cX6_eitherOf 33 = .ok (.iand, 1) := by decide +kernel
theorem dX6_eitherOf_34 : decode cX6_eitherOf 34 = .ok (.iadd, 1) := by decide +kernel
theorem dX6_eitherOf_35 : decode cX6_eitherOf 35 = .ok (.istore_n 3, 1) := by decide +kernel
theorem dX6_eitherOf_36 : decode cX6_eitherOf 36 = .ok (.iinc 4 1, 3) := by decide +kernel
theorem dX6_eitherOf_39 : decode cX6_eitherOf 39 = .ok (.goto (-34), 3) := by decide +kernel
theorem dX6_eitherOf_42 : decode cX6_eitherOf 42 = .ok (.iload_n 3, 1) := by decide +kernel
theorem dX6_eitherOf_43 : decode cX6_eitherOf 43 = .ok (.ifCond .ne 7, 3) := by decide +kernel
theorem dX6_eitherOf_46 : decode cX6_eitherOf 46 = .ok (.iconst 1, 1) := by decide +kernel
theorem dX6_eitherOf_47 : decode cX6_eitherOf 47 = .ok (.goto 4, 3) := by decide +kernel
theorem dX6_eitherOf_50 : decode cX6_eitherOf 50 = .ok (.iload_n 3, 1) := by decide +kernel
theorem dX6_eitherOf_51 : decode cX6_eitherOf 51 = .ok (.ireturn, 1) := by decide +kernel
theorem dX6_like_0 : decode cX6_like 0 = .ok (.aload_n 0, 1) := by decide +kernel
theorem dX6_like_1 : decode cX6_like 1 = .ok (.iconst 0, 1) := by decide +kernel
theorem dX6_like_2 : decode cX6_like 2 = .ok (.putfield 66, 3) := by decide +kernel
theorem dX6_like_5 : decode cX6_like 5 = .ok (.aload_n 0, 1) := by decide +kernel
theorem dX6_like_6 : decode cX6_like 6 = .ok (.iload_n 1, 1) := by decide +kernel
theorem dX6_like_7 : decode cX6_like 7 = .ok (.invokevirtual 80, 3) := by decide +kernel
theorem dX6_like_10 : decode cX6_like 10 = .ok (.ifCond .eq 25, 3) := by decide +kernel
theorem dX6_like_13 : decode cX6_like 13 = .ok (.aload_n 0, 1) := by decide +kernel
theorem dX6_like_14 : decode cX6_like 14 = .ok (.iload_n 2, 1) := by decide +kernel
theorem dX6_like_15 : decode cX6_like 15 = .ok (.invokevirtual 80, 3) := by decide +kernel
theorem dX6_like_18 : decode cX6_like 18 = .ok (.ifCond .eq 17, 3) := by decide +kernel
theorem dX6_like_21 : decode cX6_like 21 = .ok (.iload_n 1, 1) := by decide +kernel
theorem dX6_like_22 : decode cX6_like 22 = .ok (.iload_n 2, 1) := by decide +kernel
theorem dX6_like_23 : decode cX6_like 23 = .ok (.if_icmp .eq 12, 3) := by decide +kernel
theorem dX6_like_26 : decode cX6_like 26 = .ok (.iload_n 3, 1) := by decide +kernel
theorem dX6_like_27 : decode cX6_like 27 = .ok (.iconst 0, 1) := by decide +kernel
theorem dX6_like_28 : decode cX6_like 28 = .ok (.iconst 1, 1) := by decide +kernel
theorem dX6_like_29 : decode cX6_like 29 = .ok (.invokestatic 72, 3) := by decide +kernel
theorem dX6_like_32 : decode cX6_like 32 = .ok (.ifCond .ne 5, 3) := by decide +kernel
theorem dX6_like_35 : decode cX6_like 35 = .ok (.iconst (-1), 1) := by decide +kernel
theorem dX6_like_36 : decode cX6_like 36 = .ok (.ireturn, 1) := by decide +kernel
theorem dX6_like_37 : decode cX6_like 37 = .ok (.iload_n 3, 1) := by decide +kernel
theorem dX6_like_38 : decode cX6_like 38 = .ok (.ifCond .ne 12, 3) := by decide +kernel
theorem dX6_like_41 : decode cX6_like 41 = .ok (.aload_n 0, 1) := by decide +kernel
theorem dX6_like_42 : decode cX6_like 42 = .ok (.iload_n 1, 1) := by decide +kernel
theorem dX6_like_43 : decode cX6_like 43 = .ok (.iload_n 2, 1) := by decide +kernel
theorem dX6_like_44 : decode cX6_like 44 = .ok (.invokevirtual 125, 3) := by decide +kernel
theorem dX6_like_47 : decode cX6_like 47 = .ok (.goto 9, 3) := by decide +kernel
theorem dX6_like_50 : decode cX6_like 50 = .ok (.aload_n 0, 1) := by decide +kernel
theorem dX6_like_51 : decode cX6_like 51 = .ok (.iload_n 1, 1) := by decide +kernel
theorem dX6_like_52 : decode cX6_like 52 = .ok (.iload_n 2, 1) := by decide +kernel
theorem dX6_like_53 : decode cX6_like 53 = .ok (.invokevirtual 128, 3) := by decide +kernel
theorem dX6_like_56 : decode cX6_like 56 = .ok (.ireturn, 1) := by decide +kernel
theorem dX6_joins_0 : decode cX6_joins 0 = .ok (.aload_n 0, 1) := by decide +kernel
theorem dX6_joins_1 : decode cX6_joins 1 = .ok (.getfield 44, 3) := by decide +kernel
theorem dX6_joins_4 : decode cX6_joins 4 = .ok (.iconst 2, 1) := by decide +kernel
theorem dX6_joins_5 : decode cX6_joins 5 = .ok (.iconst (-1), 1) := by decide +kernel
theorem dX6_joins_6 : decode cX6_joins 6 = .ok (.iastore, 1) := by decide +kernel
theorem dX6_joins_7 : decode cX6_joins 7 = .ok (.aload_n 0, 1) := by decide +kernel
theorem dX6_joins_8 : decode cX6_joins 8 = .ok (.getfield 44, 3) := by decide +kernel
theorem dX6_joins_11 : decode cX6_joins 11 = .ok (.iconst 3, 1) := by decide +kernel
theorem dX6_joins_12 : decode cX6_joins 12 = .ok (.iconst 1, 1) := by decide +kernel
theorem dX6_joins_13 : decode cX6_joins 13 = .ok (.iastore, 1) := by decide +kernel
theorem dX6_joins_14 : decode cX6_joins 14 = .ok (.iconst 0, 1) := by decide +kernel
theorem dX6_joins_15 : decode cX6_joins 15 = .ok (.istore_n 1, 1) := by decide +kernel
theorem dX6_joins_16 : decode cX6_joins 16 = .ok (.iload_n 1, 1) := by decide +kernel
theorem dX6_joins_17 : decode cX6_joins 17 = .ok (.aload_n 0, 1) := by decide +kernel
theorem dX6_joins_18 : decode cX6_joins 18 = .ok (.getfield 7, 3) := by decide +kernel
theorem dX6_joins_21 : decode cX6_joins 21 = .ok (.if_icmp .ge 153, 3) := by decide +kernel
theorem dX6_joins_24 : decode cX6_joins 24 = .ok (.iload_n 1, 1) := by decide +kernel
theorem dX6_joins_25 : decode cX6_joins 25 = .ok (.iconst 1, 1) := by decide +kernel
theorem dX6_joins_26 : decode cX6_joins 26 = .ok (.iadd, 1) := by decide +kernel
theorem dX6_joins_27 : decode cX6_joins 27 = .ok (.istore_n 2, 1) := by decide +kernel
theorem dX6_joins_28 : decode cX6_joins 28 = .ok (.iload_n 2, 1) := by decide +kernel
theorem dX6_joins_29 : decode cX6_joins 29 = .ok (.aload_n 0, 1) := by decide +kernel
theorem dX6_joins_30 : decode cX6_joins 30 = .ok (.getfield 7, 3) := by decide +kernel
theorem dX6_joins_33 : decode cX6_joins 33 = .ok (.if_icmp .ge 135, 3) := by decide +kernel
theorem dX6_joins_36 : decode cX6_joins 36 = .ok (.iconst 0, 1) := by decide +kernel
theorem dX6_joins_37 : decode cX6_joins 37 = .ok (.istore_n 3, 1) := by decide +kernel
theorem dX6_joins_38 : decode cX6_joins 38 = .ok (.iload_n 3, 1) := by decide +kernel
theorem dX6_joins_39 : decode cX6_joins 39 = .ok (.aload_n 0, 1) := by decide +kernel
theorem dX6_joins_40 : decode cX6_joins 40 = .ok (.getfield 7, 3) := by decide +kernel
theorem dX6_joins_43 : decode cX6_joins 43 = .ok (.if_icmp .ge 119, 3) := by decide +kernel
theorem dX6_joins_46 : decode cX6_joins 46 = .ok (.iconst 0, 1) := by decide +kernel
theorem dX6_joins_47 : decode cX6_joins 47 = .ok (.istore 4, 2) := by decide +kernel
theorem dX6_joins_49 : decode cX6_joins 49 = .ok (.iload 4, 2) := by decide +kernel
theorem dX6_joins_51 : decode cX6_joins 51 = .ok (.aload_n 0, 1) := by decide +kernel
theorem dX6_joins_52 : decode cX6_joins 52 = .ok (.getfield 7, 3) := by decide +kernel
theorem dX6_joins_55 : decode cX6_joins 55 = .ok (.if_icmp .ge 101, 3) := by decide +kernel
theorem dX6_joins_58 : decode cX6_joins 58 = .ok (.aload_n 0, 1) := by decide +kernel
theorem dX6_joins_59 : decode cX6_joins 59 = .ok (.getfield 41, 3) := by decide +kernel
theorem dX6_joins_62 : decode cX6_joins 62 = .ok (.iload_n 3, 1) := by decide +kernel
theorem dX6_joins_63 : decode cX6_joins 63 = .ok (.iaload, 1) := by decide +kernel
theorem dX6_joins_64 : decode cX6_joins 64 = .ok (.iload_n 1, 1) := by decide +kernel
theorem dX6_joins_65 : decode cX6_joins 65 = .ok (.if_icmp .ne 85, 3) := by decide +kernel
theorem dX6_joins_68 : decode cX6_joins 68 = .ok (.aload_n 0, 1) := by decide +kernel
theorem dX6_joins_69 : decode cX6_joins 69 = .ok (.getfield 41, 3) := by decide +kernel
theorem dX6_joins_72 : decode cX6_joins 72 = .ok (.iload 4, 2) := by decide +kernel
theorem dX6_joins_74 : decode cX6_joins 74 = .ok (.iaload, 1) := by decide +kernel
theorem dX6_joins_75 : decode cX6_joins 75 = .ok (.iload_n 2, 1) := by decide +kernel
theorem dX6_joins_76 : decode cX6_joins 76 = .ok (.if_icmp .ne 74, 3) := by decide +kernel
theorem dX6_joins_79 : decode cX6_joins 79 = .ok (.aload_n 0, 1) := by decide +kernel
theorem dX6_joins_80 : decode cX6_joins 80 = .ok (.iload_n 3, 1) := by decide +kernel
theorem dX6_joins_81 : decode cX6_joins 81 = .ok (.iload 4, 2) := by decide +kernel
theorem dX6_joins_83 : decode cX6_joins 83 = .ok (.invokevirtual 125, 3) := by decide +kernel
theorem dX6_joins_86 : decode cX6_joins 86 = .ok (.aload_n 0, 1) := by decide +kernel
theorem dX6_joins_87 : decode cX6_joins 87 = .ok (.getfield 44, 3) := by decide +kernel
theorem dX6_joins_90 : decode cX6_joins 90 = .ok (.iconst 3, 1) := by decide +kernel
theorem dX6_joins_91 : decode cX6_joins 91 = .ok (.iaload, 1) := by decide +kernel
theorem dX6_joins_92 : decode cX6_joins 92 = .ok (.imul, 1) := by decide +kernel
theorem dX6_joins_93 : decode cX6_joins 93 = .ok (.aload_n 0, 1) := by decide +kernel
theorem dX6_joins_94 : decode cX6_joins 94 = .ok (.getfield 44, 3) := by decide +kernel
theorem dX6_joins_97 : decode cX6_joins 97 = .ok (.iconst 2, 1) := by decide +kernel
theorem dX6_joins_98 : decode cX6_joins 98 = .ok (.iaload, 1) := by decide +kernel
theorem dX6_joins_99 : decode cX6_joins 99 = .ok (.aload_n 0, 1) := by decide +kernel
theorem dX6_joins_100 : decode cX6_joins 100 = .ok (.iload_n 3, 1) := by decide +kernel
theorem dX6_joins_101 : decode cX6_joins 101 = .ok (.iload 4, 2) := by decide +kernel
theorem dX6_joins_103 : decode cX6_joins 103 = .ok (.invokevirtual 128, 3) := by decide +kernel
theorem dX6_joins_106 : decode cX6_joins 106 = .ok (.imul, 1) := by decide +kernel
theorem dX6_joins_107 : decode cX6_joins 107 = .ok (.if_icmp .le 43, 3) := by decide +kernel
theorem dX6_joins_110 : decode cX6_joins 110 = .ok (.aload_n 0, 1) := by decide +kernel
theorem dX6_joins_111 : decode cX6_joins 111 = .ok (.getfield 44, 3) := by decide +kernel
theorem dX6_joins_114 : decode cX6_joins 114 = .ok (.iconst 0, 1) := by decide +kernel
theorem dX6_joins_115 : decode cX6_joins 115 = .ok (.iload_n 1, 1) := by decide +kernel
theorem dX6_joins_116 : decode cX6_joins 116 = .ok (.iastore, 1) := by decide +kernel
theorem dX6_joins_117 : decode cX6_joins 117 = .ok (.aload_n 0, 1) := by decide +kernel
theorem dX6_joins_118 : decode cX6_joins 118 = .ok (.getfield 44, 3) := by decide +kernel
theorem dX6_joins_121 : decode cX6_joins 121 = .ok (.iconst 1, 1) := by decide +kernel
theorem dX6_joins_122 : decode cX6_joins 122 = .ok (.iload_n 2, 1) := by decide +kernel
theorem dX6_joins_123 : decode cX6_joins 123 = .ok (.iastore, 1) := by decide +kernel
theorem dX6_joins_124 : decode cX6_joins 124 = .ok (.aload_n 0, 1) := by decide +kernel
theorem dX6_joins_125 : decode cX6_joins 125 = .ok (.getfield 44, 3) := by decide +kernel
theorem dX6_joins_128 : decode cX6_joins 128 = .ok (.iconst 2, 1) := by decide +kernel
theorem dX6_joins_129 : decode cX6_joins 129 = .ok (.aload_n 0, 1) := by decide +kernel
theorem dX6_joins_130 : decode cX6_joins 130 = .ok (.iload_n 3, 1) := by decide +kernel
theorem dX6_joins_131 : decode cX6_joins 131 = .ok (.iload 4, 2) := by decide +kernel
theorem dX6_joins_133 : decode cX6_joins 133 = .ok (.invokevirtual 125, 3) := by decide +kernel
theorem dX6_joins_136 : decode cX6_joins 136 = .ok (.iastore, 1) := by decide +kernel
theorem dX6_joins_137 : decode cX6_joins 137 = .ok (.aload_n 0, 1) := by decide +kernel
theorem dX6_joins_138 : decode cX6_joins 138 = .ok (.getfield 44, 3) := by decide +kernel
theorem dX6_joins_141 : decode cX6_joins 141 = .ok (.iconst 3, 1) := by decide +kernel
theorem dX6_joins_142 : decode cX6_joins 142 = .ok (.aload_n 0, 1) := by decide +kernel
theorem dX6_joins_143 : decode cX6_joins 143 = .ok (.iload_n 3, 1) := by decide +kernel
theorem dX6_joins_144 : decode cX6_joins 144 = .ok (.iload 4, 2) := by decide +kernel
theorem dX6_joins_146 : decode cX6_joins 146 = .ok (.invokevirtual 128, 3) := by decide +kernel
theorem dX6_joins_149 : decode cX6_joins 149 = .ok (.iastore, 1) := by decide +kernel
theorem dX6_joins_150 : decode cX6_joins 150 = .ok (.iinc 4 1, 3) := by decide +kernel
theorem dX6_joins_153 : decode cX6_joins 153 = .ok (.goto (-104), 3) := by decide +kernel
theorem dX6_joins_156 : decode cX6_joins 156 = .ok (.iinc 3 1, 3) := by decide +kernel
theorem dX6_joins_159 : decode cX6_joins 159 = .ok (.goto (-121), 3) := by decide +kernel
theorem dX6_joins_162 : decode cX6_joins 162 = .ok (.iinc 2 1, 3) := by decide +kernel
theorem dX6_joins_165 : decode cX6_joins 165 = .ok (.goto (-137), 3) := by decide +kernel
theorem dX6_joins_168 : decode cX6_joins 168 = .ok (.iinc 1 1, 3) := by decide +kernel
theorem dX6_joins_171 : decode cX6_joins 171 = .ok (.goto (-155), 3) := by decide +kernel
theorem dX6_joins_174 : decode cX6_joins 174 = .ok (.return_, 1) := by decide +kernel
theorem dX6_join_0 : decode cX6_join 0 = .ok (.aload_n 0, 1) := by decide +kernel
theorem dX6_join_1 : decode cX6_join 1 = .ok (.iconst 0, 1) := by decide +kernel
theorem dX6_join_2 : decode cX6_join 2 = .ok (.putfield 66, 3) := by decide +kernel
theorem dX6_join_5 : decode cX6_join 5 = .ok (.iload_n 1, 1) := by decide +kernel
theorem dX6_join_6 : decode cX6_join 6 = .ok (.iconst 0, 1) := by decide +kernel
theorem dX6_join_7 : decode cX6_join 7 = .ok (.aload_n 0, 1) := by decide +kernel
theorem dX6_join_8 : decode cX6_join 8 = .ok (.getfield 7, 3) := by decide +kernel
theorem dX6_join_11 : decode cX6_join 11 = .ok (.iconst 2, 1) := by decide +kernel
theorem dX6_join_12 : decode cX6_join 12 = .ok (.isub, 1) := by decide +kernel
theorem dX6_join_13 : decode cX6_join 13 = .ok (.invokestatic 72, 3) := by decide +kernel
theorem dX6_join_16 : decode cX6_join 16 = .ok (.ifCond .eq 12, 3) := by decide +kernel
theorem dX6_join_19 : decode cX6_join 19 = .ok (.iload_n 2, 1) := by decide +kernel
theorem dX6_join_20 : decode cX6_join 20 = .ok (.iconst 0, 1) := by decide +kernel
theorem dX6_join_21 : decode cX6_join 21 = .ok (.iconst 3, 1) := by decide +kernel
theorem dX6_join_22 : decode cX6_join 22 = .ok (.invokestatic 72, 3) := by decide +kernel
theorem dX6_join_25 : decode cX6_join 25 = .ok (.ifCond .ne 5, 3) := by decide +kernel
theorem dX6_join_28 : decode cX6_join 28 = .ok (.iconst (-1), 1) := by decide +kernel
theorem dX6_join_29 : decode cX6_join 29 = .ok (.ireturn, 1) := by decide +kernel
theorem dX6_join_30 : decode cX6_join 30 = .ok (.iconst 0, 1) := by decide +kernel
theorem dX6_join_31 : decode cX6_join 31 = .ok (.istore_n 3, 1) := by decide +kernel
theorem dX6_join_32 : decode cX6_join 32 = .ok (.iload_n 3, 1) := by decide +kernel
theorem dX6_join_33 : decode cX6_join 33 = .ok (.aload_n 0, 1) := by decide +kernel
theorem dX6_join_34 : decode cX6_join 34 = .ok (.getfield 7, 3) := by decide +kernel
theorem dX6_join_37 : decode cX6_join 37 = .ok (.if_icmp .ge 16, 3) := by decide +kernel
theorem dX6_join_40 : decode cX6_join 40 = .ok (.aload_n 0, 1) := by decide +kernel
theorem dX6_join_41 : decode cX6_join 41 = .ok (.getfield 41, 3) := by decide +kernel
theorem dX6_join_44 : decode cX6_join 44 = .ok (.iload_n 3, 1) := by decide +kernel
theorem dX6_join_45 : decode cX6_join 45 = .ok (.iload_n 3, 1) := by decide +kernel
theorem dX6_join_46 : decode cX6_join 46 = .ok (.iastore, 1) := by decide +kernel
theorem dX6_join_47 : decode cX6_join 47 = .ok (.iinc 3 1, 3) := by decide +kernel
theorem dX6_join_50 : decode cX6_join 50 = .ok (.goto (-18), 3) := by decide +kernel
theorem dX6_join_53 : decode cX6_join 53 = .ok (.iconst 0, 1) := by decide +kernel
theorem dX6_join_54 : decode cX6_join 54 = .ok (.istore_n 3, 1) := by decide +kernel
theorem dX6_join_55 : decode cX6_join 55 = .ok (.iload_n 3, 1) := by decide +kernel
theorem dX6_join_56 : decode cX6_join 56 = .ok (.iload_n 1, 1) := by decide +kernel
theorem dX6_join_57 : decode cX6_join 57 = .ok (.if_icmp .gt 70, 3) := by decide +kernel
theorem dX6_join_60 : decode cX6_join 60 = .ok (.aload_n 0, 1) := by decide +kernel
theorem dX6_join_61 : decode cX6_join 61 = .ok (.invokevirtual 131, 3) := by decide +kernel
theorem dX6_join_64 : decode cX6_join 64 = .ok (.iconst 0, 1) := by decide +kernel
theorem dX6_join_65 : decode cX6_join 65 = .ok (.istore 4, 2) := by decide +kernel
theorem dX6_join_67 : decode cX6_join 67 = .ok (.iload 4, 2) := by decide +kernel
theorem dX6_join_69 : decode cX6_join 69 = .ok (.aload_n 0, 1) := by decide +kernel
theorem dX6_join_70 : decode cX6_join 70 = .ok (.getfield 7, 3) := by decide +kernel
theorem dX6_join_73 : decode cX6_join 73 = .ok (.if_icmp .ge 48, 3) := by decide +kernel
theorem dX6_join_76 : decode cX6_join 76 = .ok (.aload_n 0, 1) := by decide +kernel
theorem dX6_join_77 : decode cX6_join 77 = .ok (.getfield 41, 3) := by decide +kernel
theorem dX6_join_80 : decode cX6_join 80 = .ok (.iload 4, 2) := by decide +kernel
theorem dX6_join_82 : decode cX6_join 82 = .ok (.aload_n 0, 1) := by decide +kernel
theorem dX6_join_83 : decode cX6_join 83 = .ok (.getfield 41, 3) := by decide +kernel
theorem dX6_join_86 : decode cX6_join 86 = .ok (.iload 4, 2) := by decide +kernel
theorem dX6_join_88 : decode cX6_join 88 = .ok (.iaload, 1) := by decide +kernel
theorem dX6_join_89 : decode cX6_join 89 = .ok (.aload_n 0, 1) := by decide +kernel
theorem dX6_join_90 : decode cX6_join 90 = .ok (.getfield 44, 3) := by decide +kernel
theorem dX6_join_93 : decode cX6_join 93 = .ok (.iconst 1, 1) := by decide +kernel
theorem dX6_join_94 : decode cX6_join 94 = .ok (.iaload, 1) := by decide +kernel
theorem dX6_join_95 : decode cX6_join 95 = .ok (.if_icmp .ne 12, 3) := by decide +kernel
theorem dX6_join_98 : decode cX6_join 98 = .ok (.aload_n 0, 1) := by decide +kernel
theorem dX6_join_99 : decode cX6_join 99 = .ok (.getfield 44, 3) := by decide +kernel
theorem dX6_join_102 : decode cX6_join 102 = .ok (.iconst 0, 1) := by decide +kernel
theorem dX6_join_103 : decode cX6_join 103 = .ok (.iaload, 1) := by decide +kernel
theorem dX6_join_104 : decode cX6_join 104 = .ok (.goto 10, 3) := by decide +kernel
theorem dX6_join_107 : decode cX6_join 107 = .ok (.aload_n 0, 1) := by decide +kernel
theorem dX6_join_108 : decode cX6_join 108 = .ok (.getfield 41, 3) := by decide +kernel
theorem dX6_join_111 : decode cX6_join 111 = .ok (.iload 4, 2) := by decide +kernel
theorem dX6_join_113 : decode cX6_join 113 = .ok (.iaload, 1) := by decide +kernel
theorem dX6_join_114 : decode cX6_join 114 = .ok (.iastore, 1) := by decide +kernel
theorem dX6_join_115 : decode cX6_join 115 = .ok (.iinc 4 1, 3) := by decide +kernel
theorem dX6_join_118 : decode cX6_join 118 = .ok (.goto (-51), 3) := by decide +kernel
theorem dX6_join_121 : decode cX6_join 121 = .ok (.iinc 3 1, 3) := by decide +kernel
theorem dX6_join_124 : decode cX6_join 124 = .ok (.goto (-69), 3) := by decide +kernel
theorem dX6_join_127 : decode cX6_join 127 = .ok (.aload_n 0, 1) := by decide +kernel
theorem dX6_join_128 : decode cX6_join 128 = .ok (.getfield 44, 3) := by decide +kernel
theorem dX6_join_131 : decode cX6_join 131 = .ok (.iload_n 2, 1) := by decide +kernel
theorem dX6_join_132 : decode cX6_join 132 = .ok (.iaload, 1) := by decide +kernel
theorem dX6_join_133 : decode cX6_join 133 = .ok (.ireturn, 1) := by decide +kernel
theorem dX6_bears_0 : decode cX6_bears 0 = .ok (.aload_n 0, 1) := by decide +kernel
theorem dX6_bears_1 : decode cX6_bears 1 = .ok (.iconst 0, 1) := by decide +kernel
theorem dX6_bears_2 : decode cX6_bears 2 = .ok (.putfield 66, 3) := by decide +kernel
theorem dX6_bears_5 : decode cX6_bears 5 = .ok (.aload_n 0, 1) := by decide +kernel
theorem dX6_bears_6 : decode cX6_bears 6 = .ok (.iload_n 1, 1) := by decide +kernel
theorem dX6_bears_7 : decode cX6_bears 7 = .ok (.invokevirtual 80, 3) := by decide +kernel
theorem dX6_bears_10 : decode cX6_bears 10 = .ok (.ifCond .eq 13, 3) := by decide +kernel
theorem dX6_bears_13 : decode cX6_bears 13 = .ok (.iload_n 2, 1) := by decide +kernel
theorem dX6_bears_14 : decode cX6_bears 14 = .ok (.iconst 0, 1) := by decide +kernel
theorem dX6_bears_15 : decode cX6_bears 15 = .ok (.bipush 99, 2) := by decide +kernel
theorem dX6_bears_17 : decode cX6_bears 17 = .ok (.invokestatic 72, 3) := by decide +kernel
theorem dX6_bears_20 : decode cX6_bears 20 = .ok (.ifCond .ne 5, 3) := by decide +kernel
theorem dX6_bears_23 : decode cX6_bears 23 = .ok (.iconst (-1), 1) := by decide +kernel
theorem dX6_bears_24 : decode cX6_bears 24 = .ok (.ireturn, 1) := by decide +kernel
theorem dX6_bears_25 : decode cX6_bears 25 = .ok (.aload_n 0, 1) := by decide +kernel
theorem dX6_bears_26 : decode cX6_bears 26 = .ok (.getfield 26, 3) := by decide +kernel
theorem dX6_bears_29 : decode cX6_bears 29 = .ok (.iload_n 1, 1) := by decide +kernel
theorem dX6_bears_30 : decode cX6_bears 30 = .ok (.iaload, 1) := by decide +kernel
theorem dX6_bears_31 : decode cX6_bears 31 = .ok (.istore_n 3, 1) := by decide +kernel
theorem dX6_bears_32 : decode cX6_bears 32 = .ok (.aload_n 0, 1) := by decide +kernel
theorem dX6_bears_33 : decode cX6_bears 33 = .ok (.getfield 26, 3) := by decide +kernel
theorem dX6_bears_36 : decode cX6_bears 36 = .ok (.iload_n 1, 1) := by decide +kernel
theorem dX6_bears_37 : decode cX6_bears 37 = .ok (.iload_n 2, 1) := by decide +kernel
theorem dX6_bears_38 : decode cX6_bears 38 = .ok (.iastore, 1) := by decide +kernel
theorem dX6_bears_39 : decode cX6_bears 39 = .ok (.iload_n 3, 1) := by decide +kernel
theorem dX6_bears_40 : decode cX6_bears 40 = .ok (.ireturn, 1) := by decide +kernel
theorem dX6_loadOf_0 : decode cX6_loadOf 0 = .ok (.iconst 0, 1) := by decide +kernel
theorem dX6_loadOf_1 : decode cX6_loadOf 1 = .ok (.istore_n 3, 1) := by decide +kernel
theorem dX6_loadOf_2 : decode cX6_loadOf 2 = .ok (.iconst 0, 1) := by decide +kernel
theorem dX6_loadOf_3 : decode cX6_loadOf 3 = .ok (.istore 4, 2) := by decide +kernel
theorem dX6_loadOf_5 : decode cX6_loadOf 5 = .ok (.iload 4, 2) := by decide +kernel
theorem dX6_loadOf_7 : decode cX6_loadOf 7 = .ok (.aload_n 0, 1) := by decide +kernel
theorem dX6_loadOf_8 : decode cX6_loadOf 8 = .ok (.getfield 13, 3) := by decide +kernel
theorem dX6_loadOf_11 : decode cX6_loadOf 11 = .ok (.if_icmp .ge 40, 3) := by decide +kernel
theorem dX6_loadOf_14 : decode cX6_loadOf 14 = .ok (.iload_n 3, 1) := by decide +kernel
theorem dX6_loadOf_15 : decode cX6_loadOf 15 = .ok (.aload_n 0, 1) := by decide +kernel
theorem dX6_loadOf_16 : decode cX6_loadOf 16 = .ok (.getfield 16, 3) := by decide +kernel
theorem dX6_loadOf_19 : decode cX6_loadOf 19 = .ok (.iconst 2, 1) := by decide +kernel
theorem dX6_loadOf_20 : decode cX6_loadOf 20 = .ok (.iload 4, 2) := by decide +kernel
theorem dX6_loadOf_22 : decode cX6_loadOf 22 = .ok (.imul, 1) := by decide +kernel
theorem dX6_loadOf_23 : decode cX6_loadOf 23 = .ok (.iload_n 2, 1) := by decide +kernel
theorem dX6_loadOf_24 : decode cX6_loadOf 24 = .ok (.iload 4, 2) := by decide +kernel
theorem dX6_loadOf_26 : decode cX6_loadOf 26 = .ok (.ishr, 1) := by decide +kernel
theorem dX6_loadOf_27 : decode cX6_loadOf 27 = .ok (.iconst 1, 1) := by decide +kernel
theorem dX6_loadOf_28 : decode cX6_loadOf 28 = .ok (.iand, 1) := by decide +kernel
theorem dX6_loadOf_29 : decode cX6_loadOf 29 = .ok (.iadd, 1) := by decide +kernel
theorem dX6_loadOf_30 : decode cX6_loadOf 30 = .ok (.iaload, 1) := by decide +kernel
theorem dX6_loadOf_31 : decode cX6_loadOf 31 = .ok (.iload_n 1, 1) := by decide +kernel
theorem dX6_loadOf_32 : decode cX6_loadOf 32 = .ok (.ishr, 1) := by decide +kernel
theorem dX6_loadOf_33 : decode cX6_loadOf 33 = .ok (.iconst 1, 1) := by decide +kernel
theorem dX6_loadOf_34 : decode cX6_loadOf 34 = .ok (.iand, 1) := by decide +kernel
theorem dX6_loadOf_35 : decode cX6_loadOf 35 = .ok (.aload_n 0, 1) := by decide +kernel
theorem dX6_loadOf_36 : decode cX6_loadOf 36 = .ok (.getfield 23, 3) := by decide +kernel
theorem dX6_loadOf_39 : decode cX6_loadOf 39 = .ok (.iload 4, 2) := by decide +kernel
theorem dX6_loadOf_41 : decode cX6_loadOf 41 = .ok (.iaload, 1) := by decide +kernel
theorem dX6_loadOf_42 : decode cX6_loadOf 42 = .ok (.imul, 1) := by decide +kernel
theorem dX6_loadOf_43 : decode cX6_loadOf 43 = .ok (.iadd, 1) := by decide +kernel
theorem dX6_loadOf_44 : decode cX6_loadOf 44 = .ok (.istore_n 3, 1) := by decide +kernel
theorem dX6_loadOf_45 : decode cX6_loadOf 45 = .ok (.iinc 4 1, 3) := by decide +kernel
theorem dX6_loadOf_48 : decode cX6_loadOf 48 = .ok (.goto (-43), 3) := by decide +kernel
theorem dX6_loadOf_51 : decode cX6_loadOf 51 = .ok (.iload_n 3, 1) := by decide +kernel
theorem dX6_loadOf_52 : decode cX6_loadOf 52 = .ok (.ireturn, 1) := by decide +kernel
theorem dX6_bits_0 : decode cX6_bits 0 = .ok (.iconst 0, 1) := by decide +kernel
theorem dX6_bits_1 : decode cX6_bits 1 = .ok (.istore_n 1, 1) := by decide +kernel
theorem dX6_bits_2 : decode cX6_bits 2 = .ok (.iconst 0, 1) := by decide +kernel
theorem dX6_bits_3 : decode cX6_bits 3 = .ok (.istore_n 2, 1) := by decide +kernel
theorem dX6_bits_4 : decode cX6_bits 4 = .ok (.iload_n 2, 1) := by decide +kernel
theorem dX6_bits_5 : decode cX6_bits 5 = .ok (.aload_n 0, 1) := by decide +kernel
theorem dX6_bits_6 : decode cX6_bits 6 = .ok (.getfield 13, 3) := by decide +kernel
theorem dX6_bits_9 : decode cX6_bits 9 = .ok (.if_icmp .ge 20, 3) := by decide +kernel
theorem dX6_bits_12 : decode cX6_bits 12 = .ok (.iload_n 1, 1) := by decide +kernel
theorem dX6_bits_13 : decode cX6_bits 13 = .ok (.aload_n 0, 1) := by decide +kernel
theorem dX6_bits_14 : decode cX6_bits 14 = .ok (.getfield 20, 3) := by decide +kernel
theorem dX6_bits_17 : decode cX6_bits 17 = .ok (.iload_n 2, 1) := by decide +kernel
theorem dX6_bits_18 : decode cX6_bits 18 = .ok (.iaload, 1) := by decide +kernel
theorem dX6_bits_19 : decode cX6_bits 19 = .ok (.iload_n 2, 1) := by decide +kernel
end
section
theorem dX6_bits_20 : decode cX6_bits 20 = .ok (.ishl, 1) := by decide +kernel
theorem dX6_bits_21 : decode cX6_bits 21 = .ok (.ior, 1) := by decide +kernel
theorem dX6_bits_22 : decode cX6_bits 22 = .ok (.istore_n 1, 1) := by decide +kernel
theorem dX6_bits_23 : decode cX6_bits 23 = .ok (.iinc 2 1, 3) := by decide +kernel
theorem dX6_bits_26 : decode cX6_bits 26 = .ok (.goto (-22), 3) := by decide +kernel
theorem dX6_bits_29 : decode cX6_bits 29 = .ok (.iload_n 1, 1) := by decide +kernel
theorem dX6_bits_30 : decode cX6_bits 30 = .ok (.ireturn, 1) := by decide +kernel
theorem dX6_load_0 : decode cX6_load 0 = .ok (.aload_n 0, 1) := by decide +kernel
theorem dX6_load_1 : decode cX6_load 1 = .ok (.iconst 0, 1) := by decide +kernel
theorem dX6_load_2 : decode cX6_load 2 = .ok (.putfield 66, 3) := by decide +kernel
theorem dX6_load_5 : decode cX6_load 5 = .ok (.aload_n 0, 1) := by decide +kernel
theorem dX6_load_6 : decode cX6_load 6 = .ok (.iload_n 1, 1) := by decide +kernel
theorem dX6_load_7 : decode cX6_load 7 = .ok (.invokevirtual 80, 3) := by decide +kernel
theorem dX6_load_10 : decode cX6_load 10 = .ok (.ifCond .eq 15, 3) := by decide +kernel
theorem dX6_load_13 : decode cX6_load 13 = .ok (.aload_n 0, 1) := by decide +kernel
theorem dX6_load_14 : decode cX6_load 14 = .ok (.iload_n 1, 1) := by decide +kernel
theorem dX6_load_15 : decode cX6_load 15 = .ok (.aload_n 0, 1) := by decide +kernel
theorem dX6_load_16 : decode cX6_load 16 = .ok (.invokevirtual 134, 3) := by decide +kernel
theorem dX6_load_19 : decode cX6_load 19 = .ok (.invokevirtual 138, 3) := by decide +kernel
theorem dX6_load_22 : decode cX6_load 22 = .ok (.goto 4, 3) := by decide +kernel
theorem dX6_load_25 : decode cX6_load 25 = .ok (.iconst (-1), 1) := by decide +kernel
theorem dX6_load_26 : decode cX6_load 26 = .ok (.ireturn, 1) := by decide +kernel
theorem dX6_routes_0 : decode cX6_routes 0 = .ok (.aload_n 0, 1) := by decide +kernel
theorem dX6_routes_1 : decode cX6_routes 1 = .ok (.iconst 0, 1) := by decide +kernel
theorem dX6_routes_2 : decode cX6_routes 2 = .ok (.putfield 66, 3) := by decide +kernel
theorem dX6_routes_5 : decode cX6_routes 5 = .ok (.iload_n 1, 1) := by decide +kernel
theorem dX6_routes_6 : decode cX6_routes 6 = .ok (.iconst 0, 1) := by decide +kernel
theorem dX6_routes_7 : decode cX6_routes 7 = .ok (.iconst 1, 1) := by decide +kernel
theorem dX6_routes_8 : decode cX6_routes 8 = .ok (.invokestatic 72, 3) := by decide +kernel
theorem dX6_routes_11 : decode cX6_routes 11 = .ok (.ifCond .ne 5, 3) := by decide +kernel
theorem dX6_routes_14 : decode cX6_routes 14 = .ok (.iconst (-1), 1) := by decide +kernel
theorem dX6_routes_15 : decode cX6_routes 15 = .ok (.ireturn, 1) := by decide +kernel
theorem dX6_routes_16 : decode cX6_routes 16 = .ok (.bipush (-9), 2) := by decide +kernel
theorem dX6_routes_18 : decode cX6_routes 18 = .ok (.istore_n 2, 1) := by decide +kernel
theorem dX6_routes_19 : decode cX6_routes 19 = .ok (.iconst 0, 1) := by decide +kernel
theorem dX6_routes_20 : decode cX6_routes 20 = .ok (.istore_n 3, 1) := by decide +kernel
theorem dX6_routes_21 : decode cX6_routes 21 = .ok (.iconst 0, 1) := by decide +kernel
theorem dX6_routes_22 : decode cX6_routes 22 = .ok (.istore 4, 2) := by decide +kernel
theorem dX6_routes_24 : decode cX6_routes 24 = .ok (.iload 4, 2) := by decide +kernel
theorem dX6_routes_26 : decode cX6_routes 26 = .ok (.iconst 1, 1) := by decide +kernel
theorem dX6_routes_27 : decode cX6_routes 27 = .ok (.aload_n 0, 1) := by decide +kernel
theorem dX6_routes_28 : decode cX6_routes 28 = .ok (.getfield 13, 3) := by decide +kernel
theorem dX6_routes_31 : decode cX6_routes 31 = .ok (.ishl, 1) := by decide +kernel
theorem dX6_routes_32 : decode cX6_routes 32 = .ok (.if_icmp .ge 145, 3) := by decide +kernel
theorem dX6_routes_35 : decode cX6_routes 35 = .ok (.iconst 1, 1) := by decide +kernel
theorem dX6_routes_36 : decode cX6_routes 36 = .ok (.istore 5, 2) := by decide +kernel
theorem dX6_routes_38 : decode cX6_routes 38 = .ok (.iconst 0, 1) := by decide +kernel
theorem dX6_routes_39 : decode cX6_routes 39 = .ok (.istore 6, 2) := by decide +kernel
theorem dX6_routes_41 : decode cX6_routes 41 = .ok (.iload 6, 2) := by decide +kernel
theorem dX6_routes_43 : decode cX6_routes 43 = .ok (.aload_n 0, 1) := by decide +kernel
theorem dX6_routes_44 : decode cX6_routes 44 = .ok (.getfield 7, 3) := by decide +kernel
theorem dX6_routes_47 : decode cX6_routes 47 = .ok (.if_icmp .ge 37, 3) := by decide +kernel
theorem dX6_routes_50 : decode cX6_routes 50 = .ok (.iload 5, 2) := by decide +kernel
theorem dX6_routes_52 : decode cX6_routes 52 = .ok (.aload_n 0, 1) := by decide +kernel
theorem dX6_routes_53 : decode cX6_routes 53 = .ok (.iload 6, 2) := by decide +kernel
theorem dX6_routes_55 : decode cX6_routes 55 = .ok (.iload 4, 2) := by decide +kernel
theorem dX6_routes_57 : decode cX6_routes 57 = .ok (.invokevirtual 138, 3) := by decide +kernel
theorem dX6_routes_60 : decode cX6_routes 60 = .ok (.aload_n 0, 1) := by decide +kernel
theorem dX6_routes_61 : decode cX6_routes 61 = .ok (.getfield 26, 3) := by decide +kernel
theorem dX6_routes_64 : decode cX6_routes 64 = .ok (.iload 6, 2) := by decide +kernel
theorem dX6_routes_66 : decode cX6_routes 66 = .ok (.iaload, 1) := by decide +kernel
theorem dX6_routes_67 : decode cX6_routes 67 = .ok (.if_icmp .gt 7, 3) := by decide +kernel
theorem dX6_routes_70 : decode cX6_routes 70 = .ok (.iconst 1, 1) := by decide +kernel
theorem dX6_routes_71 : decode cX6_routes 71 = .ok (.goto 4, 3) := by decide +kernel
theorem dX6_routes_74 : decode cX6_routes 74 = .ok (.iconst 0, 1) := by decide +kernel
theorem dX6_routes_75 : decode cX6_routes 75 = .ok (.iand, 1) := by decide +kernel
theorem dX6_routes_76 : decode cX6_routes 76 = .ok (.istore 5, 2) := by decide +kernel
theorem dX6_routes_78 : decode cX6_routes 78 = .ok (.iinc 6 1, 3) := by decide +kernel
theorem dX6_routes_81 : decode cX6_routes 81 = .ok (.goto (-40), 3) := by decide +kernel
theorem dX6_routes_84 : decode cX6_routes 84 = .ok (.iconst 0, 1) := by decide +kernel
theorem dX6_routes_85 : decode cX6_routes 85 = .ok (.istore 6, 2) := by decide +kernel
theorem dX6_routes_87 : decode cX6_routes 87 = .ok (.iconst 0, 1) := by decide +kernel
theorem dX6_routes_88 : decode cX6_routes 88 = .ok (.istore 7, 2) := by decide +kernel
theorem dX6_routes_90 : decode cX6_routes 90 = .ok (.iload 7, 2) := by decide +kernel
theorem dX6_routes_92 : decode cX6_routes 92 = .ok (.aload_n 0, 1) := by decide +kernel
theorem dX6_routes_93 : decode cX6_routes 93 = .ok (.getfield 13, 3) := by decide +kernel
theorem dX6_routes_96 : decode cX6_routes 96 = .ok (.if_icmp .ge 52, 3) := by decide +kernel
theorem dX6_routes_99 : decode cX6_routes 99 = .ok (.iload 5, 2) := by decide +kernel
theorem dX6_routes_101 : decode cX6_routes 101 = .ok (.ifCond .eq 47, 3) := by decide +kernel
theorem dX6_routes_104 : decode cX6_routes 104 = .ok (.iload 6, 2) := by decide +kernel
theorem dX6_routes_106 : decode cX6_routes 106 = .ok (.aload_n 0, 1) := by decide +kernel
theorem dX6_routes_107 : decode cX6_routes 107 = .ok (.aload_n 0, 1) := by decide +kernel
theorem dX6_routes_108 : decode cX6_routes 108 = .ok (.getfield 69, 3) := by decide +kernel
theorem dX6_routes_111 : decode cX6_routes 111 = .ok (.aload_n 0, 1) := by decide +kernel
theorem dX6_routes_112 : decode cX6_routes 112 = .ok (.getfield 16, 3) := by decide +kernel
theorem dX6_routes_115 : decode cX6_routes 115 = .ok (.iconst 2, 1) := by decide +kernel
theorem dX6_routes_116 : decode cX6_routes 116 = .ok (.iload 7, 2) := by decide +kernel
theorem dX6_routes_118 : decode cX6_routes 118 = .ok (.imul, 1) := by decide +kernel
theorem dX6_routes_119 : decode cX6_routes 119 = .ok (.iload 4, 2) := by decide +kernel
theorem dX6_routes_121 : decode cX6_routes 121 = .ok (.iload 7, 2) := by decide +kernel
theorem dX6_routes_123 : decode cX6_routes 123 = .ok (.ishr, 1) := by decide +kernel
theorem dX6_routes_124 : decode cX6_routes 124 = .ok (.iconst 1, 1) := by decide +kernel
theorem dX6_routes_125 : decode cX6_routes 125 = .ok (.iand, 1) := by decide +kernel
theorem dX6_routes_126 : decode cX6_routes 126 = .ok (.iadd, 1) := by decide +kernel
theorem dX6_routes_127 : decode cX6_routes 127 = .ok (.iaload, 1) := by decide +kernel
theorem dX6_routes_128 : decode cX6_routes 128 = .ok (.invokevirtual 101, 3) := by decide +kernel
theorem dX6_routes_131 : decode cX6_routes 131 = .ok (.aload_n 0, 1) := by decide +kernel
theorem dX6_routes_132 : decode cX6_routes 132 = .ok (.getfield 23, 3) := by decide +kernel
theorem dX6_routes_135 : decode cX6_routes 135 = .ok (.iload 7, 2) := by decide +kernel
theorem dX6_routes_137 : decode cX6_routes 137 = .ok (.iaload, 1) := by decide +kernel
theorem dX6_routes_138 : decode cX6_routes 138 = .ok (.imul, 1) := by decide +kernel
theorem dX6_routes_139 : decode cX6_routes 139 = .ok (.iadd, 1) := by decide +kernel
theorem dX6_routes_140 : decode cX6_routes 140 = .ok (.istore 6, 2) := by decide +kernel
theorem dX6_routes_142 : decode cX6_routes 142 = .ok (.iinc 7 1, 3) := by decide +kernel
theorem dX6_routes_145 : decode cX6_routes 145 = .ok (.goto (-55), 3) := by decide +kernel
theorem dX6_routes_148 : decode cX6_routes 148 = .ok (.iload 5, 2) := by decide +kernel
theorem dX6_routes_150 : decode cX6_routes 150 = .ok (.ifCond .eq 21, 3) := by decide +kernel
theorem dX6_routes_153 : decode cX6_routes 153 = .ok (.iload_n 2, 1) := by decide +kernel
theorem dX6_routes_154 : decode cX6_routes 154 = .ok (.bipush (-9), 2) := by decide +kernel
theorem dX6_routes_156 : decode cX6_routes 156 = .ok (.if_icmp .eq 9, 3) := by decide +kernel
theorem dX6_routes_159 : decode cX6_routes 159 = .ok (.iload 6, 2) := by decide +kernel
theorem dX6_routes_161 : decode cX6_routes 161 = .ok (.iload_n 3, 1) := by decide +kernel
theorem dX6_routes_162 : decode cX6_routes 162 = .ok (.if_icmp .ge 9, 3) := by decide +kernel
theorem dX6_routes_165 : decode cX6_routes 165 = .ok (.iload 4, 2) := by decide +kernel
theorem dX6_routes_167 : decode cX6_routes 167 = .ok (.istore_n 2, 1) := by decide +kernel
theorem dX6_routes_168 : decode cX6_routes 168 = .ok (.iload 6, 2) := by decide +kernel
theorem dX6_routes_170 : decode cX6_routes 170 = .ok (.istore_n 3, 1) := by decide +kernel
theorem dX6_routes_171 : decode cX6_routes 171 = .ok (.iinc 4 1, 3) := by decide +kernel
theorem dX6_routes_174 : decode cX6_routes 174 = .ok (.goto (-150), 3) := by decide +kernel
theorem dX6_routes_177 : decode cX6_routes 177 = .ok (.iload_n 2, 1) := by decide +kernel
theorem dX6_routes_178 : decode cX6_routes 178 = .ok (.bipush (-9), 2) := by decide +kernel
theorem dX6_routes_180 : decode cX6_routes 180 = .ok (.if_icmp .ne 8, 3) := by decide +kernel
theorem dX6_routes_183 : decode cX6_routes 183 = .ok (.bipush (-2), 2) := by decide +kernel
theorem dX6_routes_185 : decode cX6_routes 185 = .ok (.goto 12, 3) := by decide +kernel
theorem dX6_routes_188 : decode cX6_routes 188 = .ok (.iload_n 1, 1) := by decide +kernel
theorem dX6_routes_189 : decode cX6_routes 189 = .ok (.ifCond .ne 7, 3) := by decide +kernel
theorem dX6_routes_192 : decode cX6_routes 192 = .ok (.iload_n 2, 1) := by decide +kernel
theorem dX6_routes_193 : decode cX6_routes 193 = .ok (.goto 4, 3) := by decide +kernel
theorem dX6_routes_196 : decode cX6_routes 196 = .ok (.iload_n 3, 1) := by decide +kernel
theorem dX6_routes_197 : decode cX6_routes 197 = .ok (.ireturn, 1) := by decide +kernel
theorem dX6_price_0 : decode cX6_price 0 = .ok (.aload_n 0, 1) := by decide +kernel
theorem dX6_price_1 : decode cX6_price 1 = .ok (.iconst 0, 1) := by decide +kernel
theorem dX6_price_2 : decode cX6_price 2 = .ok (.putfield 66, 3) := by decide +kernel
theorem dX6_price_5 : decode cX6_price 5 = .ok (.aload_n 0, 1) := by decide +kernel
theorem dX6_price_6 : decode cX6_price 6 = .ok (.iload_n 1, 1) := by decide +kernel
theorem dX6_price_7 : decode cX6_price 7 = .ok (.invokevirtual 80, 3) := by decide +kernel
theorem dX6_price_10 : decode cX6_price 10 = .ok (.ifCond .eq 13, 3) := by decide +kernel
theorem dX6_price_13 : decode cX6_price 13 = .ok (.iload_n 2, 1) := by decide +kernel
theorem dX6_price_14 : decode cX6_price 14 = .ok (.iconst 1, 1) := by decide +kernel
theorem dX6_price_15 : decode cX6_price 15 = .ok (.bipush 50, 2) := by decide +kernel
theorem dX6_price_17 : decode cX6_price 17 = .ok (.invokestatic 72, 3) := by decide +kernel
theorem dX6_price_20 : decode cX6_price 20 = .ok (.ifCond .ne 5, 3) := by decide +kernel
theorem dX6_price_23 : decode cX6_price 23 = .ok (.iconst (-1), 1) := by decide +kernel
theorem dX6_price_24 : decode cX6_price 24 = .ok (.ireturn, 1) := by decide +kernel
theorem dX6_price_25 : decode cX6_price 25 = .ok (.aload_n 0, 1) := by decide +kernel
theorem dX6_price_26 : decode cX6_price 26 = .ok (.getfield 29, 3) := by decide +kernel
theorem dX6_price_29 : decode cX6_price 29 = .ok (.iload_n 1, 1) := by decide +kernel
theorem dX6_price_30 : decode cX6_price 30 = .ok (.iaload, 1) := by decide +kernel
theorem dX6_price_31 : decode cX6_price 31 = .ok (.istore_n 3, 1) := by decide +kernel
theorem dX6_price_32 : decode cX6_price 32 = .ok (.aload_n 0, 1) := by decide +kernel
theorem dX6_price_33 : decode cX6_price 33 = .ok (.getfield 29, 3) := by decide +kernel
theorem dX6_price_36 : decode cX6_price 36 = .ok (.iload_n 1, 1) := by decide +kernel
theorem dX6_price_37 : decode cX6_price 37 = .ok (.iload_n 2, 1) := by decide +kernel
theorem dX6_price_38 : decode cX6_price 38 = .ok (.iastore, 1) := by decide +kernel
theorem dX6_price_39 : decode cX6_price 39 = .ok (.iload_n 3, 1) := by decide +kernel
theorem dX6_price_40 : decode cX6_price 40 = .ok (.ireturn, 1) := by decide +kernel
theorem dX6_copyOf_0 : decode cX6_copyOf 0 = .ok (.iconst 0, 1) := by decide +kernel
theorem dX6_copyOf_1 : decode cX6_copyOf 1 = .ok (.istore_n 3, 1) := by decide +kernel
theorem dX6_copyOf_2 : decode cX6_copyOf 2 = .ok (.iconst 0, 1) := by decide +kernel
theorem dX6_copyOf_3 : decode cX6_copyOf 3 = .ok (.istore 4, 2) := by decide +kernel
theorem dX6_copyOf_5 : decode cX6_copyOf 5 = .ok (.iload 4, 2) := by decide +kernel
theorem dX6_copyOf_7 : decode cX6_copyOf 7 = .ok (.aload_n 0, 1) := by decide +kernel
theorem dX6_copyOf_8 : decode cX6_copyOf 8 = .ok (.getfield 13, 3) := by decide +kernel
theorem dX6_copyOf_11 : decode cX6_copyOf 11 = .ok (.if_icmp .ge 55, 3) := by decide +kernel
theorem dX6_copyOf_14 : decode cX6_copyOf 14 = .ok (.iload_n 3, 1) := by decide +kernel
theorem dX6_copyOf_15 : decode cX6_copyOf 15 = .ok (.aload_n 0, 1) := by decide +kernel
theorem dX6_copyOf_16 : decode cX6_copyOf 16 = .ok (.iload 4, 2) := by decide +kernel
theorem dX6_copyOf_18 : decode cX6_copyOf 18 = .ok (.invokevirtual 98, 3) := by decide +kernel
theorem dX6_copyOf_21 : decode cX6_copyOf 21 = .ok (.iload_n 1, 1) := by decide +kernel
theorem dX6_copyOf_22 : decode cX6_copyOf 22 = .ok (.ishr, 1) := by decide +kernel
theorem dX6_copyOf_23 : decode cX6_copyOf 23 = .ok (.iconst 1, 1) := by decide +kernel
theorem dX6_copyOf_24 : decode cX6_copyOf 24 = .ok (.iand, 1) := by decide +kernel
theorem dX6_copyOf_25 : decode cX6_copyOf 25 = .ok (.iconst 1, 1) := by decide +kernel
theorem dX6_copyOf_26 : decode cX6_copyOf 26 = .ok (.if_icmp .ne 31, 3) := by decide +kernel
theorem dX6_copyOf_29 : decode cX6_copyOf 29 = .ok (.aload_n 0, 1) := by decide +kernel
theorem dX6_copyOf_30 : decode cX6_copyOf 30 = .ok (.aload_n 0, 1) := by decide +kernel
theorem dX6_copyOf_31 : decode cX6_copyOf 31 = .ok (.getfield 69, 3) := by decide +kernel
theorem dX6_copyOf_34 : decode cX6_copyOf 34 = .ok (.aload_n 0, 1) := by decide +kernel
theorem dX6_copyOf_35 : decode cX6_copyOf 35 = .ok (.iload 4, 2) := by decide +kernel
theorem dX6_copyOf_37 : decode cX6_copyOf 37 = .ok (.invokevirtual 98, 3) := by decide +kernel
theorem dX6_copyOf_40 : decode cX6_copyOf 40 = .ok (.invokevirtual 95, 3) := by decide +kernel
theorem dX6_copyOf_43 : decode cX6_copyOf 43 = .ok (.iload_n 2, 1) := by decide +kernel
theorem dX6_copyOf_44 : decode cX6_copyOf 44 = .ok (.if_icmp .ne 13, 3) := by decide +kernel
theorem dX6_copyOf_47 : decode cX6_copyOf 47 = .ok (.aload_n 0, 1) := by decide +kernel
theorem dX6_copyOf_48 : decode cX6_copyOf 48 = .ok (.getfield 23, 3) := by decide +kernel
theorem dX6_copyOf_51 : decode cX6_copyOf 51 = .ok (.iload 4, 2) := by decide +kernel
theorem dX6_copyOf_53 : decode cX6_copyOf 53 = .ok (.iaload, 1) := by decide +kernel
theorem dX6_copyOf_54 : decode cX6_copyOf 54 = .ok (.goto 4, 3) := by decide +kernel
theorem dX6_copyOf_57 : decode cX6_copyOf 57 = .ok (.iconst 0, 1) := by decide +kernel
theorem dX6_copyOf_58 : decode cX6_copyOf 58 = .ok (.iadd, 1) := by decide +kernel
theorem dX6_copyOf_59 : decode cX6_copyOf 59 = .ok (.istore_n 3, 1) := by decide +kernel
theorem dX6_copyOf_60 : decode cX6_copyOf 60 = .ok (.iinc 4 1, 3) := by decide +kernel
theorem dX6_copyOf_63 : decode cX6_copyOf 63 = .ok (.goto (-58), 3) := by decide +kernel
theorem dX6_copyOf_66 : decode cX6_copyOf 66 = .ok (.iload_n 3, 1) := by decide +kernel
theorem dX6_copyOf_67 : decode cX6_copyOf 67 = .ok (.ireturn, 1) := by decide +kernel
theorem dX6_copy_0 : decode cX6_copy 0 = .ok (.aload_n 0, 1) := by decide +kernel
theorem dX6_copy_1 : decode cX6_copy 1 = .ok (.iconst 0, 1) := by decide +kernel
theorem dX6_copy_2 : decode cX6_copy 2 = .ok (.putfield 66, 3) := by decide +kernel
theorem dX6_copy_5 : decode cX6_copy 5 = .ok (.aload_n 0, 1) := by decide +kernel
theorem dX6_copy_6 : decode cX6_copy 6 = .ok (.iload_n 1, 1) := by decide +kernel
theorem dX6_copy_7 : decode cX6_copy 7 = .ok (.invokevirtual 80, 3) := by decide +kernel
theorem dX6_copy_10 : decode cX6_copy 10 = .ok (.ifCond .eq 33, 3) := by decide +kernel
theorem dX6_copy_13 : decode cX6_copy 13 = .ok (.iload_n 2, 1) := by decide +kernel
theorem dX6_copy_14 : decode cX6_copy 14 = .ok (.iconst 0, 1) := by decide +kernel
theorem dX6_copy_15 : decode cX6_copy 15 = .ok (.iconst 3, 1) := by decide +kernel
theorem dX6_copy_16 : decode cX6_copy 16 = .ok (.invokestatic 72, 3) := by decide +kernel
theorem dX6_copy_19 : decode cX6_copy 19 = .ok (.ifCond .eq 24, 3) := by decide +kernel
theorem dX6_copy_22 : decode cX6_copy 22 = .ok (.aload_n 0, 1) := by decide +kernel
theorem dX6_copy_23 : decode cX6_copy 23 = .ok (.getfield 69, 3) := by decide +kernel
theorem dX6_copy_26 : decode cX6_copy 26 = .ok (.iload_n 1, 1) := by decide +kernel
theorem dX6_copy_27 : decode cX6_copy 27 = .ok (.invokestatic 83, 3) := by decide +kernel
theorem dX6_copy_30 : decode cX6_copy 30 = .ok (.iload_n 2, 1) := by decide +kernel
theorem dX6_copy_31 : decode cX6_copy 31 = .ok (.if_icmp .eq 12, 3) := by decide +kernel
theorem dX6_copy_34 : decode cX6_copy 34 = .ok (.aload_n 0, 1) := by decide +kernel
theorem dX6_copy_35 : decode cX6_copy 35 = .ok (.iload_n 1, 1) := by decide +kernel
theorem dX6_copy_36 : decode cX6_copy 36 = .ok (.iload_n 2, 1) := by decide +kernel
theorem dX6_copy_37 : decode cX6_copy 37 = .ok (.invokevirtual 141, 3) := by decide +kernel
theorem dX6_copy_40 : decode cX6_copy 40 = .ok (.goto 4, 3) := by decide +kernel
theorem dX6_copy_43 : decode cX6_copy 43 = .ok (.iconst (-1), 1) := by decide +kernel
theorem dX6_copy_44 : decode cX6_copy 44 = .ok (.ireturn, 1) := by decide +kernel
theorem dX6_saved_0 : decode cX6_saved 0 = .ok (.aload_n 0, 1) := by decide +kernel
theorem dX6_saved_1 : decode cX6_saved 1 = .ok (.iconst 0, 1) := by decide +kernel
theorem dX6_saved_2 : decode cX6_saved 2 = .ok (.putfield 66, 3) := by decide +kernel
theorem dX6_saved_5 : decode cX6_saved 5 = .ok (.iload_n 1, 1) := by decide +kernel
theorem dX6_saved_6 : decode cX6_saved 6 = .ok (.iconst 0, 1) := by decide +kernel
theorem dX6_saved_7 : decode cX6_saved 7 = .ok (.sipush 200, 3) := by decide +kernel
theorem dX6_saved_10 : decode cX6_saved 10 = .ok (.invokestatic 72, 3) := by decide +kernel
theorem dX6_saved_13 : decode cX6_saved 13 = .ok (.ifCond .ne 5, 3) := by decide +kernel
theorem dX6_saved_16 : decode cX6_saved 16 = .ok (.iconst (-1), 1) := by decide +kernel
theorem dX6_saved_17 : decode cX6_saved 17 = .ok (.ireturn, 1) := by decide +kernel
theorem dX6_saved_18 : decode cX6_saved 18 = .ok (.iconst 0, 1) := by decide +kernel
theorem dX6_saved_19 : decode cX6_saved 19 = .ok (.istore_n 2, 1) := by decide +kernel
theorem dX6_saved_20 : decode cX6_saved 20 = .ok (.iload_n 2, 1) := by decide +kernel
theorem dX6_saved_21 : decode cX6_saved 21 = .ok (.iload_n 1, 1) := by decide +kernel
theorem dX6_saved_22 : decode cX6_saved 22 = .ok (.if_icmp .gt 16, 3) := by decide +kernel
theorem dX6_saved_25 : decode cX6_saved 25 = .ok (.aload_n 0, 1) := by decide +kernel
theorem dX6_saved_26 : decode cX6_saved 26 = .ok (.getfield 47, 3) := by decide +kernel
theorem dX6_saved_29 : decode cX6_saved 29 = .ok (.iload_n 2, 1) := by decide +kernel
theorem dX6_saved_30 : decode cX6_saved 30 = .ok (.iconst 0, 1) := by decide +kernel
theorem dX6_saved_31 : decode cX6_saved 31 = .ok (.iastore, 1) := by decide +kernel
theorem dX6_saved_32 : decode cX6_saved 32 = .ok (.iinc 2 1, 3) := by decide +kernel
theorem dX6_saved_35 : decode cX6_saved 35 = .ok (.goto (-15), 3) := by decide +kernel
theorem dX6_saved_38 : decode cX6_saved 38 = .ok (.iconst 0, 1) := by decide +kernel
theorem dX6_saved_39 : decode cX6_saved 39 = .ok (.istore_n 2, 1) := by decide +kernel
theorem dX6_saved_40 : decode cX6_saved 40 = .ok (.iload_n 2, 1) := by decide +kernel
theorem dX6_saved_41 : decode cX6_saved 41 = .ok (.aload_n 0, 1) := by decide +kernel
theorem dX6_saved_42 : decode cX6_saved 42 = .ok (.getfield 7, 3) := by decide +kernel
theorem dX6_saved_45 : decode cX6_saved 45 = .ok (.if_icmp .ge 123, 3) := by decide +kernel
theorem dX6_saved_48 : decode cX6_saved 48 = .ok (.iconst 0, 1) := by decide +kernel
theorem dX6_saved_49 : decode cX6_saved 49 = .ok (.istore_n 3, 1) := by decide +kernel
theorem dX6_saved_50 : decode cX6_saved 50 = .ok (.iload_n 3, 1) := by decide +kernel
theorem dX6_saved_51 : decode cX6_saved 51 = .ok (.iconst 4, 1) := by decide +kernel
theorem dX6_saved_52 : decode cX6_saved 52 = .ok (.if_icmp .ge 110, 3) := by decide +kernel
theorem dX6_saved_55 : decode cX6_saved 55 = .ok (.aload_n 0, 1) := by decide +kernel
theorem dX6_saved_56 : decode cX6_saved 56 = .ok (.getfield 69, 3) := by decide +kernel
theorem dX6_saved_59 : decode cX6_saved 59 = .ok (.iload_n 2, 1) := by decide +kernel
theorem dX6_saved_60 : decode cX6_saved 60 = .ok (.invokestatic 83, 3) := by decide +kernel
theorem dX6_saved_63 : decode cX6_saved 63 = .ok (.iload_n 3, 1) := by decide +kernel
theorem dX6_saved_64 : decode cX6_saved 64 = .ok (.if_icmp .eq 92, 3) := by decide +kernel
theorem dX6_saved_67 : decode cX6_saved 67 = .ok (.aload_n 0, 1) := by decide +kernel
theorem dX6_saved_68 : decode cX6_saved 68 = .ok (.iload_n 2, 1) := by decide +kernel
theorem dX6_saved_69 : decode cX6_saved 69 = .ok (.iload_n 3, 1) := by decide +kernel
theorem dX6_saved_70 : decode cX6_saved 70 = .ok (.invokevirtual 141, 3) := by decide +kernel
theorem dX6_saved_73 : decode cX6_saved 73 = .ok (.istore 4, 2) := by decide +kernel
theorem dX6_saved_75 : decode cX6_saved 75 = .ok (.iload_n 1, 1) := by decide +kernel
theorem dX6_saved_76 : decode cX6_saved 76 = .ok (.istore 5, 2) := by decide +kernel
theorem dX6_saved_78 : decode cX6_saved 78 = .ok (.iload 5, 2) := by decide +kernel
theorem dX6_saved_80 : decode cX6_saved 80 = .ok (.aload_n 0, 1) := by decide +kernel
theorem dX6_saved_81 : decode cX6_saved 81 = .ok (.getfield 29, 3) := by decide +kernel
theorem dX6_saved_84 : decode cX6_saved 84 = .ok (.iload_n 2, 1) := by decide +kernel
theorem dX6_saved_85 : decode cX6_saved 85 = .ok (.iaload, 1) := by decide +kernel
theorem dX6_saved_86 : decode cX6_saved 86 = .ok (.if_icmp .lt 70, 3) := by decide +kernel
theorem dX6_saved_89 : decode cX6_saved 89 = .ok (.aload_n 0, 1) := by decide +kernel
theorem dX6_saved_90 : decode cX6_saved 90 = .ok (.getfield 47, 3) := by decide +kernel
theorem dX6_saved_93 : decode cX6_saved 93 = .ok (.iload 5, 2) := by decide +kernel
theorem dX6_saved_95 : decode cX6_saved 95 = .ok (.aload_n 0, 1) := by decide +kernel
theorem dX6_saved_96 : decode cX6_saved 96 = .ok (.getfield 47, 3) := by decide +kernel
theorem dX6_saved_99 : decode cX6_saved 99 = .ok (.iload 5, 2) := by decide +kernel
theorem dX6_saved_101 : decode cX6_saved 101 = .ok (.aload_n 0, 1) := by decide +kernel
theorem dX6_saved_102 : decode cX6_saved 102 = .ok (.getfield 29, 3) := by decide +kernel
theorem dX6_saved_105 : decode cX6_saved 105 = .ok (.iload_n 2, 1) := by decide +kernel
theorem dX6_saved_106 : decode cX6_saved 106 = .ok (.iaload, 1) := by decide +kernel
theorem dX6_saved_107 : decode cX6_saved 107 = .ok (.isub, 1) := by decide +kernel
theorem dX6_saved_108 : decode cX6_saved 108 = .ok (.iaload, 1) := by decide +kernel
theorem dX6_saved_109 : decode cX6_saved 109 = .ok (.iload 4, 2) := by decide +kernel
theorem dX6_saved_111 : decode cX6_saved 111 = .ok (.iadd, 1) := by decide +kernel
theorem dX6_saved_112 : decode cX6_saved 112 = .ok (.aload_n 0, 1) := by decide +kernel
theorem dX6_saved_113 : decode cX6_saved 113 = .ok (.getfield 47, 3) := by decide +kernel
theorem dX6_saved_116 : decode cX6_saved 116 = .ok (.iload 5, 2) := by decide +kernel
theorem dX6_saved_118 : decode cX6_saved 118 = .ok (.iaload, 1) := by decide +kernel
theorem dX6_saved_119 : decode cX6_saved 119 = .ok (.if_icmp .le 23, 3) := by decide +kernel
theorem dX6_saved_122 : decode cX6_saved 122 = .ok (.aload_n 0, 1) := by decide +kernel
theorem dX6_saved_123 : decode cX6_saved 123 = .ok (.getfield 47, 3) := by decide +kernel
theorem dX6_saved_126 : decode cX6_saved 126 = .ok (.iload 5, 2) := by decide +kernel
theorem dX6_saved_128 : decode cX6_saved 128 = .ok (.aload_n 0, 1) := by decide +kernel
theorem dX6_saved_129 : decode cX6_saved 129 = .ok (.getfield 29, 3) := by decide +kernel
theorem dX6_saved_132 : decode cX6_saved 132 = .ok (.iload_n 2, 1) := by decide +kernel
theorem dX6_saved_133 : decode cX6_saved 133 = .ok (.iaload, 1) := by decide +kernel
theorem dX6_saved_134 : decode cX6_saved 134 = .ok (.isub, 1) := by decide +kernel
theorem dX6_saved_135 : decode cX6_saved 135 = .ok (.iaload, 1) := by decide +kernel
theorem dX6_saved_136 : decode cX6_saved 136 = .ok (.iload 4, 2) := by decide +kernel
theorem dX6_saved_138 : decode cX6_saved 138 = .ok (.iadd, 1) := by decide +kernel
theorem dX6_saved_139 : decode cX6_saved 139 = .ok (.goto 10, 3) := by decide +kernel
theorem dX6_saved_142 : decode cX6_saved 142 = .ok (.aload_n 0, 1) := by decide +kernel
theorem dX6_saved_143 : decode cX6_saved 143 = .ok (.getfield 47, 3) := by decide +kernel
theorem dX6_saved_146 : decode cX6_saved 146 = .ok (.iload 5, 2) := by decide +kernel
theorem dX6_saved_148 : decode cX6_saved 148 = .ok (.iaload, 1) := by decide +kernel
theorem dX6_saved_149 : decode cX6_saved 149 = .ok (.iastore, 1) := by decide +kernel
theorem dX6_saved_150 : decode cX6_saved 150 = .ok (.iinc 5 (-1), 3) := by decide +kernel
theorem dX6_saved_153 : decode cX6_saved 153 = .ok (.goto (-75), 3) := by decide +kernel
theorem dX6_saved_156 : decode cX6_saved 156 = .ok (.iinc 3 1, 3) := by decide +kernel
theorem dX6_saved_159 : decode cX6_saved 159 = .ok (.goto (-109), 3) := by decide +kernel
theorem dX6_saved_162 : decode cX6_saved 162 = .ok (.iinc 2 1, 3) := by decide +kernel
theorem dX6_saved_165 : decode cX6_saved 165 = .ok (.goto (-125), 3) := by decide +kernel
theorem dX6_saved_168 : decode cX6_saved 168 = .ok (.aload_n 0, 1) := by decide +kernel
theorem dX6_saved_169 : decode cX6_saved 169 = .ok (.getfield 47, 3) := by decide +kernel
theorem dX6_saved_172 : decode cX6_saved 172 = .ok (.iload_n 1, 1) := by decide +kernel
theorem dX6_saved_173 : decode cX6_saved 173 = .ok (.iaload, 1) := by decide +kernel
theorem dX6_saved_174 : decode cX6_saved 174 = .ok (.ireturn, 1) := by decide +kernel
theorem dX6_wayOf_0 : decode cX6_wayOf 0 = .ok (.iconst 0, 1) := by decide +kernel
theorem dX6_wayOf_1 : decode cX6_wayOf 1 = .ok (.istore_n 1, 1) := by decide +kernel
theorem dX6_wayOf_2 : decode cX6_wayOf 2 = .ok (.iconst 0, 1) := by decide +kernel
theorem dX6_wayOf_3 : decode cX6_wayOf 3 = .ok (.istore_n 2, 1) := by decide +kernel
theorem dX6_wayOf_4 : decode cX6_wayOf 4 = .ok (.iload_n 2, 1) := by decide +kernel
theorem dX6_wayOf_5 : decode cX6_wayOf 5 = .ok (.aload_n 0, 1) := by decide +kernel
theorem dX6_wayOf_6 : decode cX6_wayOf 6 = .ok (.getfield 13, 3) := by decide +kernel
theorem dX6_wayOf_9 : decode cX6_wayOf 9 = .ok (.if_icmp .ge 98, 3) := by decide +kernel
theorem dX6_wayOf_12 : decode cX6_wayOf 12 = .ok (.aload_n 0, 1) := by decide +kernel
theorem dX6_wayOf_13 : decode cX6_wayOf 13 = .ok (.aload_n 0, 1) := by decide +kernel
theorem dX6_wayOf_14 : decode cX6_wayOf 14 = .ok (.getfield 69, 3) := by decide +kernel
theorem dX6_wayOf_17 : decode cX6_wayOf 17 = .ok (.aload_n 0, 1) := by decide +kernel
theorem dX6_wayOf_18 : decode cX6_wayOf 18 = .ok (.iload_n 2, 1) := by decide +kernel
theorem dX6_wayOf_19 : decode cX6_wayOf 19 = .ok (.invokevirtual 98, 3) := by decide +kernel
theorem dX6_wayOf_22 : decode cX6_wayOf 22 = .ok (.invokevirtual 95, 3) := by decide +kernel
theorem dX6_wayOf_25 : decode cX6_wayOf 25 = .ok (.istore_n 3, 1) := by decide +kernel
theorem dX6_wayOf_26 : decode cX6_wayOf 26 = .ok (.iconst 0, 1) := by decide +kernel
theorem dX6_wayOf_27 : decode cX6_wayOf 27 = .ok (.istore 4, 2) := by decide +kernel
theorem dX6_wayOf_29 : decode cX6_wayOf 29 = .ok (.iload 4, 2) := by decide +kernel
theorem dX6_wayOf_31 : decode cX6_wayOf 31 = .ok (.aload_n 0, 1) := by decide +kernel
theorem dX6_wayOf_32 : decode cX6_wayOf 32 = .ok (.getfield 7, 3) := by decide +kernel
theorem dX6_wayOf_35 : decode cX6_wayOf 35 = .ok (.if_icmp .ge 66, 3) := by decide +kernel
theorem dX6_wayOf_38 : decode cX6_wayOf 38 = .ok (.aload_n 0, 1) := by decide +kernel
theorem dX6_wayOf_39 : decode cX6_wayOf 39 = .ok (.getfield 50, 3) := by decide +kernel
theorem dX6_wayOf_42 : decode cX6_wayOf 42 = .ok (.iload_n 3, 1) := by decide +kernel
theorem dX6_wayOf_43 : decode cX6_wayOf 43 = .ok (.iaload, 1) := by decide +kernel
theorem dX6_wayOf_44 : decode cX6_wayOf 44 = .ok (.aload_n 0, 1) := by decide +kernel
theorem dX6_wayOf_45 : decode cX6_wayOf 45 = .ok (.getfield 50, 3) := by decide +kernel
theorem dX6_wayOf_48 : decode cX6_wayOf 48 = .ok (.aload_n 0, 1) := by decide +kernel
theorem dX6_wayOf_49 : decode cX6_wayOf 49 = .ok (.getfield 69, 3) := by decide +kernel
theorem dX6_wayOf_52 : decode cX6_wayOf 52 = .ok (.iload 4, 2) := by decide +kernel
theorem dX6_wayOf_54 : decode cX6_wayOf 54 = .ok (.invokestatic 83, 3) := by decide +kernel
theorem dX6_wayOf_57 : decode cX6_wayOf 57 = .ok (.iaload, 1) := by decide +kernel
theorem dX6_wayOf_58 : decode cX6_wayOf 58 = .ok (.isub, 1) := by decide +kernel
theorem dX6_wayOf_59 : decode cX6_wayOf 59 = .ok (.istore 5, 2) := by decide +kernel
theorem dX6_wayOf_61 : decode cX6_wayOf 61 = .ok (.iload_n 1, 1) := by decide +kernel
theorem dX6_wayOf_62 : decode cX6_wayOf 62 = .ok (.aload_n 0, 1) := by decide +kernel
theorem dX6_wayOf_63 : decode cX6_wayOf 63 = .ok (.iload_n 2, 1) := by decide +kernel
theorem dX6_wayOf_64 : decode cX6_wayOf 64 = .ok (.invokevirtual 98, 3) := by decide +kernel
theorem dX6_wayOf_67 : decode cX6_wayOf 67 = .ok (.iload 4, 2) := by decide +kernel
theorem dX6_wayOf_69 : decode cX6_wayOf 69 = .ok (.ishr, 1) := by decide +kernel
theorem dX6_wayOf_70 : decode cX6_wayOf 70 = .ok (.iconst 1, 1) := by decide +kernel
theorem dX6_wayOf_71 : decode cX6_wayOf 71 = .ok (.iand, 1) := by decide +kernel
theorem dX6_wayOf_72 : decode cX6_wayOf 72 = .ok (.aload_n 0, 1) := by decide +kernel
theorem dX6_wayOf_73 : decode cX6_wayOf 73 = .ok (.getfield 23, 3) := by decide +kernel
theorem dX6_wayOf_76 : decode cX6_wayOf 76 = .ok (.iload_n 2, 1) := by decide +kernel
theorem dX6_wayOf_77 : decode cX6_wayOf 77 = .ok (.iaload, 1) := by decide +kernel
theorem dX6_wayOf_78 : decode cX6_wayOf 78 = .ok (.imul, 1) := by decide +kernel
theorem dX6_wayOf_79 : decode cX6_wayOf 79 = .ok (.iload 5, 2) := by decide +kernel
theorem dX6_wayOf_81 : decode cX6_wayOf 81 = .ok (.ifCond .ge 9, 3) := by decide +kernel
theorem dX6_wayOf_84 : decode cX6_wayOf 84 = .ok (.iload 5, 2) := by decide +kernel
theorem dX6_wayOf_86 : decode cX6_wayOf 86 = .ok (.ineg, 1) := by decide +kernel
theorem dX6_wayOf_87 : decode cX6_wayOf 87 = .ok (.goto 5, 3) := by decide +kernel
theorem dX6_wayOf_90 : decode cX6_wayOf 90 = .ok (.iload 5, 2) := by decide +kernel
theorem dX6_wayOf_92 : decode cX6_wayOf 92 = .ok (.imul, 1) := by decide +kernel
theorem dX6_wayOf_93 : decode cX6_wayOf 93 = .ok (.iadd, 1) := by decide +kernel
theorem dX6_wayOf_94 : decode cX6_wayOf 94 = .ok (.istore_n 1, 1) := by decide +kernel
theorem dX6_wayOf_95 : decode cX6_wayOf 95 = .ok (.iinc 4 1, 3) := by decide +kernel
theorem dX6_wayOf_98 : decode cX6_wayOf 98 = .ok (.goto (-69), 3) := by decide +kernel
theorem dX6_wayOf_101 : decode cX6_wayOf 101 = .ok (.iinc 2 1, 3) := by decide +kernel
theorem dX6_wayOf_104 : decode cX6_wayOf 104 = .ok (.goto (-100), 3) := by decide +kernel
theorem dX6_wayOf_107 : decode cX6_wayOf 107 = .ok (.iload_n 1, 1) := by decide +kernel
theorem dX6_wayOf_108 : decode cX6_wayOf 108 = .ok (.ireturn, 1) := by decide +kernel
theorem dX6_lays_0 : decode cX6_lays 0 = .ok (.iload_n 1, 1) := by decide +kernel
theorem dX6_lays_1 : decode cX6_lays 1 = .ok (.iconst 0, 1) := by decide +kernel
theorem dX6_lays_2 : decode cX6_lays 2 = .ok (.iconst 3, 1) := by decide +kernel
theorem dX6_lays_3 : decode cX6_lays 3 = .ok (.invokestatic 72, 3) := by decide +kernel
theorem dX6_lays_6 : decode cX6_lays 6 = .ok (.ifCond .eq 52, 3) := by decide +kernel
theorem dX6_lays_9 : decode cX6_lays 9 = .ok (.iload_n 2, 1) := by decide +kernel
theorem dX6_lays_10 : decode cX6_lays 10 = .ok (.iconst 0, 1) := by decide +kernel
theorem dX6_lays_11 : decode cX6_lays 11 = .ok (.iconst 3, 1) := by decide +kernel
theorem dX6_lays_12 : decode cX6_lays 12 = .ok (.invokestatic 72, 3) := by decide +kernel
theorem dX6_lays_15 : decode cX6_lays 15 = .ok (.ifCond .eq 43, 3) := by decide +kernel
theorem dX6_lays_18 : decode cX6_lays 18 = .ok (.iload_n 3, 1) := by decide +kernel
theorem dX6_lays_19 : decode cX6_lays 19 = .ok (.iconst 0, 1) := by decide +kernel
theorem dX6_lays_20 : decode cX6_lays 20 = .ok (.iconst 3, 1) := by decide +kernel
theorem dX6_lays_21 : decode cX6_lays 21 = .ok (.invokestatic 72, 3) := by decide +kernel
theorem dX6_lays_24 : decode cX6_lays 24 = .ok (.ifCond .eq 34, 3) := by decide +kernel
theorem dX6_lays_27 : decode cX6_lays 27 = .ok (.iload 4, 2) := by decide +kernel
theorem dX6_lays_29 : decode cX6_lays 29 = .ok (.iconst 0, 1) := by decide +kernel
theorem dX6_lays_30 : decode cX6_lays 30 = .ok (.iconst 3, 1) := by decide +kernel
theorem dX6_lays_31 : decode cX6_lays 31 = .ok (.invokestatic 72, 3) := by decide +kernel
theorem dX6_lays_34 : decode cX6_lays 34 = .ok (.ifCond .eq 24, 3) := by decide +kernel
theorem dX6_lays_37 : decode cX6_lays 37 = .ok (.iconst 1, 1) := by decide +kernel
theorem dX6_lays_38 : decode cX6_lays 38 = .ok (.iload_n 1, 1) := by decide +kernel
theorem dX6_lays_39 : decode cX6_lays 39 = .ok (.ishl, 1) := by decide +kernel
theorem dX6_lays_40 : decode cX6_lays 40 = .ok (.iconst 1, 1) := by decide +kernel
theorem dX6_lays_41 : decode cX6_lays 41 = .ok (.iload_n 2, 1) := by decide +kernel
theorem dX6_lays_42 : decode cX6_lays 42 = .ok (.ishl, 1) := by decide +kernel
theorem dX6_lays_43 : decode cX6_lays 43 = .ok (.ior, 1) := by decide +kernel
theorem dX6_lays_44 : decode cX6_lays 44 = .ok (.iconst 1, 1) := by decide +kernel
theorem dX6_lays_45 : decode cX6_lays 45 = .ok (.iload_n 3, 1) := by decide +kernel
theorem dX6_lays_46 : decode cX6_lays 46 = .ok (.ishl, 1) := by decide +kernel
theorem dX6_lays_47 : decode cX6_lays 47 = .ok (.ior, 1) := by decide +kernel
theorem dX6_lays_48 : decode cX6_lays 48 = .ok (.iconst 1, 1) := by decide +kernel
theorem dX6_lays_49 : decode cX6_lays 49 = .ok (.iload 4, 2) := by decide +kernel
theorem dX6_lays_51 : decode cX6_lays 51 = .ok (.ishl, 1) := by decide +kernel
theorem dX6_lays_52 : decode cX6_lays 52 = .ok (.ior, 1) := by decide +kernel
theorem dX6_lays_53 : decode cX6_lays 53 = .ok (.bipush 15, 2) := by decide +kernel
theorem dX6_lays_55 : decode cX6_lays 55 = .ok (.if_icmp .eq 5, 3) := by decide +kernel
theorem dX6_lays_58 : decode cX6_lays 58 = .ok (.iconst 0, 1) := by decide +kernel
theorem dX6_lays_59 : decode cX6_lays 59 = .ok (.ireturn, 1) := by decide +kernel
theorem dX6_lays_60 : decode cX6_lays 60 = .ok (.aload_n 0, 1) := by decide +kernel
theorem dX6_lays_61 : decode cX6_lays 61 = .ok (.getfield 50, 3) := by decide +kernel
theorem dX6_lays_64 : decode cX6_lays 64 = .ok (.iload_n 1, 1) := by decide +kernel
theorem dX6_lays_65 : decode cX6_lays 65 = .ok (.iconst 0, 1) := by decide +kernel
theorem dX6_lays_66 : decode cX6_lays 66 = .ok (.iastore, 1) := by decide +kernel
theorem dX6_lays_67 : decode cX6_lays 67 = .ok (.aload_n 0, 1) := by decide +kernel
theorem dX6_lays_68 : decode cX6_lays 68 = .ok (.getfield 50, 3) := by decide +kernel
theorem dX6_lays_71 : decode cX6_lays 71 = .ok (.iload_n 2, 1) := by decide +kernel
theorem dX6_lays_72 : decode cX6_lays 72 = .ok (.iconst 1, 1) := by decide +kernel
theorem dX6_lays_73 : decode cX6_lays 73 = .ok (.iastore, 1) := by decide +kernel
theorem dX6_lays_74 : decode cX6_lays 74 = .ok (.aload_n 0, 1) := by decide +kernel
theorem dX6_lays_75 : decode cX6_lays 75 = .ok (.getfield 50, 3) := by decide +kernel
theorem dX6_lays_78 : decode cX6_lays 78 = .ok (.iload_n 3, 1) := by decide +kernel
theorem dX6_lays_79 : decode cX6_lays 79 = .ok (.iconst 2, 1) := by decide +kernel
theorem dX6_lays_80 : decode cX6_lays 80 = .ok (.iastore, 1) := by decide +kernel
theorem dX6_lays_81 : decode cX6_lays 81 = .ok (.aload_n 0, 1) := by decide +kernel
theorem dX6_lays_82 : decode cX6_lays 82 = .ok (.getfield 50, 3) := by decide +kernel
theorem dX6_lays_85 : decode cX6_lays 85 = .ok (.iload 4, 2) := by decide +kernel
theorem dX6_lays_87 : decode cX6_lays 87 = .ok (.iconst 3, 1) := by decide +kernel
theorem dX6_lays_88 : decode cX6_lays 88 = .ok (.iastore, 1) := by decide +kernel
theorem dX6_lays_89 : decode cX6_lays 89 = .ok (.iconst 1, 1) := by decide +kernel
theorem dX6_lays_90 : decode cX6_lays 90 = .ok (.ireturn, 1) := by decide +kernel
theorem dX6_way_0 : decode cX6_way 0 = .ok (.aload_n 0, 1) := by decide +kernel
theorem dX6_way_1 : decode cX6_way 1 = .ok (.iconst 0, 1) := by decide +kernel
theorem dX6_way_2 : decode cX6_way 2 = .ok (.putfield 66, 3) := by decide +kernel
theorem dX6_way_5 : decode cX6_way 5 = .ok (.aload_n 0, 1) := by decide +kernel
theorem dX6_way_6 : decode cX6_way 6 = .ok (.iload_n 1, 1) := by decide +kernel
theorem dX6_way_7 : decode cX6_way 7 = .ok (.iload_n 2, 1) := by decide +kernel
theorem dX6_way_8 : decode cX6_way 8 = .ok (.iload_n 3, 1) := by decide +kernel
theorem dX6_way_9 : decode cX6_way 9 = .ok (.iload 4, 2) := by decide +kernel
theorem dX6_way_11 : decode cX6_way 11 = .ok (.invokevirtual 144, 3) := by decide +kernel
theorem dX6_way_14 : decode cX6_way 14 = .ok (.ifCond .eq 10, 3) := by decide +kernel
theorem dX6_way_17 : decode cX6_way 17 = .ok (.aload_n 0, 1) := by decide +kernel
theorem dX6_way_18 : decode cX6_way 18 = .ok (.invokevirtual 148, 3) := by decide +kernel
theorem dX6_way_21 : decode cX6_way 21 = .ok (.goto 4, 3) := by decide +kernel
theorem dX6_way_24 : decode cX6_way 24 = .ok (.iconst (-1), 1) := by decide +kernel
theorem dX6_way_25 : decode cX6_way 25 = .ok (.ireturn, 1) := by decide +kernel
theorem dX6_floor_0 : decode cX6_floor 0 = .ok (.aload_n 0, 1) := by decide +kernel
theorem dX6_floor_1 : decode cX6_floor 1 = .ok (.iconst 0, 1) := by decide +kernel
theorem dX6_floor_2 : decode cX6_floor 2 = .ok (.putfield 66, 3) := by decide +kernel
theorem dX6_floor_5 : decode cX6_floor 5 = .ok (.iload_n 1, 1) := by decide +kernel
theorem dX6_floor_6 : decode cX6_floor 6 = .ok (.iconst 0, 1) := by decide +kernel
theorem dX6_floor_7 : decode cX6_floor 7 = .ok (.iconst 4, 1) := by decide +kernel
theorem dX6_floor_8 : decode cX6_floor 8 = .ok (.invokestatic 72, 3) := by decide +kernel
theorem dX6_floor_11 : decode cX6_floor 11 = .ok (.ifCond .ne 5, 3) := by decide +kernel
theorem dX6_floor_14 : decode cX6_floor 14 = .ok (.iconst (-1), 1) := by decide +kernel
theorem dX6_floor_15 : decode cX6_floor 15 = .ok (.ireturn, 1) := by decide +kernel
theorem dX6_floor_16 : decode cX6_floor 16 = .ok (.aload_n 0, 1) := by decide +kernel
theorem dX6_floor_17 : decode cX6_floor 17 = .ok (.getfield 53, 3) := by decide +kernel
theorem dX6_floor_20 : decode cX6_floor 20 = .ok (.iconst 4, 1) := by decide +kernel
theorem dX6_floor_21 : decode cX6_floor 21 = .ok (.bipush (-9), 2) := by decide +kernel
theorem dX6_floor_23 : decode cX6_floor 23 = .ok (.iastore, 1) := by decide +kernel
theorem dX6_floor_24 : decode cX6_floor 24 = .ok (.iconst 0, 1) := by decide +kernel
theorem dX6_floor_25 : decode cX6_floor 25 = .ok (.istore_n 2, 1) := by decide +kernel
theorem dX6_floor_26 : decode cX6_floor 26 = .ok (.iload_n 2, 1) := by decide +kernel
theorem dX6_floor_27 : decode cX6_floor 27 = .ok (.sipush 256, 3) := by decide +kernel
theorem dX6_floor_30 : decode cX6_floor 30 = .ok (.if_icmp .ge 107, 3) := by decide +kernel
theorem dX6_floor_33 : decode cX6_floor 33 = .ok (.aload_n 0, 1) := by decide +kernel
theorem dX6_floor_34 : decode cX6_floor 34 = .ok (.iload_n 2, 1) := by decide +kernel
theorem dX6_floor_35 : decode cX6_floor 35 = .ok (.bipush 6, 2) := by decide +kernel
theorem dX6_floor_37 : decode cX6_floor 37 = .ok (.ishr, 1) := by decide +kernel
theorem dX6_floor_38 : decode cX6_floor 38 = .ok (.iload_n 2, 1) := by decide +kernel
theorem dX6_floor_39 : decode cX6_floor 39 = .ok (.iconst 4, 1) := by decide +kernel
theorem dX6_floor_40 : decode cX6_floor 40 = .ok (.ishr, 1) := by decide +kernel
theorem dX6_floor_41 : decode cX6_floor 41 = .ok (.iconst 3, 1) := by decide +kernel
theorem dX6_floor_42 : decode cX6_floor 42 = .ok (.iand, 1) := by decide +kernel
theorem dX6_floor_43 : decode cX6_floor 43 = .ok (.iload_n 2, 1) := by decide +kernel
theorem dX6_floor_44 : decode cX6_floor 44 = .ok (.iconst 2, 1) := by decide +kernel
theorem dX6_floor_45 : decode cX6_floor 45 = .ok (.ishr, 1) := by decide +kernel
theorem dX6_floor_46 : decode cX6_floor 46 = .ok (.iconst 3, 1) := by decide +kernel
theorem dX6_floor_47 : decode cX6_floor 47 = .ok (.iand, 1) := by decide +kernel
theorem dX6_floor_48 : decode cX6_floor 48 = .ok (.iload_n 2, 1) := by decide +kernel
theorem dX6_floor_49 : decode cX6_floor 49 = .ok (.iconst 3, 1) := by decide +kernel
theorem dX6_floor_50 : decode cX6_floor 50 = .ok (.iand, 1) := by decide +kernel
theorem dX6_floor_51 : decode cX6_floor 51 = .ok (.invokevirtual 144, 3) := by decide +kernel
theorem dX6_floor_54 : decode cX6_floor 54 = .ok (.ifCond .eq 77, 3) := by decide +kernel
theorem dX6_floor_57 : decode cX6_floor 57 = .ok (.aload_n 0, 1) := by decide +kernel
theorem dX6_floor_58 : decode cX6_floor 58 = .ok (.invokevirtual 148, 3) := by decide +kernel
theorem dX6_floor_61 : decode cX6_floor 61 = .ok (.istore_n 3, 1) := by decide +kernel
theorem dX6_floor_62 : decode cX6_floor 62 = .ok (.aload_n 0, 1) := by decide +kernel
theorem dX6_floor_63 : decode cX6_floor 63 = .ok (.getfield 53, 3) := by decide +kernel
theorem dX6_floor_66 : decode cX6_floor 66 = .ok (.iconst 4, 1) := by decide +kernel
theorem dX6_floor_67 : decode cX6_floor 67 = .ok (.iaload, 1) := by decide +kernel
theorem dX6_floor_68 : decode cX6_floor 68 = .ok (.bipush (-9), 2) := by decide +kernel
theorem dX6_floor_70 : decode cX6_floor 70 = .ok (.if_icmp .eq 13, 3) := by decide +kernel
theorem dX6_floor_73 : decode cX6_floor 73 = .ok (.iload_n 3, 1) := by decide +kernel
theorem dX6_floor_74 : decode cX6_floor 74 = .ok (.aload_n 0, 1) := by decide +kernel
theorem dX6_floor_75 : decode cX6_floor 75 = .ok (.getfield 53, 3) := by decide +kernel
theorem dX6_floor_78 : decode cX6_floor 78 = .ok (.iconst 4, 1) := by decide +kernel
theorem dX6_floor_79 : decode cX6_floor 79 = .ok (.iaload, 1) := by decide +kernel
theorem dX6_floor_80 : decode cX6_floor 80 = .ok (.if_icmp .ge 51, 3) := by decide +kernel
theorem dX6_floor_83 : decode cX6_floor 83 = .ok (.aload_n 0, 1) := by decide +kernel
theorem dX6_floor_84 : decode cX6_floor 84 = .ok (.getfield 53, 3) := by decide +kernel
theorem dX6_floor_87 : decode cX6_floor 87 = .ok (.iconst 0, 1) := by decide +kernel
theorem dX6_floor_88 : decode cX6_floor 88 = .ok (.iload_n 2, 1) := by decide +kernel
theorem dX6_floor_89 : decode cX6_floor 89 = .ok (.bipush 6, 2) := by decide +kernel
theorem dX6_floor_91 : decode cX6_floor 91 = .ok (.ishr, 1) := by decide +kernel
theorem dX6_floor_92 : decode cX6_floor 92 = .ok (.iastore, 1) := by decide +kernel
theorem dX6_floor_93 : decode cX6_floor 93 = .ok (.aload_n 0, 1) := by decide +kernel
theorem dX6_floor_94 : decode cX6_floor 94 = .ok (.getfield 53, 3) := by decide +kernel
theorem dX6_floor_97 : decode cX6_floor 97 = .ok (.iconst 1, 1) := by decide +kernel
theorem dX6_floor_98 : decode cX6_floor 98 = .ok (.iload_n 2, 1) := by decide +kernel
theorem dX6_floor_99 : decode cX6_floor 99 = .ok (.iconst 4, 1) := by decide +kernel
theorem dX6_floor_100 : decode cX6_floor 100 = .ok (.ishr, 1) := by decide +kernel
theorem dX6_floor_101 : decode cX6_floor 101 = .ok (.iconst 3, 1) := by decide +kernel
theorem dX6_floor_102 : decode cX6_floor 102 = .ok (.iand, 1) := by decide +kernel
theorem dX6_floor_103 : decode cX6_floor 103 = .ok (.iastore, 1) := by decide +kernel
theorem dX6_floor_104 : decode cX6_floor 104 = .ok (.aload_n 0, 1) := by decide +kernel
theorem dX6_floor_105 : decode cX6_floor 105 = .ok (.getfield 53, 3) := by decide +kernel
theorem dX6_floor_108 : decode cX6_floor 108 = .ok (.iconst 2, 1) := by decide +kernel
theorem dX6_floor_109 : decode cX6_floor 109 = .ok (.iload_n 2, 1) := by decide +kernel
theorem dX6_floor_110 : decode cX6_floor 110 = .ok (.iconst 2, 1) := by decide +kernel
theorem dX6_floor_111 : decode cX6_floor 111 = .ok (.ishr, 1) := by decide +kernel
theorem dX6_floor_112 : decode cX6_floor 112 = .ok (.iconst 3, 1) := by decide +kernel
theorem dX6_floor_113 : decode cX6_floor 113 = .ok (.iand, 1) := by decide +kernel
theorem dX6_floor_114 : decode cX6_floor 114 = .ok (.iastore, 1) := by decide +kernel
theorem dX6_floor_115 : decode cX6_floor 115 = .ok (.aload_n 0, 1) := by decide +kernel
theorem dX6_floor_116 : decode cX6_floor 116 = .ok (.getfield 53, 3) := by decide +kernel
theorem dX6_floor_119 : decode cX6_floor 119 = .ok (.iconst 3, 1) := by decide +kernel
theorem dX6_floor_120 : decode cX6_floor 120 = .ok (.iload_n 2, 1) := by decide +kernel
theorem dX6_floor_121 : decode cX6_floor 121 = .ok (.iconst 3, 1) := by decide +kernel
theorem dX6_floor_122 : decode cX6_floor 122 = .ok (.iand, 1) := by decide +kernel
theorem dX6_floor_123 : decode cX6_floor 123 = .ok (.iastore, 1) := by decide +kernel
theorem dX6_floor_124 : decode cX6_floor 124 = .ok (.aload_n 0, 1) := by decide +kernel
theorem dX6_floor_125 : decode cX6_floor 125 = .ok (.getfield 53, 3) := by decide +kernel
theorem dX6_floor_128 : decode cX6_floor 128 = .ok (.iconst 4, 1) := by decide +kernel
theorem dX6_floor_129 : decode cX6_floor 129 = .ok (.iload_n 3, 1) := by decide +kernel
theorem dX6_floor_130 : decode cX6_floor 130 = .ok (.iastore, 1) := by decide +kernel
theorem dX6_floor_131 : decode cX6_floor 131 = .ok (.iinc 2 1, 3) := by decide +kernel
theorem dX6_floor_134 : decode cX6_floor 134 = .ok (.goto (-108), 3) := by decide +kernel
theorem dX6_floor_137 : decode cX6_floor 137 = .ok (.aload_n 0, 1) := by decide +kernel
theorem dX6_floor_138 : decode cX6_floor 138 = .ok (.getfield 53, 3) := by decide +kernel
theorem dX6_floor_141 : decode cX6_floor 141 = .ok (.iload_n 1, 1) := by decide +kernel
theorem dX6_floor_142 : decode cX6_floor 142 = .ok (.iaload, 1) := by decide +kernel
theorem dX6_floor_143 : decode cX6_floor 143 = .ok (.ireturn, 1) := by decide +kernel
theorem dX6_keep_0 : decode cX6_keep 0 = .ok (.aload_n 0, 1) := by decide +kernel
theorem dX6_keep_1 : decode cX6_keep 1 = .ok (.iconst 0, 1) := by decide +kernel
theorem dX6_keep_2 : decode cX6_keep 2 = .ok (.putfield 66, 3) := by decide +kernel
theorem dX6_keep_5 : decode cX6_keep 5 = .ok (.iload_n 1, 1) := by decide +kernel
theorem dX6_keep_6 : decode cX6_keep 6 = .ok (.iconst 0, 1) := by decide +kernel
theorem dX6_keep_7 : decode cX6_keep 7 = .ok (.iconst 3, 1) := by decide +kernel
theorem dX6_keep_8 : decode cX6_keep 8 = .ok (.invokestatic 72, 3) := by decide +kernel
theorem dX6_keep_11 : decode cX6_keep 11 = .ok (.ifCond .ne 5, 3) := by decide +kernel
theorem dX6_keep_14 : decode cX6_keep 14 = .ok (.iconst (-1), 1) := by decide +kernel
theorem dX6_keep_15 : decode cX6_keep 15 = .ok (.ireturn, 1) := by decide +kernel
theorem dX6_keep_16 : decode cX6_keep 16 = .ok (.aload_n 0, 1) := by decide +kernel
theorem dX6_keep_17 : decode cX6_keep 17 = .ok (.getfield 32, 3) := by decide +kernel
theorem dX6_keep_20 : decode cX6_keep 20 = .ok (.iload_n 1, 1) := by decide +kernel
theorem dX6_keep_21 : decode cX6_keep 21 = .ok (.aload_n 0, 1) := by decide +kernel
theorem dX6_keep_22 : decode cX6_keep 22 = .ok (.getfield 69, 3) := by decide +kernel
theorem dX6_keep_25 : decode cX6_keep 25 = .ok (.iastore, 1) := by decide +kernel
theorem dX6_keep_26 : decode cX6_keep 26 = .ok (.aload_n 0, 1) := by decide +kernel
theorem dX6_keep_27 : decode cX6_keep 27 = .ok (.getfield 69, 3) := by decide +kernel
theorem dX6_keep_30 : decode cX6_keep 30 = .ok (.ireturn, 1) := by decide +kernel
theorem dX6_year_0 : decode cX6_year 0 = .ok (.aload_n 0, 1) := by decide +kernel
theorem dX6_year_1 : decode cX6_year 1 = .ok (.iconst 0, 1) := by decide +kernel
theorem dX6_year_2 : decode cX6_year 2 = .ok (.putfield 66, 3) := by decide +kernel
theorem dX6_year_5 : decode cX6_year 5 = .ok (.iload_n 1, 1) := by decide +kernel
theorem dX6_year_6 : decode cX6_year 6 = .ok (.iconst 0, 1) := by decide +kernel
theorem dX6_year_7 : decode cX6_year 7 = .ok (.bipush 9, 2) := by decide +kernel
theorem dX6_year_9 : decode cX6_year 9 = .ok (.invokestatic 72, 3) := by decide +kernel
theorem dX6_year_12 : decode cX6_year 12 = .ok (.ifCond .ne 5, 3) := by decide +kernel
theorem dX6_year_15 : decode cX6_year 15 = .ok (.iconst (-1), 1) := by decide +kernel
theorem dX6_year_16 : decode cX6_year 16 = .ok (.ireturn, 1) := by decide +kernel
theorem dX6_year_17 : decode cX6_year 17 = .ok (.aload_n 0, 1) := by decide +kernel
theorem dX6_year_18 : decode cX6_year 18 = .ok (.getfield 151, 3) := by decide +kernel
theorem dX6_year_21 : decode cX6_year 21 = .ok (.bipush 6, 2) := by decide +kernel
theorem dX6_year_23 : decode cX6_year 23 = .ok (.if_icmp .ne 6, 3) := by decide +kernel
theorem dX6_year_26 : decode cX6_year 26 = .ok (.bipush (-3), 2) := by decide +kernel
theorem dX6_year_28 : decode cX6_year 28 = .ok (.ireturn, 1) := by decide +kernel
theorem dX6_year_29 : decode cX6_year 29 = .ok (.aload_n 0, 1) := by decide +kernel
theorem dX6_year_30 : decode cX6_year 30 = .ok (.getfield 35, 3) := by decide +kernel
theorem dX6_year_33 : decode cX6_year 33 = .ok (.aload_n 0, 1) := by decide +kernel
theorem dX6_year_34 : decode cX6_year 34 = .ok (.getfield 151, 3) := by decide +kernel
theorem dX6_year_37 : decode cX6_year 37 = .ok (.iload_n 1, 1) := by decide +kernel
theorem dX6_year_38 : decode cX6_year 38 = .ok (.iastore, 1) := by decide +kernel
theorem dX6_year_39 : decode cX6_year 39 = .ok (.aload_n 0, 1) := by decide +kernel
theorem dX6_year_40 : decode cX6_year 40 = .ok (.dup, 1) := by decide +kernel
theorem dX6_year_41 : decode cX6_year 41 = .ok (.getfield 151, 3) := by decide +kernel
theorem dX6_year_44 : decode cX6_year 44 = .ok (.iconst 1, 1) := by decide +kernel
theorem dX6_year_45 : decode cX6_year 45 = .ok (.iadd, 1) := by decide +kernel
theorem dX6_year_46 : decode cX6_year 46 = .ok (.putfield 151, 3) := by decide +kernel
theorem dX6_year_49 : decode cX6_year 49 = .ok (.aload_n 0, 1) := by decide +kernel
theorem dX6_year_50 : decode cX6_year 50 = .ok (.getfield 151, 3) := by decide +kernel
theorem dX6_year_53 : decode cX6_year 53 = .ok (.ireturn, 1) := by decide +kernel
theorem dX6_change_0 : decode cX6_change 0 = .ok (.aload_n 0, 1) := by decide +kernel
theorem dX6_change_1 : decode cX6_change 1 = .ok (.iconst 0, 1) := by decide +kernel
theorem dX6_change_2 : decode cX6_change 2 = .ok (.putfield 66, 3) := by decide +kernel
theorem dX6_change_5 : decode cX6_change 5 = .ok (.iload_n 1, 1) := by decide +kernel
theorem dX6_change_6 : decode cX6_change 6 = .ok (.iconst 0, 1) := by decide +kernel
theorem dX6_change_7 : decode cX6_change 7 = .ok (.bipush 50, 2) := by decide +kernel
theorem dX6_change_9 : decode cX6_change 9 = .ok (.invokestatic 72, 3) := by decide +kernel
theorem dX6_change_12 : decode cX6_change 12 = .ok (.ifCond .ne 5, 3) := by decide +kernel
theorem dX6_change_15 : decode cX6_change 15 = .ok (.iconst (-1), 1) := by decide +kernel
theorem dX6_change_16 : decode cX6_change 16 = .ok (.ireturn, 1) := by decide +kernel
theorem dX6_change_17 : decode cX6_change 17 = .ok (.aload_n 0, 1) := by decide +kernel
theorem dX6_change_18 : decode cX6_change 18 = .ok (.getfield 38, 3) := by decide +kernel
theorem dX6_change_21 : decode cX6_change 21 = .ok (.istore_n 2, 1) := by decide +kernel
theorem dX6_change_22 : decode cX6_change 22 = .ok (.aload_n 0, 1) := by decide +kernel
theorem dX6_change_23 : decode cX6_change 23 = .ok (.iload_n 1, 1) := by decide +kernel
theorem dX6_change_24 : decode cX6_change 24 = .ok (.putfield 38, 3) := by decide +kernel
theorem dX6_change_27 : decode cX6_change 27 = .ok (.iload_n 2, 1) := by decide +kernel
theorem dX6_change_28 : decode cX6_change 28 = .ok (.ireturn, 1) := by decide +kernel
theorem dX6_movedOf_0 : decode cX6_movedOf 0 = .ok (.iconst 0, 1) := by decide +kernel
theorem dX6_movedOf_1 : decode cX6_movedOf 1 = .ok (.istore_n 3, 1) := by decide +kernel
theorem dX6_movedOf_2 : decode cX6_movedOf 2 = .ok (.iconst 0, 1) := by decide +kernel
theorem dX6_movedOf_3 : decode cX6_movedOf 3 = .ok (.istore 4, 2) := by decide +kernel
theorem dX6_movedOf_5 : decode cX6_movedOf 5 = .ok (.iload 4, 2) := by decide +kernel
theorem dX6_movedOf_7 : decode cX6_movedOf 7 = .ok (.aload_n 0, 1) := by decide +kernel
theorem dX6_movedOf_8 : decode cX6_movedOf 8 = .ok (.getfield 7, 3) := by decide +kernel
theorem dX6_movedOf_11 : decode cX6_movedOf 11 = .ok (.if_icmp .ge 32, 3) := by decide +kernel
theorem dX6_movedOf_14 : decode cX6_movedOf 14 = .ok (.iload_n 3, 1) := by decide +kernel
theorem dX6_movedOf_15 : decode cX6_movedOf 15 = .ok (.iload_n 1, 1) := by decide +kernel
theorem dX6_movedOf_16 : decode cX6_movedOf 16 = .ok (.iload 4, 2) := by decide +kernel
theorem dX6_movedOf_18 : decode cX6_movedOf 18 = .ok (.invokestatic 83, 3) := by decide +kernel
theorem dX6_movedOf_21 : decode cX6_movedOf 21 = .ok (.iload_n 2, 1) := by decide +kernel
theorem dX6_movedOf_22 : decode cX6_movedOf 22 = .ok (.iload 4, 2) := by decide +kernel
theorem dX6_movedOf_24 : decode cX6_movedOf 24 = .ok (.invokestatic 83, 3) := by decide +kernel
theorem dX6_movedOf_27 : decode cX6_movedOf 27 = .ok (.if_icmp .eq 7, 3) := by decide +kernel
theorem dX6_movedOf_30 : decode cX6_movedOf 30 = .ok (.iconst 1, 1) := by decide +kernel
theorem dX6_movedOf_31 : decode cX6_movedOf 31 = .ok (.goto 4, 3) := by decide +kernel
theorem dX6_movedOf_34 : decode cX6_movedOf 34 = .ok (.iconst 0, 1) := by decide +kernel
theorem dX6_movedOf_35 : decode cX6_movedOf 35 = .ok (.iadd, 1) := by decide +kernel
theorem dX6_movedOf_36 : decode cX6_movedOf 36 = .ok (.istore_n 3, 1) := by decide +kernel
theorem dX6_movedOf_37 : decode cX6_movedOf 37 = .ok (.iinc 4 1, 3) := by decide +kernel
theorem dX6_movedOf_40 : decode cX6_movedOf 40 = .ok (.goto (-35), 3) := by decide +kernel
theorem dX6_movedOf_43 : decode cX6_movedOf 43 = .ok (.iload_n 3, 1) := by decide +kernel
theorem dX6_movedOf_44 : decode cX6_movedOf 44 = .ok (.ireturn, 1) := by decide +kernel
theorem dX6_plan_0 : decode cX6_plan 0 = .ok (.aload_n 0, 1) := by decide +kernel
theorem dX6_plan_1 : decode cX6_plan 1 = .ok (.iconst 0, 1) := by decide +kernel
theorem dX6_plan_2 : decode cX6_plan 2 = .ok (.putfield 66, 3) := by decide +kernel
theorem dX6_plan_5 : decode cX6_plan 5 = .ok (.aload_n 0, 1) := by decide +kernel
theorem dX6_plan_6 : decode cX6_plan 6 = .ok (.getfield 151, 3) := by decide +kernel
theorem dX6_plan_9 : decode cX6_plan 9 = .ok (.ifCond .ne 6, 3) := by decide +kernel
theorem dX6_plan_12 : decode cX6_plan 12 = .ok (.bipush (-2), 2) := by decide +kernel
theorem dX6_plan_14 : decode cX6_plan 14 = .ok (.ireturn, 1) := by decide +kernel
theorem dX6_plan_15 : decode cX6_plan 15 = .ok (.iconst 0, 1) := by decide +kernel
theorem dX6_plan_16 : decode cX6_plan 16 = .ok (.istore_n 1, 1) := by decide +kernel
theorem dX6_plan_17 : decode cX6_plan 17 = .ok (.iload_n 1, 1) := by decide +kernel
theorem dX6_plan_18 : decode cX6_plan 18 = .ok (.iconst 4, 1) := by decide +kernel
theorem dX6_plan_19 : decode cX6_plan 19 = .ok (.if_icmp .ge 33, 3) := by decide +kernel
theorem dX6_plan_22 : decode cX6_plan 22 = .ok (.aload_n 0, 1) := by decide +kernel
theorem dX6_plan_23 : decode cX6_plan 23 = .ok (.getfield 56, 3) := by decide +kernel
theorem dX6_plan_26 : decode cX6_plan 26 = .ok (.iload_n 1, 1) := by decide +kernel
theorem dX6_plan_27 : decode cX6_plan 27 = .ok (.aload_n 0, 1) := by decide +kernel
theorem dX6_plan_28 : decode cX6_plan 28 = .ok (.getfield 35, 3) := by decide +kernel
theorem dX6_plan_31 : decode cX6_plan 31 = .ok (.iconst 0, 1) := by decide +kernel
theorem dX6_plan_32 : decode cX6_plan 32 = .ok (.iaload, 1) := by decide +kernel
theorem dX6_plan_33 : decode cX6_plan 33 = .ok (.aload_n 0, 1) := by decide +kernel
theorem dX6_plan_34 : decode cX6_plan 34 = .ok (.aload_n 0, 1) := by decide +kernel
theorem dX6_plan_35 : decode cX6_plan 35 = .ok (.getfield 32, 3) := by decide +kernel
theorem dX6_plan_38 : decode cX6_plan 38 = .ok (.iload_n 1, 1) := by decide +kernel
theorem dX6_plan_39 : decode cX6_plan 39 = .ok (.iaload, 1) := by decide +kernel
theorem dX6_plan_40 : decode cX6_plan 40 = .ok (.iconst 0, 1) := by decide +kernel
theorem dX6_plan_41 : decode cX6_plan 41 = .ok (.invokevirtual 115, 3) := by decide +kernel
theorem dX6_plan_44 : decode cX6_plan 44 = .ok (.imul, 1) := by decide +kernel
theorem dX6_plan_45 : decode cX6_plan 45 = .ok (.iastore, 1) := by decide +kernel
theorem dX6_plan_46 : decode cX6_plan 46 = .ok (.iinc 1 1, 3) := by decide +kernel
theorem dX6_plan_49 : decode cX6_plan 49 = .ok (.goto (-32), 3) := by decide +kernel
theorem dX6_plan_52 : decode cX6_plan 52 = .ok (.iconst 1, 1) := by decide +kernel
theorem dX6_plan_53 : decode cX6_plan 53 = .ok (.istore_n 1, 1) := by decide +kernel
theorem dX6_plan_54 : decode cX6_plan 54 = .ok (.iload_n 1, 1) := by decide +kernel
theorem dX6_plan_55 : decode cX6_plan 55 = .ok (.aload_n 0, 1) := by decide +kernel
theorem dX6_plan_56 : decode cX6_plan 56 = .ok (.getfield 151, 3) := by decide +kernel
theorem dX6_plan_59 : decode cX6_plan 59 = .ok (.if_icmp .ge 157, 3) := by decide +kernel
theorem dX6_plan_62 : decode cX6_plan 62 = .ok (.iconst 0, 1) := by decide +kernel
theorem dX6_plan_63 : decode cX6_plan 63 = .ok (.istore_n 2, 1) := by decide +kernel
theorem dX6_plan_64 : decode cX6_plan 64 = .ok (.iload_n 2, 1) := by decide +kernel
theorem dX6_plan_65 : decode cX6_plan 65 = .ok (.iconst 4, 1) := by decide +kernel
theorem dX6_plan_66 : decode cX6_plan 66 = .ok (.if_icmp .ge 119, 3) := by decide +kernel
theorem dX6_plan_69 : decode cX6_plan 69 = .ok (.aload_n 0, 1) := by decide +kernel
theorem dX6_plan_70 : decode cX6_plan 70 = .ok (.getfield 59, 3) := by decide +kernel
theorem dX6_plan_73 : decode cX6_plan 73 = .ok (.iload_n 2, 1) := by decide +kernel
theorem dX6_plan_74 : decode cX6_plan 74 = .ok (.aload_n 0, 1) := by decide +kernel
theorem dX6_plan_75 : decode cX6_plan 75 = .ok (.getfield 56, 3) := by decide +kernel
theorem dX6_plan_78 : decode cX6_plan 78 = .ok (.iload_n 2, 1) := by decide +kernel
theorem dX6_plan_79 : decode cX6_plan 79 = .ok (.iaload, 1) := by decide +kernel
theorem dX6_plan_80 : decode cX6_plan 80 = .ok (.iastore, 1) := by decide +kernel
theorem dX6_plan_81 : decode cX6_plan 81 = .ok (.iconst 0, 1) := by decide +kernel
theorem dX6_plan_82 : decode cX6_plan 82 = .ok (.istore_n 3, 1) := by decide +kernel
theorem dX6_plan_83 : decode cX6_plan 83 = .ok (.iload_n 3, 1) := by decide +kernel
theorem dX6_plan_84 : decode cX6_plan 84 = .ok (.iconst 4, 1) := by decide +kernel
theorem dX6_plan_85 : decode cX6_plan 85 = .ok (.if_icmp .ge 67, 3) := by decide +kernel
theorem dX6_plan_88 : decode cX6_plan 88 = .ok (.aload_n 0, 1) := by decide +kernel
theorem dX6_plan_89 : decode cX6_plan 89 = .ok (.getfield 56, 3) := by decide +kernel
theorem dX6_plan_92 : decode cX6_plan 92 = .ok (.iload_n 3, 1) := by decide +kernel
theorem dX6_plan_93 : decode cX6_plan 93 = .ok (.iaload, 1) := by decide +kernel
theorem dX6_plan_94 : decode cX6_plan 94 = .ok (.aload_n 0, 1) := by decide +kernel
theorem dX6_plan_95 : decode cX6_plan 95 = .ok (.getfield 38, 3) := by decide +kernel
theorem dX6_plan_98 : decode cX6_plan 98 = .ok (.aload_n 0, 1) := by decide +kernel
theorem dX6_plan_99 : decode cX6_plan 99 = .ok (.aload_n 0, 1) := by decide +kernel
theorem dX6_plan_100 : decode cX6_plan 100 = .ok (.getfield 32, 3) := by decide +kernel
theorem dX6_plan_103 : decode cX6_plan 103 = .ok (.iload_n 3, 1) := by decide +kernel
theorem dX6_plan_104 : decode cX6_plan 104 = .ok (.iaload, 1) := by decide +kernel
theorem dX6_plan_105 : decode cX6_plan 105 = .ok (.aload_n 0, 1) := by decide +kernel
theorem dX6_plan_106 : decode cX6_plan 106 = .ok (.getfield 32, 3) := by decide +kernel
theorem dX6_plan_109 : decode cX6_plan 109 = .ok (.iload_n 2, 1) := by decide +kernel
theorem dX6_plan_110 : decode cX6_plan 110 = .ok (.iaload, 1) := by decide +kernel
theorem dX6_plan_111 : decode cX6_plan 111 = .ok (.invokevirtual 154, 3) := by decide +kernel
theorem dX6_plan_114 : decode cX6_plan 114 = .ok (.imul, 1) := by decide +kernel
theorem dX6_plan_115 : decode cX6_plan 115 = .ok (.iadd, 1) := by decide +kernel
theorem dX6_plan_116 : decode cX6_plan 116 = .ok (.istore 4, 2) := by decide +kernel
theorem dX6_plan_118 : decode cX6_plan 118 = .ok (.aload_n 0, 1) := by decide +kernel
theorem dX6_plan_119 : decode cX6_plan 119 = .ok (.getfield 59, 3) := by decide +kernel
theorem dX6_plan_122 : decode cX6_plan 122 = .ok (.iload_n 2, 1) := by decide +kernel
theorem dX6_plan_123 : decode cX6_plan 123 = .ok (.iload 4, 2) := by decide +kernel
theorem dX6_plan_125 : decode cX6_plan 125 = .ok (.aload_n 0, 1) := by decide +kernel
theorem dX6_plan_126 : decode cX6_plan 126 = .ok (.getfield 59, 3) := by decide +kernel
theorem dX6_plan_129 : decode cX6_plan 129 = .ok (.iload_n 2, 1) := by decide +kernel
theorem dX6_plan_130 : decode cX6_plan 130 = .ok (.iaload, 1) := by decide +kernel
theorem dX6_plan_131 : decode cX6_plan 131 = .ok (.if_icmp .ge 8, 3) := by decide +kernel
theorem dX6_plan_134 : decode cX6_plan 134 = .ok (.iload 4, 2) := by decide +kernel
theorem dX6_plan_136 : decode cX6_plan 136 = .ok (.goto 9, 3) := by decide +kernel
theorem dX6_plan_139 : decode cX6_plan 139 = .ok (.aload_n 0, 1) := by decide +kernel
theorem dX6_plan_140 : decode cX6_plan 140 = .ok (.getfield 59, 3) := by decide +kernel
theorem dX6_plan_143 : decode cX6_plan 143 = .ok (.iload_n 2, 1) := by decide +kernel
theorem dX6_plan_144 : decode cX6_plan 144 = .ok (.iaload, 1) := by decide +kernel
theorem dX6_plan_145 : decode cX6_plan 145 = .ok (.iastore, 1) := by decide +kernel
theorem dX6_plan_146 : decode cX6_plan 146 = .ok (.iinc 3 1, 3) := by decide +kernel
theorem dX6_plan_149 : decode cX6_plan 149 = .ok (.goto (-66), 3) := by decide +kernel
theorem dX6_plan_152 : decode cX6_plan 152 = .ok (.aload_n 0, 1) := by decide +kernel
theorem dX6_plan_153 : decode cX6_plan 153 = .ok (.getfield 59, 3) := by decide +kernel
theorem dX6_plan_156 : decode cX6_plan 156 = .ok (.iload_n 2, 1) := by decide +kernel
theorem dX6_plan_157 : decode cX6_plan 157 = .ok (.dup2, 1) := by decide +kernel
theorem dX6_plan_158 : decode cX6_plan 158 = .ok (.iaload, 1) := by decide +kernel
theorem dX6_plan_159 : decode cX6_plan 159 = .ok (.aload_n 0, 1) := by decide +kernel
theorem dX6_plan_160 : decode cX6_plan 160 = .ok (.getfield 35, 3) := by decide +kernel
theorem dX6_plan_163 : decode cX6_plan 163 = .ok (.iload_n 1, 1) := by decide +kernel
theorem dX6_plan_164 : decode cX6_plan 164 = .ok (.iaload, 1) := by decide +kernel
theorem dX6_plan_165 : decode cX6_plan 165 = .ok (.aload_n 0, 1) := by decide +kernel
theorem dX6_plan_166 : decode cX6_plan 166 = .ok (.aload_n 0, 1) := by decide +kernel
theorem dX6_plan_167 : decode cX6_plan 167 = .ok (.getfield 32, 3) := by decide +kernel
theorem dX6_plan_170 : decode cX6_plan 170 = .ok (.iload_n 2, 1) := by decide +kernel
theorem dX6_plan_171 : decode cX6_plan 171 = .ok (.iaload, 1) := by decide +kernel
theorem dX6_plan_172 : decode cX6_plan 172 = .ok (.iconst 0, 1) := by decide +kernel
theorem dX6_plan_173 : decode cX6_plan 173 = .ok (.invokevirtual 115, 3) := by decide +kernel
theorem dX6_plan_176 : decode cX6_plan 176 = .ok (.imul, 1) := by decide +kernel
theorem dX6_plan_177 : decode cX6_plan 177 = .ok (.iadd, 1) := by decide +kernel
theorem dX6_plan_178 : decode cX6_plan 178 = .ok (.iastore, 1) := by decide +kernel
theorem dX6_plan_179 : decode cX6_plan 179 = .ok (.iinc 2 1, 3) := by decide +kernel
theorem dX6_plan_182 : decode cX6_plan 182 = .ok (.goto (-118), 3) := by decide +kernel
theorem dX6_plan_185 : decode cX6_plan 185 = .ok (.iconst 0, 1) := by decide +kernel
theorem dX6_plan_186 : decode cX6_plan 186 = .ok (.istore_n 2, 1) := by decide +kernel
theorem dX6_plan_187 : decode cX6_plan 187 = .ok (.iload_n 2, 1) := by decide +kernel
theorem dX6_plan_188 : decode cX6_plan 188 = .ok (.iconst 4, 1) := by decide +kernel
theorem dX6_plan_189 : decode cX6_plan 189 = .ok (.if_icmp .ge 21, 3) := by decide +kernel
theorem dX6_plan_192 : decode cX6_plan 192 = .ok (.aload_n 0, 1) := by decide +kernel
theorem dX6_plan_193 : decode cX6_plan 193 = .ok (.getfield 56, 3) := by decide +kernel
theorem dX6_plan_196 : decode cX6_plan 196 = .ok (.iload_n 2, 1) := by decide +kernel
theorem dX6_plan_197 : decode cX6_plan 197 = .ok (.aload_n 0, 1) := by decide +kernel
theorem dX6_plan_198 : decode cX6_plan 198 = .ok (.getfield 59, 3) := by decide +kernel
theorem dX6_plan_201 : decode cX6_plan 201 = .ok (.iload_n 2, 1) := by decide +kernel
theorem dX6_plan_202 : decode cX6_plan 202 = .ok (.iaload, 1) := by decide +kernel
theorem dX6_plan_203 : decode cX6_plan 203 = .ok (.iastore, 1) := by decide +kernel
theorem dX6_plan_204 : decode cX6_plan 204 = .ok (.iinc 2 1, 3) := by decide +kernel
theorem dX6_plan_207 : decode cX6_plan 207 = .ok (.goto (-20), 3) := by decide +kernel
theorem dX6_plan_210 : decode cX6_plan 210 = .ok (.iinc 1 1, 3) := by decide +kernel
theorem dX6_plan_213 : decode cX6_plan 213 = .ok (.goto (-159), 3) := by decide +kernel
theorem dX6_plan_216 : decode cX6_plan 216 = .ok (.aload_n 0, 1) := by decide +kernel
theorem dX6_plan_217 : decode cX6_plan 217 = .ok (.getfield 56, 3) := by decide +kernel
theorem dX6_plan_220 : decode cX6_plan 220 = .ok (.iconst 0, 1) := by decide +kernel
theorem dX6_plan_221 : decode cX6_plan 221 = .ok (.iaload, 1) := by decide +kernel
theorem dX6_plan_222 : decode cX6_plan 222 = .ok (.istore_n 1, 1) := by decide +kernel
theorem dX6_plan_223 : decode cX6_plan 223 = .ok (.iconst 1, 1) := by decide +kernel
theorem dX6_plan_224 : decode cX6_plan 224 = .ok (.istore_n 2, 1) := by decide +kernel
theorem dX6_plan_225 : decode cX6_plan 225 = .ok (.iload_n 2, 1) := by decide +kernel
theorem dX6_plan_226 : decode cX6_plan 226 = .ok (.iconst 4, 1) := by decide +kernel
theorem dX6_plan_227 : decode cX6_plan 227 = .ok (.if_icmp .ge 30, 3) := by decide +kernel
theorem dX6_plan_230 : decode cX6_plan 230 = .ok (.aload_n 0, 1) := by decide +kernel
theorem dX6_plan_231 : decode cX6_plan 231 = .ok (.getfield 56, 3) := by decide +kernel
theorem dX6_plan_234 : decode cX6_plan 234 = .ok (.iload_n 2, 1) := by decide +kernel
theorem dX6_plan_235 : decode cX6_plan 235 = .ok (.iaload, 1) := by decide +kernel
theorem dX6_plan_236 : decode cX6_plan 236 = .ok (.iload_n 1, 1) := by decide +kernel
theorem dX6_plan_237 : decode cX6_plan 237 = .ok (.if_icmp .ge 12, 3) := by decide +kernel
theorem dX6_plan_240 : decode cX6_plan 240 = .ok (.aload_n 0, 1) := by decide +kernel
theorem dX6_plan_241 : decode cX6_plan 241 = .ok (.getfield 56, 3) := by decide +kernel
theorem dX6_plan_244 : decode cX6_plan 244 = .ok (.iload_n 2, 1) := by decide +kernel
theorem dX6_plan_245 : decode cX6_plan 245 = .ok (.iaload, 1) := by decide +kernel
theorem dX6_plan_246 : decode cX6_plan 246 = .ok (.goto 4, 3) := by decide +kernel
theorem dX6_plan_249 : decode cX6_plan 249 = .ok (.iload_n 1, 1) := by decide +kernel
theorem dX6_plan_250 : decode cX6_plan 250 = .ok (.istore_n 1, 1) := by decide +kernel
theorem dX6_plan_251 : decode cX6_plan 251 = .ok (.iinc 2 1, 3) := by decide +kernel
theorem dX6_plan_254 : decode cX6_plan 254 = .ok (.goto (-29), 3) := by decide +kernel
theorem dX6_plan_257 : decode cX6_plan 257 = .ok (.iload_n 1, 1) := by decide +kernel
theorem dX6_plan_258 : decode cX6_plan 258 = .ok (.ireturn, 1) := by decide +kernel
theorem dX6_count_0 : decode cX6_count 0 = .ok (.aload_n 0, 1) := by decide +kernel
theorem dX6_count_1 : decode cX6_count 1 = .ok (.iconst 0, 1) := by decide +kernel
theorem dX6_count_2 : decode cX6_count 2 = .ok (.putfield 66, 3) := by decide +kernel
theorem dX6_count_5 : decode cX6_count 5 = .ok (.iload_n 1, 1) := by decide +kernel
theorem dX6_count_6 : decode cX6_count 6 = .ok (.ifCond .ne 10, 3) := by decide +kernel
theorem dX6_count_9 : decode cX6_count 9 = .ok (.aload_n 0, 1) := by decide +kernel
theorem dX6_count_10 : decode cX6_count 10 = .ok (.getfield 7, 3) := by decide +kernel
theorem dX6_count_13 : decode cX6_count 13 = .ok (.goto 54, 3) := by decide +kernel
theorem dX6_count_16 : decode cX6_count 16 = .ok (.iload_n 1, 1) := by decide +kernel
theorem dX6_count_17 : decode cX6_count 17 = .ok (.iconst 1, 1) := by decide +kernel
theorem dX6_count_18 : decode cX6_count 18 = .ok (.if_icmp .ne 10, 3) := by decide +kernel
theorem dX6_count_21 : decode cX6_count 21 = .ok (.aload_n 0, 1) := by decide +kernel
theorem dX6_count_22 : decode cX6_count 22 = .ok (.getfield 13, 3) := by decide +kernel
theorem dX6_count_25 : decode cX6_count 25 = .ok (.goto 42, 3) := by decide +kernel
theorem dX6_count_28 : decode cX6_count 28 = .ok (.iload_n 1, 1) := by decide +kernel
theorem dX6_count_29 : decode cX6_count 29 = .ok (.iconst 2, 1) := by decide +kernel
theorem dX6_count_30 : decode cX6_count 30 = .ok (.if_icmp .ne 10, 3) := by decide +kernel
theorem dX6_count_33 : decode cX6_count 33 = .ok (.aload_n 0, 1) := by decide +kernel
theorem dX6_count_34 : decode cX6_count 34 = .ok (.getfield 69, 3) := by decide +kernel
theorem dX6_count_37 : decode cX6_count 37 = .ok (.goto 30, 3) := by decide +kernel
theorem dX6_count_40 : decode cX6_count 40 = .ok (.iload_n 1, 1) := by decide +kernel
theorem dX6_count_41 : decode cX6_count 41 = .ok (.iconst 3, 1) := by decide +kernel
theorem dX6_count_42 : decode cX6_count 42 = .ok (.if_icmp .ne 10, 3) := by decide +kernel
theorem dX6_count_45 : decode cX6_count 45 = .ok (.aload_n 0, 1) := by decide +kernel
theorem dX6_count_46 : decode cX6_count 46 = .ok (.getfield 151, 3) := by decide +kernel
theorem dX6_count_49 : decode cX6_count 49 = .ok (.goto 18, 3) := by decide +kernel
theorem dX6_count_52 : decode cX6_count 52 = .ok (.iload_n 1, 1) := by decide +kernel
theorem dX6_count_53 : decode cX6_count 53 = .ok (.iconst 4, 1) := by decide +kernel
theorem dX6_count_54 : decode cX6_count 54 = .ok (.if_icmp .ne 12, 3) := by decide +kernel
theorem dX6_count_57 : decode cX6_count 57 = .ok (.aload_n 0, 1) := by decide +kernel
theorem dX6_count_58 : decode cX6_count 58 = .ok (.getfield 32, 3) := by decide +kernel
theorem dX6_count_61 : decode cX6_count 61 = .ok (.iconst 0, 1) := by decide +kernel
theorem dX6_count_62 : decode cX6_count 62 = .ok (.iaload, 1) := by decide +kernel
theorem dX6_count_63 : decode cX6_count 63 = .ok (.goto 4, 3) := by decide +kernel
theorem dX6_count_66 : decode cX6_count 66 = .ok (.iconst (-1), 1) := by decide +kernel
theorem dX6_count_67 : decode cX6_count 67 = .ok (.ireturn, 1) := by decide +kernel
theorem dX6_trace_0 : decode cX6_trace 0 = .ok (.aload_n 0, 1) := by decide +kernel
theorem dX6_trace_1 : decode cX6_trace 1 = .ok (.iconst 0, 1) := by decide +kernel
theorem dX6_trace_2 : decode cX6_trace 2 = .ok (.putfield 66, 3) := by decide +kernel
theorem dX6_trace_5 : decode cX6_trace 5 = .ok (.aload_n 0, 1) := by decide +kernel
theorem dX6_trace_6 : decode cX6_trace 6 = .ok (.getfield 107, 3) := by decide +kernel
theorem dX6_trace_9 : decode cX6_trace 9 = .ok (.lreturn, 1) := by decide +kernel
theorem dJ6_bitCount_0f7a4_0 : decode cJ6_bitCount_0f7a4 0 = .ok (.iload_n 0, 1) := by decide +kernel
theorem dJ6_bitCount_0f7a4_1 : decode cJ6_bitCount_0f7a4 1 = .ok (.iload_n 0, 1) := by decide +kernel
theorem dJ6_bitCount_0f7a4_2 : decode cJ6_bitCount_0f7a4 2 = .ok (.iconst 1, 1) := by decide +kernel
theorem dJ6_bitCount_0f7a4_3 : decode cJ6_bitCount_0f7a4 3 = .ok (.iushr, 1) := by decide +kernel
theorem dJ6_bitCount_0f7a4_4 : decode cJ6_bitCount_0f7a4 4 = .ok (.ldc_w 265, 3) := by decide +kernel
theorem dJ6_bitCount_0f7a4_7 : decode cJ6_bitCount_0f7a4 7 = .ok (.iand, 1) := by decide +kernel
theorem dJ6_bitCount_0f7a4_8 : decode cJ6_bitCount_0f7a4 8 = .ok (.isub, 1) := by decide +kernel
theorem dJ6_bitCount_0f7a4_9 : decode cJ6_bitCount_0f7a4 9 = .ok (.istore_n 0, 1) := by decide +kernel
theorem dJ6_bitCount_0f7a4_10 : decode cJ6_bitCount_0f7a4 10 = .ok (.iload_n 0, 1) := by decide +kernel
theorem dJ6_bitCount_0f7a4_11 : decode cJ6_bitCount_0f7a4 11 = .ok (.ldc_w 266, 3) := by decide +kernel
theorem dJ6_bitCount_0f7a4_14 : decode cJ6_bitCount_0f7a4 14 = .ok (.iand, 1) := by decide +kernel
theorem dJ6_bitCount_0f7a4_15 : decode cJ6_bitCount_0f7a4 15 = .ok (.iload_n 0, 1) := by decide +kernel
theorem dJ6_bitCount_0f7a4_16 : decode cJ6_bitCount_0f7a4 16 = .ok (.iconst 2, 1) := by decide +kernel
theorem dJ6_bitCount_0f7a4_17 : decode cJ6_bitCount_0f7a4 17 = .ok (.iushr, 1) := by decide +kernel
theorem dJ6_bitCount_0f7a4_18 : decode cJ6_bitCount_0f7a4 18 = .ok (.ldc_w 266, 3) := by decide +kernel
theorem dJ6_bitCount_0f7a4_21 : decode cJ6_bitCount_0f7a4 21 = .ok (.iand, 1) := by decide +kernel
theorem dJ6_bitCount_0f7a4_22 : decode cJ6_bitCount_0f7a4 22 = .ok (.iadd, 1) := by decide +kernel
theorem dJ6_bitCount_0f7a4_23 : decode cJ6_bitCount_0f7a4 23 = .ok (.istore_n 0, 1) := by decide +kernel
theorem dJ6_bitCount_0f7a4_24 : decode cJ6_bitCount_0f7a4 24 = .ok (.iload_n 0, 1) := by decide +kernel
theorem dJ6_bitCount_0f7a4_25 : decode cJ6_bitCount_0f7a4 25 = .ok (.iload_n 0, 1) := by decide +kernel
theorem dJ6_bitCount_0f7a4_26 : decode cJ6_bitCount_0f7a4 26 = .ok (.iconst 4, 1) := by decide +kernel
theorem dJ6_bitCount_0f7a4_27 : decode cJ6_bitCount_0f7a4 27 = .ok (.iushr, 1) := by decide +kernel
theorem dJ6_bitCount_0f7a4_28 : decode cJ6_bitCount_0f7a4 28 = .ok (.iadd, 1) := by decide +kernel
theorem dJ6_bitCount_0f7a4_29 : decode cJ6_bitCount_0f7a4 29 = .ok (.ldc_w 267, 3) := by decide +kernel
theorem dJ6_bitCount_0f7a4_32 : decode cJ6_bitCount_0f7a4 32 = .ok (.iand, 1) := by decide +kernel
theorem dJ6_bitCount_0f7a4_33 : decode cJ6_bitCount_0f7a4 33 = .ok (.istore_n 0, 1) := by decide +kernel
theorem dJ6_bitCount_0f7a4_34 : decode cJ6_bitCount_0f7a4 34 = .ok (.iload_n 0, 1) := by decide +kernel
theorem dJ6_bitCount_0f7a4_35 : decode cJ6_bitCount_0f7a4 35 = .ok (.iload_n 0, 1) := by decide +kernel
theorem dJ6_bitCount_0f7a4_36 : decode cJ6_bitCount_0f7a4 36 = .ok (.bipush 8, 2) := by decide +kernel
theorem dJ6_bitCount_0f7a4_38 : decode cJ6_bitCount_0f7a4 38 = .ok (.iushr, 1) := by decide +kernel
theorem dJ6_bitCount_0f7a4_39 : decode cJ6_bitCount_0f7a4 39 = .ok (.iadd, 1) := by decide +kernel
theorem dJ6_bitCount_0f7a4_40 : decode cJ6_bitCount_0f7a4 40 = .ok (.istore_n 0, 1) := by decide +kernel
theorem dJ6_bitCount_0f7a4_41 : decode cJ6_bitCount_0f7a4 41 = .ok (.iload_n 0, 1) := by decide +kernel
theorem dJ6_bitCount_0f7a4_42 : decode cJ6_bitCount_0f7a4 42 = .ok (.iload_n 0, 1) := by decide +kernel
theorem dJ6_bitCount_0f7a4_43 : decode cJ6_bitCount_0f7a4 43 = .ok (.bipush 16, 2) := by decide +kernel
theorem dJ6_bitCount_0f7a4_45 : decode cJ6_bitCount_0f7a4 45 = .ok (.iushr, 1) := by decide +kernel
theorem dJ6_bitCount_0f7a4_46 : decode cJ6_bitCount_0f7a4 46 = .ok (.iadd, 1) := by decide +kernel
theorem dJ6_bitCount_0f7a4_47 : decode cJ6_bitCount_0f7a4 47 = .ok (.istore_n 0, 1) := by decide +kernel
theorem dJ6_bitCount_0f7a4_48 : decode cJ6_bitCount_0f7a4 48 = .ok (.iload_n 0, 1) := by decide +kernel
theorem dJ6_bitCount_0f7a4_49 : decode cJ6_bitCount_0f7a4 49 = .ok (.bipush 63, 2) := by decide +kernel
theorem dJ6_bitCount_0f7a4_51 : decode cJ6_bitCount_0f7a4 51 = .ok (.iand, 1) := by decide +kernel
theorem dJ6_bitCount_0f7a4_52 : decode cJ6_bitCount_0f7a4 52 = .ok (.ireturn, 1) := by decide +kernel
theorem dJ9_abs_0f7a4_0 : decode cJ9_abs_0f7a4 0 = .ok (.iload_n 0, 1) := by decide +kernel
theorem dJ9_abs_0f7a4_1 : decode cJ9_abs_0f7a4 1 = .ok (.ifCond .ge 8, 3) := by decide +kernel
theorem dJ9_abs_0f7a4_4 : decode cJ9_abs_0f7a4 4 = .ok (.iload_n 0, 1) := by decide +kernel
theorem dJ9_abs_0f7a4_5 : decode cJ9_abs_0f7a4 5 = .ok (.ineg, 1) := by decide +kernel
theorem dJ9_abs_0f7a4_6 : decode cJ9_abs_0f7a4 6 = .ok (.goto 4, 3) := by decide +kernel
theorem dJ9_abs_0f7a4_9 : decode cJ9_abs_0f7a4 9 = .ok (.iload_n 0, 1) := by decide +kernel
theorem dJ9_abs_0f7a4_10 : decode cJ9_abs_0f7a4 10 = .ok (.ireturn, 1) := by decide +kernel
theorem dJ9_max_7cf53_0 : decode cJ9_max_7cf53 0 = .ok (.iload_n 0, 1) := by decide +kernel
theorem dJ9_max_7cf53_1 : decode cJ9_max_7cf53 1 = .ok (.iload_n 1, 1) := by decide +kernel
theorem dJ9_max_7cf53_2 : decode cJ9_max_7cf53 2 = .ok (.if_icmp .lt 7, 3) := by decide +kernel
theorem dJ9_max_7cf53_5 : decode cJ9_max_7cf53 5 = .ok (.iload_n 0, 1) := by decide +kernel
theorem dJ9_max_7cf53_6 : decode cJ9_max_7cf53 6 = .ok (.goto 4, 3) := by decide +kernel
theorem dJ9_max_7cf53_9 : decode cJ9_max_7cf53 9 = .ok (.iload_n 1, 1) := by decide +kernel
theorem dJ9_max_7cf53_10 : decode cJ9_max_7cf53 10 = .ok (.ireturn, 1) := by decide +kernel
theorem dJ9_min_7cf53_0 : decode cJ9_min_7cf53 0 = .ok (.iload_n 0, 1) := by decide +kernel
theorem dJ9_min_7cf53_1 : decode cJ9_min_7cf53 1 = .ok (.iload_n 1, 1) := by decide +kernel
theorem dJ9_min_7cf53_2 : decode cJ9_min_7cf53 2 = .ok (.if_icmp .gt 7, 3) := by decide +kernel
theorem dJ9_min_7cf53_5 : decode cJ9_min_7cf53 5 = .ok (.iload_n 0, 1) := by decide +kernel
theorem dJ9_min_7cf53_6 : decode cJ9_min_7cf53 6 = .ok (.goto 4, 3) := by decide +kernel
theorem dJ9_min_7cf53_9 : decode cJ9_min_7cf53 9 = .ok (.iload_n 1, 1) := by decide +kernel
theorem dJ9_min_7cf53_10 : decode cJ9_min_7cf53 10 = .ok (.ireturn, 1) := by decide +kernel
theorem dJ7_fill_53178_0 : decode cJ7_fill_53178 0 = .ok (.iconst 0, 1) := by decide +kernel
theorem dJ7_fill_53178_1 : decode cJ7_fill_53178 1 = .ok (.istore_n 2, 1) := by decide +kernel
theorem dJ7_fill_53178_2 : decode cJ7_fill_53178 2 = .ok (.aload_n 0, 1) := by decide +kernel
theorem dJ7_fill_53178_3 : decode cJ7_fill_53178 3 = .ok (.arraylength, 1) := by decide +kernel
theorem dJ7_fill_53178_4 : decode cJ7_fill_53178 4 = .ok (.istore_n 3, 1) := by decide +kernel
theorem dJ7_fill_53178_5 : decode cJ7_fill_53178 5 = .ok (.iload_n 2, 1) := by decide +kernel
theorem dJ7_fill_53178_6 : decode cJ7_fill_53178 6 = .ok (.iload_n 3, 1) := by decide +kernel
theorem dJ7_fill_53178_7 : decode cJ7_fill_53178 7 = .ok (.if_icmp .ge 13, 3) := by decide +kernel
theorem dJ7_fill_53178_10 : decode cJ7_fill_53178 10 = .ok (.aload_n 0, 1) := by decide +kernel
theorem dJ7_fill_53178_11 : decode cJ7_fill_53178 11 = .ok (.iload_n 2, 1) := by decide +kernel
theorem dJ7_fill_53178_12 : decode cJ7_fill_53178 12 = .ok (.iload_n 1, 1) := by decide +kernel
theorem dJ7_fill_53178_13 : decode cJ7_fill_53178 13 = .ok (.iastore, 1) := by decide +kernel
theorem dJ7_fill_53178_14 : decode cJ7_fill_53178 14 = .ok (.iinc 2 1, 3) := by decide +kernel
theorem dJ7_fill_53178_17 : decode cJ7_fill_53178 17 = .ok (.goto (-12), 3) := by decide +kernel
theorem dJ7_fill_53178_20 : decode cJ7_fill_53178 20 = .ok (.return_, 1) := by decide +kernel
theorem dL_law_0 : decode cL_law 0 = .ok (.new 7, 3) := by decide +kernel
theorem dL_law_3 : decode cL_law 3 = .ok (.dup, 1) := by decide +kernel
theorem dL_law_4 : decode cL_law 4 = .ok (.invokespecial 9, 3) := by decide +kernel
theorem dL_law_7 : decode cL_law 7 = .ok (.astore_n 1, 1) := by decide +kernel
theorem dL_law_8 : decode cL_law 8 = .ok (.new 10, 3) := by decide +kernel
theorem dL_law_11 : decode cL_law 11 = .ok (.dup, 1) := by decide +kernel
theorem dL_law_12 : decode cL_law 12 = .ok (.invokespecial 12, 3) := by decide +kernel
theorem dL_law_15 : decode cL_law 15 = .ok (.astore_n 2, 1) := by decide +kernel
theorem dL_law_16 : decode cL_law 16 = .ok (.iconst 0, 1) := by decide +kernel
theorem dL_law_17 : decode cL_law 17 = .ok (.istore_n 3, 1) := by decide +kernel
theorem dL_law_18 : decode cL_law 18 = .ok (.iload_n 3, 1) := by decide +kernel
theorem dL_law_19 : decode cL_law 19 = .ok (.aload_n 0, 1) := by decide +kernel
theorem dL_law_20 : decode cL_law 20 = .ok (.arraylength, 1) := by decide +kernel
theorem dL_law_21 : decode cL_law 21 = .ok (.iconst 5, 1) := by decide +kernel
theorem dL_law_22 : decode cL_law 22 = .ok (.isub, 1) := by decide +kernel
theorem dL_law_23 : decode cL_law 23 = .ok (.if_icmp .gt 884, 3) := by decide +kernel
theorem dL_law_26 : decode cL_law 26 = .ok (.aload_n 0, 1) := by decide +kernel
theorem dL_law_27 : decode cL_law 27 = .ok (.iload_n 3, 1) := by decide +kernel
theorem dL_law_28 : decode cL_law 28 = .ok (.iaload, 1) := by decide +kernel
theorem dL_law_29 : decode cL_law 29 = .ok (.bipush 31, 2) := by decide +kernel
theorem dL_law_31 : decode cL_law 31 = .ok (.iand, 1) := by decide +kernel
theorem dL_law_32 : decode cL_law 32 = .ok (.tableswitch 869 0 25 #[120, 153, 196, 229, 262, 295, 318, 351, 374, 417, 430, 473, 506, 539, 562, 585, 618, 651, 674, 727, 750, 773, 796, 819, 832, 855], 120) := by decide +kernel
theorem dL_law_152 : decode cL_law 152 = .ok (.aload_n 1, 1) := by decide +kernel
theorem dL_law_153 : decode cL_law 153 = .ok (.aload_n 0, 1) := by decide +kernel
theorem dL_law_154 : decode cL_law 154 = .ok (.iload_n 3, 1) := by decide +kernel
theorem dL_law_155 : decode cL_law 155 = .ok (.iconst 1, 1) := by decide +kernel
theorem dL_law_156 : decode cL_law 156 = .ok (.iadd, 1) := by decide +kernel
theorem dL_law_157 : decode cL_law 157 = .ok (.iaload, 1) := by decide +kernel
theorem dL_law_158 : decode cL_law 158 = .ok (.aload_n 0, 1) := by decide +kernel
theorem dL_law_159 : decode cL_law 159 = .ok (.iload_n 3, 1) := by decide +kernel
theorem dL_law_160 : decode cL_law 160 = .ok (.iconst 2, 1) := by decide +kernel
theorem dL_law_161 : decode cL_law 161 = .ok (.iadd, 1) := by decide +kernel
theorem dL_law_162 : decode cL_law 162 = .ok (.iaload, 1) := by decide +kernel
theorem dL_law_163 : decode cL_law 163 = .ok (.invokevirtual 13, 3) := by decide +kernel
theorem dL_law_166 : decode cL_law 166 = .ok (.aload_n 2, 1) := by decide +kernel
theorem dL_law_167 : decode cL_law 167 = .ok (.aload_n 0, 1) := by decide +kernel
theorem dL_law_168 : decode cL_law 168 = .ok (.iload_n 3, 1) := by decide +kernel
theorem dL_law_169 : decode cL_law 169 = .ok (.iconst 1, 1) := by decide +kernel
theorem dL_law_170 : decode cL_law 170 = .ok (.iadd, 1) := by decide +kernel
theorem dL_law_171 : decode cL_law 171 = .ok (.iaload, 1) := by decide +kernel
theorem dL_law_172 : decode cL_law 172 = .ok (.aload_n 0, 1) := by decide +kernel
theorem dL_law_173 : decode cL_law 173 = .ok (.iload_n 3, 1) := by decide +kernel
theorem dL_law_174 : decode cL_law 174 = .ok (.iconst 2, 1) := by decide +kernel
theorem dL_law_175 : decode cL_law 175 = .ok (.iadd, 1) := by decide +kernel
theorem dL_law_176 : decode cL_law 176 = .ok (.iaload, 1) := by decide +kernel
theorem dL_law_177 : decode cL_law 177 = .ok (.invokevirtual 17, 3) := by decide +kernel
theorem dL_law_180 : decode cL_law 180 = .ok (.if_icmp .eq 721, 3) := by decide +kernel
theorem dL_law_183 : decode cL_law 183 = .ok (.iconst 0, 1) := by decide +kernel
theorem dL_law_184 : decode cL_law 184 = .ok (.ireturn, 1) := by decide +kernel
theorem dL_law_185 : decode cL_law 185 = .ok (.aload_n 1, 1) := by decide +kernel
theorem dL_law_186 : decode cL_law 186 = .ok (.aload_n 0, 1) := by decide +kernel
theorem dL_law_187 : decode cL_law 187 = .ok (.iload_n 3, 1) := by decide +kernel
theorem dL_law_188 : decode cL_law 188 = .ok (.iconst 1, 1) := by decide +kernel
theorem dL_law_189 : decode cL_law 189 = .ok (.iadd, 1) := by decide +kernel
theorem dL_law_190 : decode cL_law 190 = .ok (.iaload, 1) := by decide +kernel
theorem dL_law_191 : decode cL_law 191 = .ok (.aload_n 0, 1) := by decide +kernel
theorem dL_law_192 : decode cL_law 192 = .ok (.iload_n 3, 1) := by decide +kernel
theorem dL_law_193 : decode cL_law 193 = .ok (.iconst 2, 1) := by decide +kernel
theorem dL_law_194 : decode cL_law 194 = .ok (.iadd, 1) := by decide +kernel
theorem dL_law_195 : decode cL_law 195 = .ok (.iaload, 1) := by decide +kernel
theorem dL_law_196 : decode cL_law 196 = .ok (.aload_n 0, 1) := by decide +kernel
theorem dL_law_197 : decode cL_law 197 = .ok (.iload_n 3, 1) := by decide +kernel
theorem dL_law_198 : decode cL_law 198 = .ok (.iconst 3, 1) := by decide +kernel
theorem dL_law_199 : decode cL_law 199 = .ok (.iadd, 1) := by decide +kernel
theorem dL_law_200 : decode cL_law 200 = .ok (.iaload, 1) := by decide +kernel
theorem dL_law_201 : decode cL_law 201 = .ok (.invokevirtual 18, 3) := by decide +kernel
theorem dL_law_204 : decode cL_law 204 = .ok (.aload_n 2, 1) := by decide +kernel
theorem dL_law_205 : decode cL_law 205 = .ok (.aload_n 0, 1) := by decide +kernel
theorem dL_law_206 : decode cL_law 206 = .ok (.iload_n 3, 1) := by decide +kernel
theorem dL_law_207 : decode cL_law 207 = .ok (.iconst 1, 1) := by decide +kernel
theorem dL_law_208 : decode cL_law 208 = .ok (.iadd, 1) := by decide +kernel
theorem dL_law_209 : decode cL_law 209 = .ok (.iaload, 1) := by decide +kernel
theorem dL_law_210 : decode cL_law 210 = .ok (.aload_n 0, 1) := by decide +kernel
theorem dL_law_211 : decode cL_law 211 = .ok (.iload_n 3, 1) := by decide +kernel
theorem dL_law_212 : decode cL_law 212 = .ok (.iconst 2, 1) := by decide +kernel
theorem dL_law_213 : decode cL_law 213 = .ok (.iadd, 1) := by decide +kernel
theorem dL_law_214 : decode cL_law 214 = .ok (.iaload, 1) := by decide +kernel
theorem dL_law_215 : decode cL_law 215 = .ok (.aload_n 0, 1) := by decide +kernel
theorem dL_law_216 : decode cL_law 216 = .ok (.iload_n 3, 1) := by decide +kernel
theorem dL_law_217 : decode cL_law 217 = .ok (.iconst 3, 1) := by decide +kernel
theorem dL_law_218 : decode cL_law 218 = .ok (.iadd, 1) := by decide +kernel
theorem dL_law_219 : decode cL_law 219 = .ok (.iaload, 1) := by decide +kernel
theorem dL_law_220 : decode cL_law 220 = .ok (.invokevirtual 22, 3) := by decide +kernel
theorem dL_law_223 : decode cL_law 223 = .ok (.if_icmp .eq 678, 3) := by decide +kernel
theorem dL_law_226 : decode cL_law 226 = .ok (.iconst 0, 1) := by decide +kernel
theorem dL_law_227 : decode cL_law 227 = .ok (.ireturn, 1) := by decide +kernel
theorem dL_law_228 : decode cL_law 228 = .ok (.aload_n 1, 1) := by decide +kernel
theorem dL_law_229 : decode cL_law 229 = .ok (.aload_n 0, 1) := by decide +kernel
theorem dL_law_230 : decode cL_law 230 = .ok (.iload_n 3, 1) := by decide +kernel
theorem dL_law_231 : decode cL_law 231 = .ok (.iconst 1, 1) := by decide +kernel
theorem dL_law_232 : decode cL_law 232 = .ok (.iadd, 1) := by decide +kernel
theorem dL_law_233 : decode cL_law 233 = .ok (.iaload, 1) := by decide +kernel
theorem dL_law_234 : decode cL_law 234 = .ok (.aload_n 0, 1) := by decide +kernel
theorem dL_law_235 : decode cL_law 235 = .ok (.iload_n 3, 1) := by decide +kernel
theorem dL_law_236 : decode cL_law 236 = .ok (.iconst 2, 1) := by decide +kernel
theorem dL_law_237 : decode cL_law 237 = .ok (.iadd, 1) := by decide +kernel
theorem dL_law_238 : decode cL_law 238 = .ok (.iaload, 1) := by decide +kernel
theorem dL_law_239 : decode cL_law 239 = .ok (.invokevirtual 23, 3) := by decide +kernel
theorem dL_law_242 : decode cL_law 242 = .ok (.aload_n 2, 1) := by decide +kernel
theorem dL_law_243 : decode cL_law 243 = .ok (.aload_n 0, 1) := by decide +kernel
theorem dL_law_244 : decode cL_law 244 = .ok (.iload_n 3, 1) := by decide +kernel
theorem dL_law_245 : decode cL_law 245 = .ok (.iconst 1, 1) := by decide +kernel
theorem dL_law_246 : decode cL_law 246 = .ok (.iadd, 1) := by decide +kernel
theorem dL_law_247 : decode cL_law 247 = .ok (.iaload, 1) := by decide +kernel
theorem dL_law_248 : decode cL_law 248 = .ok (.aload_n 0, 1) := by decide +kernel
theorem dL_law_249 : decode cL_law 249 = .ok (.iload_n 3, 1) := by decide +kernel
theorem dL_law_250 : decode cL_law 250 = .ok (.iconst 2, 1) := by decide +kernel
theorem dL_law_251 : decode cL_law 251 = .ok (.iadd, 1) := by decide +kernel
theorem dL_law_252 : decode cL_law 252 = .ok (.iaload, 1) := by decide +kernel
theorem dL_law_253 : decode cL_law 253 = .ok (.invokevirtual 26, 3) := by decide +kernel
theorem dL_law_256 : decode cL_law 256 = .ok (.if_icmp .eq 645, 3) := by decide +kernel
theorem dL_law_259 : decode cL_law 259 = .ok (.iconst 0, 1) := by decide +kernel
theorem dL_law_260 : decode cL_law 260 = .ok (.ireturn, 1) := by decide +kernel
theorem dL_law_261 : decode cL_law 261 = .ok (.aload_n 1, 1) := by decide +kernel
theorem dL_law_262 : decode cL_law 262 = .ok (.aload_n 0, 1) := by decide +kernel
theorem dL_law_263 : decode cL_law 263 = .ok (.iload_n 3, 1) := by decide +kernel
theorem dL_law_264 : decode cL_law 264 = .ok (.iconst 1, 1) := by decide +kernel
theorem dL_law_265 : decode cL_law 265 = .ok (.iadd, 1) := by decide +kernel
theorem dL_law_266 : decode cL_law 266 = .ok (.iaload, 1) := by decide +kernel
theorem dL_law_267 : decode cL_law 267 = .ok (.aload_n 0, 1) := by decide +kernel
theorem dL_law_268 : decode cL_law 268 = .ok (.iload_n 3, 1) := by decide +kernel
theorem dL_law_269 : decode cL_law 269 = .ok (.iconst 2, 1) := by decide +kernel
theorem dL_law_270 : decode cL_law 270 = .ok (.iadd, 1) := by decide +kernel
theorem dL_law_271 : decode cL_law 271 = .ok (.iaload, 1) := by decide +kernel
theorem dL_law_272 : decode cL_law 272 = .ok (.invokevirtual 27, 3) := by decide +kernel
theorem dL_law_275 : decode cL_law 275 = .ok (.aload_n 2, 1) := by decide +kernel
theorem dL_law_276 : decode cL_law 276 = .ok (.aload_n 0, 1) := by decide +kernel
theorem dL_law_277 : decode cL_law 277 = .ok (.iload_n 3, 1) := by decide +kernel
theorem dL_law_278 : decode cL_law 278 = .ok (.iconst 1, 1) := by decide +kernel
theorem dL_law_279 : decode cL_law 279 = .ok (.iadd, 1) := by decide +kernel
theorem dL_law_280 : decode cL_law 280 = .ok (.iaload, 1) := by decide +kernel
theorem dL_law_281 : decode cL_law 281 = .ok (.aload_n 0, 1) := by decide +kernel
theorem dL_law_282 : decode cL_law 282 = .ok (.iload_n 3, 1) := by decide +kernel
theorem dL_law_283 : decode cL_law 283 = .ok (.iconst 2, 1) := by decide +kernel
theorem dL_law_284 : decode cL_law 284 = .ok (.iadd, 1) := by decide +kernel
theorem dL_law_285 : decode cL_law 285 = .ok (.iaload, 1) := by decide +kernel
theorem dL_law_286 : decode cL_law 286 = .ok (.invokevirtual 30, 3) := by decide +kernel
theorem dL_law_289 : decode cL_law 289 = .ok (.if_icmp .eq 612, 3) := by decide +kernel
theorem dL_law_292 : decode cL_law 292 = .ok (.iconst 0, 1) := by decide +kernel
theorem dL_law_293 : decode cL_law 293 = .ok (.ireturn, 1) := by decide +kernel
theorem dL_law_294 : decode cL_law 294 = .ok (.aload_n 1, 1) := by decide +kernel
theorem dL_law_295 : decode cL_law 295 = .ok (.aload_n 0, 1) := by decide +kernel
theorem dL_law_296 : decode cL_law 296 = .ok (.iload_n 3, 1) := by decide +kernel
theorem dL_law_297 : decode cL_law 297 = .ok (.iconst 1, 1) := by decide +kernel
theorem dL_law_298 : decode cL_law 298 = .ok (.iadd, 1) := by decide +kernel
theorem dL_law_299 : decode cL_law 299 = .ok (.iaload, 1) := by decide +kernel
theorem dL_law_300 : decode cL_law 300 = .ok (.aload_n 0, 1) := by decide +kernel
theorem dL_law_301 : decode cL_law 301 = .ok (.iload_n 3, 1) := by decide +kernel
theorem dL_law_302 : decode cL_law 302 = .ok (.iconst 2, 1) := by decide +kernel
theorem dL_law_303 : decode cL_law 303 = .ok (.iadd, 1) := by decide +kernel
theorem dL_law_304 : decode cL_law 304 = .ok (.iaload, 1) := by decide +kernel
theorem dL_law_305 : decode cL_law 305 = .ok (.invokevirtual 31, 3) := by decide +kernel
theorem dL_law_308 : decode cL_law 308 = .ok (.aload_n 2, 1) := by decide +kernel
theorem dL_law_309 : decode cL_law 309 = .ok (.aload_n 0, 1) := by decide +kernel
theorem dL_law_310 : decode cL_law 310 = .ok (.iload_n 3, 1) := by decide +kernel
theorem dL_law_311 : decode cL_law 311 = .ok (.iconst 1, 1) := by decide +kernel
theorem dL_law_312 : decode cL_law 312 = .ok (.iadd, 1) := by decide +kernel
theorem dL_law_313 : decode cL_law 313 = .ok (.iaload, 1) := by decide +kernel
theorem dL_law_314 : decode cL_law 314 = .ok (.aload_n 0, 1) := by decide +kernel
theorem dL_law_315 : decode cL_law 315 = .ok (.iload_n 3, 1) := by decide +kernel
theorem dL_law_316 : decode cL_law 316 = .ok (.iconst 2, 1) := by decide +kernel
theorem dL_law_317 : decode cL_law 317 = .ok (.iadd, 1) := by decide +kernel
theorem dL_law_318 : decode cL_law 318 = .ok (.iaload, 1) := by decide +kernel
theorem dL_law_319 : decode cL_law 319 = .ok (.invokevirtual 34, 3) := by decide +kernel
theorem dL_law_322 : decode cL_law 322 = .ok (.if_icmp .eq 579, 3) := by decide +kernel
theorem dL_law_325 : decode cL_law 325 = .ok (.iconst 0, 1) := by decide +kernel
theorem dL_law_326 : decode cL_law 326 = .ok (.ireturn, 1) := by decide +kernel
theorem dL_law_327 : decode cL_law 327 = .ok (.aload_n 1, 1) := by decide +kernel
theorem dL_law_328 : decode cL_law 328 = .ok (.aload_n 0, 1) := by decide +kernel
theorem dL_law_329 : decode cL_law 329 = .ok (.iload_n 3, 1) := by decide +kernel
theorem dL_law_330 : decode cL_law 330 = .ok (.iconst 1, 1) := by decide +kernel
theorem dL_law_331 : decode cL_law 331 = .ok (.iadd, 1) := by decide +kernel
theorem dL_law_332 : decode cL_law 332 = .ok (.iaload, 1) := by decide +kernel
theorem dL_law_333 : decode cL_law 333 = .ok (.invokevirtual 35, 3) := by decide +kernel
theorem dL_law_336 : decode cL_law 336 = .ok (.aload_n 2, 1) := by decide +kernel
theorem dL_law_337 : decode cL_law 337 = .ok (.aload_n 0, 1) := by decide +kernel
theorem dL_law_338 : decode cL_law 338 = .ok (.iload_n 3, 1) := by decide +kernel
theorem dL_law_339 : decode cL_law 339 = .ok (.iconst 1, 1) := by decide +kernel
theorem dL_law_340 : decode cL_law 340 = .ok (.iadd, 1) := by decide +kernel
theorem dL_law_341 : decode cL_law 341 = .ok (.iaload, 1) := by decide +kernel
theorem dL_law_342 : decode cL_law 342 = .ok (.invokevirtual 39, 3) := by decide +kernel
theorem dL_law_345 : decode cL_law 345 = .ok (.if_icmp .eq 556, 3) := by decide +kernel
theorem dL_law_348 : decode cL_law 348 = .ok (.iconst 0, 1) := by decide +kernel
theorem dL_law_349 : decode cL_law 349 = .ok (.ireturn, 1) := by decide +kernel
theorem dL_law_350 : decode cL_law 350 = .ok (.aload_n 1, 1) := by decide +kernel
theorem dL_law_351 : decode cL_law 351 = .ok (.aload_n 0, 1) := by decide +kernel
theorem dL_law_352 : decode cL_law 352 = .ok (.iload_n 3, 1) := by decide +kernel
theorem dL_law_353 : decode cL_law 353 = .ok (.iconst 1, 1) := by decide +kernel
theorem dL_law_354 : decode cL_law 354 = .ok (.iadd, 1) := by decide +kernel
theorem dL_law_355 : decode cL_law 355 = .ok (.iaload, 1) := by decide +kernel
theorem dL_law_356 : decode cL_law 356 = .ok (.aload_n 0, 1) := by decide +kernel
theorem dL_law_357 : decode cL_law 357 = .ok (.iload_n 3, 1) := by decide +kernel
theorem dL_law_358 : decode cL_law 358 = .ok (.iconst 2, 1) := by decide +kernel
theorem dL_law_359 : decode cL_law 359 = .ok (.iadd, 1) := by decide +kernel
theorem dL_law_360 : decode cL_law 360 = .ok (.iaload, 1) := by decide +kernel
theorem dL_law_361 : decode cL_law 361 = .ok (.invokevirtual 40, 3) := by decide +kernel
theorem dL_law_364 : decode cL_law 364 = .ok (.aload_n 2, 1) := by decide +kernel
theorem dL_law_365 : decode cL_law 365 = .ok (.aload_n 0, 1) := by decide +kernel
theorem dL_law_366 : decode cL_law 366 = .ok (.iload_n 3, 1) := by decide +kernel
theorem dL_law_367 : decode cL_law 367 = .ok (.iconst 1, 1) := by decide +kernel
theorem dL_law_368 : decode cL_law 368 = .ok (.iadd, 1) := by decide +kernel
theorem dL_law_369 : decode cL_law 369 = .ok (.iaload, 1) := by decide +kernel
theorem dL_law_370 : decode cL_law 370 = .ok (.aload_n 0, 1) := by decide +kernel
theorem dL_law_371 : decode cL_law 371 = .ok (.iload_n 3, 1) := by decide +kernel
theorem dL_law_372 : decode cL_law 372 = .ok (.iconst 2, 1) := by decide +kernel
theorem dL_law_373 : decode cL_law 373 = .ok (.iadd, 1) := by decide +kernel
theorem dL_law_374 : decode cL_law 374 = .ok (.iaload, 1) := by decide +kernel
theorem dL_law_375 : decode cL_law 375 = .ok (.invokevirtual 43, 3) := by decide +kernel
theorem dL_law_378 : decode cL_law 378 = .ok (.if_icmp .eq 523, 3) := by decide +kernel
theorem dL_law_381 : decode cL_law 381 = .ok (.iconst 0, 1) := by decide +kernel
theorem dL_law_382 : decode cL_law 382 = .ok (.ireturn, 1) := by decide +kernel
theorem dL_law_383 : decode cL_law 383 = .ok (.aload_n 1, 1) := by decide +kernel
theorem dL_law_384 : decode cL_law 384 = .ok (.aload_n 0, 1) := by decide +kernel
theorem dL_law_385 : decode cL_law 385 = .ok (.iload_n 3, 1) := by decide +kernel
theorem dL_law_386 : decode cL_law 386 = .ok (.iconst 1, 1) := by decide +kernel
theorem dL_law_387 : decode cL_law 387 = .ok (.iadd, 1) := by decide +kernel
theorem dL_law_388 : decode cL_law 388 = .ok (.iaload, 1) := by decide +kernel
theorem dL_law_389 : decode cL_law 389 = .ok (.invokevirtual 44, 3) := by decide +kernel
theorem dL_law_392 : decode cL_law 392 = .ok (.aload_n 2, 1) := by decide +kernel
theorem dL_law_393 : decode cL_law 393 = .ok (.aload_n 0, 1) := by decide +kernel
theorem dL_law_394 : decode cL_law 394 = .ok (.iload_n 3, 1) := by decide +kernel
theorem dL_law_395 : decode cL_law 395 = .ok (.iconst 1, 1) := by decide +kernel
theorem dL_law_396 : decode cL_law 396 = .ok (.iadd, 1) := by decide +kernel
theorem dL_law_397 : decode cL_law 397 = .ok (.iaload, 1) := by decide +kernel
theorem dL_law_398 : decode cL_law 398 = .ok (.invokevirtual 47, 3) := by decide +kernel
theorem dL_law_401 : decode cL_law 401 = .ok (.if_icmp .eq 500, 3) := by decide +kernel
theorem dL_law_404 : decode cL_law 404 = .ok (.iconst 0, 1) := by decide +kernel
theorem dL_law_405 : decode cL_law 405 = .ok (.ireturn, 1) := by decide +kernel
theorem dL_law_406 : decode cL_law 406 = .ok (.aload_n 1, 1) := by decide +kernel
theorem dL_law_407 : decode cL_law 407 = .ok (.aload_n 0, 1) := by decide +kernel
theorem dL_law_408 : decode cL_law 408 = .ok (.iload_n 3, 1) := by decide +kernel
theorem dL_law_409 : decode cL_law 409 = .ok (.iconst 1, 1) := by decide +kernel
theorem dL_law_410 : decode cL_law 410 = .ok (.iadd, 1) := by decide +kernel
theorem dL_law_411 : decode cL_law 411 = .ok (.iaload, 1) := by decide +kernel
theorem dL_law_412 : decode cL_law 412 = .ok (.aload_n 0, 1) := by decide +kernel
theorem dL_law_413 : decode cL_law 413 = .ok (.iload_n 3, 1) := by decide +kernel
theorem dL_law_414 : decode cL_law 414 = .ok (.iconst 2, 1) := by decide +kernel
theorem dL_law_415 : decode cL_law 415 = .ok (.iadd, 1) := by decide +kernel
theorem dL_law_416 : decode cL_law 416 = .ok (.iaload, 1) := by decide +kernel
theorem dL_law_417 : decode cL_law 417 = .ok (.aload_n 0, 1) := by decide +kernel
theorem dL_law_418 : decode cL_law 418 = .ok (.iload_n 3, 1) := by decide +kernel
theorem dL_law_419 : decode cL_law 419 = .ok (.iconst 3, 1) := by decide +kernel
theorem dL_law_420 : decode cL_law 420 = .ok (.iadd, 1) := by decide +kernel
theorem dL_law_421 : decode cL_law 421 = .ok (.iaload, 1) := by decide +kernel
theorem dL_law_422 : decode cL_law 422 = .ok (.invokevirtual 48, 3) := by decide +kernel
theorem dL_law_425 : decode cL_law 425 = .ok (.aload_n 2, 1) := by decide +kernel
theorem dL_law_426 : decode cL_law 426 = .ok (.aload_n 0, 1) := by decide +kernel
theorem dL_law_427 : decode cL_law 427 = .ok (.iload_n 3, 1) := by decide +kernel
theorem dL_law_428 : decode cL_law 428 = .ok (.iconst 1, 1) := by decide +kernel
theorem dL_law_429 : decode cL_law 429 = .ok (.iadd, 1) := by decide +kernel
theorem dL_law_430 : decode cL_law 430 = .ok (.iaload, 1) := by decide +kernel
theorem dL_law_431 : decode cL_law 431 = .ok (.aload_n 0, 1) := by decide +kernel
theorem dL_law_432 : decode cL_law 432 = .ok (.iload_n 3, 1) := by decide +kernel
theorem dL_law_433 : decode cL_law 433 = .ok (.iconst 2, 1) := by decide +kernel
theorem dL_law_434 : decode cL_law 434 = .ok (.iadd, 1) := by decide +kernel
theorem dL_law_435 : decode cL_law 435 = .ok (.iaload, 1) := by decide +kernel
theorem dL_law_436 : decode cL_law 436 = .ok (.aload_n 0, 1) := by decide +kernel
theorem dL_law_437 : decode cL_law 437 = .ok (.iload_n 3, 1) := by decide +kernel
theorem dL_law_438 : decode cL_law 438 = .ok (.iconst 3, 1) := by decide +kernel
theorem dL_law_439 : decode cL_law 439 = .ok (.iadd, 1) := by decide +kernel
theorem dL_law_440 : decode cL_law 440 = .ok (.iaload, 1) := by decide +kernel
theorem dL_law_441 : decode cL_law 441 = .ok (.invokevirtual 51, 3) := by decide +kernel
theorem dL_law_444 : decode cL_law 444 = .ok (.if_icmp .eq 457, 3) := by decide +kernel
theorem dL_law_447 : decode cL_law 447 = .ok (.iconst 0, 1) := by decide +kernel
theorem dL_law_448 : decode cL_law 448 = .ok (.ireturn, 1) := by decide +kernel
theorem dL_law_449 : decode cL_law 449 = .ok (.aload_n 1, 1) := by decide +kernel
theorem dL_law_450 : decode cL_law 450 = .ok (.invokevirtual 52, 3) := by decide +kernel
theorem dL_law_453 : decode cL_law 453 = .ok (.aload_n 2, 1) := by decide +kernel
theorem dL_law_454 : decode cL_law 454 = .ok (.invokevirtual 56, 3) := by decide +kernel
theorem dL_law_457 : decode cL_law 457 = .ok (.if_icmp .eq 444, 3) := by decide +kernel
theorem dL_law_460 : decode cL_law 460 = .ok (.iconst 0, 1) := by decide +kernel
theorem dL_law_461 : decode cL_law 461 = .ok (.ireturn, 1) := by decide +kernel
theorem dL_law_462 : decode cL_law 462 = .ok (.aload_n 1, 1) := by decide +kernel
theorem dL_law_463 : decode cL_law 463 = .ok (.aload_n 0, 1) := by decide +kernel
theorem dL_law_464 : decode cL_law 464 = .ok (.iload_n 3, 1) := by decide +kernel
theorem dL_law_465 : decode cL_law 465 = .ok (.iconst 1, 1) := by decide +kernel
theorem dL_law_466 : decode cL_law 466 = .ok (.iadd, 1) := by decide +kernel
theorem dL_law_467 : decode cL_law 467 = .ok (.iaload, 1) := by decide +kernel
theorem dL_law_468 : decode cL_law 468 = .ok (.aload_n 0, 1) := by decide +kernel
theorem dL_law_469 : decode cL_law 469 = .ok (.iload_n 3, 1) := by decide +kernel
theorem dL_law_470 : decode cL_law 470 = .ok (.iconst 2, 1) := by decide +kernel
theorem dL_law_471 : decode cL_law 471 = .ok (.iadd, 1) := by decide +kernel
theorem dL_law_472 : decode cL_law 472 = .ok (.iaload, 1) := by decide +kernel
theorem dL_law_473 : decode cL_law 473 = .ok (.aload_n 0, 1) := by decide +kernel
theorem dL_law_474 : decode cL_law 474 = .ok (.iload_n 3, 1) := by decide +kernel
theorem dL_law_475 : decode cL_law 475 = .ok (.iconst 3, 1) := by decide +kernel
theorem dL_law_476 : decode cL_law 476 = .ok (.iadd, 1) := by decide +kernel
theorem dL_law_477 : decode cL_law 477 = .ok (.iaload, 1) := by decide +kernel
theorem dL_law_478 : decode cL_law 478 = .ok (.invokevirtual 57, 3) := by decide +kernel
theorem dL_law_481 : decode cL_law 481 = .ok (.aload_n 2, 1) := by decide +kernel
theorem dL_law_482 : decode cL_law 482 = .ok (.aload_n 0, 1) := by decide +kernel
theorem dL_law_483 : decode cL_law 483 = .ok (.iload_n 3, 1) := by decide +kernel
theorem dL_law_484 : decode cL_law 484 = .ok (.iconst 1, 1) := by decide +kernel
theorem dL_law_485 : decode cL_law 485 = .ok (.iadd, 1) := by decide +kernel
theorem dL_law_486 : decode cL_law 486 = .ok (.iaload, 1) := by decide +kernel
theorem dL_law_487 : decode cL_law 487 = .ok (.aload_n 0, 1) := by decide +kernel
theorem dL_law_488 : decode cL_law 488 = .ok (.iload_n 3, 1) := by decide +kernel
theorem dL_law_489 : decode cL_law 489 = .ok (.iconst 2, 1) := by decide +kernel
theorem dL_law_490 : decode cL_law 490 = .ok (.iadd, 1) := by decide +kernel
theorem dL_law_491 : decode cL_law 491 = .ok (.iaload, 1) := by decide +kernel
theorem dL_law_492 : decode cL_law 492 = .ok (.aload_n 0, 1) := by decide +kernel
theorem dL_law_493 : decode cL_law 493 = .ok (.iload_n 3, 1) := by decide +kernel
theorem dL_law_494 : decode cL_law 494 = .ok (.iconst 3, 1) := by decide +kernel
theorem dL_law_495 : decode cL_law 495 = .ok (.iadd, 1) := by decide +kernel
theorem dL_law_496 : decode cL_law 496 = .ok (.iaload, 1) := by decide +kernel
theorem dL_law_497 : decode cL_law 497 = .ok (.invokevirtual 60, 3) := by decide +kernel
theorem dL_law_500 : decode cL_law 500 = .ok (.if_icmp .eq 401, 3) := by decide +kernel
theorem dL_law_503 : decode cL_law 503 = .ok (.iconst 0, 1) := by decide +kernel
theorem dL_law_504 : decode cL_law 504 = .ok (.ireturn, 1) := by decide +kernel
theorem dL_law_505 : decode cL_law 505 = .ok (.aload_n 1, 1) := by decide +kernel
theorem dL_law_506 : decode cL_law 506 = .ok (.aload_n 0, 1) := by decide +kernel
theorem dL_law_507 : decode cL_law 507 = .ok (.iload_n 3, 1) := by decide +kernel
theorem dL_law_508 : decode cL_law 508 = .ok (.iconst 1, 1) := by decide +kernel
theorem dL_law_509 : decode cL_law 509 = .ok (.iadd, 1) := by decide +kernel
theorem dL_law_510 : decode cL_law 510 = .ok (.iaload, 1) := by decide +kernel
theorem dL_law_511 : decode cL_law 511 = .ok (.aload_n 0, 1) := by decide +kernel
theorem dL_law_512 : decode cL_law 512 = .ok (.iload_n 3, 1) := by decide +kernel
theorem dL_law_513 : decode cL_law 513 = .ok (.iconst 2, 1) := by decide +kernel
theorem dL_law_514 : decode cL_law 514 = .ok (.iadd, 1) := by decide +kernel
theorem dL_law_515 : decode cL_law 515 = .ok (.iaload, 1) := by decide +kernel
theorem dL_law_516 : decode cL_law 516 = .ok (.invokevirtual 61, 3) := by decide +kernel
theorem dL_law_519 : decode cL_law 519 = .ok (.aload_n 2, 1) := by decide +kernel
theorem dL_law_520 : decode cL_law 520 = .ok (.aload_n 0, 1) := by decide +kernel
theorem dL_law_521 : decode cL_law 521 = .ok (.iload_n 3, 1) := by decide +kernel
theorem dL_law_522 : decode cL_law 522 = .ok (.iconst 1, 1) := by decide +kernel
theorem dL_law_523 : decode cL_law 523 = .ok (.iadd, 1) := by decide +kernel
theorem dL_law_524 : decode cL_law 524 = .ok (.iaload, 1) := by decide +kernel
theorem dL_law_525 : decode cL_law 525 = .ok (.aload_n 0, 1) := by decide +kernel
theorem dL_law_526 : decode cL_law 526 = .ok (.iload_n 3, 1) := by decide +kernel
theorem dL_law_527 : decode cL_law 527 = .ok (.iconst 2, 1) := by decide +kernel
theorem dL_law_528 : decode cL_law 528 = .ok (.iadd, 1) := by decide +kernel
theorem dL_law_529 : decode cL_law 529 = .ok (.iaload, 1) := by decide +kernel
theorem dL_law_530 : decode cL_law 530 = .ok (.invokevirtual 64, 3) := by decide +kernel
theorem dL_law_533 : decode cL_law 533 = .ok (.if_icmp .eq 368, 3) := by decide +kernel
theorem dL_law_536 : decode cL_law 536 = .ok (.iconst 0, 1) := by decide +kernel
theorem dL_law_537 : decode cL_law 537 = .ok (.ireturn, 1) := by decide +kernel
theorem dL_law_538 : decode cL_law 538 = .ok (.aload_n 1, 1) := by decide +kernel
theorem dL_law_539 : decode cL_law 539 = .ok (.aload_n 0, 1) := by decide +kernel
theorem dL_law_540 : decode cL_law 540 = .ok (.iload_n 3, 1) := by decide +kernel
theorem dL_law_541 : decode cL_law 541 = .ok (.iconst 1, 1) := by decide +kernel
theorem dL_law_542 : decode cL_law 542 = .ok (.iadd, 1) := by decide +kernel
theorem dL_law_543 : decode cL_law 543 = .ok (.iaload, 1) := by decide +kernel
theorem dL_law_544 : decode cL_law 544 = .ok (.aload_n 0, 1) := by decide +kernel
theorem dL_law_545 : decode cL_law 545 = .ok (.iload_n 3, 1) := by decide +kernel
theorem dL_law_546 : decode cL_law 546 = .ok (.iconst 2, 1) := by decide +kernel
theorem dL_law_547 : decode cL_law 547 = .ok (.iadd, 1) := by decide +kernel
theorem dL_law_548 : decode cL_law 548 = .ok (.iaload, 1) := by decide +kernel
theorem dL_law_549 : decode cL_law 549 = .ok (.invokevirtual 65, 3) := by decide +kernel
theorem dL_law_552 : decode cL_law 552 = .ok (.aload_n 2, 1) := by decide +kernel
theorem dL_law_553 : decode cL_law 553 = .ok (.aload_n 0, 1) := by decide +kernel
theorem dL_law_554 : decode cL_law 554 = .ok (.iload_n 3, 1) := by decide +kernel
theorem dL_law_555 : decode cL_law 555 = .ok (.iconst 1, 1) := by decide +kernel
theorem dL_law_556 : decode cL_law 556 = .ok (.iadd, 1) := by decide +kernel
theorem dL_law_557 : decode cL_law 557 = .ok (.iaload, 1) := by decide +kernel
theorem dL_law_558 : decode cL_law 558 = .ok (.aload_n 0, 1) := by decide +kernel
theorem dL_law_559 : decode cL_law 559 = .ok (.iload_n 3, 1) := by decide +kernel
theorem dL_law_560 : decode cL_law 560 = .ok (.iconst 2, 1) := by decide +kernel
theorem dL_law_561 : decode cL_law 561 = .ok (.iadd, 1) := by decide +kernel
theorem dL_law_562 : decode cL_law 562 = .ok (.iaload, 1) := by decide +kernel
theorem dL_law_563 : decode cL_law 563 = .ok (.invokevirtual 68, 3) := by decide +kernel
theorem dL_law_566 : decode cL_law 566 = .ok (.if_icmp .eq 335, 3) := by decide +kernel
theorem dL_law_569 : decode cL_law 569 = .ok (.iconst 0, 1) := by decide +kernel
theorem dL_law_570 : decode cL_law 570 = .ok (.ireturn, 1) := by decide +kernel
theorem dL_law_571 : decode cL_law 571 = .ok (.aload_n 1, 1) := by decide +kernel
theorem dL_law_572 : decode cL_law 572 = .ok (.aload_n 0, 1) := by decide +kernel
theorem dL_law_573 : decode cL_law 573 = .ok (.iload_n 3, 1) := by decide +kernel
theorem dL_law_574 : decode cL_law 574 = .ok (.iconst 1, 1) := by decide +kernel
theorem dL_law_575 : decode cL_law 575 = .ok (.iadd, 1) := by decide +kernel
theorem dL_law_576 : decode cL_law 576 = .ok (.iaload, 1) := by decide +kernel
theorem dL_law_577 : decode cL_law 577 = .ok (.invokevirtual 69, 3) := by decide +kernel
theorem dL_law_580 : decode cL_law 580 = .ok (.aload_n 2, 1) := by decide +kernel
theorem dL_law_581 : decode cL_law 581 = .ok (.aload_n 0, 1) := by decide +kernel
theorem dL_law_582 : decode cL_law 582 = .ok (.iload_n 3, 1) := by decide +kernel
theorem dL_law_583 : decode cL_law 583 = .ok (.iconst 1, 1) := by decide +kernel
theorem dL_law_584 : decode cL_law 584 = .ok (.iadd, 1) := by decide +kernel
theorem dL_law_585 : decode cL_law 585 = .ok (.iaload, 1) := by decide +kernel
theorem dL_law_586 : decode cL_law 586 = .ok (.invokevirtual 72, 3) := by decide +kernel
theorem dL_law_589 : decode cL_law 589 = .ok (.if_icmp .eq 312, 3) := by decide +kernel
theorem dL_law_592 : decode cL_law 592 = .ok (.iconst 0, 1) := by decide +kernel
theorem dL_law_593 : decode cL_law 593 = .ok (.ireturn, 1) := by decide +kernel
theorem dL_law_594 : decode cL_law 594 = .ok (.aload_n 1, 1) := by decide +kernel
theorem dL_law_595 : decode cL_law 595 = .ok (.aload_n 0, 1) := by decide +kernel
theorem dL_law_596 : decode cL_law 596 = .ok (.iload_n 3, 1) := by decide +kernel
theorem dL_law_597 : decode cL_law 597 = .ok (.iconst 1, 1) := by decide +kernel
theorem dL_law_598 : decode cL_law 598 = .ok (.iadd, 1) := by decide +kernel
theorem dL_law_599 : decode cL_law 599 = .ok (.iaload, 1) := by decide +kernel
theorem dL_law_600 : decode cL_law 600 = .ok (.invokevirtual 73, 3) := by decide +kernel
theorem dL_law_603 : decode cL_law 603 = .ok (.aload_n 2, 1) := by decide +kernel
theorem dL_law_604 : decode cL_law 604 = .ok (.aload_n 0, 1) := by decide +kernel
theorem dL_law_605 : decode cL_law 605 = .ok (.iload_n 3, 1) := by decide +kernel
theorem dL_law_606 : decode cL_law 606 = .ok (.iconst 1, 1) := by decide +kernel
theorem dL_law_607 : decode cL_law 607 = .ok (.iadd, 1) := by decide +kernel
theorem dL_law_608 : decode cL_law 608 = .ok (.iaload, 1) := by decide +kernel
theorem dL_law_609 : decode cL_law 609 = .ok (.invokevirtual 76, 3) := by decide +kernel
theorem dL_law_612 : decode cL_law 612 = .ok (.if_icmp .eq 289, 3) := by decide +kernel
theorem dL_law_615 : decode cL_law 615 = .ok (.iconst 0, 1) := by decide +kernel
theorem dL_law_616 : decode cL_law 616 = .ok (.ireturn, 1) := by decide +kernel
theorem dL_law_617 : decode cL_law 617 = .ok (.aload_n 1, 1) := by decide +kernel
theorem dL_law_618 : decode cL_law 618 = .ok (.aload_n 0, 1) := by decide +kernel
theorem dL_law_619 : decode cL_law 619 = .ok (.iload_n 3, 1) := by decide +kernel
theorem dL_law_620 : decode cL_law 620 = .ok (.iconst 1, 1) := by decide +kernel
theorem dL_law_621 : decode cL_law 621 = .ok (.iadd, 1) := by decide +kernel
theorem dL_law_622 : decode cL_law 622 = .ok (.iaload, 1) := by decide +kernel
theorem dL_law_623 : decode cL_law 623 = .ok (.aload_n 0, 1) := by decide +kernel
theorem dL_law_624 : decode cL_law 624 = .ok (.iload_n 3, 1) := by decide +kernel
theorem dL_law_625 : decode cL_law 625 = .ok (.iconst 2, 1) := by decide +kernel
theorem dL_law_626 : decode cL_law 626 = .ok (.iadd, 1) := by decide +kernel
theorem dL_law_627 : decode cL_law 627 = .ok (.iaload, 1) := by decide +kernel
theorem dL_law_628 : decode cL_law 628 = .ok (.invokevirtual 77, 3) := by decide +kernel
theorem dL_law_631 : decode cL_law 631 = .ok (.aload_n 2, 1) := by decide +kernel
theorem dL_law_632 : decode cL_law 632 = .ok (.aload_n 0, 1) := by decide +kernel
theorem dL_law_633 : decode cL_law 633 = .ok (.iload_n 3, 1) := by decide +kernel
theorem dL_law_634 : decode cL_law 634 = .ok (.iconst 1, 1) := by decide +kernel
theorem dL_law_635 : decode cL_law 635 = .ok (.iadd, 1) := by decide +kernel
theorem dL_law_636 : decode cL_law 636 = .ok (.iaload, 1) := by decide +kernel
theorem dL_law_637 : decode cL_law 637 = .ok (.aload_n 0, 1) := by decide +kernel
theorem dL_law_638 : decode cL_law 638 = .ok (.iload_n 3, 1) := by decide +kernel
theorem dL_law_639 : decode cL_law 639 = .ok (.iconst 2, 1) := by decide +kernel
theorem dL_law_640 : decode cL_law 640 = .ok (.iadd, 1) := by decide +kernel
theorem dL_law_641 : decode cL_law 641 = .ok (.iaload, 1) := by decide +kernel
theorem dL_law_642 : decode cL_law 642 = .ok (.invokevirtual 80, 3) := by decide +kernel
theorem dL_law_645 : decode cL_law 645 = .ok (.if_icmp .eq 256, 3) := by decide +kernel
theorem dL_law_648 : decode cL_law 648 = .ok (.iconst 0, 1) := by decide +kernel
theorem dL_law_649 : decode cL_law 649 = .ok (.ireturn, 1) := by decide +kernel
theorem dL_law_650 : decode cL_law 650 = .ok (.aload_n 1, 1) := by decide +kernel
theorem dL_law_651 : decode cL_law 651 = .ok (.aload_n 0, 1) := by decide +kernel
theorem dL_law_652 : decode cL_law 652 = .ok (.iload_n 3, 1) := by decide +kernel
theorem dL_law_653 : decode cL_law 653 = .ok (.iconst 1, 1) := by decide +kernel
theorem dL_law_654 : decode cL_law 654 = .ok (.iadd, 1) := by decide +kernel
theorem dL_law_655 : decode cL_law 655 = .ok (.iaload, 1) := by decide +kernel
theorem dL_law_656 : decode cL_law 656 = .ok (.aload_n 0, 1) := by decide +kernel
theorem dL_law_657 : decode cL_law 657 = .ok (.iload_n 3, 1) := by decide +kernel
theorem dL_law_658 : decode cL_law 658 = .ok (.iconst 2, 1) := by decide +kernel
theorem dL_law_659 : decode cL_law 659 = .ok (.iadd, 1) := by decide +kernel
theorem dL_law_660 : decode cL_law 660 = .ok (.iaload, 1) := by decide +kernel
theorem dL_law_661 : decode cL_law 661 = .ok (.invokevirtual 81, 3) := by decide +kernel
theorem dL_law_664 : decode cL_law 664 = .ok (.aload_n 2, 1) := by decide +kernel
theorem dL_law_665 : decode cL_law 665 = .ok (.aload_n 0, 1) := by decide +kernel
theorem dL_law_666 : decode cL_law 666 = .ok (.iload_n 3, 1) := by decide +kernel
theorem dL_law_667 : decode cL_law 667 = .ok (.iconst 1, 1) := by decide +kernel
theorem dL_law_668 : decode cL_law 668 = .ok (.iadd, 1) := by decide +kernel
theorem dL_law_669 : decode cL_law 669 = .ok (.iaload, 1) := by decide +kernel
theorem dL_law_670 : decode cL_law 670 = .ok (.aload_n 0, 1) := by decide +kernel
theorem dL_law_671 : decode cL_law 671 = .ok (.iload_n 3, 1) := by decide +kernel
theorem dL_law_672 : decode cL_law 672 = .ok (.iconst 2, 1) := by decide +kernel
theorem dL_law_673 : decode cL_law 673 = .ok (.iadd, 1) := by decide +kernel
theorem dL_law_674 : decode cL_law 674 = .ok (.iaload, 1) := by decide +kernel
theorem dL_law_675 : decode cL_law 675 = .ok (.invokevirtual 84, 3) := by decide +kernel
theorem dL_law_678 : decode cL_law 678 = .ok (.if_icmp .eq 223, 3) := by decide +kernel
theorem dL_law_681 : decode cL_law 681 = .ok (.iconst 0, 1) := by decide +kernel
theorem dL_law_682 : decode cL_law 682 = .ok (.ireturn, 1) := by decide +kernel
theorem dL_law_683 : decode cL_law 683 = .ok (.aload_n 1, 1) := by decide +kernel
theorem dL_law_684 : decode cL_law 684 = .ok (.aload_n 0, 1) := by decide +kernel
theorem dL_law_685 : decode cL_law 685 = .ok (.iload_n 3, 1) := by decide +kernel
theorem dL_law_686 : decode cL_law 686 = .ok (.iconst 1, 1) := by decide +kernel
theorem dL_law_687 : decode cL_law 687 = .ok (.iadd, 1) := by decide +kernel
theorem dL_law_688 : decode cL_law 688 = .ok (.iaload, 1) := by decide +kernel
theorem dL_law_689 : decode cL_law 689 = .ok (.invokevirtual 85, 3) := by decide +kernel
theorem dL_law_692 : decode cL_law 692 = .ok (.aload_n 2, 1) := by decide +kernel
theorem dL_law_693 : decode cL_law 693 = .ok (.aload_n 0, 1) := by decide +kernel
theorem dL_law_694 : decode cL_law 694 = .ok (.iload_n 3, 1) := by decide +kernel
theorem dL_law_695 : decode cL_law 695 = .ok (.iconst 1, 1) := by decide +kernel
theorem dL_law_696 : decode cL_law 696 = .ok (.iadd, 1) := by decide +kernel
theorem dL_law_697 : decode cL_law 697 = .ok (.iaload, 1) := by decide +kernel
theorem dL_law_698 : decode cL_law 698 = .ok (.invokevirtual 88, 3) := by decide +kernel
theorem dL_law_701 : decode cL_law 701 = .ok (.if_icmp .eq 200, 3) := by decide +kernel
theorem dL_law_704 : decode cL_law 704 = .ok (.iconst 0, 1) := by decide +kernel
theorem dL_law_705 : decode cL_law 705 = .ok (.ireturn, 1) := by decide +kernel
theorem dL_law_706 : decode cL_law 706 = .ok (.aload_n 1, 1) := by decide +kernel
theorem dL_law_707 : decode cL_law 707 = .ok (.aload_n 0, 1) := by decide +kernel
theorem dL_law_708 : decode cL_law 708 = .ok (.iload_n 3, 1) := by decide +kernel
theorem dL_law_709 : decode cL_law 709 = .ok (.iconst 1, 1) := by decide +kernel
theorem dL_law_710 : decode cL_law 710 = .ok (.iadd, 1) := by decide +kernel
theorem dL_law_711 : decode cL_law 711 = .ok (.iaload, 1) := by decide +kernel
theorem dL_law_712 : decode cL_law 712 = .ok (.aload_n 0, 1) := by decide +kernel
theorem dL_law_713 : decode cL_law 713 = .ok (.iload_n 3, 1) := by decide +kernel
theorem dL_law_714 : decode cL_law 714 = .ok (.iconst 2, 1) := by decide +kernel
theorem dL_law_715 : decode cL_law 715 = .ok (.iadd, 1) := by decide +kernel
theorem dL_law_716 : decode cL_law 716 = .ok (.iaload, 1) := by decide +kernel
theorem dL_law_717 : decode cL_law 717 = .ok (.aload_n 0, 1) := by decide +kernel
theorem dL_law_718 : decode cL_law 718 = .ok (.iload_n 3, 1) := by decide +kernel
theorem dL_law_719 : decode cL_law 719 = .ok (.iconst 3, 1) := by decide +kernel
theorem dL_law_720 : decode cL_law 720 = .ok (.iadd, 1) := by decide +kernel
theorem dL_law_721 : decode cL_law 721 = .ok (.iaload, 1) := by decide +kernel
theorem dL_law_722 : decode cL_law 722 = .ok (.aload_n 0, 1) := by decide +kernel
theorem dL_law_723 : decode cL_law 723 = .ok (.iload_n 3, 1) := by decide +kernel
theorem dL_law_724 : decode cL_law 724 = .ok (.iconst 4, 1) := by decide +kernel
theorem dL_law_725 : decode cL_law 725 = .ok (.iadd, 1) := by decide +kernel
theorem dL_law_726 : decode cL_law 726 = .ok (.iaload, 1) := by decide +kernel
theorem dL_law_727 : decode cL_law 727 = .ok (.invokevirtual 89, 3) := by decide +kernel
theorem dL_law_730 : decode cL_law 730 = .ok (.aload_n 2, 1) := by decide +kernel
theorem dL_law_731 : decode cL_law 731 = .ok (.aload_n 0, 1) := by decide +kernel
theorem dL_law_732 : decode cL_law 732 = .ok (.iload_n 3, 1) := by decide +kernel
theorem dL_law_733 : decode cL_law 733 = .ok (.iconst 1, 1) := by decide +kernel
theorem dL_law_734 : decode cL_law 734 = .ok (.iadd, 1) := by decide +kernel
theorem dL_law_735 : decode cL_law 735 = .ok (.iaload, 1) := by decide +kernel
theorem dL_law_736 : decode cL_law 736 = .ok (.aload_n 0, 1) := by decide +kernel
theorem dL_law_737 : decode cL_law 737 = .ok (.iload_n 3, 1) := by decide +kernel
theorem dL_law_738 : decode cL_law 738 = .ok (.iconst 2, 1) := by decide +kernel
theorem dL_law_739 : decode cL_law 739 = .ok (.iadd, 1) := by decide +kernel
theorem dL_law_740 : decode cL_law 740 = .ok (.iaload, 1) := by decide +kernel
theorem dL_law_741 : decode cL_law 741 = .ok (.aload_n 0, 1) := by decide +kernel
theorem dL_law_742 : decode cL_law 742 = .ok (.iload_n 3, 1) := by decide +kernel
theorem dL_law_743 : decode cL_law 743 = .ok (.iconst 3, 1) := by decide +kernel
theorem dL_law_744 : decode cL_law 744 = .ok (.iadd, 1) := by decide +kernel
theorem dL_law_745 : decode cL_law 745 = .ok (.iaload, 1) := by decide +kernel
theorem dL_law_746 : decode cL_law 746 = .ok (.aload_n 0, 1) := by decide +kernel
theorem dL_law_747 : decode cL_law 747 = .ok (.iload_n 3, 1) := by decide +kernel
theorem dL_law_748 : decode cL_law 748 = .ok (.iconst 4, 1) := by decide +kernel
theorem dL_law_749 : decode cL_law 749 = .ok (.iadd, 1) := by decide +kernel
theorem dL_law_750 : decode cL_law 750 = .ok (.iaload, 1) := by decide +kernel
theorem dL_law_751 : decode cL_law 751 = .ok (.invokevirtual 93, 3) := by decide +kernel
theorem dL_law_754 : decode cL_law 754 = .ok (.if_icmp .eq 147, 3) := by decide +kernel
theorem dL_law_757 : decode cL_law 757 = .ok (.iconst 0, 1) := by decide +kernel
theorem dL_law_758 : decode cL_law 758 = .ok (.ireturn, 1) := by decide +kernel
theorem dL_law_759 : decode cL_law 759 = .ok (.aload_n 1, 1) := by decide +kernel
theorem dL_law_760 : decode cL_law 760 = .ok (.aload_n 0, 1) := by decide +kernel
theorem dL_law_761 : decode cL_law 761 = .ok (.iload_n 3, 1) := by decide +kernel
theorem dL_law_762 : decode cL_law 762 = .ok (.iconst 1, 1) := by decide +kernel
theorem dL_law_763 : decode cL_law 763 = .ok (.iadd, 1) := by decide +kernel
theorem dL_law_764 : decode cL_law 764 = .ok (.iaload, 1) := by decide +kernel
theorem dL_law_765 : decode cL_law 765 = .ok (.invokevirtual 94, 3) := by decide +kernel
theorem dL_law_768 : decode cL_law 768 = .ok (.aload_n 2, 1) := by decide +kernel
theorem dL_law_769 : decode cL_law 769 = .ok (.aload_n 0, 1) := by decide +kernel
theorem dL_law_770 : decode cL_law 770 = .ok (.iload_n 3, 1) := by decide +kernel
theorem dL_law_771 : decode cL_law 771 = .ok (.iconst 1, 1) := by decide +kernel
theorem dL_law_772 : decode cL_law 772 = .ok (.iadd, 1) := by decide +kernel
theorem dL_law_773 : decode cL_law 773 = .ok (.iaload, 1) := by decide +kernel
theorem dL_law_774 : decode cL_law 774 = .ok (.invokevirtual 97, 3) := by decide +kernel
theorem dL_law_777 : decode cL_law 777 = .ok (.if_icmp .eq 124, 3) := by decide +kernel
theorem dL_law_780 : decode cL_law 780 = .ok (.iconst 0, 1) := by decide +kernel
theorem dL_law_781 : decode cL_law 781 = .ok (.ireturn, 1) := by decide +kernel
theorem dL_law_782 : decode cL_law 782 = .ok (.aload_n 1, 1) := by decide +kernel
theorem dL_law_783 : decode cL_law 783 = .ok (.aload_n 0, 1) := by decide +kernel
theorem dL_law_784 : decode cL_law 784 = .ok (.iload_n 3, 1) := by decide +kernel
theorem dL_law_785 : decode cL_law 785 = .ok (.iconst 1, 1) := by decide +kernel
theorem dL_law_786 : decode cL_law 786 = .ok (.iadd, 1) := by decide +kernel
theorem dL_law_787 : decode cL_law 787 = .ok (.iaload, 1) := by decide +kernel
theorem dL_law_788 : decode cL_law 788 = .ok (.invokevirtual 98, 3) := by decide +kernel
theorem dL_law_791 : decode cL_law 791 = .ok (.aload_n 2, 1) := by decide +kernel
theorem dL_law_792 : decode cL_law 792 = .ok (.aload_n 0, 1) := by decide +kernel
theorem dL_law_793 : decode cL_law 793 = .ok (.iload_n 3, 1) := by decide +kernel
theorem dL_law_794 : decode cL_law 794 = .ok (.iconst 1, 1) := by decide +kernel
theorem dL_law_795 : decode cL_law 795 = .ok (.iadd, 1) := by decide +kernel
theorem dL_law_796 : decode cL_law 796 = .ok (.iaload, 1) := by decide +kernel
theorem dL_law_797 : decode cL_law 797 = .ok (.invokevirtual 101, 3) := by decide +kernel
theorem dL_law_800 : decode cL_law 800 = .ok (.if_icmp .eq 101, 3) := by decide +kernel
theorem dL_law_803 : decode cL_law 803 = .ok (.iconst 0, 1) := by decide +kernel
theorem dL_law_804 : decode cL_law 804 = .ok (.ireturn, 1) := by decide +kernel
theorem dL_law_805 : decode cL_law 805 = .ok (.aload_n 1, 1) := by decide +kernel
theorem dL_law_806 : decode cL_law 806 = .ok (.aload_n 0, 1) := by decide +kernel
theorem dL_law_807 : decode cL_law 807 = .ok (.iload_n 3, 1) := by decide +kernel
theorem dL_law_808 : decode cL_law 808 = .ok (.iconst 1, 1) := by decide +kernel
theorem dL_law_809 : decode cL_law 809 = .ok (.iadd, 1) := by decide +kernel
theorem dL_law_810 : decode cL_law 810 = .ok (.iaload, 1) := by decide +kernel
theorem dL_law_811 : decode cL_law 811 = .ok (.invokevirtual 102, 3) := by decide +kernel
theorem dL_law_814 : decode cL_law 814 = .ok (.aload_n 2, 1) := by decide +kernel
theorem dL_law_815 : decode cL_law 815 = .ok (.aload_n 0, 1) := by decide +kernel
theorem dL_law_816 : decode cL_law 816 = .ok (.iload_n 3, 1) := by decide +kernel
theorem dL_law_817 : decode cL_law 817 = .ok (.iconst 1, 1) := by decide +kernel
theorem dL_law_818 : decode cL_law 818 = .ok (.iadd, 1) := by decide +kernel
theorem dL_law_819 : decode cL_law 819 = .ok (.iaload, 1) := by decide +kernel
theorem dL_law_820 : decode cL_law 820 = .ok (.invokevirtual 105, 3) := by decide +kernel
theorem dL_law_823 : decode cL_law 823 = .ok (.if_icmp .eq 78, 3) := by decide +kernel
theorem dL_law_826 : decode cL_law 826 = .ok (.iconst 0, 1) := by decide +kernel
theorem dL_law_827 : decode cL_law 827 = .ok (.ireturn, 1) := by decide +kernel
theorem dL_law_828 : decode cL_law 828 = .ok (.aload_n 1, 1) := by decide +kernel
theorem dL_law_829 : decode cL_law 829 = .ok (.aload_n 0, 1) := by decide +kernel
theorem dL_law_830 : decode cL_law 830 = .ok (.iload_n 3, 1) := by decide +kernel
theorem dL_law_831 : decode cL_law 831 = .ok (.iconst 1, 1) := by decide +kernel
theorem dL_law_832 : decode cL_law 832 = .ok (.iadd, 1) := by decide +kernel
theorem dL_law_833 : decode cL_law 833 = .ok (.iaload, 1) := by decide +kernel
theorem dL_law_834 : decode cL_law 834 = .ok (.invokevirtual 106, 3) := by decide +kernel
theorem dL_law_837 : decode cL_law 837 = .ok (.aload_n 2, 1) := by decide +kernel
theorem dL_law_838 : decode cL_law 838 = .ok (.aload_n 0, 1) := by decide +kernel
theorem dL_law_839 : decode cL_law 839 = .ok (.iload_n 3, 1) := by decide +kernel
theorem dL_law_840 : decode cL_law 840 = .ok (.iconst 1, 1) := by decide +kernel
theorem dL_law_841 : decode cL_law 841 = .ok (.iadd, 1) := by decide +kernel
theorem dL_law_842 : decode cL_law 842 = .ok (.iaload, 1) := by decide +kernel
theorem dL_law_843 : decode cL_law 843 = .ok (.invokevirtual 109, 3) := by decide +kernel
theorem dL_law_846 : decode cL_law 846 = .ok (.if_icmp .eq 55, 3) := by decide +kernel
theorem dL_law_849 : decode cL_law 849 = .ok (.iconst 0, 1) := by decide +kernel
theorem dL_law_850 : decode cL_law 850 = .ok (.ireturn, 1) := by decide +kernel
theorem dL_law_851 : decode cL_law 851 = .ok (.aload_n 1, 1) := by decide +kernel
theorem dL_law_852 : decode cL_law 852 = .ok (.invokevirtual 110, 3) := by decide +kernel
theorem dL_law_855 : decode cL_law 855 = .ok (.aload_n 2, 1) := by decide +kernel
theorem dL_law_856 : decode cL_law 856 = .ok (.invokevirtual 113, 3) := by decide +kernel
theorem dL_law_859 : decode cL_law 859 = .ok (.if_icmp .eq 42, 3) := by decide +kernel
theorem dL_law_862 : decode cL_law 862 = .ok (.iconst 0, 1) := by decide +kernel
theorem dL_law_863 : decode cL_law 863 = .ok (.ireturn, 1) := by decide +kernel
theorem dL_law_864 : decode cL_law 864 = .ok (.aload_n 1, 1) := by decide +kernel
theorem dL_law_865 : decode cL_law 865 = .ok (.aload_n 0, 1) := by decide +kernel
theorem dL_law_866 : decode cL_law 866 = .ok (.iload_n 3, 1) := by decide +kernel
theorem dL_law_867 : decode cL_law 867 = .ok (.iconst 1, 1) := by decide +kernel
theorem dL_law_868 : decode cL_law 868 = .ok (.iadd, 1) := by decide +kernel
theorem dL_law_869 : decode cL_law 869 = .ok (.iaload, 1) := by decide +kernel
theorem dL_law_870 : decode cL_law 870 = .ok (.invokevirtual 114, 3) := by decide +kernel
theorem dL_law_873 : decode cL_law 873 = .ok (.aload_n 2, 1) := by decide +kernel
theorem dL_law_874 : decode cL_law 874 = .ok (.aload_n 0, 1) := by decide +kernel
theorem dL_law_875 : decode cL_law 875 = .ok (.iload_n 3, 1) := by decide +kernel
theorem dL_law_876 : decode cL_law 876 = .ok (.iconst 1, 1) := by decide +kernel
theorem dL_law_877 : decode cL_law 877 = .ok (.iadd, 1) := by decide +kernel
theorem dL_law_878 : decode cL_law 878 = .ok (.iaload, 1) := by decide +kernel
theorem dL_law_879 : decode cL_law 879 = .ok (.invokevirtual 117, 3) := by decide +kernel
theorem dL_law_882 : decode cL_law 882 = .ok (.if_icmp .eq 19, 3) := by decide +kernel
theorem dL_law_885 : decode cL_law 885 = .ok (.iconst 0, 1) := by decide +kernel
theorem dL_law_886 : decode cL_law 886 = .ok (.ireturn, 1) := by decide +kernel
theorem dL_law_887 : decode cL_law 887 = .ok (.aload_n 1, 1) := by decide +kernel
theorem dL_law_888 : decode cL_law 888 = .ok (.invokevirtual 118, 3) := by decide +kernel
theorem dL_law_891 : decode cL_law 891 = .ok (.aload_n 2, 1) := by decide +kernel
theorem dL_law_892 : decode cL_law 892 = .ok (.invokevirtual 122, 3) := by decide +kernel
theorem dL_law_895 : decode cL_law 895 = .ok (.lcmp, 1) := by decide +kernel
theorem dL_law_896 : decode cL_law 896 = .ok (.ifCond .eq 5, 3) := by decide +kernel
theorem dL_law_899 : decode cL_law 899 = .ok (.iconst 0, 1) := by decide +kernel
theorem dL_law_900 : decode cL_law 900 = .ok (.ireturn, 1) := by decide +kernel
theorem dL_law_901 : decode cL_law 901 = .ok (.iinc 3 5, 3) := by decide +kernel
theorem dL_law_904 : decode cL_law 904 = .ok (.goto (-886), 3) := by decide +kernel
theorem dL_law_907 : decode cL_law 907 = .ok (.iconst 1, 1) := by decide +kernel
theorem dL_law_908 : decode cL_law 908 = .ok (.ireturn, 1) := by decide +kernel
end
section
/-! one list of words for all methods: the good ones of the tables; each word's place there -/
def UW : List Cond := lw_tbl.filter goodWord
theorem UW_good : ∀ w ∈ UW, (w.onTables && w.keeps) = true ∨ ∃ ty, w = .arrayClass ty := fun w h => good_of_word (List.mem_filter.mp h).2
theorem UW_tbl : ∀ w ∈ UW, w ∈ lw_tbl := fun w h => (List.mem_filter.mp h).1
theorem mS_X5_begin : Cond.selects RX5 yX5_begin yX5_begin ∈ UW := List.mem_filter.mpr ⟨List.mem_of_getElem? (i := 0) (by decide +kernel), by decide +kernel⟩
theorem mS_X5_isPart : Cond.selects RX5 yX5_isPart yX5_isPart ∈ UW := List.mem_filter.mpr ⟨List.mem_of_getElem? (i := 1) (by decide +kernel), by decide +kernel⟩
theorem mS_X5_isMachine : Cond.selects RX5 yX5_isMachine yX5_isMachine ∈ UW := List.mem_filter.mpr ⟨List.mem_of_getElem? (i := 2) (by decide +kernel), by decide +kernel⟩
theorem mS_X5_groupings : Cond.selects RX5 yX5_groupings yX5_groupings ∈ UW := List.mem_filter.mpr ⟨List.mem_of_getElem? (i := 3) (by decide +kernel), by decide +kernel⟩
theorem mS_X1_setBy : Cond.selects RX1 yX1_setBy yX1_setBy ∈ UW := List.mem_filter.mpr ⟨List.mem_of_getElem? (i := 4) (by decide +kernel), by decide +kernel⟩
theorem mS_X5_lossOf : Cond.selects RX5 yX5_lossOf yX5_lossOf ∈ UW := List.mem_filter.mpr ⟨List.mem_of_getElem? (i := 5) (by decide +kernel), by decide +kernel⟩
theorem mS_X5_seekGrouping : Cond.selects RX5 yX5_seekGrouping yX5_seekGrouping ∈ UW := List.mem_filter.mpr ⟨List.mem_of_getElem? (i := 6) (by decide +kernel), by decide +kernel⟩
theorem mS_X3_seekPair : Cond.selects RX3 yX3_seekPair yX3_seekPair ∈ UW := List.mem_filter.mpr ⟨List.mem_of_getElem? (i := 7) (by decide +kernel), by decide +kernel⟩
theorem mS_X3_compareHeaps : Cond.selects RX3 yX3_compareHeaps yX3_compareHeaps ∈ UW := List.mem_filter.mpr ⟨List.mem_of_getElem? (i := 8) (by decide +kernel), by decide +kernel⟩
theorem mS_X3_compareMachines : Cond.selects RX3 yX3_compareMachines yX3_compareMachines ∈ UW := List.mem_filter.mpr ⟨List.mem_of_getElem? (i := 9) (by decide +kernel), by decide +kernel⟩
theorem mS_X3_unite : Cond.selects RX3 yX3_unite yX3_unite ∈ UW := List.mem_filter.mpr ⟨List.mem_of_getElem? (i := 10) (by decide +kernel), by decide +kernel⟩
theorem mS_X5_bestChoice : Cond.selects RX5 yX5_bestChoice yX5_bestChoice ∈ UW := List.mem_filter.mpr ⟨List.mem_of_getElem? (i := 11) (by decide +kernel), by decide +kernel⟩
theorem mS_X5_isRight : Cond.selects RX5 yX5_isRight yX5_isRight ∈ UW := List.mem_filter.mpr ⟨List.mem_of_getElem? (i := 12) (by decide +kernel), by decide +kernel⟩
theorem mS_X5_offerCopies : Cond.selects RX5 yX5_offerCopies yX5_offerCopies ∈ UW := List.mem_filter.mpr ⟨List.mem_of_getElem? (i := 13) (by decide +kernel), by decide +kernel⟩
theorem mS_X5_offerCopy : Cond.selects RX5 yX5_offerCopy yX5_offerCopy ∈ UW := List.mem_filter.mpr ⟨List.mem_of_getElem? (i := 14) (by decide +kernel), by decide +kernel⟩
theorem mS_X4_leastTo : Cond.selects RX4 yX4_leastTo yX4_leastTo ∈ UW := List.mem_filter.mpr ⟨List.mem_of_getElem? (i := 15) (by decide +kernel), by decide +kernel⟩
theorem mS_X6_begins : Cond.selects RX6 yX6_begins yX6_begins ∈ UW := List.mem_filter.mpr ⟨List.mem_of_getElem? (i := 16) (by decide +kernel), by decide +kernel⟩
theorem mS_X6_isPart : Cond.selects RX6 yX6_isPart yX6_isPart ∈ UW := List.mem_filter.mpr ⟨List.mem_of_getElem? (i := 17) (by decide +kernel), by decide +kernel⟩
theorem mS_X6_isMachine : Cond.selects RX6 yX6_isMachine yX6_isMachine ∈ UW := List.mem_filter.mpr ⟨List.mem_of_getElem? (i := 18) (by decide +kernel), by decide +kernel⟩
theorem mS_X6_setOf : Cond.selects RX6 yX6_setOf yX6_setOf ∈ UW := List.mem_filter.mpr ⟨List.mem_of_getElem? (i := 19) (by decide +kernel), by decide +kernel⟩
theorem mS_X6_homeOf : Cond.selects RX6 yX6_homeOf yX6_homeOf ∈ UW := List.mem_filter.mpr ⟨List.mem_of_getElem? (i := 20) (by decide +kernel), by decide +kernel⟩
theorem mS_X6_inCell : Cond.selects RX6 yX6_inCell yX6_inCell ∈ UW := List.mem_filter.mpr ⟨List.mem_of_getElem? (i := 21) (by decide +kernel), by decide +kernel⟩
theorem mS_X6_wandersOf : Cond.selects RX6 yX6_wandersOf yX6_wandersOf ∈ UW := List.mem_filter.mpr ⟨List.mem_of_getElem? (i := 22) (by decide +kernel), by decide +kernel⟩
theorem mS_X6_idleOf : Cond.selects RX6 yX6_idleOf yX6_idleOf ∈ UW := List.mem_filter.mpr ⟨List.mem_of_getElem? (i := 23) (by decide +kernel), by decide +kernel⟩
theorem mS_X6_lossOf : Cond.selects RX6 yX6_lossOf yX6_lossOf ∈ UW := List.mem_filter.mpr ⟨List.mem_of_getElem? (i := 24) (by decide +kernel), by decide +kernel⟩
theorem mS_X6_isPlain : Cond.selects RX6 yX6_isPlain yX6_isPlain ∈ UW := List.mem_filter.mpr ⟨List.mem_of_getElem? (i := 25) (by decide +kernel), by decide +kernel⟩
theorem mS_X6_isWithin : Cond.selects RX6 yX6_isWithin yX6_isWithin ∈ UW := List.mem_filter.mpr ⟨List.mem_of_getElem? (i := 26) (by decide +kernel), by decide +kernel⟩
theorem mS_X6_bothOf : Cond.selects RX6 yX6_bothOf yX6_bothOf ∈ UW := List.mem_filter.mpr ⟨List.mem_of_getElem? (i := 27) (by decide +kernel), by decide +kernel⟩
theorem mS_X6_eitherOf : Cond.selects RX6 yX6_eitherOf yX6_eitherOf ∈ UW := List.mem_filter.mpr ⟨List.mem_of_getElem? (i := 28) (by decide +kernel), by decide +kernel⟩
theorem mS_X6_joins : Cond.selects RX6 yX6_joins yX6_joins ∈ UW := List.mem_filter.mpr ⟨List.mem_of_getElem? (i := 29) (by decide +kernel), by decide +kernel⟩
theorem mS_X6_bits : Cond.selects RX6 yX6_bits yX6_bits ∈ UW := List.mem_filter.mpr ⟨List.mem_of_getElem? (i := 30) (by decide +kernel), by decide +kernel⟩
theorem mS_X6_loadOf : Cond.selects RX6 yX6_loadOf yX6_loadOf ∈ UW := List.mem_filter.mpr ⟨List.mem_of_getElem? (i := 31) (by decide +kernel), by decide +kernel⟩
theorem mS_X6_copyOf : Cond.selects RX6 yX6_copyOf yX6_copyOf ∈ UW := List.mem_filter.mpr ⟨List.mem_of_getElem? (i := 32) (by decide +kernel), by decide +kernel⟩
theorem mS_X6_lays : Cond.selects RX6 yX6_lays yX6_lays ∈ UW := List.mem_filter.mpr ⟨List.mem_of_getElem? (i := 33) (by decide +kernel), by decide +kernel⟩
theorem mS_X6_wayOf : Cond.selects RX6 yX6_wayOf yX6_wayOf ∈ UW := List.mem_filter.mpr ⟨List.mem_of_getElem? (i := 34) (by decide +kernel), by decide +kernel⟩
theorem mS_X6_movedOf : Cond.selects RX6 yX6_movedOf yX6_movedOf ∈ UW := List.mem_filter.mpr ⟨List.mem_of_getElem? (i := 35) (by decide +kernel), by decide +kernel⟩
theorem mN_L : Cond.initialized RL ∈ UW := List.mem_filter.mpr ⟨List.mem_of_getElem? (i := 36) (by decide +kernel), by decide +kernel⟩
theorem mN_X5 : Cond.initialized RX5 ∈ UW := List.mem_filter.mpr ⟨List.mem_of_getElem? (i := 37) (by decide +kernel), by decide +kernel⟩
theorem mN_X1 : Cond.initialized RX1 ∈ UW := List.mem_filter.mpr ⟨List.mem_of_getElem? (i := 38) (by decide +kernel), by decide +kernel⟩
theorem mN_X0 : Cond.initialized RX0 ∈ UW := List.mem_filter.mpr ⟨List.mem_of_getElem? (i := 39) (by decide +kernel), by decide +kernel⟩
theorem mN_X3 : Cond.initialized RX3 ∈ UW := List.mem_filter.mpr ⟨List.mem_of_getElem? (i := 40) (by decide +kernel), by decide +kernel⟩
theorem mN_X2 : Cond.initialized RX2 ∈ UW := List.mem_filter.mpr ⟨List.mem_of_getElem? (i := 41) (by decide +kernel), by decide +kernel⟩
theorem mN_X4 : Cond.initialized RX4 ∈ UW := List.mem_filter.mpr ⟨List.mem_of_getElem? (i := 42) (by decide +kernel), by decide +kernel⟩
theorem mN_J7 : Cond.initialized RJ7 ∈ UW := List.mem_filter.mpr ⟨List.mem_of_getElem? (i := 43) (by decide +kernel), by decide +kernel⟩
theorem mN_X6 : Cond.initialized RX6 ∈ UW := List.mem_filter.mpr ⟨List.mem_of_getElem? (i := 44) (by decide +kernel), by decide +kernel⟩
theorem mN_J6 : Cond.initialized RJ6 ∈ UW := List.mem_filter.mpr ⟨List.mem_of_getElem? (i := 45) (by decide +kernel), by decide +kernel⟩
theorem mN_J9 : Cond.initialized RJ9 ∈ UW := List.mem_filter.mpr ⟨List.mem_of_getElem? (i := 46) (by decide +kernel), by decide +kernel⟩
theorem mN_J10 : Cond.initialized RJ10 ∈ UW := List.mem_filter.mpr ⟨List.mem_of_getElem? (i := 47) (by decide +kernel), by decide +kernel⟩
theorem mL_L_7 : Cond.classLink RL 7 RX5 ∈ UW := List.mem_filter.mpr ⟨List.mem_of_getElem? (i := 48) (by decide +kernel), by decide +kernel⟩
theorem mO_X5 : Cond.instantiable RX5 15 ∈ UW := List.mem_filter.mpr ⟨List.mem_of_getElem? (i := 49) (by decide +kernel), by decide +kernel⟩
theorem mM_L_9 : Cond.methodLink RL 9 yX5_init ∈ UW := List.mem_filter.mpr ⟨List.mem_of_getElem? (i := 50) (by decide +kernel), by decide +kernel⟩
theorem mI_X5_init : Cond.instanceMethod yX5_init ∈ UW := List.mem_filter.mpr ⟨List.mem_of_getElem? (i := 51) (by decide +kernel), by decide +kernel⟩
theorem mC_X5_init : Cond.code yX5_init cX5_init 1 none ∈ UW := List.mem_filter.mpr ⟨List.mem_of_getElem? (i := 52) (by decide +kernel), by decide +kernel⟩
theorem mM_X5_1 : Cond.methodLink RX5 1 objectInit ∈ UW := List.mem_filter.mpr ⟨List.mem_of_getElem? (i := 53) (by decide +kernel), by decide +kernel⟩
theorem mI_objInit : Cond.instanceMethod objectInit ∈ UW := List.mem_filter.mpr ⟨List.mem_of_getElem? (i := 54) (by decide +kernel), by decide +kernel⟩
theorem mC_objInit : Cond.code objectInit object_method_1_code 1 none ∈ UW := List.mem_filter.mpr ⟨List.mem_of_getElem? (i := 55) (by decide +kernel), by decide +kernel⟩
theorem mL_X5_7 : Cond.classLink RX5 7 RX1 ∈ UW := List.mem_filter.mpr ⟨List.mem_of_getElem? (i := 56) (by decide +kernel), by decide +kernel⟩
theorem mO_X1 : Cond.instantiable RX1 4 ∈ UW := List.mem_filter.mpr ⟨List.mem_of_getElem? (i := 57) (by decide +kernel), by decide +kernel⟩
theorem mMN_X5_9 : Cond.methodLinkNest RX5 9 yX1_init RX5 ∈ lw_tbl := List.mem_of_getElem? (i := 58) (by decide +kernel)
theorem mI_X1_init : Cond.instanceMethod yX1_init ∈ UW := List.mem_filter.mpr ⟨List.mem_of_getElem? (i := 59) (by decide +kernel), by decide +kernel⟩
theorem mC_X1_init : Cond.code yX1_init cX1_init 1 none ∈ UW := List.mem_filter.mpr ⟨List.mem_of_getElem? (i := 60) (by decide +kernel), by decide +kernel⟩
theorem mM_X1_3 : Cond.methodLink RX1 3 objectInit ∈ UW := List.mem_filter.mpr ⟨List.mem_of_getElem? (i := 61) (by decide +kernel), by decide +kernel⟩
theorem mF_X1_9 : Cond.fieldLink RX1 9 "PartCells$Parts" "sets" "[I" ∈ UW := List.mem_filter.mpr ⟨List.mem_of_getElem? (i := 62) (by decide +kernel), by decide +kernel⟩
theorem mF_X1_15 : Cond.fieldLink RX1 15 "PartCells$Parts" "amounts" "[I" ∈ UW := List.mem_filter.mpr ⟨List.mem_of_getElem? (i := 63) (by decide +kernel), by decide +kernel⟩
theorem mF_X1_18 : Cond.fieldLink RX1 18 "PartCells$Parts" "size" "I" ∈ UW := List.mem_filter.mpr ⟨List.mem_of_getElem? (i := 64) (by decide +kernel), by decide +kernel⟩
theorem mF_X1_22 : Cond.fieldLink RX1 22 "PartCells$Parts" "choice" "I" ∈ UW := List.mem_filter.mpr ⟨List.mem_of_getElem? (i := 65) (by decide +kernel), by decide +kernel⟩
theorem mY_X1_sets : Cond.laysFinal RX1 "PartCells$Parts" "sets" "[I" ∈ UW := List.mem_filter.mpr ⟨List.mem_of_getElem? (i := 66) (by decide +kernel), by decide +kernel⟩
theorem mY_X1_amounts : Cond.laysFinal RX1 "PartCells$Parts" "amounts" "[I" ∈ UW := List.mem_filter.mpr ⟨List.mem_of_getElem? (i := 68) (by decide +kernel), by decide +kernel⟩
theorem mY_X1_size : Cond.lays RX1 "PartCells$Parts" "size" "I" ∈ UW := List.mem_filter.mpr ⟨List.mem_of_getElem? (i := 70) (by decide +kernel), by decide +kernel⟩
theorem mY_X1_choice : Cond.lays RX1 "PartCells$Parts" "choice" "I" ∈ UW := List.mem_filter.mpr ⟨List.mem_of_getElem? (i := 72) (by decide +kernel), by decide +kernel⟩
theorem mA_int : Cond.arrayClass .int ∈ UW := List.mem_filter.mpr ⟨List.mem_of_getElem? (i := 75) (by decide +kernel), by decide +kernel⟩
theorem mL_X5_16 : Cond.classLink RX5 16 RX0 ∈ UW := List.mem_filter.mpr ⟨List.mem_of_getElem? (i := 76) (by decide +kernel), by decide +kernel⟩
theorem mO_X0 : Cond.instantiable RX0 3 ∈ UW := List.mem_filter.mpr ⟨List.mem_of_getElem? (i := 77) (by decide +kernel), by decide +kernel⟩
theorem mMN_X5_18 : Cond.methodLinkNest RX5 18 yX0_init RX5 ∈ lw_tbl := List.mem_of_getElem? (i := 78) (by decide +kernel)
theorem mI_X0_init : Cond.instanceMethod yX0_init ∈ UW := List.mem_filter.mpr ⟨List.mem_of_getElem? (i := 79) (by decide +kernel), by decide +kernel⟩
theorem mC_X0_init : Cond.code yX0_init cX0_init 1 none ∈ UW := List.mem_filter.mpr ⟨List.mem_of_getElem? (i := 80) (by decide +kernel), by decide +kernel⟩
theorem mM_X0_3 : Cond.methodLink RX0 3 objectInit ∈ UW := List.mem_filter.mpr ⟨List.mem_of_getElem? (i := 81) (by decide +kernel), by decide +kernel⟩
theorem mF_X0_9 : Cond.fieldLink RX0 9 "PartCells$Grouping" "members" "[I" ∈ UW := List.mem_filter.mpr ⟨List.mem_of_getElem? (i := 82) (by decide +kernel), by decide +kernel⟩
theorem mF_X0_19 : Cond.fieldLink RX0 19 "PartCells$Grouping" "machineCount" "I" ∈ UW := List.mem_filter.mpr ⟨List.mem_of_getElem? (i := 83) (by decide +kernel), by decide +kernel⟩
theorem mF_X0_15 : Cond.fieldLink RX0 15 "PartCells$Grouping" "number" "I" ∈ UW := List.mem_filter.mpr ⟨List.mem_of_getElem? (i := 84) (by decide +kernel), by decide +kernel⟩
theorem mY_X0_members : Cond.laysFinal RX0 "PartCells$Grouping" "members" "[I" ∈ UW := List.mem_filter.mpr ⟨List.mem_of_getElem? (i := 85) (by decide +kernel), by decide +kernel⟩
theorem mY_X0_machineCount : Cond.lays RX0 "PartCells$Grouping" "machineCount" "I" ∈ UW := List.mem_filter.mpr ⟨List.mem_of_getElem? (i := 87) (by decide +kernel), by decide +kernel⟩
theorem mY_X0_number : Cond.lays RX0 "PartCells$Grouping" "number" "I" ∈ UW := List.mem_filter.mpr ⟨List.mem_of_getElem? (i := 89) (by decide +kernel), by decide +kernel⟩
theorem mL_X5_26 : Cond.classLink RX5 26 RX3 ∈ UW := List.mem_filter.mpr ⟨List.mem_of_getElem? (i := 92) (by decide +kernel), by decide +kernel⟩
theorem mO_X3 : Cond.instantiable RX3 6 ∈ UW := List.mem_filter.mpr ⟨List.mem_of_getElem? (i := 93) (by decide +kernel), by decide +kernel⟩
theorem mMN_X5_28 : Cond.methodLinkNest RX5 28 yX3_init RX5 ∈ lw_tbl := List.mem_of_getElem? (i := 94) (by decide +kernel)
theorem mI_X3_init : Cond.instanceMethod yX3_init ∈ UW := List.mem_filter.mpr ⟨List.mem_of_getElem? (i := 95) (by decide +kernel), by decide +kernel⟩
theorem mC_X3_init : Cond.code yX3_init cX3_init 1 none ∈ UW := List.mem_filter.mpr ⟨List.mem_of_getElem? (i := 96) (by decide +kernel), by decide +kernel⟩
theorem mM_X3_3 : Cond.methodLink RX3 3 objectInit ∈ UW := List.mem_filter.mpr ⟨List.mem_of_getElem? (i := 97) (by decide +kernel), by decide +kernel⟩
theorem mF_X3_9 : Cond.fieldLink RX3 9 "PartCells$Tree" "heapOf" "[I" ∈ UW := List.mem_filter.mpr ⟨List.mem_of_getElem? (i := 98) (by decide +kernel), by decide +kernel⟩
theorem mF_X3_15 : Cond.fieldLink RX3 15 "PartCells$Tree" "machineCount" "I" ∈ UW := List.mem_filter.mpr ⟨List.mem_of_getElem? (i := 99) (by decide +kernel), by decide +kernel⟩
theorem mF_X3_26 : Cond.fieldLink RX3 26 "PartCells$Tree" "first" "I" ∈ UW := List.mem_filter.mpr ⟨List.mem_of_getElem? (i := 100) (by decide +kernel), by decide +kernel⟩
theorem mF_X3_29 : Cond.fieldLink RX3 29 "PartCells$Tree" "second" "I" ∈ UW := List.mem_filter.mpr ⟨List.mem_of_getElem? (i := 101) (by decide +kernel), by decide +kernel⟩
theorem mF_X3_32 : Cond.fieldLink RX3 32 "PartCells$Tree" "upper" "I" ∈ UW := List.mem_filter.mpr ⟨List.mem_of_getElem? (i := 102) (by decide +kernel), by decide +kernel⟩
theorem mF_X3_35 : Cond.fieldLink RX3 35 "PartCells$Tree" "lower" "I" ∈ UW := List.mem_filter.mpr ⟨List.mem_of_getElem? (i := 103) (by decide +kernel), by decide +kernel⟩
theorem mY_X3_heapOf : Cond.laysFinal RX3 "PartCells$Tree" "heapOf" "[I" ∈ UW := List.mem_filter.mpr ⟨List.mem_of_getElem? (i := 104) (by decide +kernel), by decide +kernel⟩
theorem mY_X3_machineCount : Cond.lays RX3 "PartCells$Tree" "machineCount" "I" ∈ UW := List.mem_filter.mpr ⟨List.mem_of_getElem? (i := 106) (by decide +kernel), by decide +kernel⟩
theorem mY_X3_first : Cond.lays RX3 "PartCells$Tree" "first" "I" ∈ UW := List.mem_filter.mpr ⟨List.mem_of_getElem? (i := 108) (by decide +kernel), by decide +kernel⟩
theorem mY_X3_second : Cond.lays RX3 "PartCells$Tree" "second" "I" ∈ UW := List.mem_filter.mpr ⟨List.mem_of_getElem? (i := 110) (by decide +kernel), by decide +kernel⟩
theorem mY_X3_upper : Cond.lays RX3 "PartCells$Tree" "upper" "I" ∈ UW := List.mem_filter.mpr ⟨List.mem_of_getElem? (i := 112) (by decide +kernel), by decide +kernel⟩
theorem mY_X3_lower : Cond.lays RX3 "PartCells$Tree" "lower" "I" ∈ UW := List.mem_filter.mpr ⟨List.mem_of_getElem? (i := 114) (by decide +kernel), by decide +kernel⟩
theorem mL_X5_33 : Cond.classLink RX5 33 RX2 ∈ UW := List.mem_filter.mpr ⟨List.mem_of_getElem? (i := 117) (by decide +kernel), by decide +kernel⟩
theorem mO_X2 : Cond.instantiable RX2 2 ∈ UW := List.mem_filter.mpr ⟨List.mem_of_getElem? (i := 118) (by decide +kernel), by decide +kernel⟩
theorem mMN_X5_35 : Cond.methodLinkNest RX5 35 yX2_init RX5 ∈ lw_tbl := List.mem_of_getElem? (i := 119) (by decide +kernel)
theorem mI_X2_init : Cond.instanceMethod yX2_init ∈ UW := List.mem_filter.mpr ⟨List.mem_of_getElem? (i := 120) (by decide +kernel), by decide +kernel⟩
theorem mC_X2_init : Cond.code yX2_init cX2_init 1 none ∈ UW := List.mem_filter.mpr ⟨List.mem_of_getElem? (i := 121) (by decide +kernel), by decide +kernel⟩
theorem mM_X2_3 : Cond.methodLink RX2 3 objectInit ∈ UW := List.mem_filter.mpr ⟨List.mem_of_getElem? (i := 122) (by decide +kernel), by decide +kernel⟩
theorem mF_X2_9 : Cond.fieldLink RX2 9 "PartCells$Row" "trips" "[I" ∈ UW := List.mem_filter.mpr ⟨List.mem_of_getElem? (i := 123) (by decide +kernel), by decide +kernel⟩
theorem mF_X2_15 : Cond.fieldLink RX2 15 "PartCells$Row" "placeOf" "[I" ∈ UW := List.mem_filter.mpr ⟨List.mem_of_getElem? (i := 124) (by decide +kernel), by decide +kernel⟩
theorem mY_X2_trips : Cond.laysFinal RX2 "PartCells$Row" "trips" "[I" ∈ UW := List.mem_filter.mpr ⟨List.mem_of_getElem? (i := 125) (by decide +kernel), by decide +kernel⟩
theorem mY_X2_placeOf : Cond.laysFinal RX2 "PartCells$Row" "placeOf" "[I" ∈ UW := List.mem_filter.mpr ⟨List.mem_of_getElem? (i := 127) (by decide +kernel), by decide +kernel⟩
theorem mL_X5_40 : Cond.classLink RX5 40 RX4 ∈ UW := List.mem_filter.mpr ⟨List.mem_of_getElem? (i := 130) (by decide +kernel), by decide +kernel⟩
theorem mO_X4 : Cond.instantiable RX4 5 ∈ UW := List.mem_filter.mpr ⟨List.mem_of_getElem? (i := 131) (by decide +kernel), by decide +kernel⟩
theorem mMN_X5_42 : Cond.methodLinkNest RX5 42 yX4_init RX5 ∈ lw_tbl := List.mem_of_getElem? (i := 132) (by decide +kernel)
theorem mI_X4_init : Cond.instanceMethod yX4_init ∈ UW := List.mem_filter.mpr ⟨List.mem_of_getElem? (i := 133) (by decide +kernel), by decide +kernel⟩
theorem mC_X4_init : Cond.code yX4_init cX4_init 1 none ∈ UW := List.mem_filter.mpr ⟨List.mem_of_getElem? (i := 134) (by decide +kernel), by decide +kernel⟩
theorem mM_X4_3 : Cond.methodLink RX4 3 objectInit ∈ UW := List.mem_filter.mpr ⟨List.mem_of_getElem? (i := 135) (by decide +kernel), by decide +kernel⟩
theorem mF_X4_9 : Cond.fieldLink RX4 9 "PartCells$Years" "weights" "[I" ∈ UW := List.mem_filter.mpr ⟨List.mem_of_getElem? (i := 136) (by decide +kernel), by decide +kernel⟩
theorem mF_X4_15 : Cond.fieldLink RX4 15 "PartCells$Years" "costs" "[I" ∈ UW := List.mem_filter.mpr ⟨List.mem_of_getElem? (i := 137) (by decide +kernel), by decide +kernel⟩
theorem mF_X4_18 : Cond.fieldLink RX4 18 "PartCells$Years" "nextCosts" "[I" ∈ UW := List.mem_filter.mpr ⟨List.mem_of_getElem? (i := 138) (by decide +kernel), by decide +kernel⟩
theorem mF_X4_25 : Cond.fieldLink RX4 25 "PartCells$Years" "size" "I" ∈ UW := List.mem_filter.mpr ⟨List.mem_of_getElem? (i := 139) (by decide +kernel), by decide +kernel⟩
theorem mF_X4_21 : Cond.fieldLink RX4 21 "PartCells$Years" "moveCost" "I" ∈ UW := List.mem_filter.mpr ⟨List.mem_of_getElem? (i := 140) (by decide +kernel), by decide +kernel⟩
theorem mY_X4_weights : Cond.laysFinal RX4 "PartCells$Years" "weights" "[I" ∈ UW := List.mem_filter.mpr ⟨List.mem_of_getElem? (i := 141) (by decide +kernel), by decide +kernel⟩
theorem mY_X4_costs : Cond.laysFinal RX4 "PartCells$Years" "costs" "[I" ∈ UW := List.mem_filter.mpr ⟨List.mem_of_getElem? (i := 143) (by decide +kernel), by decide +kernel⟩
theorem mY_X4_nextCosts : Cond.laysFinal RX4 "PartCells$Years" "nextCosts" "[I" ∈ UW := List.mem_filter.mpr ⟨List.mem_of_getElem? (i := 145) (by decide +kernel), by decide +kernel⟩
theorem mY_X4_size : Cond.lays RX4 "PartCells$Years" "size" "I" ∈ UW := List.mem_filter.mpr ⟨List.mem_of_getElem? (i := 147) (by decide +kernel), by decide +kernel⟩
theorem mY_X4_moveCost : Cond.lays RX4 "PartCells$Years" "moveCost" "I" ∈ UW := List.mem_filter.mpr ⟨List.mem_of_getElem? (i := 149) (by decide +kernel), by decide +kernel⟩
theorem mM_X5_63 : Cond.methodLink RX5 63 yX5_begin ∈ UW := List.mem_filter.mpr ⟨List.mem_of_getElem? (i := 152) (by decide +kernel), by decide +kernel⟩
theorem mI_X5_begin : Cond.instanceMethod yX5_begin ∈ UW := List.mem_filter.mpr ⟨List.mem_of_getElem? (i := 154) (by decide +kernel), by decide +kernel⟩
theorem mC_X5_begin : Cond.code yX5_begin cX5_begin 3 none ∈ UW := List.mem_filter.mpr ⟨List.mem_of_getElem? (i := 155) (by decide +kernel), by decide +kernel⟩
theorem mM_X5_238 : Cond.methodLink RX5 238 yX1_begin ∈ UW := List.mem_filter.mpr ⟨List.mem_of_getElem? (i := 156) (by decide +kernel), by decide +kernel⟩
theorem mI_X1_begin : Cond.instanceMethod yX1_begin ∈ UW := List.mem_filter.mpr ⟨List.mem_of_getElem? (i := 157) (by decide +kernel), by decide +kernel⟩
theorem mS_X1_begin : Cond.selects RX1 yX1_begin yX1_begin ∈ UW := List.mem_filter.mpr ⟨List.mem_of_getElem? (i := 158) (by decide +kernel), by decide +kernel⟩
theorem mC_X1_begin : Cond.code yX1_begin cX1_begin 2 none ∈ UW := List.mem_filter.mpr ⟨List.mem_of_getElem? (i := 159) (by decide +kernel), by decide +kernel⟩
theorem mM_X1_25 : Cond.methodLink RX1 25 yJ7_fill_53178 ∈ UW := List.mem_filter.mpr ⟨List.mem_of_getElem? (i := 160) (by decide +kernel), by decide +kernel⟩
theorem mT_J7_fill_53178 : Cond.static yJ7_fill_53178 ∈ UW := List.mem_filter.mpr ⟨List.mem_of_getElem? (i := 161) (by decide +kernel), by decide +kernel⟩
theorem mC_J7_fill_53178 : Cond.code yJ7_fill_53178 cJ7_fill_53178 4 none ∈ UW := List.mem_filter.mpr ⟨List.mem_of_getElem? (i := 162) (by decide +kernel), by decide +kernel⟩
theorem mM_X5_119 : Cond.methodLink RX5 119 yX0_become ∈ UW := List.mem_filter.mpr ⟨List.mem_of_getElem? (i := 163) (by decide +kernel), by decide +kernel⟩
theorem mI_X0_become : Cond.instanceMethod yX0_become ∈ UW := List.mem_filter.mpr ⟨List.mem_of_getElem? (i := 164) (by decide +kernel), by decide +kernel⟩
theorem mS_X0_become : Cond.selects RX0 yX0_become yX0_become ∈ UW := List.mem_filter.mpr ⟨List.mem_of_getElem? (i := 165) (by decide +kernel), by decide +kernel⟩
theorem mC_X0_become : Cond.code yX0_become cX0_become 4 none ∈ UW := List.mem_filter.mpr ⟨List.mem_of_getElem? (i := 166) (by decide +kernel), by decide +kernel⟩
theorem mM_X0_22 : Cond.methodLink RX0 22 yJ7_fill_53178 ∈ UW := List.mem_filter.mpr ⟨List.mem_of_getElem? (i := 167) (by decide +kernel), by decide +kernel⟩
theorem mM_X0_28 : Cond.methodLink RX0 28 yX0_cellOf ∈ UW := List.mem_filter.mpr ⟨List.mem_of_getElem? (i := 168) (by decide +kernel), by decide +kernel⟩
theorem mI_X0_cellOf : Cond.instanceMethod yX0_cellOf ∈ UW := List.mem_filter.mpr ⟨List.mem_of_getElem? (i := 169) (by decide +kernel), by decide +kernel⟩
theorem mS_X0_cellOf : Cond.selects RX0 yX0_cellOf yX0_cellOf ∈ UW := List.mem_filter.mpr ⟨List.mem_of_getElem? (i := 170) (by decide +kernel), by decide +kernel⟩
theorem mC_X0_cellOf : Cond.code yX0_cellOf cX0_cellOf 2 (some .int) ∈ UW := List.mem_filter.mpr ⟨List.mem_of_getElem? (i := 171) (by decide +kernel), by decide +kernel⟩
theorem mM_X5_191 : Cond.methodLink RX5 191 yJ7_fill_53178 ∈ UW := List.mem_filter.mpr ⟨List.mem_of_getElem? (i := 172) (by decide +kernel), by decide +kernel⟩
theorem mF_X5_10 : Cond.fieldLink RX5 10 "PartCells" "parts" "LPartCells$Parts;" ∈ UW := List.mem_filter.mpr ⟨List.mem_of_getElem? (i := 173) (by decide +kernel), by decide +kernel⟩
theorem mF_X5_19 : Cond.fieldLink RX5 19 "PartCells" "atHand" "LPartCells$Grouping;" ∈ UW := List.mem_filter.mpr ⟨List.mem_of_getElem? (i := 174) (by decide +kernel), by decide +kernel⟩
theorem mF_X5_23 : Cond.fieldLink RX5 23 "PartCells" "trial" "LPartCells$Grouping;" ∈ UW := List.mem_filter.mpr ⟨List.mem_of_getElem? (i := 175) (by decide +kernel), by decide +kernel⟩
theorem mF_X5_29 : Cond.fieldLink RX5 29 "PartCells" "tree" "LPartCells$Tree;" ∈ UW := List.mem_filter.mpr ⟨List.mem_of_getElem? (i := 176) (by decide +kernel), by decide +kernel⟩
theorem mF_X5_36 : Cond.fieldLink RX5 36 "PartCells" "row" "LPartCells$Row;" ∈ UW := List.mem_filter.mpr ⟨List.mem_of_getElem? (i := 177) (by decide +kernel), by decide +kernel⟩
theorem mF_X5_43 : Cond.fieldLink RX5 43 "PartCells" "years" "LPartCells$Years;" ∈ UW := List.mem_filter.mpr ⟨List.mem_of_getElem? (i := 178) (by decide +kernel), by decide +kernel⟩
theorem mF_X5_47 : Cond.fieldLink RX5 47 "PartCells" "borne" "[I" ∈ UW := List.mem_filter.mpr ⟨List.mem_of_getElem? (i := 179) (by decide +kernel), by decide +kernel⟩
theorem mF_X5_51 : Cond.fieldLink RX5 51 "PartCells" "prices" "[I" ∈ UW := List.mem_filter.mpr ⟨List.mem_of_getElem? (i := 180) (by decide +kernel), by decide +kernel⟩
theorem mF_X5_54 : Cond.fieldLink RX5 54 "PartCells" "shelves" "[I" ∈ UW := List.mem_filter.mpr ⟨List.mem_of_getElem? (i := 181) (by decide +kernel), by decide +kernel⟩
theorem mF_X5_57 : Cond.fieldLink RX5 57 "PartCells" "shelfWander" "[I" ∈ UW := List.mem_filter.mpr ⟨List.mem_of_getElem? (i := 182) (by decide +kernel), by decide +kernel⟩
theorem mF_X5_60 : Cond.fieldLink RX5 60 "PartCells" "savedBy" "[I" ∈ UW := List.mem_filter.mpr ⟨List.mem_of_getElem? (i := 183) (by decide +kernel), by decide +kernel⟩
theorem mF_X5_71 : Cond.fieldLink RX5 71 "PartCells" "machines" "I" ∈ UW := List.mem_filter.mpr ⟨List.mem_of_getElem? (i := 184) (by decide +kernel), by decide +kernel⟩
theorem mF_X5_151 : Cond.fieldLink RX5 151 "PartCells" "bestNumber" "I" ∈ UW := List.mem_filter.mpr ⟨List.mem_of_getElem? (i := 185) (by decide +kernel), by decide +kernel⟩
theorem mF_X5_154 : Cond.fieldLink RX5 154 "PartCells" "bestLoss" "I" ∈ UW := List.mem_filter.mpr ⟨List.mem_of_getElem? (i := 186) (by decide +kernel), by decide +kernel⟩
theorem mF_X5_137 : Cond.fieldLink RX5 137 "PartCells" "traced" "J" ∈ UW := List.mem_filter.mpr ⟨List.mem_of_getElem? (i := 187) (by decide +kernel), by decide +kernel⟩
theorem mY_X5_parts : Cond.laysFinal RX5 "PartCells" "parts" "LPartCells$Parts;" ∈ UW := List.mem_filter.mpr ⟨List.mem_of_getElem? (i := 188) (by decide +kernel), by decide +kernel⟩
theorem mY_X5_atHand : Cond.laysFinal RX5 "PartCells" "atHand" "LPartCells$Grouping;" ∈ UW := List.mem_filter.mpr ⟨List.mem_of_getElem? (i := 190) (by decide +kernel), by decide +kernel⟩
theorem mY_X5_trial : Cond.laysFinal RX5 "PartCells" "trial" "LPartCells$Grouping;" ∈ UW := List.mem_filter.mpr ⟨List.mem_of_getElem? (i := 192) (by decide +kernel), by decide +kernel⟩
theorem mY_X5_tree : Cond.laysFinal RX5 "PartCells" "tree" "LPartCells$Tree;" ∈ UW := List.mem_filter.mpr ⟨List.mem_of_getElem? (i := 194) (by decide +kernel), by decide +kernel⟩
theorem mY_X5_row : Cond.laysFinal RX5 "PartCells" "row" "LPartCells$Row;" ∈ UW := List.mem_filter.mpr ⟨List.mem_of_getElem? (i := 196) (by decide +kernel), by decide +kernel⟩
theorem mY_X5_years : Cond.laysFinal RX5 "PartCells" "years" "LPartCells$Years;" ∈ UW := List.mem_filter.mpr ⟨List.mem_of_getElem? (i := 198) (by decide +kernel), by decide +kernel⟩
theorem mY_X5_borne : Cond.laysFinal RX5 "PartCells" "borne" "[I" ∈ UW := List.mem_filter.mpr ⟨List.mem_of_getElem? (i := 200) (by decide +kernel), by decide +kernel⟩
theorem mY_X5_prices : Cond.laysFinal RX5 "PartCells" "prices" "[I" ∈ UW := List.mem_filter.mpr ⟨List.mem_of_getElem? (i := 202) (by decide +kernel), by decide +kernel⟩
theorem mY_X5_shelves : Cond.laysFinal RX5 "PartCells" "shelves" "[I" ∈ UW := List.mem_filter.mpr ⟨List.mem_of_getElem? (i := 204) (by decide +kernel), by decide +kernel⟩
theorem mY_X5_shelfWander : Cond.laysFinal RX5 "PartCells" "shelfWander" "[I" ∈ UW := List.mem_filter.mpr ⟨List.mem_of_getElem? (i := 206) (by decide +kernel), by decide +kernel⟩
theorem mY_X5_savedBy : Cond.laysFinal RX5 "PartCells" "savedBy" "[I" ∈ UW := List.mem_filter.mpr ⟨List.mem_of_getElem? (i := 208) (by decide +kernel), by decide +kernel⟩
theorem mY_X5_machines : Cond.lays RX5 "PartCells" "machines" "I" ∈ UW := List.mem_filter.mpr ⟨List.mem_of_getElem? (i := 210) (by decide +kernel), by decide +kernel⟩
theorem mY_X5_bestNumber : Cond.lays RX5 "PartCells" "bestNumber" "I" ∈ UW := List.mem_filter.mpr ⟨List.mem_of_getElem? (i := 212) (by decide +kernel), by decide +kernel⟩
theorem mY_X5_bestLoss : Cond.lays RX5 "PartCells" "bestLoss" "I" ∈ UW := List.mem_filter.mpr ⟨List.mem_of_getElem? (i := 214) (by decide +kernel), by decide +kernel⟩
theorem mY_X5_traced : Cond.lays RX5 "PartCells" "traced" "J" ∈ UW := List.mem_filter.mpr ⟨List.mem_of_getElem? (i := 216) (by decide +kernel), by decide +kernel⟩
theorem mM_L_13 : Cond.methodLink RL 13 yX5_works ∈ UW := List.mem_filter.mpr ⟨List.mem_of_getElem? (i := 219) (by decide +kernel), by decide +kernel⟩
theorem mI_X5_works : Cond.instanceMethod yX5_works ∈ UW := List.mem_filter.mpr ⟨List.mem_of_getElem? (i := 220) (by decide +kernel), by decide +kernel⟩
theorem mS_X5_works : Cond.selects RX5 yX5_works yX5_works ∈ UW := List.mem_filter.mpr ⟨List.mem_of_getElem? (i := 221) (by decide +kernel), by decide +kernel⟩
theorem mC_X5_works : Cond.code yX5_works cX5_works 4 (some .int) ∈ UW := List.mem_filter.mpr ⟨List.mem_of_getElem? (i := 222) (by decide +kernel), by decide +kernel⟩
theorem mM_X5_67 : Cond.methodLink RX5 67 yX5_isWithin ∈ UW := List.mem_filter.mpr ⟨List.mem_of_getElem? (i := 223) (by decide +kernel), by decide +kernel⟩
theorem mT_X5_isWithin : Cond.static yX5_isWithin ∈ UW := List.mem_filter.mpr ⟨List.mem_of_getElem? (i := 224) (by decide +kernel), by decide +kernel⟩
theorem mC_X5_isWithin : Cond.code yX5_isWithin cX5_isWithin 3 (some .boolean) ∈ UW := List.mem_filter.mpr ⟨List.mem_of_getElem? (i := 225) (by decide +kernel), by decide +kernel⟩
theorem mM_L_18 : Cond.methodLink RL 18 yX5_route ∈ UW := List.mem_filter.mpr ⟨List.mem_of_getElem? (i := 226) (by decide +kernel), by decide +kernel⟩
theorem mI_X5_route : Cond.instanceMethod yX5_route ∈ UW := List.mem_filter.mpr ⟨List.mem_of_getElem? (i := 227) (by decide +kernel), by decide +kernel⟩
theorem mS_X5_route : Cond.selects RX5 yX5_route yX5_route ∈ UW := List.mem_filter.mpr ⟨List.mem_of_getElem? (i := 228) (by decide +kernel), by decide +kernel⟩
theorem mC_X5_route : Cond.code yX5_route cX5_route 5 (some .int) ∈ UW := List.mem_filter.mpr ⟨List.mem_of_getElem? (i := 229) (by decide +kernel), by decide +kernel⟩
theorem mM_X5_75 : Cond.methodLink RX5 75 yX5_isPart ∈ UW := List.mem_filter.mpr ⟨List.mem_of_getElem? (i := 230) (by decide +kernel), by decide +kernel⟩
theorem mI_X5_isPart : Cond.instanceMethod yX5_isPart ∈ UW := List.mem_filter.mpr ⟨List.mem_of_getElem? (i := 232) (by decide +kernel), by decide +kernel⟩
theorem mC_X5_isPart : Cond.code yX5_isPart cX5_isPart 2 (some .boolean) ∈ UW := List.mem_filter.mpr ⟨List.mem_of_getElem? (i := 233) (by decide +kernel), by decide +kernel⟩
theorem mM_X5_237 : Cond.methodLink RX5 237 yX1_howMany ∈ UW := List.mem_filter.mpr ⟨List.mem_of_getElem? (i := 234) (by decide +kernel), by decide +kernel⟩
theorem mI_X1_howMany : Cond.instanceMethod yX1_howMany ∈ UW := List.mem_filter.mpr ⟨List.mem_of_getElem? (i := 235) (by decide +kernel), by decide +kernel⟩
theorem mS_X1_howMany : Cond.selects RX1 yX1_howMany yX1_howMany ∈ UW := List.mem_filter.mpr ⟨List.mem_of_getElem? (i := 236) (by decide +kernel), by decide +kernel⟩
theorem mC_X1_howMany : Cond.code yX1_howMany cX1_howMany 1 (some .int) ∈ UW := List.mem_filter.mpr ⟨List.mem_of_getElem? (i := 237) (by decide +kernel), by decide +kernel⟩
theorem mM_X5_79 : Cond.methodLink RX5 79 yX1_routeSet ∈ UW := List.mem_filter.mpr ⟨List.mem_of_getElem? (i := 238) (by decide +kernel), by decide +kernel⟩
theorem mI_X1_routeSet : Cond.instanceMethod yX1_routeSet ∈ UW := List.mem_filter.mpr ⟨List.mem_of_getElem? (i := 239) (by decide +kernel), by decide +kernel⟩
theorem mS_X1_routeSet : Cond.selects RX1 yX1_routeSet yX1_routeSet ∈ UW := List.mem_filter.mpr ⟨List.mem_of_getElem? (i := 240) (by decide +kernel), by decide +kernel⟩
theorem mC_X1_routeSet : Cond.code yX1_routeSet cX1_routeSet 3 (some .int) ∈ UW := List.mem_filter.mpr ⟨List.mem_of_getElem? (i := 241) (by decide +kernel), by decide +kernel⟩
theorem mM_X5_83 : Cond.methodLink RX5 83 yX1_putRouteSet ∈ UW := List.mem_filter.mpr ⟨List.mem_of_getElem? (i := 242) (by decide +kernel), by decide +kernel⟩
theorem mI_X1_putRouteSet : Cond.instanceMethod yX1_putRouteSet ∈ UW := List.mem_filter.mpr ⟨List.mem_of_getElem? (i := 243) (by decide +kernel), by decide +kernel⟩
theorem mS_X1_putRouteSet : Cond.selects RX1 yX1_putRouteSet yX1_putRouteSet ∈ UW := List.mem_filter.mpr ⟨List.mem_of_getElem? (i := 244) (by decide +kernel), by decide +kernel⟩
theorem mC_X1_putRouteSet : Cond.code yX1_putRouteSet cX1_putRouteSet 4 none ∈ UW := List.mem_filter.mpr ⟨List.mem_of_getElem? (i := 245) (by decide +kernel), by decide +kernel⟩
theorem mM_L_23 : Cond.methodLink RL 23 yX5_goes ∈ UW := List.mem_filter.mpr ⟨List.mem_of_getElem? (i := 246) (by decide +kernel), by decide +kernel⟩
theorem mI_X5_goes : Cond.instanceMethod yX5_goes ∈ UW := List.mem_filter.mpr ⟨List.mem_of_getElem? (i := 247) (by decide +kernel), by decide +kernel⟩
theorem mS_X5_goes : Cond.selects RX5 yX5_goes yX5_goes ∈ UW := List.mem_filter.mpr ⟨List.mem_of_getElem? (i := 248) (by decide +kernel), by decide +kernel⟩
theorem mC_X5_goes : Cond.code yX5_goes cX5_goes 4 (some .int) ∈ UW := List.mem_filter.mpr ⟨List.mem_of_getElem? (i := 249) (by decide +kernel), by decide +kernel⟩
theorem mM_X5_87 : Cond.methodLink RX5 87 yX1_chosenBy ∈ UW := List.mem_filter.mpr ⟨List.mem_of_getElem? (i := 250) (by decide +kernel), by decide +kernel⟩
theorem mI_X1_chosenBy : Cond.instanceMethod yX1_chosenBy ∈ UW := List.mem_filter.mpr ⟨List.mem_of_getElem? (i := 251) (by decide +kernel), by decide +kernel⟩
theorem mS_X1_chosenBy : Cond.selects RX1 yX1_chosenBy yX1_chosenBy ∈ UW := List.mem_filter.mpr ⟨List.mem_of_getElem? (i := 252) (by decide +kernel), by decide +kernel⟩
theorem mC_X1_chosenBy : Cond.code yX1_chosenBy cX1_chosenBy 2 (some .int) ∈ UW := List.mem_filter.mpr ⟨List.mem_of_getElem? (i := 253) (by decide +kernel), by decide +kernel⟩
theorem mM_X5_91 : Cond.methodLink RX5 91 yX1_choose ∈ UW := List.mem_filter.mpr ⟨List.mem_of_getElem? (i := 254) (by decide +kernel), by decide +kernel⟩
theorem mI_X1_choose : Cond.instanceMethod yX1_choose ∈ UW := List.mem_filter.mpr ⟨List.mem_of_getElem? (i := 255) (by decide +kernel), by decide +kernel⟩
theorem mS_X1_choose : Cond.selects RX1 yX1_choose yX1_choose ∈ UW := List.mem_filter.mpr ⟨List.mem_of_getElem? (i := 256) (by decide +kernel), by decide +kernel⟩
theorem mC_X1_choose : Cond.code yX1_choose cX1_choose 3 none ∈ UW := List.mem_filter.mpr ⟨List.mem_of_getElem? (i := 257) (by decide +kernel), by decide +kernel⟩
theorem mM_L_27 : Cond.methodLink RL 27 yX5_pieces ∈ UW := List.mem_filter.mpr ⟨List.mem_of_getElem? (i := 258) (by decide +kernel), by decide +kernel⟩
theorem mI_X5_pieces : Cond.instanceMethod yX5_pieces ∈ UW := List.mem_filter.mpr ⟨List.mem_of_getElem? (i := 259) (by decide +kernel), by decide +kernel⟩
theorem mS_X5_pieces : Cond.selects RX5 yX5_pieces yX5_pieces ∈ UW := List.mem_filter.mpr ⟨List.mem_of_getElem? (i := 260) (by decide +kernel), by decide +kernel⟩
theorem mC_X5_pieces : Cond.code yX5_pieces cX5_pieces 4 (some .int) ∈ UW := List.mem_filter.mpr ⟨List.mem_of_getElem? (i := 261) (by decide +kernel), by decide +kernel⟩
theorem mM_X5_94 : Cond.methodLink RX5 94 yX1_piecesOf ∈ UW := List.mem_filter.mpr ⟨List.mem_of_getElem? (i := 262) (by decide +kernel), by decide +kernel⟩
theorem mI_X1_piecesOf : Cond.instanceMethod yX1_piecesOf ∈ UW := List.mem_filter.mpr ⟨List.mem_of_getElem? (i := 263) (by decide +kernel), by decide +kernel⟩
theorem mS_X1_piecesOf : Cond.selects RX1 yX1_piecesOf yX1_piecesOf ∈ UW := List.mem_filter.mpr ⟨List.mem_of_getElem? (i := 264) (by decide +kernel), by decide +kernel⟩
theorem mC_X1_piecesOf : Cond.code yX1_piecesOf cX1_piecesOf 2 (some .int) ∈ UW := List.mem_filter.mpr ⟨List.mem_of_getElem? (i := 265) (by decide +kernel), by decide +kernel⟩
theorem mM_X5_97 : Cond.methodLink RX5 97 yX1_putPieces ∈ UW := List.mem_filter.mpr ⟨List.mem_of_getElem? (i := 266) (by decide +kernel), by decide +kernel⟩
theorem mI_X1_putPieces : Cond.instanceMethod yX1_putPieces ∈ UW := List.mem_filter.mpr ⟨List.mem_of_getElem? (i := 267) (by decide +kernel), by decide +kernel⟩
theorem mS_X1_putPieces : Cond.selects RX1 yX1_putPieces yX1_putPieces ∈ UW := List.mem_filter.mpr ⟨List.mem_of_getElem? (i := 268) (by decide +kernel), by decide +kernel⟩
theorem mC_X1_putPieces : Cond.code yX1_putPieces cX1_putPieces 3 none ∈ UW := List.mem_filter.mpr ⟨List.mem_of_getElem? (i := 269) (by decide +kernel), by decide +kernel⟩
theorem mM_L_31 : Cond.methodLink RL 31 yX5_cell ∈ UW := List.mem_filter.mpr ⟨List.mem_of_getElem? (i := 270) (by decide +kernel), by decide +kernel⟩
theorem mI_X5_cell : Cond.instanceMethod yX5_cell ∈ UW := List.mem_filter.mpr ⟨List.mem_of_getElem? (i := 271) (by decide +kernel), by decide +kernel⟩
theorem mS_X5_cell : Cond.selects RX5 yX5_cell yX5_cell ∈ UW := List.mem_filter.mpr ⟨List.mem_of_getElem? (i := 272) (by decide +kernel), by decide +kernel⟩
theorem mC_X5_cell : Cond.code yX5_cell cX5_cell 4 (some .int) ∈ UW := List.mem_filter.mpr ⟨List.mem_of_getElem? (i := 273) (by decide +kernel), by decide +kernel⟩
theorem mM_X5_100 : Cond.methodLink RX5 100 yX5_isMachine ∈ UW := List.mem_filter.mpr ⟨List.mem_of_getElem? (i := 274) (by decide +kernel), by decide +kernel⟩
theorem mI_X5_isMachine : Cond.instanceMethod yX5_isMachine ∈ UW := List.mem_filter.mpr ⟨List.mem_of_getElem? (i := 276) (by decide +kernel), by decide +kernel⟩
theorem mC_X5_isMachine : Cond.code yX5_isMachine cX5_isMachine 2 (some .boolean) ∈ UW := List.mem_filter.mpr ⟨List.mem_of_getElem? (i := 277) (by decide +kernel), by decide +kernel⟩
theorem mM_X5_103 : Cond.methodLink RX5 103 yX5_isCell ∈ UW := List.mem_filter.mpr ⟨List.mem_of_getElem? (i := 278) (by decide +kernel), by decide +kernel⟩
theorem mT_X5_isCell : Cond.static yX5_isCell ∈ UW := List.mem_filter.mpr ⟨List.mem_of_getElem? (i := 279) (by decide +kernel), by decide +kernel⟩
theorem mC_X5_isCell : Cond.code yX5_isCell cX5_isCell 1 (some .boolean) ∈ UW := List.mem_filter.mpr ⟨List.mem_of_getElem? (i := 280) (by decide +kernel), by decide +kernel⟩
theorem mM_X5_106 : Cond.methodLink RX5 106 yX0_cellOf ∈ UW := List.mem_filter.mpr ⟨List.mem_of_getElem? (i := 281) (by decide +kernel), by decide +kernel⟩
theorem mM_X5_109 : Cond.methodLink RX5 109 yX0_put ∈ UW := List.mem_filter.mpr ⟨List.mem_of_getElem? (i := 282) (by decide +kernel), by decide +kernel⟩
theorem mI_X0_put : Cond.instanceMethod yX0_put ∈ UW := List.mem_filter.mpr ⟨List.mem_of_getElem? (i := 283) (by decide +kernel), by decide +kernel⟩
theorem mS_X0_put : Cond.selects RX0 yX0_put yX0_put ∈ UW := List.mem_filter.mpr ⟨List.mem_of_getElem? (i := 284) (by decide +kernel), by decide +kernel⟩
theorem mC_X0_put : Cond.code yX0_put cX0_put 4 none ∈ UW := List.mem_filter.mpr ⟨List.mem_of_getElem? (i := 285) (by decide +kernel), by decide +kernel⟩
theorem mM_X0_32 : Cond.methodLink RX0 32 yX0_become ∈ UW := List.mem_filter.mpr ⟨List.mem_of_getElem? (i := 286) (by decide +kernel), by decide +kernel⟩
theorem mM_L_35 : Cond.methodLink RL 35 yX5_group ∈ UW := List.mem_filter.mpr ⟨List.mem_of_getElem? (i := 287) (by decide +kernel), by decide +kernel⟩
theorem mI_X5_group : Cond.instanceMethod yX5_group ∈ UW := List.mem_filter.mpr ⟨List.mem_of_getElem? (i := 288) (by decide +kernel), by decide +kernel⟩
theorem mS_X5_group : Cond.selects RX5 yX5_group yX5_group ∈ UW := List.mem_filter.mpr ⟨List.mem_of_getElem? (i := 289) (by decide +kernel), by decide +kernel⟩
theorem mC_X5_group : Cond.code yX5_group cX5_group 3 (some .int) ∈ UW := List.mem_filter.mpr ⟨List.mem_of_getElem? (i := 290) (by decide +kernel), by decide +kernel⟩
theorem mM_X5_112 : Cond.methodLink RX5 112 yX5_groupings ∈ UW := List.mem_filter.mpr ⟨List.mem_of_getElem? (i := 291) (by decide +kernel), by decide +kernel⟩
theorem mI_X5_groupings : Cond.instanceMethod yX5_groupings ∈ UW := List.mem_filter.mpr ⟨List.mem_of_getElem? (i := 293) (by decide +kernel), by decide +kernel⟩
theorem mC_X5_groupings : Cond.code yX5_groupings cX5_groupings 1 (some .int) ∈ UW := List.mem_filter.mpr ⟨List.mem_of_getElem? (i := 294) (by decide +kernel), by decide +kernel⟩
theorem mM_X5_116 : Cond.methodLink RX5 116 yX0_numbered ∈ UW := List.mem_filter.mpr ⟨List.mem_of_getElem? (i := 295) (by decide +kernel), by decide +kernel⟩
theorem mI_X0_numbered : Cond.instanceMethod yX0_numbered ∈ UW := List.mem_filter.mpr ⟨List.mem_of_getElem? (i := 296) (by decide +kernel), by decide +kernel⟩
theorem mS_X0_numbered : Cond.selects RX0 yX0_numbered yX0_numbered ∈ UW := List.mem_filter.mpr ⟨List.mem_of_getElem? (i := 297) (by decide +kernel), by decide +kernel⟩
theorem mC_X0_numbered : Cond.code yX0_numbered cX0_numbered 1 (some .int) ∈ UW := List.mem_filter.mpr ⟨List.mem_of_getElem? (i := 298) (by decide +kernel), by decide +kernel⟩
theorem mM_L_40 : Cond.methodLink RL 40 yX5_about ∈ UW := List.mem_filter.mpr ⟨List.mem_of_getElem? (i := 299) (by decide +kernel), by decide +kernel⟩
theorem mI_X5_about : Cond.instanceMethod yX5_about ∈ UW := List.mem_filter.mpr ⟨List.mem_of_getElem? (i := 300) (by decide +kernel), by decide +kernel⟩
theorem mS_X5_about : Cond.selects RX5 yX5_about yX5_about ∈ UW := List.mem_filter.mpr ⟨List.mem_of_getElem? (i := 301) (by decide +kernel), by decide +kernel⟩
theorem mC_X5_about : Cond.code yX5_about cX5_about 4 (some .int) ∈ UW := List.mem_filter.mpr ⟨List.mem_of_getElem? (i := 302) (by decide +kernel), by decide +kernel⟩
theorem mM_X5_122 : Cond.methodLink RX5 122 yX1_setOf ∈ UW := List.mem_filter.mpr ⟨List.mem_of_getElem? (i := 303) (by decide +kernel), by decide +kernel⟩
theorem mI_X1_setOf : Cond.instanceMethod yX1_setOf ∈ UW := List.mem_filter.mpr ⟨List.mem_of_getElem? (i := 304) (by decide +kernel), by decide +kernel⟩
theorem mS_X1_setOf : Cond.selects RX1 yX1_setOf yX1_setOf ∈ UW := List.mem_filter.mpr ⟨List.mem_of_getElem? (i := 305) (by decide +kernel), by decide +kernel⟩
theorem mC_X1_setOf : Cond.code yX1_setOf cX1_setOf 2 (some .int) ∈ UW := List.mem_filter.mpr ⟨List.mem_of_getElem? (i := 306) (by decide +kernel), by decide +kernel⟩
theorem mM_X1_31 : Cond.methodLink RX1 31 yX1_setBy ∈ UW := List.mem_filter.mpr ⟨List.mem_of_getElem? (i := 307) (by decide +kernel), by decide +kernel⟩
theorem mI_X1_setBy : Cond.instanceMethod yX1_setBy ∈ UW := List.mem_filter.mpr ⟨List.mem_of_getElem? (i := 309) (by decide +kernel), by decide +kernel⟩
theorem mC_X1_setBy : Cond.code yX1_setBy cX1_setBy 3 (some .int) ∈ UW := List.mem_filter.mpr ⟨List.mem_of_getElem? (i := 310) (by decide +kernel), by decide +kernel⟩
theorem mM_X5_125 : Cond.methodLink RX5 125 yX0_homeOf ∈ UW := List.mem_filter.mpr ⟨List.mem_of_getElem? (i := 311) (by decide +kernel), by decide +kernel⟩
theorem mI_X0_homeOf : Cond.instanceMethod yX0_homeOf ∈ UW := List.mem_filter.mpr ⟨List.mem_of_getElem? (i := 312) (by decide +kernel), by decide +kernel⟩
theorem mS_X0_homeOf : Cond.selects RX0 yX0_homeOf yX0_homeOf ∈ UW := List.mem_filter.mpr ⟨List.mem_of_getElem? (i := 313) (by decide +kernel), by decide +kernel⟩
theorem mC_X0_homeOf : Cond.code yX0_homeOf cX0_homeOf 6 (some .int) ∈ UW := List.mem_filter.mpr ⟨List.mem_of_getElem? (i := 314) (by decide +kernel), by decide +kernel⟩
theorem mM_X0_36 : Cond.methodLink RX0 36 yJ6_bitCount_0f7a4 ∈ UW := List.mem_filter.mpr ⟨List.mem_of_getElem? (i := 315) (by decide +kernel), by decide +kernel⟩
theorem mT_J6_bitCount_0f7a4 : Cond.static yJ6_bitCount_0f7a4 ∈ UW := List.mem_filter.mpr ⟨List.mem_of_getElem? (i := 316) (by decide +kernel), by decide +kernel⟩
theorem mC_J6_bitCount_0f7a4 : Cond.code yJ6_bitCount_0f7a4 cJ6_bitCount_0f7a4 1 (some .int) ∈ UW := List.mem_filter.mpr ⟨List.mem_of_getElem? (i := 317) (by decide +kernel), by decide +kernel⟩
theorem mK_J6_265 : Cond.constant RJ6 265 (1431655765) ∈ UW := List.mem_filter.mpr ⟨List.mem_of_getElem? (i := 318) (by decide +kernel), by decide +kernel⟩
theorem mK_J6_266 : Cond.constant RJ6 266 (858993459) ∈ UW := List.mem_filter.mpr ⟨List.mem_of_getElem? (i := 319) (by decide +kernel), by decide +kernel⟩
theorem mK_J6_267 : Cond.constant RJ6 267 (252645135) ∈ UW := List.mem_filter.mpr ⟨List.mem_of_getElem? (i := 320) (by decide +kernel), by decide +kernel⟩
theorem mM_X5_128 : Cond.methodLink RX5 128 yX0_wandersOf ∈ UW := List.mem_filter.mpr ⟨List.mem_of_getElem? (i := 321) (by decide +kernel), by decide +kernel⟩
theorem mI_X0_wandersOf : Cond.instanceMethod yX0_wandersOf ∈ UW := List.mem_filter.mpr ⟨List.mem_of_getElem? (i := 322) (by decide +kernel), by decide +kernel⟩
theorem mS_X0_wandersOf : Cond.selects RX0 yX0_wandersOf yX0_wandersOf ∈ UW := List.mem_filter.mpr ⟨List.mem_of_getElem? (i := 323) (by decide +kernel), by decide +kernel⟩
theorem mC_X0_wandersOf : Cond.code yX0_wandersOf cX0_wandersOf 2 (some .int) ∈ UW := List.mem_filter.mpr ⟨List.mem_of_getElem? (i := 324) (by decide +kernel), by decide +kernel⟩
theorem mM_X0_41 : Cond.methodLink RX0 41 yX0_homeOf ∈ UW := List.mem_filter.mpr ⟨List.mem_of_getElem? (i := 325) (by decide +kernel), by decide +kernel⟩
theorem mM_X5_131 : Cond.methodLink RX5 131 yX0_idleOf ∈ UW := List.mem_filter.mpr ⟨List.mem_of_getElem? (i := 326) (by decide +kernel), by decide +kernel⟩
theorem mI_X0_idleOf : Cond.instanceMethod yX0_idleOf ∈ UW := List.mem_filter.mpr ⟨List.mem_of_getElem? (i := 327) (by decide +kernel), by decide +kernel⟩
theorem mS_X0_idleOf : Cond.selects RX0 yX0_idleOf yX0_idleOf ∈ UW := List.mem_filter.mpr ⟨List.mem_of_getElem? (i := 328) (by decide +kernel), by decide +kernel⟩
theorem mC_X0_idleOf : Cond.code yX0_idleOf cX0_idleOf 2 (some .int) ∈ UW := List.mem_filter.mpr ⟨List.mem_of_getElem? (i := 329) (by decide +kernel), by decide +kernel⟩
theorem mM_L_44 : Cond.methodLink RL 44 yX5_loss ∈ UW := List.mem_filter.mpr ⟨List.mem_of_getElem? (i := 330) (by decide +kernel), by decide +kernel⟩
theorem mI_X5_loss : Cond.instanceMethod yX5_loss ∈ UW := List.mem_filter.mpr ⟨List.mem_of_getElem? (i := 331) (by decide +kernel), by decide +kernel⟩
theorem mS_X5_loss : Cond.selects RX5 yX5_loss yX5_loss ∈ UW := List.mem_filter.mpr ⟨List.mem_of_getElem? (i := 332) (by decide +kernel), by decide +kernel⟩
theorem mC_X5_loss : Cond.code yX5_loss cX5_loss 2 (some .int) ∈ UW := List.mem_filter.mpr ⟨List.mem_of_getElem? (i := 333) (by decide +kernel), by decide +kernel⟩
theorem mM_X5_134 : Cond.methodLink RX5 134 yX5_isKind ∈ UW := List.mem_filter.mpr ⟨List.mem_of_getElem? (i := 334) (by decide +kernel), by decide +kernel⟩
theorem mT_X5_isKind : Cond.static yX5_isKind ∈ UW := List.mem_filter.mpr ⟨List.mem_of_getElem? (i := 335) (by decide +kernel), by decide +kernel⟩
theorem mC_X5_isKind : Cond.code yX5_isKind cX5_isKind 1 (some .boolean) ∈ UW := List.mem_filter.mpr ⟨List.mem_of_getElem? (i := 336) (by decide +kernel), by decide +kernel⟩
theorem mF_X5_141 : Cond.fieldLink RX5 141 "PartCells" "TRACE_OF_KIND" "[I" ∈ UW := List.mem_filter.mpr ⟨List.mem_of_getElem? (i := 337) (by decide +kernel), by decide +kernel⟩
theorem mYS_X5_TRACE_OF_KIND : Cond.laysStatic RX5 "TRACE_OF_KIND" "[I" ∈ lw_tbl := List.mem_of_getElem? (i := 338) (by decide +kernel)
theorem mM_X5_144 : Cond.methodLink RX5 144 yX5_lossOf ∈ UW := List.mem_filter.mpr ⟨List.mem_of_getElem? (i := 339) (by decide +kernel), by decide +kernel⟩
theorem mI_X5_lossOf : Cond.instanceMethod yX5_lossOf ∈ UW := List.mem_filter.mpr ⟨List.mem_of_getElem? (i := 341) (by decide +kernel), by decide +kernel⟩
theorem mC_X5_lossOf : Cond.code yX5_lossOf cX5_lossOf 4 (some .int) ∈ UW := List.mem_filter.mpr ⟨List.mem_of_getElem? (i := 342) (by decide +kernel), by decide +kernel⟩
theorem mM_X5_174 : Cond.methodLink RX5 174 yX1_chosen ∈ UW := List.mem_filter.mpr ⟨List.mem_of_getElem? (i := 343) (by decide +kernel), by decide +kernel⟩
theorem mI_X1_chosen : Cond.instanceMethod yX1_chosen ∈ UW := List.mem_filter.mpr ⟨List.mem_of_getElem? (i := 344) (by decide +kernel), by decide +kernel⟩
theorem mS_X1_chosen : Cond.selects RX1 yX1_chosen yX1_chosen ∈ UW := List.mem_filter.mpr ⟨List.mem_of_getElem? (i := 345) (by decide +kernel), by decide +kernel⟩
theorem mC_X1_chosen : Cond.code yX1_chosen cX1_chosen 1 (some .int) ∈ UW := List.mem_filter.mpr ⟨List.mem_of_getElem? (i := 346) (by decide +kernel), by decide +kernel⟩
theorem mM_X5_183 : Cond.methodLink RX5 183 yX1_wanderBy ∈ UW := List.mem_filter.mpr ⟨List.mem_of_getElem? (i := 347) (by decide +kernel), by decide +kernel⟩
theorem mI_X1_wanderBy : Cond.instanceMethod yX1_wanderBy ∈ UW := List.mem_filter.mpr ⟨List.mem_of_getElem? (i := 348) (by decide +kernel), by decide +kernel⟩
theorem mS_X1_wanderBy : Cond.selects RX1 yX1_wanderBy yX1_wanderBy ∈ UW := List.mem_filter.mpr ⟨List.mem_of_getElem? (i := 349) (by decide +kernel), by decide +kernel⟩
theorem mC_X1_wanderBy : Cond.code yX1_wanderBy cX1_wanderBy 5 (some .int) ∈ UW := List.mem_filter.mpr ⟨List.mem_of_getElem? (i := 350) (by decide +kernel), by decide +kernel⟩
theorem mM_X1_35 : Cond.methodLink RX1 35 yX0_wandersOf ∈ UW := List.mem_filter.mpr ⟨List.mem_of_getElem? (i := 351) (by decide +kernel), by decide +kernel⟩
theorem mM_X5_240 : Cond.methodLink RX5 240 yX1_idleOf ∈ UW := List.mem_filter.mpr ⟨List.mem_of_getElem? (i := 352) (by decide +kernel), by decide +kernel⟩
theorem mI_X1_idleOf : Cond.instanceMethod yX1_idleOf ∈ UW := List.mem_filter.mpr ⟨List.mem_of_getElem? (i := 353) (by decide +kernel), by decide +kernel⟩
theorem mS_X1_idleOf : Cond.selects RX1 yX1_idleOf yX1_idleOf ∈ UW := List.mem_filter.mpr ⟨List.mem_of_getElem? (i := 354) (by decide +kernel), by decide +kernel⟩
theorem mC_X1_idleOf : Cond.code yX1_idleOf cX1_idleOf 4 (some .int) ∈ UW := List.mem_filter.mpr ⟨List.mem_of_getElem? (i := 355) (by decide +kernel), by decide +kernel⟩
theorem mM_X1_41 : Cond.methodLink RX1 41 yX1_setOf ∈ UW := List.mem_filter.mpr ⟨List.mem_of_getElem? (i := 356) (by decide +kernel), by decide +kernel⟩
theorem mM_X1_44 : Cond.methodLink RX1 44 yX0_idleOf ∈ UW := List.mem_filter.mpr ⟨List.mem_of_getElem? (i := 357) (by decide +kernel), by decide +kernel⟩
theorem mM_X5_243 : Cond.methodLink RX5 243 yX0_squares ∈ UW := List.mem_filter.mpr ⟨List.mem_of_getElem? (i := 358) (by decide +kernel), by decide +kernel⟩
theorem mI_X0_squares : Cond.instanceMethod yX0_squares ∈ UW := List.mem_filter.mpr ⟨List.mem_of_getElem? (i := 359) (by decide +kernel), by decide +kernel⟩
theorem mS_X0_squares : Cond.selects RX0 yX0_squares yX0_squares ∈ UW := List.mem_filter.mpr ⟨List.mem_of_getElem? (i := 360) (by decide +kernel), by decide +kernel⟩
theorem mC_X0_squares : Cond.code yX0_squares cX0_squares 4 (some .int) ∈ UW := List.mem_filter.mpr ⟨List.mem_of_getElem? (i := 361) (by decide +kernel), by decide +kernel⟩
theorem mM_L_48 : Cond.methodLink RL 48 yX5_best ∈ UW := List.mem_filter.mpr ⟨List.mem_of_getElem? (i := 362) (by decide +kernel), by decide +kernel⟩
theorem mI_X5_best : Cond.instanceMethod yX5_best ∈ UW := List.mem_filter.mpr ⟨List.mem_of_getElem? (i := 363) (by decide +kernel), by decide +kernel⟩
theorem mS_X5_best : Cond.selects RX5 yX5_best yX5_best ∈ UW := List.mem_filter.mpr ⟨List.mem_of_getElem? (i := 364) (by decide +kernel), by decide +kernel⟩
theorem mC_X5_best : Cond.code yX5_best cX5_best 4 (some .int) ∈ UW := List.mem_filter.mpr ⟨List.mem_of_getElem? (i := 365) (by decide +kernel), by decide +kernel⟩
theorem mM_X5_148 : Cond.methodLink RX5 148 yX5_seekGrouping ∈ UW := List.mem_filter.mpr ⟨List.mem_of_getElem? (i := 366) (by decide +kernel), by decide +kernel⟩
theorem mI_X5_seekGrouping : Cond.instanceMethod yX5_seekGrouping ∈ UW := List.mem_filter.mpr ⟨List.mem_of_getElem? (i := 368) (by decide +kernel), by decide +kernel⟩
theorem mC_X5_seekGrouping : Cond.code yX5_seekGrouping cX5_seekGrouping 6 none ∈ UW := List.mem_filter.mpr ⟨List.mem_of_getElem? (i := 369) (by decide +kernel), by decide +kernel⟩
theorem mK_X5_246 : Cond.constant RX5 246 (1073741824) ∈ UW := List.mem_filter.mpr ⟨List.mem_of_getElem? (i := 370) (by decide +kernel), by decide +kernel⟩
theorem mM_X5_157 : Cond.methodLink RX5 157 yX0_isPlain ∈ UW := List.mem_filter.mpr ⟨List.mem_of_getElem? (i := 371) (by decide +kernel), by decide +kernel⟩
theorem mT_X0_isPlain : Cond.static yX0_isPlain ∈ UW := List.mem_filter.mpr ⟨List.mem_of_getElem? (i := 372) (by decide +kernel), by decide +kernel⟩
theorem mC_X0_isPlain : Cond.code yX0_isPlain cX0_isPlain 5 (some .boolean) ∈ UW := List.mem_filter.mpr ⟨List.mem_of_getElem? (i := 373) (by decide +kernel), by decide +kernel⟩
theorem mM_X5_247 : Cond.methodLink RX5 247 yX0_largest ∈ UW := List.mem_filter.mpr ⟨List.mem_of_getElem? (i := 374) (by decide +kernel), by decide +kernel⟩
theorem mI_X0_largest : Cond.instanceMethod yX0_largest ∈ UW := List.mem_filter.mpr ⟨List.mem_of_getElem? (i := 375) (by decide +kernel), by decide +kernel⟩
theorem mS_X0_largest : Cond.selects RX0 yX0_largest yX0_largest ∈ UW := List.mem_filter.mpr ⟨List.mem_of_getElem? (i := 376) (by decide +kernel), by decide +kernel⟩
theorem mC_X0_largest : Cond.code yX0_largest cX0_largest 3 (some .int) ∈ UW := List.mem_filter.mpr ⟨List.mem_of_getElem? (i := 377) (by decide +kernel), by decide +kernel⟩
theorem mML_X0_44 : Cond.methodLink RX0 44 Lib.Math.max.name ∈ UW := List.mem_filter.mpr ⟨List.mem_of_getElem? (i := 378) (by decide +kernel), by decide +kernel⟩
theorem mM_X0_44 : Cond.methodLink RX0 44 yJ9_max_7cf53 ∈ UW := List.mem_filter.mpr ⟨List.mem_of_getElem? (i := 378) (by decide +kernel), by decide +kernel⟩
theorem mTL_max : Cond.static Lib.Math.max.name ∈ UW := List.mem_filter.mpr ⟨List.mem_of_getElem? (i := 379) (by decide +kernel), by decide +kernel⟩
theorem mT_J9_max_7cf53 : Cond.static yJ9_max_7cf53 ∈ UW := List.mem_filter.mpr ⟨List.mem_of_getElem? (i := 379) (by decide +kernel), by decide +kernel⟩
theorem mCL_max : Cond.code Lib.Math.max.name Lib.Math.max.code 2 (some .int) ∈ UW := List.mem_filter.mpr ⟨List.mem_of_getElem? (i := 380) (by decide +kernel), by decide +kernel⟩
theorem mC_J9_max_7cf53 : Cond.code yJ9_max_7cf53 cJ9_max_7cf53 2 (some .int) ∈ UW := List.mem_filter.mpr ⟨List.mem_of_getElem? (i := 380) (by decide +kernel), by decide +kernel⟩
theorem mM_L_52 : Cond.methodLink RL 52 yX5_plain ∈ UW := List.mem_filter.mpr ⟨List.mem_of_getElem? (i := 381) (by decide +kernel), by decide +kernel⟩
theorem mI_X5_plain : Cond.instanceMethod yX5_plain ∈ UW := List.mem_filter.mpr ⟨List.mem_of_getElem? (i := 382) (by decide +kernel), by decide +kernel⟩
theorem mS_X5_plain : Cond.selects RX5 yX5_plain yX5_plain ∈ UW := List.mem_filter.mpr ⟨List.mem_of_getElem? (i := 383) (by decide +kernel), by decide +kernel⟩
theorem mC_X5_plain : Cond.code yX5_plain cX5_plain 1 (some .int) ∈ UW := List.mem_filter.mpr ⟨List.mem_of_getElem? (i := 384) (by decide +kernel), by decide +kernel⟩
theorem mM_L_57 : Cond.methodLink RL 57 yX5_like ∈ UW := List.mem_filter.mpr ⟨List.mem_of_getElem? (i := 385) (by decide +kernel), by decide +kernel⟩
theorem mI_X5_like : Cond.instanceMethod yX5_like ∈ UW := List.mem_filter.mpr ⟨List.mem_of_getElem? (i := 386) (by decide +kernel), by decide +kernel⟩
theorem mS_X5_like : Cond.selects RX5 yX5_like yX5_like ∈ UW := List.mem_filter.mpr ⟨List.mem_of_getElem? (i := 387) (by decide +kernel), by decide +kernel⟩
theorem mC_X5_like : Cond.code yX5_like cX5_like 4 (some .int) ∈ UW := List.mem_filter.mpr ⟨List.mem_of_getElem? (i := 388) (by decide +kernel), by decide +kernel⟩
theorem mM_X5_161 : Cond.methodLink RX5 161 yX1_withBoth ∈ UW := List.mem_filter.mpr ⟨List.mem_of_getElem? (i := 389) (by decide +kernel), by decide +kernel⟩
theorem mI_X1_withBoth : Cond.instanceMethod yX1_withBoth ∈ UW := List.mem_filter.mpr ⟨List.mem_of_getElem? (i := 390) (by decide +kernel), by decide +kernel⟩
theorem mS_X1_withBoth : Cond.selects RX1 yX1_withBoth yX1_withBoth ∈ UW := List.mem_filter.mpr ⟨List.mem_of_getElem? (i := 391) (by decide +kernel), by decide +kernel⟩
theorem mC_X1_withBoth : Cond.code yX1_withBoth cX1_withBoth 6 (some .int) ∈ UW := List.mem_filter.mpr ⟨List.mem_of_getElem? (i := 392) (by decide +kernel), by decide +kernel⟩
theorem mM_X1_47 : Cond.methodLink RX1 47 yX1_hasMachine ∈ UW := List.mem_filter.mpr ⟨List.mem_of_getElem? (i := 393) (by decide +kernel), by decide +kernel⟩
theorem mT_X1_hasMachine : Cond.static yX1_hasMachine ∈ UW := List.mem_filter.mpr ⟨List.mem_of_getElem? (i := 394) (by decide +kernel), by decide +kernel⟩
theorem mC_X1_hasMachine : Cond.code yX1_hasMachine cX1_hasMachine 2 (some .boolean) ∈ UW := List.mem_filter.mpr ⟨List.mem_of_getElem? (i := 395) (by decide +kernel), by decide +kernel⟩
theorem mM_X5_164 : Cond.methodLink RX5 164 yX1_withEither ∈ UW := List.mem_filter.mpr ⟨List.mem_of_getElem? (i := 396) (by decide +kernel), by decide +kernel⟩
theorem mI_X1_withEither : Cond.instanceMethod yX1_withEither ∈ UW := List.mem_filter.mpr ⟨List.mem_of_getElem? (i := 397) (by decide +kernel), by decide +kernel⟩
theorem mS_X1_withEither : Cond.selects RX1 yX1_withEither yX1_withEither ∈ UW := List.mem_filter.mpr ⟨List.mem_of_getElem? (i := 398) (by decide +kernel), by decide +kernel⟩
theorem mC_X1_withEither : Cond.code yX1_withEither cX1_withEither 6 (some .int) ∈ UW := List.mem_filter.mpr ⟨List.mem_of_getElem? (i := 399) (by decide +kernel), by decide +kernel⟩
theorem mML_X1_51 : Cond.methodLink RX1 51 Lib.Math.max.name ∈ UW := List.mem_filter.mpr ⟨List.mem_of_getElem? (i := 400) (by decide +kernel), by decide +kernel⟩
theorem mM_X1_51 : Cond.methodLink RX1 51 yJ9_max_7cf53 ∈ UW := List.mem_filter.mpr ⟨List.mem_of_getElem? (i := 400) (by decide +kernel), by decide +kernel⟩
theorem mM_L_61 : Cond.methodLink RL 61 yX5_join ∈ UW := List.mem_filter.mpr ⟨List.mem_of_getElem? (i := 401) (by decide +kernel), by decide +kernel⟩
theorem mI_X5_join : Cond.instanceMethod yX5_join ∈ UW := List.mem_filter.mpr ⟨List.mem_of_getElem? (i := 402) (by decide +kernel), by decide +kernel⟩
theorem mS_X5_join : Cond.selects RX5 yX5_join yX5_join ∈ UW := List.mem_filter.mpr ⟨List.mem_of_getElem? (i := 403) (by decide +kernel), by decide +kernel⟩
theorem mC_X5_join : Cond.code yX5_join cX5_join 3 (some .int) ∈ UW := List.mem_filter.mpr ⟨List.mem_of_getElem? (i := 404) (by decide +kernel), by decide +kernel⟩
theorem mM_X5_167 : Cond.methodLink RX5 167 yX3_grow ∈ UW := List.mem_filter.mpr ⟨List.mem_of_getElem? (i := 405) (by decide +kernel), by decide +kernel⟩
theorem mI_X3_grow : Cond.instanceMethod yX3_grow ∈ UW := List.mem_filter.mpr ⟨List.mem_of_getElem? (i := 406) (by decide +kernel), by decide +kernel⟩
theorem mS_X3_grow : Cond.selects RX3 yX3_grow yX3_grow ∈ UW := List.mem_filter.mpr ⟨List.mem_of_getElem? (i := 407) (by decide +kernel), by decide +kernel⟩
theorem mC_X3_grow : Cond.code yX3_grow cX3_grow 5 none ∈ UW := List.mem_filter.mpr ⟨List.mem_of_getElem? (i := 408) (by decide +kernel), by decide +kernel⟩
theorem mM_X3_19 : Cond.methodLink RX3 19 yX3_seekPair ∈ UW := List.mem_filter.mpr ⟨List.mem_of_getElem? (i := 409) (by decide +kernel), by decide +kernel⟩
theorem mI_X3_seekPair : Cond.instanceMethod yX3_seekPair ∈ UW := List.mem_filter.mpr ⟨List.mem_of_getElem? (i := 411) (by decide +kernel), by decide +kernel⟩
theorem mC_X3_seekPair : Cond.code yX3_seekPair cX3_seekPair 4 none ∈ UW := List.mem_filter.mpr ⟨List.mem_of_getElem? (i := 412) (by decide +kernel), by decide +kernel⟩
theorem mM_X3_38 : Cond.methodLink RX3 38 yX3_compareHeaps ∈ UW := List.mem_filter.mpr ⟨List.mem_of_getElem? (i := 413) (by decide +kernel), by decide +kernel⟩
theorem mI_X3_compareHeaps : Cond.instanceMethod yX3_compareHeaps ∈ UW := List.mem_filter.mpr ⟨List.mem_of_getElem? (i := 415) (by decide +kernel), by decide +kernel⟩
theorem mC_X3_compareHeaps : Cond.code yX3_compareHeaps cX3_compareHeaps 6 none ∈ UW := List.mem_filter.mpr ⟨List.mem_of_getElem? (i := 416) (by decide +kernel), by decide +kernel⟩
theorem mM_X3_42 : Cond.methodLink RX3 42 yX3_compareMachines ∈ UW := List.mem_filter.mpr ⟨List.mem_of_getElem? (i := 417) (by decide +kernel), by decide +kernel⟩
theorem mI_X3_compareMachines : Cond.instanceMethod yX3_compareMachines ∈ UW := List.mem_filter.mpr ⟨List.mem_of_getElem? (i := 419) (by decide +kernel), by decide +kernel⟩
theorem mC_X3_compareMachines : Cond.code yX3_compareMachines cX3_compareMachines 6 none ∈ UW := List.mem_filter.mpr ⟨List.mem_of_getElem? (i := 420) (by decide +kernel), by decide +kernel⟩
theorem mM_X3_45 : Cond.methodLink RX3 45 yX1_withBoth ∈ UW := List.mem_filter.mpr ⟨List.mem_of_getElem? (i := 421) (by decide +kernel), by decide +kernel⟩
theorem mM_X3_51 : Cond.methodLink RX3 51 yX1_withEither ∈ UW := List.mem_filter.mpr ⟨List.mem_of_getElem? (i := 422) (by decide +kernel), by decide +kernel⟩
theorem mM_X3_23 : Cond.methodLink RX3 23 yX3_unite ∈ UW := List.mem_filter.mpr ⟨List.mem_of_getElem? (i := 423) (by decide +kernel), by decide +kernel⟩
theorem mI_X3_unite : Cond.instanceMethod yX3_unite ∈ UW := List.mem_filter.mpr ⟨List.mem_of_getElem? (i := 425) (by decide +kernel), by decide +kernel⟩
theorem mC_X3_unite : Cond.code yX3_unite cX3_unite 2 none ∈ UW := List.mem_filter.mpr ⟨List.mem_of_getElem? (i := 426) (by decide +kernel), by decide +kernel⟩
theorem mM_X5_171 : Cond.methodLink RX5 171 yX3_tell ∈ UW := List.mem_filter.mpr ⟨List.mem_of_getElem? (i := 427) (by decide +kernel), by decide +kernel⟩
theorem mI_X3_tell : Cond.instanceMethod yX3_tell ∈ UW := List.mem_filter.mpr ⟨List.mem_of_getElem? (i := 428) (by decide +kernel), by decide +kernel⟩
theorem mS_X3_tell : Cond.selects RX3 yX3_tell yX3_tell ∈ UW := List.mem_filter.mpr ⟨List.mem_of_getElem? (i := 429) (by decide +kernel), by decide +kernel⟩
theorem mC_X3_tell : Cond.code yX3_tell cX3_tell 2 (some .int) ∈ UW := List.mem_filter.mpr ⟨List.mem_of_getElem? (i := 430) (by decide +kernel), by decide +kernel⟩
theorem mM_L_65 : Cond.methodLink RL 65 yX5_bears ∈ UW := List.mem_filter.mpr ⟨List.mem_of_getElem? (i := 431) (by decide +kernel), by decide +kernel⟩
theorem mI_X5_bears : Cond.instanceMethod yX5_bears ∈ UW := List.mem_filter.mpr ⟨List.mem_of_getElem? (i := 432) (by decide +kernel), by decide +kernel⟩
theorem mS_X5_bears : Cond.selects RX5 yX5_bears yX5_bears ∈ UW := List.mem_filter.mpr ⟨List.mem_of_getElem? (i := 433) (by decide +kernel), by decide +kernel⟩
theorem mC_X5_bears : Cond.code yX5_bears cX5_bears 4 (some .int) ∈ UW := List.mem_filter.mpr ⟨List.mem_of_getElem? (i := 434) (by decide +kernel), by decide +kernel⟩
theorem mM_L_69 : Cond.methodLink RL 69 yX5_load ∈ UW := List.mem_filter.mpr ⟨List.mem_of_getElem? (i := 435) (by decide +kernel), by decide +kernel⟩
theorem mI_X5_load : Cond.instanceMethod yX5_load ∈ UW := List.mem_filter.mpr ⟨List.mem_of_getElem? (i := 436) (by decide +kernel), by decide +kernel⟩
theorem mS_X5_load : Cond.selects RX5 yX5_load yX5_load ∈ UW := List.mem_filter.mpr ⟨List.mem_of_getElem? (i := 437) (by decide +kernel), by decide +kernel⟩
theorem mC_X5_load : Cond.code yX5_load cX5_load 2 (some .int) ∈ UW := List.mem_filter.mpr ⟨List.mem_of_getElem? (i := 438) (by decide +kernel), by decide +kernel⟩
theorem mM_X5_177 : Cond.methodLink RX5 177 yX1_loadBy ∈ UW := List.mem_filter.mpr ⟨List.mem_of_getElem? (i := 439) (by decide +kernel), by decide +kernel⟩
theorem mI_X1_loadBy : Cond.instanceMethod yX1_loadBy ∈ UW := List.mem_filter.mpr ⟨List.mem_of_getElem? (i := 440) (by decide +kernel), by decide +kernel⟩
theorem mS_X1_loadBy : Cond.selects RX1 yX1_loadBy yX1_loadBy ∈ UW := List.mem_filter.mpr ⟨List.mem_of_getElem? (i := 441) (by decide +kernel), by decide +kernel⟩
theorem mC_X1_loadBy : Cond.code yX1_loadBy cX1_loadBy 5 (some .int) ∈ UW := List.mem_filter.mpr ⟨List.mem_of_getElem? (i := 442) (by decide +kernel), by decide +kernel⟩
theorem mM_L_73 : Cond.methodLink RL 73 yX5_routes ∈ UW := List.mem_filter.mpr ⟨List.mem_of_getElem? (i := 443) (by decide +kernel), by decide +kernel⟩
theorem mI_X5_routes : Cond.instanceMethod yX5_routes ∈ UW := List.mem_filter.mpr ⟨List.mem_of_getElem? (i := 444) (by decide +kernel), by decide +kernel⟩
theorem mS_X5_routes : Cond.selects RX5 yX5_routes yX5_routes ∈ UW := List.mem_filter.mpr ⟨List.mem_of_getElem? (i := 445) (by decide +kernel), by decide +kernel⟩
theorem mC_X5_routes : Cond.code yX5_routes cX5_routes 3 (some .int) ∈ UW := List.mem_filter.mpr ⟨List.mem_of_getElem? (i := 446) (by decide +kernel), by decide +kernel⟩
theorem mM_X5_180 : Cond.methodLink RX5 180 yX5_bestChoice ∈ UW := List.mem_filter.mpr ⟨List.mem_of_getElem? (i := 447) (by decide +kernel), by decide +kernel⟩
theorem mI_X5_bestChoice : Cond.instanceMethod yX5_bestChoice ∈ UW := List.mem_filter.mpr ⟨List.mem_of_getElem? (i := 449) (by decide +kernel), by decide +kernel⟩
theorem mC_X5_bestChoice : Cond.code yX5_bestChoice cX5_bestChoice 6 (some .int) ∈ UW := List.mem_filter.mpr ⟨List.mem_of_getElem? (i := 450) (by decide +kernel), by decide +kernel⟩
theorem mM_X5_250 : Cond.methodLink RX5 250 yX5_isRight ∈ UW := List.mem_filter.mpr ⟨List.mem_of_getElem? (i := 451) (by decide +kernel), by decide +kernel⟩
theorem mI_X5_isRight : Cond.instanceMethod yX5_isRight ∈ UW := List.mem_filter.mpr ⟨List.mem_of_getElem? (i := 453) (by decide +kernel), by decide +kernel⟩
theorem mC_X5_isRight : Cond.code yX5_isRight cX5_isRight 3 (some .boolean) ∈ UW := List.mem_filter.mpr ⟨List.mem_of_getElem? (i := 454) (by decide +kernel), by decide +kernel⟩
theorem mM_L_77 : Cond.methodLink RL 77 yX5_price ∈ UW := List.mem_filter.mpr ⟨List.mem_of_getElem? (i := 455) (by decide +kernel), by decide +kernel⟩
theorem mI_X5_price : Cond.instanceMethod yX5_price ∈ UW := List.mem_filter.mpr ⟨List.mem_of_getElem? (i := 456) (by decide +kernel), by decide +kernel⟩
theorem mS_X5_price : Cond.selects RX5 yX5_price yX5_price ∈ UW := List.mem_filter.mpr ⟨List.mem_of_getElem? (i := 457) (by decide +kernel), by decide +kernel⟩
theorem mC_X5_price : Cond.code yX5_price cX5_price 4 (some .int) ∈ UW := List.mem_filter.mpr ⟨List.mem_of_getElem? (i := 458) (by decide +kernel), by decide +kernel⟩
theorem mM_L_81 : Cond.methodLink RL 81 yX5_copy ∈ UW := List.mem_filter.mpr ⟨List.mem_of_getElem? (i := 459) (by decide +kernel), by decide +kernel⟩
theorem mI_X5_copy : Cond.instanceMethod yX5_copy ∈ UW := List.mem_filter.mpr ⟨List.mem_of_getElem? (i := 460) (by decide +kernel), by decide +kernel⟩
theorem mS_X5_copy : Cond.selects RX5 yX5_copy yX5_copy ∈ UW := List.mem_filter.mpr ⟨List.mem_of_getElem? (i := 461) (by decide +kernel), by decide +kernel⟩
theorem mC_X5_copy : Cond.code yX5_copy cX5_copy 3 (some .int) ∈ UW := List.mem_filter.mpr ⟨List.mem_of_getElem? (i := 462) (by decide +kernel), by decide +kernel⟩
theorem mM_X5_187 : Cond.methodLink RX5 187 yX1_keptHome ∈ UW := List.mem_filter.mpr ⟨List.mem_of_getElem? (i := 463) (by decide +kernel), by decide +kernel⟩
theorem mI_X1_keptHome : Cond.instanceMethod yX1_keptHome ∈ UW := List.mem_filter.mpr ⟨List.mem_of_getElem? (i := 464) (by decide +kernel), by decide +kernel⟩
theorem mS_X1_keptHome : Cond.selects RX1 yX1_keptHome yX1_keptHome ∈ UW := List.mem_filter.mpr ⟨List.mem_of_getElem? (i := 465) (by decide +kernel), by decide +kernel⟩
theorem mC_X1_keptHome : Cond.code yX1_keptHome cX1_keptHome 7 (some .int) ∈ UW := List.mem_filter.mpr ⟨List.mem_of_getElem? (i := 466) (by decide +kernel), by decide +kernel⟩
theorem mM_X1_56 : Cond.methodLink RX1 56 yX0_homeOf ∈ UW := List.mem_filter.mpr ⟨List.mem_of_getElem? (i := 467) (by decide +kernel), by decide +kernel⟩
theorem mM_L_85 : Cond.methodLink RL 85 yX5_saved ∈ UW := List.mem_filter.mpr ⟨List.mem_of_getElem? (i := 468) (by decide +kernel), by decide +kernel⟩
theorem mI_X5_saved : Cond.instanceMethod yX5_saved ∈ UW := List.mem_filter.mpr ⟨List.mem_of_getElem? (i := 469) (by decide +kernel), by decide +kernel⟩
theorem mS_X5_saved : Cond.selects RX5 yX5_saved yX5_saved ∈ UW := List.mem_filter.mpr ⟨List.mem_of_getElem? (i := 470) (by decide +kernel), by decide +kernel⟩
theorem mC_X5_saved : Cond.code yX5_saved cX5_saved 3 (some .int) ∈ UW := List.mem_filter.mpr ⟨List.mem_of_getElem? (i := 471) (by decide +kernel), by decide +kernel⟩
theorem mM_X5_197 : Cond.methodLink RX5 197 yX5_offerCopies ∈ UW := List.mem_filter.mpr ⟨List.mem_of_getElem? (i := 472) (by decide +kernel), by decide +kernel⟩
theorem mI_X5_offerCopies : Cond.instanceMethod yX5_offerCopies ∈ UW := List.mem_filter.mpr ⟨List.mem_of_getElem? (i := 474) (by decide +kernel), by decide +kernel⟩
theorem mC_X5_offerCopies : Cond.code yX5_offerCopies cX5_offerCopies 4 none ∈ UW := List.mem_filter.mpr ⟨List.mem_of_getElem? (i := 475) (by decide +kernel), by decide +kernel⟩
theorem mM_X5_253 : Cond.methodLink RX5 253 yX5_offerCopy ∈ UW := List.mem_filter.mpr ⟨List.mem_of_getElem? (i := 476) (by decide +kernel), by decide +kernel⟩
theorem mI_X5_offerCopy : Cond.instanceMethod yX5_offerCopy ∈ UW := List.mem_filter.mpr ⟨List.mem_of_getElem? (i := 478) (by decide +kernel), by decide +kernel⟩
theorem mC_X5_offerCopy : Cond.code yX5_offerCopy cX5_offerCopy 5 none ∈ UW := List.mem_filter.mpr ⟨List.mem_of_getElem? (i := 479) (by decide +kernel), by decide +kernel⟩
theorem mML_X5_256 : Cond.methodLink RX5 256 Lib.Math.max.name ∈ UW := List.mem_filter.mpr ⟨List.mem_of_getElem? (i := 480) (by decide +kernel), by decide +kernel⟩
theorem mM_X5_256 : Cond.methodLink RX5 256 yJ9_max_7cf53 ∈ UW := List.mem_filter.mpr ⟨List.mem_of_getElem? (i := 480) (by decide +kernel), by decide +kernel⟩
theorem mM_L_89 : Cond.methodLink RL 89 yX5_way ∈ UW := List.mem_filter.mpr ⟨List.mem_of_getElem? (i := 481) (by decide +kernel), by decide +kernel⟩
theorem mI_X5_way : Cond.instanceMethod yX5_way ∈ UW := List.mem_filter.mpr ⟨List.mem_of_getElem? (i := 482) (by decide +kernel), by decide +kernel⟩
theorem mS_X5_way : Cond.selects RX5 yX5_way yX5_way ∈ UW := List.mem_filter.mpr ⟨List.mem_of_getElem? (i := 483) (by decide +kernel), by decide +kernel⟩
theorem mC_X5_way : Cond.code yX5_way cX5_way 6 (some .int) ∈ UW := List.mem_filter.mpr ⟨List.mem_of_getElem? (i := 484) (by decide +kernel), by decide +kernel⟩
theorem mM_X5_200 : Cond.methodLink RX5 200 yX2_orderOf ∈ UW := List.mem_filter.mpr ⟨List.mem_of_getElem? (i := 485) (by decide +kernel), by decide +kernel⟩
theorem mT_X2_orderOf : Cond.static yX2_orderOf ∈ UW := List.mem_filter.mpr ⟨List.mem_of_getElem? (i := 486) (by decide +kernel), by decide +kernel⟩
theorem mC_X2_orderOf : Cond.code yX2_orderOf cX2_orderOf 4 (some .int) ∈ UW := List.mem_filter.mpr ⟨List.mem_of_getElem? (i := 487) (by decide +kernel), by decide +kernel⟩
theorem mM_X5_204 : Cond.methodLink RX5 204 yX2_hasEachOnce ∈ UW := List.mem_filter.mpr ⟨List.mem_of_getElem? (i := 488) (by decide +kernel), by decide +kernel⟩
theorem mT_X2_hasEachOnce : Cond.static yX2_hasEachOnce ∈ UW := List.mem_filter.mpr ⟨List.mem_of_getElem? (i := 489) (by decide +kernel), by decide +kernel⟩
theorem mC_X2_hasEachOnce : Cond.code yX2_hasEachOnce cX2_hasEachOnce 3 (some .boolean) ∈ UW := List.mem_filter.mpr ⟨List.mem_of_getElem? (i := 490) (by decide +kernel), by decide +kernel⟩
theorem mM_X2_18 : Cond.methodLink RX2 18 yX2_cellAt ∈ UW := List.mem_filter.mpr ⟨List.mem_of_getElem? (i := 491) (by decide +kernel), by decide +kernel⟩
theorem mT_X2_cellAt : Cond.static yX2_cellAt ∈ UW := List.mem_filter.mpr ⟨List.mem_of_getElem? (i := 492) (by decide +kernel), by decide +kernel⟩
theorem mC_X2_cellAt : Cond.code yX2_cellAt cX2_cellAt 2 (some .int) ∈ UW := List.mem_filter.mpr ⟨List.mem_of_getElem? (i := 493) (by decide +kernel), by decide +kernel⟩
theorem mM_X5_207 : Cond.methodLink RX5 207 yX2_observe ∈ UW := List.mem_filter.mpr ⟨List.mem_of_getElem? (i := 494) (by decide +kernel), by decide +kernel⟩
theorem mI_X2_observe : Cond.instanceMethod yX2_observe ∈ UW := List.mem_filter.mpr ⟨List.mem_of_getElem? (i := 495) (by decide +kernel), by decide +kernel⟩
theorem mS_X2_observe : Cond.selects RX2 yX2_observe yX2_observe ∈ UW := List.mem_filter.mpr ⟨List.mem_of_getElem? (i := 496) (by decide +kernel), by decide +kernel⟩
theorem mC_X2_observe : Cond.code yX2_observe cX2_observe 8 none ∈ UW := List.mem_filter.mpr ⟨List.mem_of_getElem? (i := 497) (by decide +kernel), by decide +kernel⟩
theorem mM_X2_22 : Cond.methodLink RX2 22 yJ7_fill_53178 ∈ UW := List.mem_filter.mpr ⟨List.mem_of_getElem? (i := 498) (by decide +kernel), by decide +kernel⟩
theorem mM_X2_28 : Cond.methodLink RX2 28 yX1_howMany ∈ UW := List.mem_filter.mpr ⟨List.mem_of_getElem? (i := 499) (by decide +kernel), by decide +kernel⟩
theorem mM_X2_34 : Cond.methodLink RX2 34 yX1_setOf ∈ UW := List.mem_filter.mpr ⟨List.mem_of_getElem? (i := 500) (by decide +kernel), by decide +kernel⟩
theorem mM_X2_38 : Cond.methodLink RX2 38 yX0_homeOf ∈ UW := List.mem_filter.mpr ⟨List.mem_of_getElem? (i := 501) (by decide +kernel), by decide +kernel⟩
theorem mM_X2_43 : Cond.methodLink RX2 43 yX1_hasMachine ∈ UW := List.mem_filter.mpr ⟨List.mem_of_getElem? (i := 502) (by decide +kernel), by decide +kernel⟩
theorem mM_X2_47 : Cond.methodLink RX2 47 yX0_cellOf ∈ UW := List.mem_filter.mpr ⟨List.mem_of_getElem? (i := 503) (by decide +kernel), by decide +kernel⟩
theorem mM_X2_50 : Cond.methodLink RX2 50 yX1_piecesOf ∈ UW := List.mem_filter.mpr ⟨List.mem_of_getElem? (i := 504) (by decide +kernel), by decide +kernel⟩
theorem mM_X5_211 : Cond.methodLink RX5 211 yX2_wayOf ∈ UW := List.mem_filter.mpr ⟨List.mem_of_getElem? (i := 505) (by decide +kernel), by decide +kernel⟩
theorem mI_X2_wayOf : Cond.instanceMethod yX2_wayOf ∈ UW := List.mem_filter.mpr ⟨List.mem_of_getElem? (i := 506) (by decide +kernel), by decide +kernel⟩
theorem mS_X2_wayOf : Cond.selects RX2 yX2_wayOf yX2_wayOf ∈ UW := List.mem_filter.mpr ⟨List.mem_of_getElem? (i := 507) (by decide +kernel), by decide +kernel⟩
theorem mC_X2_wayOf : Cond.code yX2_wayOf cX2_wayOf 5 (some .int) ∈ UW := List.mem_filter.mpr ⟨List.mem_of_getElem? (i := 508) (by decide +kernel), by decide +kernel⟩
theorem mML_X2_53 : Cond.methodLink RX2 53 Lib.Math.abs.name ∈ UW := List.mem_filter.mpr ⟨List.mem_of_getElem? (i := 509) (by decide +kernel), by decide +kernel⟩
theorem mM_X2_53 : Cond.methodLink RX2 53 yJ9_abs_0f7a4 ∈ UW := List.mem_filter.mpr ⟨List.mem_of_getElem? (i := 509) (by decide +kernel), by decide +kernel⟩
theorem mTL_abs : Cond.static Lib.Math.abs.name ∈ UW := List.mem_filter.mpr ⟨List.mem_of_getElem? (i := 510) (by decide +kernel), by decide +kernel⟩
theorem mT_J9_abs_0f7a4 : Cond.static yJ9_abs_0f7a4 ∈ UW := List.mem_filter.mpr ⟨List.mem_of_getElem? (i := 510) (by decide +kernel), by decide +kernel⟩
theorem mCL_abs : Cond.code Lib.Math.abs.name Lib.Math.abs.code 1 (some .int) ∈ UW := List.mem_filter.mpr ⟨List.mem_of_getElem? (i := 511) (by decide +kernel), by decide +kernel⟩
theorem mC_J9_abs_0f7a4 : Cond.code yJ9_abs_0f7a4 cJ9_abs_0f7a4 1 (some .int) ∈ UW := List.mem_filter.mpr ⟨List.mem_of_getElem? (i := 511) (by decide +kernel), by decide +kernel⟩
theorem mM_L_94 : Cond.methodLink RL 94 yX5_floor ∈ UW := List.mem_filter.mpr ⟨List.mem_of_getElem? (i := 512) (by decide +kernel), by decide +kernel⟩
theorem mI_X5_floor : Cond.instanceMethod yX5_floor ∈ UW := List.mem_filter.mpr ⟨List.mem_of_getElem? (i := 513) (by decide +kernel), by decide +kernel⟩
theorem mS_X5_floor : Cond.selects RX5 yX5_floor yX5_floor ∈ UW := List.mem_filter.mpr ⟨List.mem_of_getElem? (i := 514) (by decide +kernel), by decide +kernel⟩
theorem mC_X5_floor : Cond.code yX5_floor cX5_floor 3 (some .int) ∈ UW := List.mem_filter.mpr ⟨List.mem_of_getElem? (i := 515) (by decide +kernel), by decide +kernel⟩
theorem mM_X5_214 : Cond.methodLink RX5 214 yX2_bestOrder ∈ UW := List.mem_filter.mpr ⟨List.mem_of_getElem? (i := 516) (by decide +kernel), by decide +kernel⟩
theorem mI_X2_bestOrder : Cond.instanceMethod yX2_bestOrder ∈ UW := List.mem_filter.mpr ⟨List.mem_of_getElem? (i := 517) (by decide +kernel), by decide +kernel⟩
theorem mS_X2_bestOrder : Cond.selects RX2 yX2_bestOrder yX2_bestOrder ∈ UW := List.mem_filter.mpr ⟨List.mem_of_getElem? (i := 518) (by decide +kernel), by decide +kernel⟩
theorem mC_X2_bestOrder : Cond.code yX2_bestOrder cX2_bestOrder 5 (some .int) ∈ UW := List.mem_filter.mpr ⟨List.mem_of_getElem? (i := 519) (by decide +kernel), by decide +kernel⟩
theorem mK_X2_58 : Cond.constant RX2 58 (1073741824) ∈ UW := List.mem_filter.mpr ⟨List.mem_of_getElem? (i := 520) (by decide +kernel), by decide +kernel⟩
theorem mM_X2_59 : Cond.methodLink RX2 59 yX2_hasEachOnce ∈ UW := List.mem_filter.mpr ⟨List.mem_of_getElem? (i := 521) (by decide +kernel), by decide +kernel⟩
theorem mM_X2_63 : Cond.methodLink RX2 63 yX2_wayOf ∈ UW := List.mem_filter.mpr ⟨List.mem_of_getElem? (i := 522) (by decide +kernel), by decide +kernel⟩
theorem mM_X5_217 : Cond.methodLink RX5 217 yX2_cellAt ∈ UW := List.mem_filter.mpr ⟨List.mem_of_getElem? (i := 523) (by decide +kernel), by decide +kernel⟩
theorem mM_L_98 : Cond.methodLink RL 98 yX5_keep ∈ UW := List.mem_filter.mpr ⟨List.mem_of_getElem? (i := 524) (by decide +kernel), by decide +kernel⟩
theorem mI_X5_keep : Cond.instanceMethod yX5_keep ∈ UW := List.mem_filter.mpr ⟨List.mem_of_getElem? (i := 525) (by decide +kernel), by decide +kernel⟩
theorem mS_X5_keep : Cond.selects RX5 yX5_keep yX5_keep ∈ UW := List.mem_filter.mpr ⟨List.mem_of_getElem? (i := 526) (by decide +kernel), by decide +kernel⟩
theorem mC_X5_keep : Cond.code yX5_keep cX5_keep 2 (some .int) ∈ UW := List.mem_filter.mpr ⟨List.mem_of_getElem? (i := 527) (by decide +kernel), by decide +kernel⟩
theorem mM_L_102 : Cond.methodLink RL 102 yX5_year ∈ UW := List.mem_filter.mpr ⟨List.mem_of_getElem? (i := 528) (by decide +kernel), by decide +kernel⟩
theorem mI_X5_year : Cond.instanceMethod yX5_year ∈ UW := List.mem_filter.mpr ⟨List.mem_of_getElem? (i := 529) (by decide +kernel), by decide +kernel⟩
theorem mS_X5_year : Cond.selects RX5 yX5_year yX5_year ∈ UW := List.mem_filter.mpr ⟨List.mem_of_getElem? (i := 530) (by decide +kernel), by decide +kernel⟩
theorem mC_X5_year : Cond.code yX5_year cX5_year 2 (some .int) ∈ UW := List.mem_filter.mpr ⟨List.mem_of_getElem? (i := 531) (by decide +kernel), by decide +kernel⟩
theorem mM_X5_220 : Cond.methodLink RX5 220 yX4_howMany ∈ UW := List.mem_filter.mpr ⟨List.mem_of_getElem? (i := 532) (by decide +kernel), by decide +kernel⟩
theorem mI_X4_howMany : Cond.instanceMethod yX4_howMany ∈ UW := List.mem_filter.mpr ⟨List.mem_of_getElem? (i := 533) (by decide +kernel), by decide +kernel⟩
theorem mS_X4_howMany : Cond.selects RX4 yX4_howMany yX4_howMany ∈ UW := List.mem_filter.mpr ⟨List.mem_of_getElem? (i := 534) (by decide +kernel), by decide +kernel⟩
theorem mC_X4_howMany : Cond.code yX4_howMany cX4_howMany 1 (some .int) ∈ UW := List.mem_filter.mpr ⟨List.mem_of_getElem? (i := 535) (by decide +kernel), by decide +kernel⟩
theorem mM_X5_223 : Cond.methodLink RX5 223 yX4_append ∈ UW := List.mem_filter.mpr ⟨List.mem_of_getElem? (i := 536) (by decide +kernel), by decide +kernel⟩
theorem mI_X4_append : Cond.instanceMethod yX4_append ∈ UW := List.mem_filter.mpr ⟨List.mem_of_getElem? (i := 537) (by decide +kernel), by decide +kernel⟩
theorem mS_X4_append : Cond.selects RX4 yX4_append yX4_append ∈ UW := List.mem_filter.mpr ⟨List.mem_of_getElem? (i := 538) (by decide +kernel), by decide +kernel⟩
theorem mC_X4_append : Cond.code yX4_append cX4_append 2 none ∈ UW := List.mem_filter.mpr ⟨List.mem_of_getElem? (i := 539) (by decide +kernel), by decide +kernel⟩
theorem mM_L_106 : Cond.methodLink RL 106 yX5_change ∈ UW := List.mem_filter.mpr ⟨List.mem_of_getElem? (i := 540) (by decide +kernel), by decide +kernel⟩
theorem mI_X5_change : Cond.instanceMethod yX5_change ∈ UW := List.mem_filter.mpr ⟨List.mem_of_getElem? (i := 541) (by decide +kernel), by decide +kernel⟩
theorem mS_X5_change : Cond.selects RX5 yX5_change yX5_change ∈ UW := List.mem_filter.mpr ⟨List.mem_of_getElem? (i := 542) (by decide +kernel), by decide +kernel⟩
theorem mC_X5_change : Cond.code yX5_change cX5_change 3 (some .int) ∈ UW := List.mem_filter.mpr ⟨List.mem_of_getElem? (i := 543) (by decide +kernel), by decide +kernel⟩
theorem mM_X5_227 : Cond.methodLink RX5 227 yX4_costOfMove ∈ UW := List.mem_filter.mpr ⟨List.mem_of_getElem? (i := 544) (by decide +kernel), by decide +kernel⟩
theorem mI_X4_costOfMove : Cond.instanceMethod yX4_costOfMove ∈ UW := List.mem_filter.mpr ⟨List.mem_of_getElem? (i := 545) (by decide +kernel), by decide +kernel⟩
theorem mS_X4_costOfMove : Cond.selects RX4 yX4_costOfMove yX4_costOfMove ∈ UW := List.mem_filter.mpr ⟨List.mem_of_getElem? (i := 546) (by decide +kernel), by decide +kernel⟩
theorem mC_X4_costOfMove : Cond.code yX4_costOfMove cX4_costOfMove 1 (some .int) ∈ UW := List.mem_filter.mpr ⟨List.mem_of_getElem? (i := 547) (by decide +kernel), by decide +kernel⟩
theorem mM_X5_230 : Cond.methodLink RX5 230 yX4_putCostOfMove ∈ UW := List.mem_filter.mpr ⟨List.mem_of_getElem? (i := 548) (by decide +kernel), by decide +kernel⟩
theorem mI_X4_putCostOfMove : Cond.instanceMethod yX4_putCostOfMove ∈ UW := List.mem_filter.mpr ⟨List.mem_of_getElem? (i := 549) (by decide +kernel), by decide +kernel⟩
theorem mS_X4_putCostOfMove : Cond.selects RX4 yX4_putCostOfMove yX4_putCostOfMove ∈ UW := List.mem_filter.mpr ⟨List.mem_of_getElem? (i := 550) (by decide +kernel), by decide +kernel⟩
theorem mC_X4_putCostOfMove : Cond.code yX4_putCostOfMove cX4_putCostOfMove 2 none ∈ UW := List.mem_filter.mpr ⟨List.mem_of_getElem? (i := 551) (by decide +kernel), by decide +kernel⟩
theorem mM_L_110 : Cond.methodLink RL 110 yX5_plan ∈ UW := List.mem_filter.mpr ⟨List.mem_of_getElem? (i := 552) (by decide +kernel), by decide +kernel⟩
theorem mI_X5_plan : Cond.instanceMethod yX5_plan ∈ UW := List.mem_filter.mpr ⟨List.mem_of_getElem? (i := 553) (by decide +kernel), by decide +kernel⟩
theorem mS_X5_plan : Cond.selects RX5 yX5_plan yX5_plan ∈ UW := List.mem_filter.mpr ⟨List.mem_of_getElem? (i := 554) (by decide +kernel), by decide +kernel⟩
theorem mC_X5_plan : Cond.code yX5_plan cX5_plan 2 (some .int) ∈ UW := List.mem_filter.mpr ⟨List.mem_of_getElem? (i := 555) (by decide +kernel), by decide +kernel⟩
theorem mM_X5_233 : Cond.methodLink RX5 233 yX4_cheapest ∈ UW := List.mem_filter.mpr ⟨List.mem_of_getElem? (i := 556) (by decide +kernel), by decide +kernel⟩
theorem mI_X4_cheapest : Cond.instanceMethod yX4_cheapest ∈ UW := List.mem_filter.mpr ⟨List.mem_of_getElem? (i := 557) (by decide +kernel), by decide +kernel⟩
theorem mS_X4_cheapest : Cond.selects RX4 yX4_cheapest yX4_cheapest ∈ UW := List.mem_filter.mpr ⟨List.mem_of_getElem? (i := 558) (by decide +kernel), by decide +kernel⟩
theorem mC_X4_cheapest : Cond.code yX4_cheapest cX4_cheapest 5 (some .int) ∈ UW := List.mem_filter.mpr ⟨List.mem_of_getElem? (i := 559) (by decide +kernel), by decide +kernel⟩
theorem mM_X4_28 : Cond.methodLink RX4 28 yX4_leastTo ∈ UW := List.mem_filter.mpr ⟨List.mem_of_getElem? (i := 560) (by decide +kernel), by decide +kernel⟩
theorem mI_X4_leastTo : Cond.instanceMethod yX4_leastTo ∈ UW := List.mem_filter.mpr ⟨List.mem_of_getElem? (i := 562) (by decide +kernel), by decide +kernel⟩
theorem mC_X4_leastTo : Cond.code yX4_leastTo cX4_leastTo 6 (some .int) ∈ UW := List.mem_filter.mpr ⟨List.mem_of_getElem? (i := 563) (by decide +kernel), by decide +kernel⟩
theorem mK_X4_44 : Cond.constant RX4 44 (1073741824) ∈ UW := List.mem_filter.mpr ⟨List.mem_of_getElem? (i := 564) (by decide +kernel), by decide +kernel⟩
theorem mM_X4_45 : Cond.methodLink RX4 45 yX0_moved ∈ UW := List.mem_filter.mpr ⟨List.mem_of_getElem? (i := 565) (by decide +kernel), by decide +kernel⟩
theorem mT_X0_moved : Cond.static yX0_moved ∈ UW := List.mem_filter.mpr ⟨List.mem_of_getElem? (i := 566) (by decide +kernel), by decide +kernel⟩
theorem mC_X0_moved : Cond.code yX0_moved cX0_moved 4 (some .int) ∈ UW := List.mem_filter.mpr ⟨List.mem_of_getElem? (i := 567) (by decide +kernel), by decide +kernel⟩
theorem mML_X4_38 : Cond.methodLink RX4 38 Lib.Math.min.name ∈ UW := List.mem_filter.mpr ⟨List.mem_of_getElem? (i := 568) (by decide +kernel), by decide +kernel⟩
theorem mM_X4_38 : Cond.methodLink RX4 38 yJ9_min_7cf53 ∈ UW := List.mem_filter.mpr ⟨List.mem_of_getElem? (i := 568) (by decide +kernel), by decide +kernel⟩
theorem mTL_min : Cond.static Lib.Math.min.name ∈ UW := List.mem_filter.mpr ⟨List.mem_of_getElem? (i := 569) (by decide +kernel), by decide +kernel⟩
theorem mT_J9_min_7cf53 : Cond.static yJ9_min_7cf53 ∈ UW := List.mem_filter.mpr ⟨List.mem_of_getElem? (i := 569) (by decide +kernel), by decide +kernel⟩
theorem mCL_min : Cond.code Lib.Math.min.name Lib.Math.min.code 2 (some .int) ∈ UW := List.mem_filter.mpr ⟨List.mem_of_getElem? (i := 570) (by decide +kernel), by decide +kernel⟩
theorem mC_J9_min_7cf53 : Cond.code yJ9_min_7cf53 cJ9_min_7cf53 2 (some .int) ∈ UW := List.mem_filter.mpr ⟨List.mem_of_getElem? (i := 570) (by decide +kernel), by decide +kernel⟩
theorem mM_X4_32 : Cond.methodLink RX4 32 ⟨"java/lang/System", "arraycopy", "(Ljava/lang/Object;ILjava/lang/Object;II)V"⟩ ∈ UW := List.mem_filter.mpr ⟨List.mem_of_getElem? (i := 571) (by decide +kernel), by decide +kernel⟩
theorem mT_java_lang_System_arraycopy : Cond.static ⟨"java/lang/System", "arraycopy", "(Ljava/lang/Object;ILjava/lang/Object;II)V"⟩ ∈ UW := List.mem_filter.mpr ⟨List.mem_of_getElem? (i := 572) (by decide +kernel), by decide +kernel⟩
theorem mNat_arraycopy : Cond.native arraycopyName ∈ UW := List.mem_filter.mpr ⟨List.mem_of_getElem? (i := 573) (by decide +kernel), by decide +kernel⟩
theorem mM_L_114 : Cond.methodLink RL 114 yX5_count ∈ UW := List.mem_filter.mpr ⟨List.mem_of_getElem? (i := 574) (by decide +kernel), by decide +kernel⟩
theorem mI_X5_count : Cond.instanceMethod yX5_count ∈ UW := List.mem_filter.mpr ⟨List.mem_of_getElem? (i := 575) (by decide +kernel), by decide +kernel⟩
theorem mS_X5_count : Cond.selects RX5 yX5_count yX5_count ∈ UW := List.mem_filter.mpr ⟨List.mem_of_getElem? (i := 576) (by decide +kernel), by decide +kernel⟩
theorem mC_X5_count : Cond.code yX5_count cX5_count 2 (some .int) ∈ UW := List.mem_filter.mpr ⟨List.mem_of_getElem? (i := 577) (by decide +kernel), by decide +kernel⟩
theorem mM_L_118 : Cond.methodLink RL 118 yX5_trace ∈ UW := List.mem_filter.mpr ⟨List.mem_of_getElem? (i := 578) (by decide +kernel), by decide +kernel⟩
theorem mI_X5_trace : Cond.instanceMethod yX5_trace ∈ UW := List.mem_filter.mpr ⟨List.mem_of_getElem? (i := 579) (by decide +kernel), by decide +kernel⟩
theorem mS_X5_trace : Cond.selects RX5 yX5_trace yX5_trace ∈ UW := List.mem_filter.mpr ⟨List.mem_of_getElem? (i := 580) (by decide +kernel), by decide +kernel⟩
theorem mC_X5_trace : Cond.code yX5_trace cX5_trace 1 (some .long) ∈ UW := List.mem_filter.mpr ⟨List.mem_of_getElem? (i := 581) (by decide +kernel), by decide +kernel⟩
theorem mL_L_10 : Cond.classLink RL 10 RX6 ∈ UW := List.mem_filter.mpr ⟨List.mem_of_getElem? (i := 582) (by decide +kernel), by decide +kernel⟩
theorem mO_X6 : Cond.instantiable RX6 21 ∈ UW := List.mem_filter.mpr ⟨List.mem_of_getElem? (i := 583) (by decide +kernel), by decide +kernel⟩
theorem mM_L_12 : Cond.methodLink RL 12 yX6_init ∈ UW := List.mem_filter.mpr ⟨List.mem_of_getElem? (i := 584) (by decide +kernel), by decide +kernel⟩
theorem mI_X6_init : Cond.instanceMethod yX6_init ∈ UW := List.mem_filter.mpr ⟨List.mem_of_getElem? (i := 585) (by decide +kernel), by decide +kernel⟩
theorem mC_X6_init : Cond.code yX6_init cX6_init 1 none ∈ UW := List.mem_filter.mpr ⟨List.mem_of_getElem? (i := 586) (by decide +kernel), by decide +kernel⟩
theorem mM_X6_1 : Cond.methodLink RX6 1 objectInit ∈ UW := List.mem_filter.mpr ⟨List.mem_of_getElem? (i := 587) (by decide +kernel), by decide +kernel⟩
theorem mM_X6_62 : Cond.methodLink RX6 62 yX6_begins ∈ UW := List.mem_filter.mpr ⟨List.mem_of_getElem? (i := 588) (by decide +kernel), by decide +kernel⟩
theorem mI_X6_begins : Cond.instanceMethod yX6_begins ∈ UW := List.mem_filter.mpr ⟨List.mem_of_getElem? (i := 590) (by decide +kernel), by decide +kernel⟩
theorem mC_X6_begins : Cond.code yX6_begins cX6_begins 4 none ∈ UW := List.mem_filter.mpr ⟨List.mem_of_getElem? (i := 591) (by decide +kernel), by decide +kernel⟩
theorem mF_X6_66 : Cond.fieldLink RX6 66 "PartCellsModel" "thrown" "I" ∈ UW := List.mem_filter.mpr ⟨List.mem_of_getElem? (i := 592) (by decide +kernel), by decide +kernel⟩
theorem mF_X6_107 : Cond.fieldLink RX6 107 "PartCellsModel" "trace" "J" ∈ UW := List.mem_filter.mpr ⟨List.mem_of_getElem? (i := 593) (by decide +kernel), by decide +kernel⟩
theorem mF_X6_7 : Cond.fieldLink RX6 7 "PartCellsModel" "machines" "I" ∈ UW := List.mem_filter.mpr ⟨List.mem_of_getElem? (i := 594) (by decide +kernel), by decide +kernel⟩
theorem mF_X6_13 : Cond.fieldLink RX6 13 "PartCellsModel" "parts" "I" ∈ UW := List.mem_filter.mpr ⟨List.mem_of_getElem? (i := 595) (by decide +kernel), by decide +kernel⟩
theorem mF_X6_16 : Cond.fieldLink RX6 16 "PartCellsModel" "route" "[I" ∈ UW := List.mem_filter.mpr ⟨List.mem_of_getElem? (i := 596) (by decide +kernel), by decide +kernel⟩
theorem mF_X6_20 : Cond.fieldLink RX6 20 "PartCellsModel" "which" "[I" ∈ UW := List.mem_filter.mpr ⟨List.mem_of_getElem? (i := 597) (by decide +kernel), by decide +kernel⟩
theorem mF_X6_23 : Cond.fieldLink RX6 23 "PartCellsModel" "pieces" "[I" ∈ UW := List.mem_filter.mpr ⟨List.mem_of_getElem? (i := 598) (by decide +kernel), by decide +kernel⟩
theorem mF_X6_26 : Cond.fieldLink RX6 26 "PartCellsModel" "bears" "[I" ∈ UW := List.mem_filter.mpr ⟨List.mem_of_getElem? (i := 599) (by decide +kernel), by decide +kernel⟩
theorem mF_X6_29 : Cond.fieldLink RX6 29 "PartCellsModel" "price" "[I" ∈ UW := List.mem_filter.mpr ⟨List.mem_of_getElem? (i := 600) (by decide +kernel), by decide +kernel⟩
theorem mF_X6_69 : Cond.fieldLink RX6 69 "PartCellsModel" "number" "I" ∈ UW := List.mem_filter.mpr ⟨List.mem_of_getElem? (i := 601) (by decide +kernel), by decide +kernel⟩
theorem mF_X6_32 : Cond.fieldLink RX6 32 "PartCellsModel" "shelf" "[I" ∈ UW := List.mem_filter.mpr ⟨List.mem_of_getElem? (i := 602) (by decide +kernel), by decide +kernel⟩
theorem mF_X6_151 : Cond.fieldLink RX6 151 "PartCellsModel" "years" "I" ∈ UW := List.mem_filter.mpr ⟨List.mem_of_getElem? (i := 603) (by decide +kernel), by decide +kernel⟩
theorem mF_X6_35 : Cond.fieldLink RX6 35 "PartCellsModel" "weight" "[I" ∈ UW := List.mem_filter.mpr ⟨List.mem_of_getElem? (i := 604) (by decide +kernel), by decide +kernel⟩
theorem mF_X6_38 : Cond.fieldLink RX6 38 "PartCellsModel" "change" "I" ∈ UW := List.mem_filter.mpr ⟨List.mem_of_getElem? (i := 605) (by decide +kernel), by decide +kernel⟩
theorem mF_X6_41 : Cond.fieldLink RX6 41 "PartCellsModel" "heap" "[I" ∈ UW := List.mem_filter.mpr ⟨List.mem_of_getElem? (i := 606) (by decide +kernel), by decide +kernel⟩
theorem mF_X6_44 : Cond.fieldLink RX6 44 "PartCellsModel" "told" "[I" ∈ UW := List.mem_filter.mpr ⟨List.mem_of_getElem? (i := 607) (by decide +kernel), by decide +kernel⟩
theorem mF_X6_47 : Cond.fieldLink RX6 47 "PartCellsModel" "most" "[I" ∈ UW := List.mem_filter.mpr ⟨List.mem_of_getElem? (i := 608) (by decide +kernel), by decide +kernel⟩
theorem mF_X6_50 : Cond.fieldLink RX6 50 "PartCellsModel" "place" "[I" ∈ UW := List.mem_filter.mpr ⟨List.mem_of_getElem? (i := 609) (by decide +kernel), by decide +kernel⟩
theorem mF_X6_53 : Cond.fieldLink RX6 53 "PartCellsModel" "best" "[I" ∈ UW := List.mem_filter.mpr ⟨List.mem_of_getElem? (i := 610) (by decide +kernel), by decide +kernel⟩
theorem mF_X6_56 : Cond.fieldLink RX6 56 "PartCellsModel" "cost" "[I" ∈ UW := List.mem_filter.mpr ⟨List.mem_of_getElem? (i := 611) (by decide +kernel), by decide +kernel⟩
theorem mF_X6_59 : Cond.fieldLink RX6 59 "PartCellsModel" "next" "[I" ∈ UW := List.mem_filter.mpr ⟨List.mem_of_getElem? (i := 612) (by decide +kernel), by decide +kernel⟩
theorem mY_X6_thrown : Cond.lays RX6 "PartCellsModel" "thrown" "I" ∈ UW := List.mem_filter.mpr ⟨List.mem_of_getElem? (i := 613) (by decide +kernel), by decide +kernel⟩
theorem mY_X6_trace : Cond.lays RX6 "PartCellsModel" "trace" "J" ∈ UW := List.mem_filter.mpr ⟨List.mem_of_getElem? (i := 615) (by decide +kernel), by decide +kernel⟩
theorem mY_X6_machines : Cond.lays RX6 "PartCellsModel" "machines" "I" ∈ UW := List.mem_filter.mpr ⟨List.mem_of_getElem? (i := 617) (by decide +kernel), by decide +kernel⟩
theorem mY_X6_parts : Cond.lays RX6 "PartCellsModel" "parts" "I" ∈ UW := List.mem_filter.mpr ⟨List.mem_of_getElem? (i := 619) (by decide +kernel), by decide +kernel⟩
theorem mY_X6_route : Cond.laysFinal RX6 "PartCellsModel" "route" "[I" ∈ UW := List.mem_filter.mpr ⟨List.mem_of_getElem? (i := 621) (by decide +kernel), by decide +kernel⟩
theorem mY_X6_which : Cond.laysFinal RX6 "PartCellsModel" "which" "[I" ∈ UW := List.mem_filter.mpr ⟨List.mem_of_getElem? (i := 623) (by decide +kernel), by decide +kernel⟩
theorem mY_X6_pieces : Cond.laysFinal RX6 "PartCellsModel" "pieces" "[I" ∈ UW := List.mem_filter.mpr ⟨List.mem_of_getElem? (i := 625) (by decide +kernel), by decide +kernel⟩
theorem mY_X6_bears : Cond.laysFinal RX6 "PartCellsModel" "bears" "[I" ∈ UW := List.mem_filter.mpr ⟨List.mem_of_getElem? (i := 627) (by decide +kernel), by decide +kernel⟩
theorem mY_X6_price : Cond.laysFinal RX6 "PartCellsModel" "price" "[I" ∈ UW := List.mem_filter.mpr ⟨List.mem_of_getElem? (i := 629) (by decide +kernel), by decide +kernel⟩
theorem mY_X6_number : Cond.lays RX6 "PartCellsModel" "number" "I" ∈ UW := List.mem_filter.mpr ⟨List.mem_of_getElem? (i := 631) (by decide +kernel), by decide +kernel⟩
theorem mY_X6_shelf : Cond.laysFinal RX6 "PartCellsModel" "shelf" "[I" ∈ UW := List.mem_filter.mpr ⟨List.mem_of_getElem? (i := 633) (by decide +kernel), by decide +kernel⟩
theorem mY_X6_years : Cond.lays RX6 "PartCellsModel" "years" "I" ∈ UW := List.mem_filter.mpr ⟨List.mem_of_getElem? (i := 635) (by decide +kernel), by decide +kernel⟩
theorem mY_X6_weight : Cond.laysFinal RX6 "PartCellsModel" "weight" "[I" ∈ UW := List.mem_filter.mpr ⟨List.mem_of_getElem? (i := 637) (by decide +kernel), by decide +kernel⟩
theorem mY_X6_change : Cond.lays RX6 "PartCellsModel" "change" "I" ∈ UW := List.mem_filter.mpr ⟨List.mem_of_getElem? (i := 639) (by decide +kernel), by decide +kernel⟩
theorem mY_X6_heap : Cond.laysFinal RX6 "PartCellsModel" "heap" "[I" ∈ UW := List.mem_filter.mpr ⟨List.mem_of_getElem? (i := 641) (by decide +kernel), by decide +kernel⟩
theorem mY_X6_told : Cond.laysFinal RX6 "PartCellsModel" "told" "[I" ∈ UW := List.mem_filter.mpr ⟨List.mem_of_getElem? (i := 643) (by decide +kernel), by decide +kernel⟩
theorem mY_X6_most : Cond.laysFinal RX6 "PartCellsModel" "most" "[I" ∈ UW := List.mem_filter.mpr ⟨List.mem_of_getElem? (i := 645) (by decide +kernel), by decide +kernel⟩
theorem mY_X6_place : Cond.laysFinal RX6 "PartCellsModel" "place" "[I" ∈ UW := List.mem_filter.mpr ⟨List.mem_of_getElem? (i := 647) (by decide +kernel), by decide +kernel⟩
theorem mY_X6_best : Cond.laysFinal RX6 "PartCellsModel" "best" "[I" ∈ UW := List.mem_filter.mpr ⟨List.mem_of_getElem? (i := 649) (by decide +kernel), by decide +kernel⟩
theorem mY_X6_cost : Cond.laysFinal RX6 "PartCellsModel" "cost" "[I" ∈ UW := List.mem_filter.mpr ⟨List.mem_of_getElem? (i := 651) (by decide +kernel), by decide +kernel⟩
theorem mY_X6_next : Cond.laysFinal RX6 "PartCellsModel" "next" "[I" ∈ UW := List.mem_filter.mpr ⟨List.mem_of_getElem? (i := 653) (by decide +kernel), by decide +kernel⟩
theorem mM_L_17 : Cond.methodLink RL 17 yX6_works ∈ UW := List.mem_filter.mpr ⟨List.mem_of_getElem? (i := 656) (by decide +kernel), by decide +kernel⟩
theorem mI_X6_works : Cond.instanceMethod yX6_works ∈ UW := List.mem_filter.mpr ⟨List.mem_of_getElem? (i := 657) (by decide +kernel), by decide +kernel⟩
theorem mS_X6_works : Cond.selects RX6 yX6_works yX6_works ∈ UW := List.mem_filter.mpr ⟨List.mem_of_getElem? (i := 658) (by decide +kernel), by decide +kernel⟩
theorem mC_X6_works : Cond.code yX6_works cX6_works 4 (some .int) ∈ UW := List.mem_filter.mpr ⟨List.mem_of_getElem? (i := 659) (by decide +kernel), by decide +kernel⟩
theorem mM_X6_72 : Cond.methodLink RX6 72 yX6_in ∈ UW := List.mem_filter.mpr ⟨List.mem_of_getElem? (i := 660) (by decide +kernel), by decide +kernel⟩
theorem mT_X6_in : Cond.static yX6_in ∈ UW := List.mem_filter.mpr ⟨List.mem_of_getElem? (i := 661) (by decide +kernel), by decide +kernel⟩
theorem mC_X6_in : Cond.code yX6_in cX6_in 3 (some .boolean) ∈ UW := List.mem_filter.mpr ⟨List.mem_of_getElem? (i := 662) (by decide +kernel), by decide +kernel⟩
theorem mM_L_22 : Cond.methodLink RL 22 yX6_route ∈ UW := List.mem_filter.mpr ⟨List.mem_of_getElem? (i := 663) (by decide +kernel), by decide +kernel⟩
theorem mI_X6_route : Cond.instanceMethod yX6_route ∈ UW := List.mem_filter.mpr ⟨List.mem_of_getElem? (i := 664) (by decide +kernel), by decide +kernel⟩
theorem mS_X6_route : Cond.selects RX6 yX6_route yX6_route ∈ UW := List.mem_filter.mpr ⟨List.mem_of_getElem? (i := 665) (by decide +kernel), by decide +kernel⟩
theorem mC_X6_route : Cond.code yX6_route cX6_route 5 (some .int) ∈ UW := List.mem_filter.mpr ⟨List.mem_of_getElem? (i := 666) (by decide +kernel), by decide +kernel⟩
theorem mM_X6_76 : Cond.methodLink RX6 76 yX6_isPart ∈ UW := List.mem_filter.mpr ⟨List.mem_of_getElem? (i := 667) (by decide +kernel), by decide +kernel⟩
theorem mI_X6_isPart : Cond.instanceMethod yX6_isPart ∈ UW := List.mem_filter.mpr ⟨List.mem_of_getElem? (i := 669) (by decide +kernel), by decide +kernel⟩
theorem mC_X6_isPart : Cond.code yX6_isPart cX6_isPart 2 (some .boolean) ∈ UW := List.mem_filter.mpr ⟨List.mem_of_getElem? (i := 670) (by decide +kernel), by decide +kernel⟩
theorem mM_L_26 : Cond.methodLink RL 26 yX6_goes ∈ UW := List.mem_filter.mpr ⟨List.mem_of_getElem? (i := 671) (by decide +kernel), by decide +kernel⟩
theorem mI_X6_goes : Cond.instanceMethod yX6_goes ∈ UW := List.mem_filter.mpr ⟨List.mem_of_getElem? (i := 672) (by decide +kernel), by decide +kernel⟩
theorem mS_X6_goes : Cond.selects RX6 yX6_goes yX6_goes ∈ UW := List.mem_filter.mpr ⟨List.mem_of_getElem? (i := 673) (by decide +kernel), by decide +kernel⟩
theorem mC_X6_goes : Cond.code yX6_goes cX6_goes 4 (some .int) ∈ UW := List.mem_filter.mpr ⟨List.mem_of_getElem? (i := 674) (by decide +kernel), by decide +kernel⟩
theorem mM_L_30 : Cond.methodLink RL 30 yX6_pieces ∈ UW := List.mem_filter.mpr ⟨List.mem_of_getElem? (i := 675) (by decide +kernel), by decide +kernel⟩
theorem mI_X6_pieces : Cond.instanceMethod yX6_pieces ∈ UW := List.mem_filter.mpr ⟨List.mem_of_getElem? (i := 676) (by decide +kernel), by decide +kernel⟩
theorem mS_X6_pieces : Cond.selects RX6 yX6_pieces yX6_pieces ∈ UW := List.mem_filter.mpr ⟨List.mem_of_getElem? (i := 677) (by decide +kernel), by decide +kernel⟩
theorem mC_X6_pieces : Cond.code yX6_pieces cX6_pieces 4 (some .int) ∈ UW := List.mem_filter.mpr ⟨List.mem_of_getElem? (i := 678) (by decide +kernel), by decide +kernel⟩
theorem mM_L_34 : Cond.methodLink RL 34 yX6_cell ∈ UW := List.mem_filter.mpr ⟨List.mem_of_getElem? (i := 679) (by decide +kernel), by decide +kernel⟩
theorem mI_X6_cell : Cond.instanceMethod yX6_cell ∈ UW := List.mem_filter.mpr ⟨List.mem_of_getElem? (i := 680) (by decide +kernel), by decide +kernel⟩
theorem mS_X6_cell : Cond.selects RX6 yX6_cell yX6_cell ∈ UW := List.mem_filter.mpr ⟨List.mem_of_getElem? (i := 681) (by decide +kernel), by decide +kernel⟩
theorem mC_X6_cell : Cond.code yX6_cell cX6_cell 4 (some .int) ∈ UW := List.mem_filter.mpr ⟨List.mem_of_getElem? (i := 682) (by decide +kernel), by decide +kernel⟩
theorem mM_X6_80 : Cond.methodLink RX6 80 yX6_isMachine ∈ UW := List.mem_filter.mpr ⟨List.mem_of_getElem? (i := 683) (by decide +kernel), by decide +kernel⟩
theorem mI_X6_isMachine : Cond.instanceMethod yX6_isMachine ∈ UW := List.mem_filter.mpr ⟨List.mem_of_getElem? (i := 685) (by decide +kernel), by decide +kernel⟩
theorem mC_X6_isMachine : Cond.code yX6_isMachine cX6_isMachine 2 (some .boolean) ∈ UW := List.mem_filter.mpr ⟨List.mem_of_getElem? (i := 686) (by decide +kernel), by decide +kernel⟩
theorem mM_X6_83 : Cond.methodLink RX6 83 yX6_cellOf ∈ UW := List.mem_filter.mpr ⟨List.mem_of_getElem? (i := 687) (by decide +kernel), by decide +kernel⟩
theorem mT_X6_cellOf : Cond.static yX6_cellOf ∈ UW := List.mem_filter.mpr ⟨List.mem_of_getElem? (i := 688) (by decide +kernel), by decide +kernel⟩
theorem mC_X6_cellOf : Cond.code yX6_cellOf cX6_cellOf 2 (some .int) ∈ UW := List.mem_filter.mpr ⟨List.mem_of_getElem? (i := 689) (by decide +kernel), by decide +kernel⟩
theorem mM_X6_87 : Cond.methodLink RX6 87 yX6_power ∈ UW := List.mem_filter.mpr ⟨List.mem_of_getElem? (i := 690) (by decide +kernel), by decide +kernel⟩
theorem mT_X6_power : Cond.static yX6_power ∈ UW := List.mem_filter.mpr ⟨List.mem_of_getElem? (i := 691) (by decide +kernel), by decide +kernel⟩
theorem mC_X6_power : Cond.code yX6_power cX6_power 1 (some .int) ∈ UW := List.mem_filter.mpr ⟨List.mem_of_getElem? (i := 692) (by decide +kernel), by decide +kernel⟩
theorem mM_L_39 : Cond.methodLink RL 39 yX6_group ∈ UW := List.mem_filter.mpr ⟨List.mem_of_getElem? (i := 693) (by decide +kernel), by decide +kernel⟩
theorem mI_X6_group : Cond.instanceMethod yX6_group ∈ UW := List.mem_filter.mpr ⟨List.mem_of_getElem? (i := 694) (by decide +kernel), by decide +kernel⟩
theorem mS_X6_group : Cond.selects RX6 yX6_group yX6_group ∈ UW := List.mem_filter.mpr ⟨List.mem_of_getElem? (i := 695) (by decide +kernel), by decide +kernel⟩
theorem mC_X6_group : Cond.code yX6_group cX6_group 3 (some .int) ∈ UW := List.mem_filter.mpr ⟨List.mem_of_getElem? (i := 696) (by decide +kernel), by decide +kernel⟩
theorem mM_L_43 : Cond.methodLink RL 43 yX6_about ∈ UW := List.mem_filter.mpr ⟨List.mem_of_getElem? (i := 697) (by decide +kernel), by decide +kernel⟩
theorem mI_X6_about : Cond.instanceMethod yX6_about ∈ UW := List.mem_filter.mpr ⟨List.mem_of_getElem? (i := 698) (by decide +kernel), by decide +kernel⟩
theorem mS_X6_about : Cond.selects RX6 yX6_about yX6_about ∈ UW := List.mem_filter.mpr ⟨List.mem_of_getElem? (i := 699) (by decide +kernel), by decide +kernel⟩
theorem mC_X6_about : Cond.code yX6_about cX6_about 3 (some .int) ∈ UW := List.mem_filter.mpr ⟨List.mem_of_getElem? (i := 700) (by decide +kernel), by decide +kernel⟩
theorem mM_X6_98 : Cond.methodLink RX6 98 yX6_setOf ∈ UW := List.mem_filter.mpr ⟨List.mem_of_getElem? (i := 701) (by decide +kernel), by decide +kernel⟩
theorem mI_X6_setOf : Cond.instanceMethod yX6_setOf ∈ UW := List.mem_filter.mpr ⟨List.mem_of_getElem? (i := 703) (by decide +kernel), by decide +kernel⟩
theorem mC_X6_setOf : Cond.code yX6_setOf cX6_setOf 2 (some .int) ∈ UW := List.mem_filter.mpr ⟨List.mem_of_getElem? (i := 704) (by decide +kernel), by decide +kernel⟩
theorem mM_X6_95 : Cond.methodLink RX6 95 yX6_homeOf ∈ UW := List.mem_filter.mpr ⟨List.mem_of_getElem? (i := 705) (by decide +kernel), by decide +kernel⟩
theorem mI_X6_homeOf : Cond.instanceMethod yX6_homeOf ∈ UW := List.mem_filter.mpr ⟨List.mem_of_getElem? (i := 707) (by decide +kernel), by decide +kernel⟩
theorem mC_X6_homeOf : Cond.code yX6_homeOf cX6_homeOf 5 (some .int) ∈ UW := List.mem_filter.mpr ⟨List.mem_of_getElem? (i := 708) (by decide +kernel), by decide +kernel⟩
theorem mM_X6_91 : Cond.methodLink RX6 91 yX6_inCell ∈ UW := List.mem_filter.mpr ⟨List.mem_of_getElem? (i := 709) (by decide +kernel), by decide +kernel⟩
theorem mI_X6_inCell : Cond.instanceMethod yX6_inCell ∈ UW := List.mem_filter.mpr ⟨List.mem_of_getElem? (i := 711) (by decide +kernel), by decide +kernel⟩
theorem mC_X6_inCell : Cond.code yX6_inCell cX6_inCell 6 (some .int) ∈ UW := List.mem_filter.mpr ⟨List.mem_of_getElem? (i := 712) (by decide +kernel), by decide +kernel⟩
theorem mM_X6_101 : Cond.methodLink RX6 101 yX6_wandersOf ∈ UW := List.mem_filter.mpr ⟨List.mem_of_getElem? (i := 713) (by decide +kernel), by decide +kernel⟩
theorem mI_X6_wandersOf : Cond.instanceMethod yX6_wandersOf ∈ UW := List.mem_filter.mpr ⟨List.mem_of_getElem? (i := 715) (by decide +kernel), by decide +kernel⟩
theorem mC_X6_wandersOf : Cond.code yX6_wandersOf cX6_wandersOf 6 (some .int) ∈ UW := List.mem_filter.mpr ⟨List.mem_of_getElem? (i := 716) (by decide +kernel), by decide +kernel⟩
theorem mM_X6_104 : Cond.methodLink RX6 104 yX6_idleOf ∈ UW := List.mem_filter.mpr ⟨List.mem_of_getElem? (i := 717) (by decide +kernel), by decide +kernel⟩
theorem mI_X6_idleOf : Cond.instanceMethod yX6_idleOf ∈ UW := List.mem_filter.mpr ⟨List.mem_of_getElem? (i := 719) (by decide +kernel), by decide +kernel⟩
theorem mC_X6_idleOf : Cond.code yX6_idleOf cX6_idleOf 3 (some .int) ∈ UW := List.mem_filter.mpr ⟨List.mem_of_getElem? (i := 720) (by decide +kernel), by decide +kernel⟩
theorem mM_L_47 : Cond.methodLink RL 47 yX6_loss ∈ UW := List.mem_filter.mpr ⟨List.mem_of_getElem? (i := 721) (by decide +kernel), by decide +kernel⟩
theorem mI_X6_loss : Cond.instanceMethod yX6_loss ∈ UW := List.mem_filter.mpr ⟨List.mem_of_getElem? (i := 722) (by decide +kernel), by decide +kernel⟩
theorem mS_X6_loss : Cond.selects RX6 yX6_loss yX6_loss ∈ UW := List.mem_filter.mpr ⟨List.mem_of_getElem? (i := 723) (by decide +kernel), by decide +kernel⟩
theorem mC_X6_loss : Cond.code yX6_loss cX6_loss 2 (some .int) ∈ UW := List.mem_filter.mpr ⟨List.mem_of_getElem? (i := 724) (by decide +kernel), by decide +kernel⟩
theorem mKL_X6_111 : Cond.constantLong RX6 111 (11) ∈ UW := List.mem_filter.mpr ⟨List.mem_of_getElem? (i := 725) (by decide +kernel), by decide +kernel⟩
theorem mKL_X6_113 : Cond.constantLong RX6 113 (111) ∈ UW := List.mem_filter.mpr ⟨List.mem_of_getElem? (i := 726) (by decide +kernel), by decide +kernel⟩
theorem mM_X6_115 : Cond.methodLink RX6 115 yX6_lossOf ∈ UW := List.mem_filter.mpr ⟨List.mem_of_getElem? (i := 727) (by decide +kernel), by decide +kernel⟩
theorem mI_X6_lossOf : Cond.instanceMethod yX6_lossOf ∈ UW := List.mem_filter.mpr ⟨List.mem_of_getElem? (i := 729) (by decide +kernel), by decide +kernel⟩
theorem mC_X6_lossOf : Cond.code yX6_lossOf cX6_lossOf 6 (some .int) ∈ UW := List.mem_filter.mpr ⟨List.mem_of_getElem? (i := 730) (by decide +kernel), by decide +kernel⟩
theorem mM_L_51 : Cond.methodLink RL 51 yX6_best ∈ UW := List.mem_filter.mpr ⟨List.mem_of_getElem? (i := 731) (by decide +kernel), by decide +kernel⟩
theorem mI_X6_best : Cond.instanceMethod yX6_best ∈ UW := List.mem_filter.mpr ⟨List.mem_of_getElem? (i := 732) (by decide +kernel), by decide +kernel⟩
theorem mS_X6_best : Cond.selects RX6 yX6_best yX6_best ∈ UW := List.mem_filter.mpr ⟨List.mem_of_getElem? (i := 733) (by decide +kernel), by decide +kernel⟩
theorem mC_X6_best : Cond.code yX6_best cX6_best 8 (some .int) ∈ UW := List.mem_filter.mpr ⟨List.mem_of_getElem? (i := 734) (by decide +kernel), by decide +kernel⟩
theorem mM_X6_118 : Cond.methodLink RX6 118 yX6_isPlain ∈ UW := List.mem_filter.mpr ⟨List.mem_of_getElem? (i := 735) (by decide +kernel), by decide +kernel⟩
theorem mI_X6_isPlain : Cond.instanceMethod yX6_isPlain ∈ UW := List.mem_filter.mpr ⟨List.mem_of_getElem? (i := 737) (by decide +kernel), by decide +kernel⟩
theorem mC_X6_isPlain : Cond.code yX6_isPlain cX6_isPlain 6 (some .boolean) ∈ UW := List.mem_filter.mpr ⟨List.mem_of_getElem? (i := 738) (by decide +kernel), by decide +kernel⟩
theorem mM_X6_121 : Cond.methodLink RX6 121 yX6_isWithin ∈ UW := List.mem_filter.mpr ⟨List.mem_of_getElem? (i := 739) (by decide +kernel), by decide +kernel⟩
theorem mI_X6_isWithin : Cond.instanceMethod yX6_isWithin ∈ UW := List.mem_filter.mpr ⟨List.mem_of_getElem? (i := 741) (by decide +kernel), by decide +kernel⟩
theorem mC_X6_isWithin : Cond.code yX6_isWithin cX6_isWithin 5 (some .boolean) ∈ UW := List.mem_filter.mpr ⟨List.mem_of_getElem? (i := 742) (by decide +kernel), by decide +kernel⟩
theorem mM_L_56 : Cond.methodLink RL 56 yX6_plain ∈ UW := List.mem_filter.mpr ⟨List.mem_of_getElem? (i := 743) (by decide +kernel), by decide +kernel⟩
theorem mI_X6_plain : Cond.instanceMethod yX6_plain ∈ UW := List.mem_filter.mpr ⟨List.mem_of_getElem? (i := 744) (by decide +kernel), by decide +kernel⟩
theorem mS_X6_plain : Cond.selects RX6 yX6_plain yX6_plain ∈ UW := List.mem_filter.mpr ⟨List.mem_of_getElem? (i := 745) (by decide +kernel), by decide +kernel⟩
theorem mC_X6_plain : Cond.code yX6_plain cX6_plain 1 (some .int) ∈ UW := List.mem_filter.mpr ⟨List.mem_of_getElem? (i := 746) (by decide +kernel), by decide +kernel⟩
theorem mM_L_60 : Cond.methodLink RL 60 yX6_like ∈ UW := List.mem_filter.mpr ⟨List.mem_of_getElem? (i := 747) (by decide +kernel), by decide +kernel⟩
theorem mI_X6_like : Cond.instanceMethod yX6_like ∈ UW := List.mem_filter.mpr ⟨List.mem_of_getElem? (i := 748) (by decide +kernel), by decide +kernel⟩
theorem mS_X6_like : Cond.selects RX6 yX6_like yX6_like ∈ UW := List.mem_filter.mpr ⟨List.mem_of_getElem? (i := 749) (by decide +kernel), by decide +kernel⟩
theorem mC_X6_like : Cond.code yX6_like cX6_like 4 (some .int) ∈ UW := List.mem_filter.mpr ⟨List.mem_of_getElem? (i := 750) (by decide +kernel), by decide +kernel⟩
theorem mM_X6_125 : Cond.methodLink RX6 125 yX6_bothOf ∈ UW := List.mem_filter.mpr ⟨List.mem_of_getElem? (i := 751) (by decide +kernel), by decide +kernel⟩
theorem mI_X6_bothOf : Cond.instanceMethod yX6_bothOf ∈ UW := List.mem_filter.mpr ⟨List.mem_of_getElem? (i := 753) (by decide +kernel), by decide +kernel⟩
theorem mC_X6_bothOf : Cond.code yX6_bothOf cX6_bothOf 5 (some .int) ∈ UW := List.mem_filter.mpr ⟨List.mem_of_getElem? (i := 754) (by decide +kernel), by decide +kernel⟩
theorem mM_X6_128 : Cond.methodLink RX6 128 yX6_eitherOf ∈ UW := List.mem_filter.mpr ⟨List.mem_of_getElem? (i := 755) (by decide +kernel), by decide +kernel⟩
theorem mI_X6_eitherOf : Cond.instanceMethod yX6_eitherOf ∈ UW := List.mem_filter.mpr ⟨List.mem_of_getElem? (i := 757) (by decide +kernel), by decide +kernel⟩
theorem mC_X6_eitherOf : Cond.code yX6_eitherOf cX6_eitherOf 5 (some .int) ∈ UW := List.mem_filter.mpr ⟨List.mem_of_getElem? (i := 758) (by decide +kernel), by decide +kernel⟩
theorem mM_L_64 : Cond.methodLink RL 64 yX6_join ∈ UW := List.mem_filter.mpr ⟨List.mem_of_getElem? (i := 759) (by decide +kernel), by decide +kernel⟩
theorem mI_X6_join : Cond.instanceMethod yX6_join ∈ UW := List.mem_filter.mpr ⟨List.mem_of_getElem? (i := 760) (by decide +kernel), by decide +kernel⟩
theorem mS_X6_join : Cond.selects RX6 yX6_join yX6_join ∈ UW := List.mem_filter.mpr ⟨List.mem_of_getElem? (i := 761) (by decide +kernel), by decide +kernel⟩
theorem mC_X6_join : Cond.code yX6_join cX6_join 5 (some .int) ∈ UW := List.mem_filter.mpr ⟨List.mem_of_getElem? (i := 762) (by decide +kernel), by decide +kernel⟩
theorem mM_X6_131 : Cond.methodLink RX6 131 yX6_joins ∈ UW := List.mem_filter.mpr ⟨List.mem_of_getElem? (i := 763) (by decide +kernel), by decide +kernel⟩
theorem mI_X6_joins : Cond.instanceMethod yX6_joins ∈ UW := List.mem_filter.mpr ⟨List.mem_of_getElem? (i := 765) (by decide +kernel), by decide +kernel⟩
theorem mC_X6_joins : Cond.code yX6_joins cX6_joins 5 none ∈ UW := List.mem_filter.mpr ⟨List.mem_of_getElem? (i := 766) (by decide +kernel), by decide +kernel⟩
theorem mM_L_68 : Cond.methodLink RL 68 yX6_bears ∈ UW := List.mem_filter.mpr ⟨List.mem_of_getElem? (i := 767) (by decide +kernel), by decide +kernel⟩
theorem mI_X6_bears : Cond.instanceMethod yX6_bears ∈ UW := List.mem_filter.mpr ⟨List.mem_of_getElem? (i := 768) (by decide +kernel), by decide +kernel⟩
theorem mS_X6_bears : Cond.selects RX6 yX6_bears yX6_bears ∈ UW := List.mem_filter.mpr ⟨List.mem_of_getElem? (i := 769) (by decide +kernel), by decide +kernel⟩
theorem mC_X6_bears : Cond.code yX6_bears cX6_bears 4 (some .int) ∈ UW := List.mem_filter.mpr ⟨List.mem_of_getElem? (i := 770) (by decide +kernel), by decide +kernel⟩
theorem mM_L_72 : Cond.methodLink RL 72 yX6_load ∈ UW := List.mem_filter.mpr ⟨List.mem_of_getElem? (i := 771) (by decide +kernel), by decide +kernel⟩
theorem mI_X6_load : Cond.instanceMethod yX6_load ∈ UW := List.mem_filter.mpr ⟨List.mem_of_getElem? (i := 772) (by decide +kernel), by decide +kernel⟩
theorem mS_X6_load : Cond.selects RX6 yX6_load yX6_load ∈ UW := List.mem_filter.mpr ⟨List.mem_of_getElem? (i := 773) (by decide +kernel), by decide +kernel⟩
theorem mC_X6_load : Cond.code yX6_load cX6_load 2 (some .int) ∈ UW := List.mem_filter.mpr ⟨List.mem_of_getElem? (i := 774) (by decide +kernel), by decide +kernel⟩
theorem mM_X6_134 : Cond.methodLink RX6 134 yX6_bits ∈ UW := List.mem_filter.mpr ⟨List.mem_of_getElem? (i := 775) (by decide +kernel), by decide +kernel⟩
theorem mI_X6_bits : Cond.instanceMethod yX6_bits ∈ UW := List.mem_filter.mpr ⟨List.mem_of_getElem? (i := 777) (by decide +kernel), by decide +kernel⟩
theorem mC_X6_bits : Cond.code yX6_bits cX6_bits 3 (some .int) ∈ UW := List.mem_filter.mpr ⟨List.mem_of_getElem? (i := 778) (by decide +kernel), by decide +kernel⟩
theorem mM_X6_138 : Cond.methodLink RX6 138 yX6_loadOf ∈ UW := List.mem_filter.mpr ⟨List.mem_of_getElem? (i := 779) (by decide +kernel), by decide +kernel⟩
theorem mI_X6_loadOf : Cond.instanceMethod yX6_loadOf ∈ UW := List.mem_filter.mpr ⟨List.mem_of_getElem? (i := 781) (by decide +kernel), by decide +kernel⟩
theorem mC_X6_loadOf : Cond.code yX6_loadOf cX6_loadOf 5 (some .int) ∈ UW := List.mem_filter.mpr ⟨List.mem_of_getElem? (i := 782) (by decide +kernel), by decide +kernel⟩
theorem mM_L_76 : Cond.methodLink RL 76 yX6_routes ∈ UW := List.mem_filter.mpr ⟨List.mem_of_getElem? (i := 783) (by decide +kernel), by decide +kernel⟩
theorem mI_X6_routes : Cond.instanceMethod yX6_routes ∈ UW := List.mem_filter.mpr ⟨List.mem_of_getElem? (i := 784) (by decide +kernel), by decide +kernel⟩
theorem mS_X6_routes : Cond.selects RX6 yX6_routes yX6_routes ∈ UW := List.mem_filter.mpr ⟨List.mem_of_getElem? (i := 785) (by decide +kernel), by decide +kernel⟩
theorem mC_X6_routes : Cond.code yX6_routes cX6_routes 8 (some .int) ∈ UW := List.mem_filter.mpr ⟨List.mem_of_getElem? (i := 786) (by decide +kernel), by decide +kernel⟩
theorem mM_L_80 : Cond.methodLink RL 80 yX6_price ∈ UW := List.mem_filter.mpr ⟨List.mem_of_getElem? (i := 787) (by decide +kernel), by decide +kernel⟩
theorem mI_X6_price : Cond.instanceMethod yX6_price ∈ UW := List.mem_filter.mpr ⟨List.mem_of_getElem? (i := 788) (by decide +kernel), by decide +kernel⟩
theorem mS_X6_price : Cond.selects RX6 yX6_price yX6_price ∈ UW := List.mem_filter.mpr ⟨List.mem_of_getElem? (i := 789) (by decide +kernel), by decide +kernel⟩
theorem mC_X6_price : Cond.code yX6_price cX6_price 4 (some .int) ∈ UW := List.mem_filter.mpr ⟨List.mem_of_getElem? (i := 790) (by decide +kernel), by decide +kernel⟩
theorem mM_L_84 : Cond.methodLink RL 84 yX6_copy ∈ UW := List.mem_filter.mpr ⟨List.mem_of_getElem? (i := 791) (by decide +kernel), by decide +kernel⟩
theorem mI_X6_copy : Cond.instanceMethod yX6_copy ∈ UW := List.mem_filter.mpr ⟨List.mem_of_getElem? (i := 792) (by decide +kernel), by decide +kernel⟩
theorem mS_X6_copy : Cond.selects RX6 yX6_copy yX6_copy ∈ UW := List.mem_filter.mpr ⟨List.mem_of_getElem? (i := 793) (by decide +kernel), by decide +kernel⟩
theorem mC_X6_copy : Cond.code yX6_copy cX6_copy 3 (some .int) ∈ UW := List.mem_filter.mpr ⟨List.mem_of_getElem? (i := 794) (by decide +kernel), by decide +kernel⟩
theorem mM_X6_141 : Cond.methodLink RX6 141 yX6_copyOf ∈ UW := List.mem_filter.mpr ⟨List.mem_of_getElem? (i := 795) (by decide +kernel), by decide +kernel⟩
theorem mI_X6_copyOf : Cond.instanceMethod yX6_copyOf ∈ UW := List.mem_filter.mpr ⟨List.mem_of_getElem? (i := 797) (by decide +kernel), by decide +kernel⟩
theorem mC_X6_copyOf : Cond.code yX6_copyOf cX6_copyOf 5 (some .int) ∈ UW := List.mem_filter.mpr ⟨List.mem_of_getElem? (i := 798) (by decide +kernel), by decide +kernel⟩
theorem mM_L_88 : Cond.methodLink RL 88 yX6_saved ∈ UW := List.mem_filter.mpr ⟨List.mem_of_getElem? (i := 799) (by decide +kernel), by decide +kernel⟩
theorem mI_X6_saved : Cond.instanceMethod yX6_saved ∈ UW := List.mem_filter.mpr ⟨List.mem_of_getElem? (i := 800) (by decide +kernel), by decide +kernel⟩
theorem mS_X6_saved : Cond.selects RX6 yX6_saved yX6_saved ∈ UW := List.mem_filter.mpr ⟨List.mem_of_getElem? (i := 801) (by decide +kernel), by decide +kernel⟩
theorem mC_X6_saved : Cond.code yX6_saved cX6_saved 6 (some .int) ∈ UW := List.mem_filter.mpr ⟨List.mem_of_getElem? (i := 802) (by decide +kernel), by decide +kernel⟩
theorem mM_L_93 : Cond.methodLink RL 93 yX6_way ∈ UW := List.mem_filter.mpr ⟨List.mem_of_getElem? (i := 803) (by decide +kernel), by decide +kernel⟩
theorem mI_X6_way : Cond.instanceMethod yX6_way ∈ UW := List.mem_filter.mpr ⟨List.mem_of_getElem? (i := 804) (by decide +kernel), by decide +kernel⟩
theorem mS_X6_way : Cond.selects RX6 yX6_way yX6_way ∈ UW := List.mem_filter.mpr ⟨List.mem_of_getElem? (i := 805) (by decide +kernel), by decide +kernel⟩
theorem mC_X6_way : Cond.code yX6_way cX6_way 5 (some .int) ∈ UW := List.mem_filter.mpr ⟨List.mem_of_getElem? (i := 806) (by decide +kernel), by decide +kernel⟩
theorem mM_X6_144 : Cond.methodLink RX6 144 yX6_lays ∈ UW := List.mem_filter.mpr ⟨List.mem_of_getElem? (i := 807) (by decide +kernel), by decide +kernel⟩
theorem mI_X6_lays : Cond.instanceMethod yX6_lays ∈ UW := List.mem_filter.mpr ⟨List.mem_of_getElem? (i := 809) (by decide +kernel), by decide +kernel⟩
theorem mC_X6_lays : Cond.code yX6_lays cX6_lays 5 (some .boolean) ∈ UW := List.mem_filter.mpr ⟨List.mem_of_getElem? (i := 810) (by decide +kernel), by decide +kernel⟩
theorem mM_X6_148 : Cond.methodLink RX6 148 yX6_wayOf ∈ UW := List.mem_filter.mpr ⟨List.mem_of_getElem? (i := 811) (by decide +kernel), by decide +kernel⟩
theorem mI_X6_wayOf : Cond.instanceMethod yX6_wayOf ∈ UW := List.mem_filter.mpr ⟨List.mem_of_getElem? (i := 813) (by decide +kernel), by decide +kernel⟩
theorem mC_X6_wayOf : Cond.code yX6_wayOf cX6_wayOf 6 (some .int) ∈ UW := List.mem_filter.mpr ⟨List.mem_of_getElem? (i := 814) (by decide +kernel), by decide +kernel⟩
theorem mM_L_97 : Cond.methodLink RL 97 yX6_floor ∈ UW := List.mem_filter.mpr ⟨List.mem_of_getElem? (i := 815) (by decide +kernel), by decide +kernel⟩
theorem mI_X6_floor : Cond.instanceMethod yX6_floor ∈ UW := List.mem_filter.mpr ⟨List.mem_of_getElem? (i := 816) (by decide +kernel), by decide +kernel⟩
theorem mS_X6_floor : Cond.selects RX6 yX6_floor yX6_floor ∈ UW := List.mem_filter.mpr ⟨List.mem_of_getElem? (i := 817) (by decide +kernel), by decide +kernel⟩
theorem mC_X6_floor : Cond.code yX6_floor cX6_floor 4 (some .int) ∈ UW := List.mem_filter.mpr ⟨List.mem_of_getElem? (i := 818) (by decide +kernel), by decide +kernel⟩
theorem mM_L_101 : Cond.methodLink RL 101 yX6_keep ∈ UW := List.mem_filter.mpr ⟨List.mem_of_getElem? (i := 819) (by decide +kernel), by decide +kernel⟩
theorem mI_X6_keep : Cond.instanceMethod yX6_keep ∈ UW := List.mem_filter.mpr ⟨List.mem_of_getElem? (i := 820) (by decide +kernel), by decide +kernel⟩
theorem mS_X6_keep : Cond.selects RX6 yX6_keep yX6_keep ∈ UW := List.mem_filter.mpr ⟨List.mem_of_getElem? (i := 821) (by decide +kernel), by decide +kernel⟩
theorem mC_X6_keep : Cond.code yX6_keep cX6_keep 2 (some .int) ∈ UW := List.mem_filter.mpr ⟨List.mem_of_getElem? (i := 822) (by decide +kernel), by decide +kernel⟩
theorem mM_L_105 : Cond.methodLink RL 105 yX6_year ∈ UW := List.mem_filter.mpr ⟨List.mem_of_getElem? (i := 823) (by decide +kernel), by decide +kernel⟩
theorem mI_X6_year : Cond.instanceMethod yX6_year ∈ UW := List.mem_filter.mpr ⟨List.mem_of_getElem? (i := 824) (by decide +kernel), by decide +kernel⟩
theorem mS_X6_year : Cond.selects RX6 yX6_year yX6_year ∈ UW := List.mem_filter.mpr ⟨List.mem_of_getElem? (i := 825) (by decide +kernel), by decide +kernel⟩
theorem mC_X6_year : Cond.code yX6_year cX6_year 2 (some .int) ∈ UW := List.mem_filter.mpr ⟨List.mem_of_getElem? (i := 826) (by decide +kernel), by decide +kernel⟩
theorem mM_L_109 : Cond.methodLink RL 109 yX6_change ∈ UW := List.mem_filter.mpr ⟨List.mem_of_getElem? (i := 827) (by decide +kernel), by decide +kernel⟩
theorem mI_X6_change : Cond.instanceMethod yX6_change ∈ UW := List.mem_filter.mpr ⟨List.mem_of_getElem? (i := 828) (by decide +kernel), by decide +kernel⟩
theorem mS_X6_change : Cond.selects RX6 yX6_change yX6_change ∈ UW := List.mem_filter.mpr ⟨List.mem_of_getElem? (i := 829) (by decide +kernel), by decide +kernel⟩
theorem mC_X6_change : Cond.code yX6_change cX6_change 3 (some .int) ∈ UW := List.mem_filter.mpr ⟨List.mem_of_getElem? (i := 830) (by decide +kernel), by decide +kernel⟩
theorem mM_L_113 : Cond.methodLink RL 113 yX6_plan ∈ UW := List.mem_filter.mpr ⟨List.mem_of_getElem? (i := 831) (by decide +kernel), by decide +kernel⟩
theorem mI_X6_plan : Cond.instanceMethod yX6_plan ∈ UW := List.mem_filter.mpr ⟨List.mem_of_getElem? (i := 832) (by decide +kernel), by decide +kernel⟩
theorem mS_X6_plan : Cond.selects RX6 yX6_plan yX6_plan ∈ UW := List.mem_filter.mpr ⟨List.mem_of_getElem? (i := 833) (by decide +kernel), by decide +kernel⟩
theorem mC_X6_plan : Cond.code yX6_plan cX6_plan 5 (some .int) ∈ UW := List.mem_filter.mpr ⟨List.mem_of_getElem? (i := 834) (by decide +kernel), by decide +kernel⟩
theorem mM_X6_154 : Cond.methodLink RX6 154 yX6_movedOf ∈ UW := List.mem_filter.mpr ⟨List.mem_of_getElem? (i := 835) (by decide +kernel), by decide +kernel⟩
theorem mI_X6_movedOf : Cond.instanceMethod yX6_movedOf ∈ UW := List.mem_filter.mpr ⟨List.mem_of_getElem? (i := 837) (by decide +kernel), by decide +kernel⟩
theorem mC_X6_movedOf : Cond.code yX6_movedOf cX6_movedOf 5 (some .int) ∈ UW := List.mem_filter.mpr ⟨List.mem_of_getElem? (i := 838) (by decide +kernel), by decide +kernel⟩
theorem mM_L_117 : Cond.methodLink RL 117 yX6_count ∈ UW := List.mem_filter.mpr ⟨List.mem_of_getElem? (i := 839) (by decide +kernel), by decide +kernel⟩
theorem mI_X6_count : Cond.instanceMethod yX6_count ∈ UW := List.mem_filter.mpr ⟨List.mem_of_getElem? (i := 840) (by decide +kernel), by decide +kernel⟩
theorem mS_X6_count : Cond.selects RX6 yX6_count yX6_count ∈ UW := List.mem_filter.mpr ⟨List.mem_of_getElem? (i := 841) (by decide +kernel), by decide +kernel⟩
theorem mC_X6_count : Cond.code yX6_count cX6_count 2 (some .int) ∈ UW := List.mem_filter.mpr ⟨List.mem_of_getElem? (i := 842) (by decide +kernel), by decide +kernel⟩
theorem mM_L_122 : Cond.methodLink RL 122 yX6_trace ∈ UW := List.mem_filter.mpr ⟨List.mem_of_getElem? (i := 843) (by decide +kernel), by decide +kernel⟩
theorem mI_X6_trace : Cond.instanceMethod yX6_trace ∈ UW := List.mem_filter.mpr ⟨List.mem_of_getElem? (i := 844) (by decide +kernel), by decide +kernel⟩
theorem mS_X6_trace : Cond.selects RX6 yX6_trace yX6_trace ∈ UW := List.mem_filter.mpr ⟨List.mem_of_getElem? (i := 845) (by decide +kernel), by decide +kernel⟩
theorem mC_X6_trace : Cond.code yX6_trace cX6_trace 1 (some .long) ∈ UW := List.mem_filter.mpr ⟨List.mem_of_getElem? (i := 846) (by decide +kernel), by decide +kernel⟩
theorem inX0 : ∀ w ∈ u_ws RX0 TX0 3, w ∈ UW := by decide +kernel
theorem inX1 : ∀ w ∈ u_ws RX1 TX1 4, w ∈ UW := by decide +kernel
theorem inX2 : ∀ w ∈ u_ws RX2 TX2 2, w ∈ UW := by decide +kernel
theorem inX3 : ∀ w ∈ u_ws RX3 TX3 6, w ∈ UW := by decide +kernel
theorem inX4 : ∀ w ∈ u_ws RX4 TX4 5, w ∈ UW := by decide +kernel
theorem inX5 : ∀ w ∈ u_ws RX5 TX5 15, w ∈ UW := by decide +kernel
theorem inX6 : ∀ w ∈ u_ws RX6 TX6 21, w ∈ UW := by decide +kernel
end
section
/-! ROWS OF THIS CLAIM: one word list UW; a method's walk carries E (what stays) and Z (the world now); numbers are nI of a Nat where they can be -/
def up {α : Type} (g : Nat → α) (k : Nat) (v : α) : Nat → α := fun j => if j = k then v else g j
def nA (g : Nat → Nat) : Nat → Int32 := fun j => nI (g j)
abbrev ar (cA : ClassId) (n : Nat) (g : Nat → Nat) : va_E := .inl (cA, n, .inl (nA g))
abbrev arR (cA : ClassId) (n : Nat) (g : Nat → Int32) : va_E := .inl (cA, n, .inl g)
theorem up_s {α : Type} (g : Nat → α) (k : Nat) (v : α) : up g k v k = v := if_pos rfl
theorem up_n {α : Type} (g : Nat → α) {k j : Nat} (v : α) (h : j ≠ k) : up g k v j = g j := if_neg h
theorem upd_nA (g : Nat → Nat) (k v : Nat) : upd (nA g) k (nI v) = nA (up g k v) := by
  funext j
  unfold upd nA up
  by_cases h : j = k
  · rw [if_pos h, if_pos h]
  · rw [if_neg h, if_neg h]
theorem upd_up (g : Nat → Int32) (k : Nat) (v : Int32) : upd g k v = up g k v := rfl
def Ev (p : Program) (s : State) (m : MethodId) (args : Array Value) (c : Code) (cc : ByteArray) (nL : Nat) (own : String) (D : va_G) (cA : ClassId) (A : Nat → Prop) : Prop :=
  CallFix p m c cc nL s args UW own ∧ va_K D vwCl [(cA, .int)] s ∧ (∀ q, s.heap.size ≤ q → A q)
def Wd (D : va_G) (A : Nat → Prop) (s : State) (ws : va_W) (H : Heap) (locs : List Loc) : Prop := va_P D vwCl ws H ∧ va_D A ws ∧ va_S A s.heap H locs
/-- the world with some of its cells put anew -/
def wput : va_W → List Nat → va_W → va_W
  | ws, i :: is, x :: xs => wput (ws.set i x) is xs
  | ws, _, _ => ws
theorem wput_at : ∀ (is : List Nat) (ws w1 : va_W), is.length = w1.length → ∀ (k : Nat) (q : Nat × va_E), (wput ws is w1)[k]? = some q → (∃ i : Nat, is[i]? = some k ∧ w1[i]? = some q) ∨ (ws[k]? = some q ∧ k ∉ is) := by
  intro is
  induction is with
  | nil =>
    intro ws w1 hl k q h
    refine Or.inr ⟨?_, List.not_mem_nil⟩
    cases w1 <;> exact h
  | cons i0 is ih =>
    intro ws w1 hl k q h
    cases w1 with
    | nil => simp at hl
    | cons x xs =>
      rcases ih (ws.set i0 x) xs (by simpa using hl) k q h with ⟨i, h1, h2⟩ | ⟨h1, h2⟩
      · exact Or.inl ⟨i + 1, by simpa using h1, by simpa using h2⟩
      · by_cases hk : i0 = k
        · subst hk
          refine Or.inl ⟨0, rfl, ?_⟩
          rw [List.getElem?_set] at h1
          rw [if_pos rfl] at h1
          by_cases hlt : i0 < ws.length
          · rw [if_pos hlt] at h1; exact h1
          · rw [if_neg hlt] at h1; cases h1
        · rw [List.getElem?_set_ne hk] at h1
          refine Or.inr ⟨h1, ?_⟩
          intro hm
          rcases List.mem_cons.mp hm with e | e
          · exact hk e.symm
          · exact h2 e
theorem wput_self : ∀ (is : List Nat) (ws wc : va_W), is.map (fun i => ws[i]?) = wc.map some → wput ws is wc = ws := by
  intro is
  induction is with
  | nil =>
    intro ws wc h
    cases wc <;> rfl
  | cons i0 is ih =>
    intro ws wc h
    cases wc with
    | nil => simp at h
    | cons x xs =>
      simp only [List.map_cons, List.cons.injEq] at h
      have e : ws.set i0 x = ws := by
        apply List.ext_getElem?
        intro k
        rw [List.getElem?_set]
        by_cases hk : i0 = k
        · subst hk
          rw [if_pos rfl]
          have hlt : i0 < ws.length := (List.getElem?_eq_some_iff.mp h.1).1
          rw [if_pos hlt, h.1]
        · rw [if_neg hk]
      show wput (ws.set i0 x) is xs = ws
      rw [e]
      exact ih ws xs h.2
theorem wjoin {A0 : Nat → Prop} {D : va_G} {cl : List vw_C} {ws wc w1 : va_W} {H H1 : Heap} (hP : va_P D cl ws H) (hD : va_D A0 ws) (isC : List Nat) (hC : isC.map (fun i => ws[i]?) = wc.map some) (hs : w1.map (fun q => q.1) = wc.map (fun q => q.1))
    (hk : ∀ q : Nat, q < H.size → ¬ va_A wc H.size q → H1[q]? = H[q]?) (hP1 : va_P D cl w1 H1) : va_P D cl (wput ws isC w1) H1 ∧ va_D A0 (wput ws isC w1) := by
  have hlen : isC.length = w1.length := by
    have h1 := congrArg List.length hC
    have h2 := congrArg List.length hs
    simp only [List.length_map] at h1 h2
    omega
  have at' : ∀ (k : Nat) (q : Nat × va_E), wc[k]? = some q → ∃ i, isC[k]? = some i ∧ ws[i]? = some q := by
    intro k q hq
    have h1 : (isC.map (fun i => ws[i]?))[k]? = some (some q) := by rw [hC, List.getElem?_map, hq]; rfl
    rw [List.getElem?_map] at h1
    cases hi : isC[k]? with
    | none => rw [hi] at h1; cases h1
    | some i => rw [hi] at h1; exact ⟨i, rfl, Option.some.inj h1⟩
  have addr : ∀ (k : Nat) (q : Nat × va_E), (wput ws isC w1)[k]? = some q → ∃ e, ws[k]? = some (q.1, e) := by
    intro k q hq
    rcases wput_at isC ws w1 hlen k q hq with ⟨i, h1, h2⟩ | ⟨h1, -⟩
    · have h3 : (w1.map (fun q => q.1))[i]? = some q.1 := by rw [List.getElem?_map, h2]; rfl
      rw [hs, List.getElem?_map] at h3
      cases hw : wc[i]? with
      | none => rw [hw] at h3; cases h3
      | some z =>
        rw [hw] at h3
        obtain ⟨j, h4, h5⟩ := at' i z hw
        rw [h1] at h4
        cases h4
        exact ⟨z.2, by rw [h5]; have h6 : z.1 = q.1 := Option.some.inj h3; rw [← h6]⟩
    · exact ⟨q.2, h1⟩
  refine ⟨fun k q hq => ?_, fun i j x y hx hy hxy => ?_, fun k q hq => ?_⟩
  · rcases wput_at isC ws w1 hlen k q hq with ⟨i, -, h2⟩ | ⟨h1, h2⟩
    · exact hP1 i q h2
    · have hl := (hP k q h1).lt
      refine (hP k q h1).kept (hk q.1 hl fun h => ?_)
      rcases h with ⟨k2, e, h⟩ | h
      · obtain ⟨j, h3, h4⟩ := at' k2 (q.1, e) h
        have hij := hD.1 k j q (q.1, e) h1 h4 rfl
        subst hij
        exact h2 (List.mem_of_getElem? h3)
      · omega
  · obtain ⟨e1, h1⟩ := addr i x hx
    obtain ⟨e2, h2⟩ := addr j y hy
    exact hD.1 i j _ _ h1 h2 hxy
  · obtain ⟨e1, h1⟩ := addr k q hq
    exact hD.2 k (q.1, e1) h1
/-! contracts -/
abbrev wd (y : MethodName) (cc : ByteArray) (nL : Nat) (rt : Option FieldType) : List Cond := Cond.code y cc nL rt :: UW
abbrev PcW (D : va_G) (cA : ClassId) (av : List Value) (w : va_W) (sz : Nat) (X : State → Prop) : Array Value → State → Prop := va_Pc av (fun U => U.heap.size = sz ∧ va_P D vwCl w U.heap ∧ va_K D vwCl [(cA, .int)] U ∧ va_D (fun _ => True) w ∧ X U)
def Cti (l : Launch) (y : MethodName) (cc : ByteArray) (nL : Nat) (rt : Option FieldType) (rm : Room) (D : va_G) (cA : ClassId) (av : List Value) (w : va_W) {S : Type} (post : Int32 → S → Prop) (w' : S → va_W) : Prop :=
  ∀ sz : Nat, Met l y (wd y cc nL rt) rm (PcW D cA av w sz (fun _ => True)) (va_Qi post (fun u t => va_P D vwCl (w' u) t.heap) (va_A w sz)) 0 0 (va_A w sz)
def Ctl (l : Launch) (y : MethodName) (cc : ByteArray) (nL : Nat) (rt : Option FieldType) (rm : Room) (D : va_G) (cA : ClassId) (av : List Value) (w : va_W) {S : Type} (post : Int64 → S → Prop) (w' : S → va_W) : Prop :=
  ∀ sz : Nat, Met l y (wd y cc nL rt) rm (PcW D cA av w sz (fun _ => True)) (va_Ql post (fun u t => va_P D vwCl (w' u) t.heap) (va_A w sz)) 0 0 (va_A w sz)
def Ctv (l : Launch) (y : MethodName) (cc : ByteArray) (nL : Nat) (rt : Option FieldType) (rm : Room) (D : va_G) (cA : ClassId) (av : List Value) (w : va_W) {S : Type} (post : S → Prop) (w' : S → va_W) : Prop :=
  ∀ sz : Nat, Met l y (wd y cc nL rt) rm (PcW D cA av w sz (fun _ => True)) (va_Qv post (fun u t => va_P D vwCl (w' u) t.heap) (va_A w sz)) 0 0 (va_A w sz)
abbrev Qi {S : Type} (below : List Frame) (s : State) (args : Array Value) (D : va_G) (A : Nat → Prop) (post : Int32 → S → Prop) (w' : S → va_W) : State → Prop := MQ below (va_Qi post (fun u t => va_P D vwCl (w' u) t.heap) A) args s 0 0 A
abbrev Ql {S : Type} (below : List Frame) (s : State) (args : Array Value) (D : va_G) (A : Nat → Prop) (post : Int64 → S → Prop) (w' : S → va_W) : State → Prop := MQ below (va_Ql post (fun u t => va_P D vwCl (w' u) t.heap) A) args s 0 0 A
abbrev Qv {S : Type} (below : List Frame) (s : State) (args : Array Value) (D : va_G) (A : Nat → Prop) (post : S → Prop) (w' : S → va_W) : State → Prop := MQ below (va_Qv post (fun u t => va_P D vwCl (w' u) t.heap) A) args s 0 0 A
section Starts
variable {l : Launch} {y : MethodName} {cc : ByteArray} {nL : Nat} {rt : Option FieldType} {rm : Room} {D : va_G} {cA : ClassId} {av : List Value} {w : va_W} {S : Type} {w' : S → va_W}
theorem ct_any {Qc : Nat → Array Value → State → Outcome → State → Prop} {X : State → Prop} (hy : plainName y.cls = true) (hn : (lg_sl av).length ≤ nL)
    (body : ∀ (p : Program) (e : Env) (s : State) (m : MethodId) (below : List Frame) (meth : Method) (c : Code), Ev p s m av.toArray c cc nL y.cls D cA (va_A w s.heap.size) → meth.sig.returnType = rt → meth.locks = false → meth.name = y.name → Wd D (va_A w s.heap.size) s w s.heap [] → X s →
      ∀ ls : Array Slot, lv_has ls nL (lv_args 0 av) → W p l e rm s m av.toArray below meth c s.heap [] 0 0 (MQ below (Qc s.heap.size) av.toArray s 0 0 (va_A w s.heap.size)) (F0 m 0 ls [])) :
    ∀ sz : Nat, Met l y (wd y cc nL rt) rm (PcW D cA av w sz X) (Qc sz) 0 0 (va_A w sz) := by
  intro sz
  refine Met.ofW (cc := cc) (maxL := nL) (ret := rt) hy rfl ?_
  intro p e s m args below meth c s₁ B hml hv
  obtain ⟨rfl, hsz, hP, hK, hD0, hX⟩ := hv
  subst hsz
  have hts : ∀ w ∈ UW, w.before av.toArray s = true := fun w h => atoms_spec (ws := wd y cc nL rt) B.pre w (List.mem_cons_of_mem _ h)
  have hl := lv_entry av (n := nL) hn
  rw [lg_entry_eq]
  exact body p e s m below meth c ⟨⟨B.exec, B.bytes, hml, findClass_of_methodNamed B.named, hts⟩, hK, fun q h => Or.inr h⟩ B.returns B.notSynchronized (name_of_methodNamed B.named B.method).1 ⟨hP, hD0.self, va_S.rf⟩ hX _ hl
theorem ct_i {post : Int32 → S → Prop} (hy : plainName y.cls = true) (hn : (lg_sl av).length ≤ nL)
    (body : ∀ (p : Program) (e : Env) (s : State) (m : MethodId) (below : List Frame) (meth : Method) (c : Code) (A : Nat → Prop), Ev p s m av.toArray c cc nL y.cls D cA A → meth.sig.returnType = rt → meth.locks = false → Wd D A s w s.heap [] →
      ∀ ls : Array Slot, lv_has ls nL (lv_args 0 av) → W p l e rm s m av.toArray below meth c s.heap [] 0 0 (Qi below s av.toArray D A post w') (F0 m 0 ls [])) : Cti l y cc nL rt rm D cA av w post w' :=
  ct_any (X := fun _ => True) (Qc := fun sz => va_Qi post (fun u t => va_P D vwCl (w' u) t.heap) (va_A w sz)) hy hn (fun p e s m below meth c E hr hk _ Z _ ls hl => body p e s m below meth c _ E hr hk Z ls hl)
theorem ct_l {post : Int64 → S → Prop} (hy : plainName y.cls = true) (hn : (lg_sl av).length ≤ nL)
    (body : ∀ (p : Program) (e : Env) (s : State) (m : MethodId) (below : List Frame) (meth : Method) (c : Code) (A : Nat → Prop), Ev p s m av.toArray c cc nL y.cls D cA A → meth.sig.returnType = rt → meth.locks = false → Wd D A s w s.heap [] →
      ∀ ls : Array Slot, lv_has ls nL (lv_args 0 av) → W p l e rm s m av.toArray below meth c s.heap [] 0 0 (Ql below s av.toArray D A post w') (F0 m 0 ls [])) : Ctl l y cc nL rt rm D cA av w post w' :=
  ct_any (X := fun _ => True) (Qc := fun sz => va_Ql post (fun u t => va_P D vwCl (w' u) t.heap) (va_A w sz)) hy hn (fun p e s m below meth c E hr hk _ Z _ ls hl => body p e s m below meth c _ E hr hk Z ls hl)
theorem ct_v {post : S → Prop} (hy : plainName y.cls = true) (hn : (lg_sl av).length ≤ nL)
    (body : ∀ (p : Program) (e : Env) (s : State) (m : MethodId) (below : List Frame) (meth : Method) (c : Code) (A : Nat → Prop), Ev p s m av.toArray c cc nL y.cls D cA A → meth.sig.returnType = rt → meth.locks = false → Wd D A s w s.heap [] →
      ∀ ls : Array Slot, lv_has ls nL (lv_args 0 av) → W p l e rm s m av.toArray below meth c s.heap [] 0 0 (Qv below s av.toArray D A post w') (F0 m 0 ls [])) : Ctv l y cc nL rt rm D cA av w post w' :=
  ct_any (X := fun _ => True) (Qc := fun sz => va_Qv post (fun u t => va_P D vwCl (w' u) t.heap) (va_A w sz)) hy hn (fun p e s m below meth c E hr hk _ Z _ ls hl => body p e s m below meth c _ E hr hk Z ls hl)
end Starts
section Rows
variable {p : Program} {l : Launch} {e : Env} {R : Room} {s : State} {m : MethodId} {args : Array Value} {below : List Frame} {meth : Method} {c : Code} {H : Heap} {locs : List Loc} {cells slots : Nat} {Q : State → Prop}
variable {cc : ByteArray} {nL : Nat} {own : String} {D : va_G} {cA : ClassId} {A : Nat → Prop} {ws w1 : va_W} {pc : Nat} {ls : Array Slot} {rest : List Value} {a : Nat}
theorem r_get (E : Ev p s m args c cc nL own D cA A) (Z : Wd D A s ws H locs) {C : String} {T : u_T} {N ci index : Nat} (hin : ∀ w ∈ u_ws C T N, w ∈ UW) (hc : vwCl[ci]? = some (C, T, N)) (k : Nat) (hk : k < N) (hlink : Cond.fieldLink own index (T k).1 (T k).2.1 (T k).2.2.1 ∈ UW) (hdg : decode cc pc = .ok (.getfield index, 3))
    (q0 : Nat) {fs : List Value} (he : ws[q0]? = some (a, .inr (ci, fs))) {v : Value} (hv : fs[k]? = some v) (kk : W p l e R s m args below meth c H locs cells slots Q (F0 m (pc + 3) ls (v :: rest))) : W p l e R s m args below meth c H locs cells slots Q (F0 m pc ls (.ref a :: rest)) := by
  obtain ⟨⟨hx, hb, -, ho, ht⟩, hK, -⟩ := E
  exact va_get hx hb ht hin ho hK Z.1 q0 he hc k hk (ht _ hlink) (fun _ h => h) hv hdg kk
theorem r_put (E : Ev p s m args c cc nL own D cA A) (Z : Wd D A s ws H locs) {C : String} {T : u_T} {N ci index : Nat} (hin : ∀ w ∈ u_ws C T N, w ∈ UW) (hc : vwCl[ci]? = some (C, T, N)) (ty0 : Nat → FieldType) (hty : ∀ k, k < N → parseFieldDescriptor (T k).2.2.1 = some (ty0 k)) (hnm : ∀ a, a < N → ∀ b, b < N → a ≠ b → (T a).2.1 ≠ (T b).2.1) (k : Nat) (hk : k < N) (hfin : (T k).2.2.2 = false) (hlink : Cond.fieldLink own index (T k).1 (T k).2.1 (T k).2.2.1 ∈ UW) {v : Value} (hn : narrow (ty0 k) v = v) (hfit : fits (ty0 k) v = true) (hdg : decode cc pc = .ok (.putfield index, 3))
    (q0 : Nat) {fs : List Value} (he : ws[q0]? = some (a, .inr (ci, fs))) (hl : k < fs.length) (hw : ws.set q0 (a, .inr (ci, fs.set k v)) = w1) (kk : ∀ (H : Heap) (locs : List Loc), Wd D A s w1 H locs → W p l e R s m args below meth c H locs cells slots Q (F0 m (pc + 3) ls rest)) : W p l e R s m args below meth c H locs cells slots Q (F0 m pc ls (v :: .ref a :: rest)) := by
  obtain ⟨⟨hx, hb, -, ho, ht⟩, hK, -⟩ := E
  subst hw
  exact va_put hx hb ht hin ty0 hty hnm ho hK Z.1 Z.2.1 Z.2.2 q0 he hc k hk (ht _ hlink) (fun _ h => h) hfin (hty k hk) hn hfit hl hdg (fun H1 locs1 h1 h2 h3 => kk H1 locs1 ⟨h1, h2, h3⟩)
theorem r_putF (E : Ev p s m args c cc nL own D cA A) (Z : Wd D A s ws H locs) (hinit : meth.name = "<init>") {C : String} {T : u_T} {N ci index : Nat} (hin : ∀ w ∈ u_ws C T N, w ∈ UW) (hc : vwCl[ci]? = some (C, T, N)) (ty0 : Nat → FieldType) (hty : ∀ k, k < N → parseFieldDescriptor (T k).2.2.1 = some (ty0 k)) (hnm : ∀ a, a < N → ∀ b, b < N → a ≠ b → (T a).2.1 ≠ (T b).2.1) (k : Nat) (hk : k < N) (hfin : (T k).2.2.2 = true) (hdecl : (T k).1 = own) (hlink : Cond.fieldLink own index (T k).1 (T k).2.1 (T k).2.2.1 ∈ UW) {v : Value} (hn : narrow (ty0 k) v = v) (hfit : fits (ty0 k) v = true) (hdg : decode cc pc = .ok (.putfield index, 3))
    (q0 : Nat) {fs : List Value} (he : ws[q0]? = some (a, .inr (ci, fs))) (hl : k < fs.length) (hw : ws.set q0 (a, .inr (ci, fs.set k v)) = w1) (kk : ∀ (H : Heap) (locs : List Loc), Wd D A s w1 H locs → W p l e R s m args below meth c H locs cells slots Q (F0 m (pc + 3) ls rest)) : W p l e R s m args below meth c H locs cells slots Q (F0 m pc ls (v :: .ref a :: rest)) := by
  obtain ⟨⟨hx, hb, -, ho, ht⟩, hK, -⟩ := E
  subst hw
  exact va_putF hx hb ht hin ty0 hty hnm ho hK Z.1 Z.2.1 Z.2.2 q0 he hc k hk (ht _ hlink) (fun _ h => h) hfin hinit hdecl (hty k hk) hn hfit hl hdg (fun H1 locs1 h1 h2 h3 => kk H1 locs1 ⟨h1, h2, h3⟩)
/-- a cell of a Nat array read, at a Nat -/
theorem r_ald (E : Ev p s m args c cc nL own D cA A) (Z : Wd D A s ws H locs) (hdg : decode cc pc = .ok (.iaload, 1)) (q0 : Nat) {n : Nat} {g : Nat → Nat} (he : ws[q0]? = some (a, ar cA n g)) {j : Nat} (hj : j < n) (hn : n < 1000)
    (kk : W p l e R s m args below meth c H locs cells slots Q (F0 m (pc + 1) ls (.int (nI (g j)) :: rest))) : W p l e R s m args below meth c H locs cells slots Q (F0 m pc ls (.int (nI j) :: .ref a :: rest)) := by
  obtain ⟨⟨hx, hb, -, ho, ht⟩, hK, -⟩ := E
  have h31 : j < 2 ^ 31 := by omega
  refine va_iald hx hb hK Z.1 q0 0 he rfl (vp_in_nI hj (by omega)) hdg ?_
  rw [nI_clamp h31]
  exact kk
theorem r_aldR (E : Ev p s m args c cc nL own D cA A) (Z : Wd D A s ws H locs) (hdg : decode cc pc = .ok (.iaload, 1)) (q0 : Nat) {n : Nat} {g : Nat → Int32} (he : ws[q0]? = some (a, arR cA n g)) {j : Nat} (hj : j < n) (hn : n < 1000)
    (kk : W p l e R s m args below meth c H locs cells slots Q (F0 m (pc + 1) ls (.int (g j) :: rest))) : W p l e R s m args below meth c H locs cells slots Q (F0 m pc ls (.int (nI j) :: .ref a :: rest)) := by
  obtain ⟨⟨hx, hb, -, ho, ht⟩, hK, -⟩ := E
  have h31 : j < 2 ^ 31 := by omega
  refine va_iald hx hb hK Z.1 q0 0 he rfl (vp_in_nI hj (by omega)) hdg ?_
  rw [nI_clamp h31]
  exact kk
theorem r_ast (E : Ev p s m args c cc nL own D cA A) (Z : Wd D A s ws H locs) (hdg : decode cc pc = .ok (.iastore, 1)) (q0 : Nat) {n : Nat} {g : Nat → Nat} (he : ws[q0]? = some (a, ar cA n g)) {j v : Nat} (hj : j < n) (hn : n < 1000) (hw : ws.set q0 (a, ar cA n (up g j v)) = w1)
    (kk : ∀ (H : Heap) (locs : List Loc), Wd D A s w1 H locs → W p l e R s m args below meth c H locs cells slots Q (F0 m (pc + 1) ls rest)) : W p l e R s m args below meth c H locs cells slots Q (F0 m pc ls (.int (nI v) :: .int (nI j) :: .ref a :: rest)) := by
  obtain ⟨⟨hx, hb, -, ho, ht⟩, hK, -⟩ := E
  have h31 : j < 2 ^ 31 := by omega
  subst hw
  refine va_iast hx hb hK Z.1 Z.2.1 Z.2.2 q0 0 he rfl (vp_in_nI hj (by omega)) hdg (fun H1 locs1 h1 h2 h3 => ?_)
  rw [nI_clamp h31, upd_nA] at h1 h2
  exact kk H1 locs1 ⟨h1, h2, h3⟩
theorem r_astR (E : Ev p s m args c cc nL own D cA A) (Z : Wd D A s ws H locs) (hdg : decode cc pc = .ok (.iastore, 1)) (q0 : Nat) {n : Nat} {g : Nat → Int32} (he : ws[q0]? = some (a, arR cA n g)) {j : Nat} {v : Int32} (hj : j < n) (hn : n < 1000) (hw : ws.set q0 (a, arR cA n (up g j v)) = w1)
    (kk : ∀ (H : Heap) (locs : List Loc), Wd D A s w1 H locs → W p l e R s m args below meth c H locs cells slots Q (F0 m (pc + 1) ls rest)) : W p l e R s m args below meth c H locs cells slots Q (F0 m pc ls (.int v :: .int (nI j) :: .ref a :: rest)) := by
  obtain ⟨⟨hx, hb, -, ho, ht⟩, hK, -⟩ := E
  have h31 : j < 2 ^ 31 := by omega
  subst hw
  refine va_iast hx hb hK Z.1 Z.2.1 Z.2.2 q0 0 he rfl (vp_in_nI hj (by omega)) hdg (fun H1 locs1 h1 h2 h3 => ?_)
  rw [nI_clamp h31] at h1 h2
  exact kk H1 locs1 ⟨h1, h2, h3⟩
theorem r_alen (E : Ev p s m args c cc nL own D cA A) (Z : Wd D A s ws H locs) (hdg : decode cc pc = .ok (.arraylength, 1)) (q0 : Nat) {n : Nat} {g : Nat → Int32} (he : ws[q0]? = some (a, arR cA n g))
    (kk : W p l e R s m args below meth c H locs cells slots Q (F0 m (pc + 1) ls (.int (nI n) :: rest))) : W p l e R s m args below meth c H locs cells slots Q (F0 m pc ls (.ref a :: rest)) := by
  obtain ⟨⟨hx, hb, -, ho, ht⟩, hK, -⟩ := E
  exact va_alen hx hb hK Z.1 q0 0 he rfl rfl hdg kk
/-- an array's contents by another function that agrees within its length -/
theorem Wd.norm (Z : Wd D A s ws H locs) (q0 : Nat) {n : Nat} {f f' : Nat → Int32} (he : ws[q0]? = some (a, arR cA n f)) (h : ∀ j, j < n → f j = f' j) (hw : ws.set q0 (a, arR cA n f') = w1) : Wd D A s w1 H locs := by
  subst hw
  have e : vp_cell cA (n, .inl f) = vp_cell cA (n, .inl f') := by
    rw [vp_cell_i, vp_cell_i]
    unfold arrV
    congr 1
    apply Array.ext
    · simp
    · intro i h1 h2
      simp at h1 ⊢
      exact h i (by simpa using h1)
  refine ⟨Z.1.set Z.2.1 he ?_ (fun q _ => rfl), Z.2.1.set he, Z.2.2⟩
  have h0 := Z.1 q0 _ he
  show H[a]? = some (vp_cell cA (n, .inl f'))
  rw [← e]
  exact h0
theorem Wd.to (Z : Wd D A s ws H locs) (h : ws = w1) : Wd D A s w1 H locs := h ▸ Z
/-- the top of the stack under another name -/
theorem r_top {x y : Int32} (h : x = y) (kk : W p l e R s m args below meth c H locs cells slots Q (F0 m pc ls (.int y :: rest))) : W p l e R s m args below meth c H locs cells slots Q (F0 m pc ls (.int x :: rest)) := h ▸ kk
theorem r_top2 {v : Value} {x y : Int32} (h : x = y) (kk : W p l e R s m args below meth c H locs cells slots Q (F0 m pc ls (v :: .int y :: rest))) : W p l e R s m args below meth c H locs cells slots Q (F0 m pc ls (v :: .int x :: rest)) := h ▸ kk
/-! returns -/
theorem r_iret (E : Ev p s m args c cc nL own D cA A) (Z : Wd D A s ws H locs) (hr : meth.sig.returnType = some .int) (hlk : meth.locks = false) {S : Type} {post : Int32 → S → Prop} {w' : S → va_W} {v : Int32} (hdg : decode cc pc = .ok (.ireturn, 1)) (u : S) (hw : ws = w' u) (hp : post v u) : W p l e R s m args below meth c H locs 0 0 (Qi below s args D A post w') (F0 m pc ls [.int v]) := by
  obtain ⟨⟨hx, hb, -, ho, ht⟩, hK, -⟩ := E
  exact W.iret hx hb hr (fun t ht _ => ⟨⟨v, u, rfl, hp, by show va_P D vwCl (w' u) t.heap; rw [ht, ← hw]; exact Z.1⟩, Z.2.2.F ht⟩) Z.2.2.2.2 hdg hlk
theorem r_zret (E : Ev p s m args c cc nL own D cA A) (Z : Wd D A s ws H locs) (hr : meth.sig.returnType = some .boolean) (hlk : meth.locks = false) {S : Type} {post : Int32 → S → Prop} {w' : S → va_W} {v : Int32} (hdg : decode cc pc = .ok (.ireturn, 1)) (hn : narrow .boolean (.int v) = .int v) (u : S) (hw : ws = w' u) (hp : post v u) : W p l e R s m args below meth c H locs 0 0 (Qi below s args D A post w') (F0 m pc ls [.int v]) := by
  obtain ⟨⟨hx, hb, -, ho, ht⟩, hK, -⟩ := E
  exact W.zret hx hb hr hn (fun t ht _ => ⟨⟨v, u, rfl, hp, by show va_P D vwCl (w' u) t.heap; rw [ht, ← hw]; exact Z.1⟩, Z.2.2.F ht⟩) Z.2.2.2.2 hdg hlk
theorem r_lret (E : Ev p s m args c cc nL own D cA A) (Z : Wd D A s ws H locs) (hr : meth.sig.returnType = some .long) (hlk : meth.locks = false) {S : Type} {post : Int64 → S → Prop} {w' : S → va_W} {v : Int64} (hdg : decode cc pc = .ok (.lreturn, 1)) (u : S) (hw : ws = w' u) (hp : post v u) : W p l e R s m args below meth c H locs 0 0 (Ql below s args D A post w') (F0 m pc ls [.long v]) := by
  obtain ⟨⟨hx, hb, -, ho, ht⟩, hK, -⟩ := E
  exact W.lret hx hb hr (fun t ht _ => ⟨⟨v, u, rfl, hp, by show va_P D vwCl (w' u) t.heap; rw [ht, ← hw]; exact Z.1⟩, Z.2.2.F ht⟩) Z.2.2.2.2 hdg hlk
theorem r_vret (E : Ev p s m args c cc nL own D cA A) (Z : Wd D A s ws H locs) (hr : meth.sig.returnType = none) (hlk : meth.locks = false) {S : Type} {post : S → Prop} {w' : S → va_W} (hdg : decode cc pc = .ok (.return_, 1)) (u : S) (hw : ws = w' u) (hp : post u) : W p l e R s m args below meth c H locs 0 0 (Qv below s args D A post w') (F0 m pc ls []) := by
  obtain ⟨⟨hx, hb, -, ho, ht⟩, hK, -⟩ := E
  exact W.vret hx hb hr (fun t ht _ => ⟨⟨u, rfl, hp, by show va_P D vwCl (w' u) t.heap; rw [ht, ← hw]; exact Z.1⟩, Z.2.2.F ht⟩) Z.2.2.2.2 hdg hlk
end Rows
section Calls
variable {p : Program} {l : Launch} {e : Env} {R : Room} {s : State} {m : MethodId} {args : Array Value} {below : List Frame} {meth : Method} {c : Code} {H : Heap} {locs : List Loc} {cells slots : Nat} {Q : State → Prop}
variable {cc : ByteArray} {nL : Nat} {own : String} {D : va_G} {cA : ClassId} {A : Nat → Prop} {ws w : va_W} {pc : Nat} {ls : Array Slot} {st0 rest As : List Value} {b : Nat}
variable {y : MethodName} {bytes : ByteArray} {maxL index : Nat} {rt : Option FieldType} {rm : Room} {S : Type} {w' w2 : S → va_W}
theorem hpre_blind {av : List Value} {sz : Nat} {X : State → Prop} (hX : ∀ (U : State) (g : JFrame) (mk : MethodId) (a : Array Value), X U → X (U.calling g mk a)) : FrameBlind (PcW D cA av w sz X) := fun a U g mk q => by
  obtain ⟨q0, q1, qP, qK, qD, qX⟩ := q
  exact ⟨q0, q1, qP, va_K.moved (u := U) (U := U.calling g mk a) (Vm.Alike.refl U.vm) qK, qD, hX U g mk a qX⟩
theorem hpre_at (E : Ev p s m args c cc nL own D cA A) (Z : Wd D A s ws H locs) {av : List Value} {X : State → Prop} (isC : List Nat) (hnd : va_nd isC = true) (hC : isC.map (fun i => ws[i]?) = w.map some) (hX : ∀ U : State, U.heap = H → s.WarmedH U.vm → X U) : ∀ U : State, U.heap = H → s.WarmedH U.vm → PcW D cA av w H.size X av.toArray U := by
  intro U hU hW
  have hD := Z.2.1.sub isC hnd hC
  have hP : va_P D vwCl w H := by
    intro k q hq
    have h1 : (isC.map (fun i => ws[i]?))[k]? = some (some q) := by rw [hC, List.getElem?_map, hq]; rfl
    rw [List.getElem?_map] at h1
    cases hi : isC[k]? with
    | none => rw [hi] at h1; cases h1
    | some i => rw [hi] at h1; exact Z.1 i q (Option.some.inj h1)
  exact ⟨rfl, by rw [hU], by rw [hU]; exact hP, va_K.moved hW.alike E.2.1, hD.weaken (fun _ _ _ _ => trivial), hX U hU hW⟩
/-- what a call's row needs of the tables -/
theorem cg {big : List Cond} (hc : Cond.code y bytes maxL rt ∈ UW) (hb : ∀ w ∈ UW, w ∈ big) : GoodIn big (wd y bytes maxL rt) := by
  intro w hw
  rcases List.mem_cons.mp hw with e | e
  · subst e; exact ⟨hb _ hc, UW_good _ hc⟩
  · exact ⟨hb _ e, UW_good _ e⟩
theorem cwb {n : Nat} (ht : ∀ w ∈ UW, w.before args s = true) (hc : Cond.code y bytes maxL rt ∈ UW) (hini : Cond.initialized y.cls ∈ UW) (hl : Cond.methodLink own index y ∈ UW) (hrc : rm.cells = 0) (hrs : rm.slots = 0)
    (hd : y.cls ≠ "java/lang/invoke/MethodHandle" ∧ y.cls ≠ "java/lang/invoke/VarHandle" ∧ (parseMethodDescriptor y.desc).map (fun d => d.parameters.length) = some n) (hR : rm.frames + 1 ≤ R.frames ∧ 8 + (maxL + 11) + rm.locals ≤ R.locals) : CallB R s args own index y bytes maxL rt (wd y bytes maxL rt) rm 0 0 n :=
  callB_of (ws' := UW) n ht (cg hc (fun _ h => h)) rfl hrc hrs (ht _ hini) (ht _ hl) hd hR
abbrev Nm (y : MethodName) (n : Nat) : Prop := y.cls ≠ "java/lang/invoke/MethodHandle" ∧ y.cls ≠ "java/lang/invoke/VarHandle" ∧ (parseMethodDescriptor y.desc).map (fun d => d.parameters.length) = some n
/-- the words of a virtual call, of a static one -/
abbrev WV (own : String) (index : Nat) (y : MethodName) (bytes : ByteArray) (maxL : Nat) (rt : Option FieldType) (n : Nat) : Prop := Cond.methodLink own index y ∈ UW ∧ Cond.instanceMethod y ∈ UW ∧ Cond.selects y.cls y y ∈ UW ∧ Cond.initialized y.cls ∈ UW ∧ Cond.code y bytes maxL rt ∈ UW ∧ Nm y n
abbrev WS (own : String) (index : Nat) (y : MethodName) (bytes : ByteArray) (maxL : Nat) (rt : Option FieldType) (n : Nat) : Prop := Cond.methodLink own index y ∈ UW ∧ Cond.static y ∈ UW ∧ Cond.initialized y.cls ∈ UW ∧ Cond.code y bytes maxL rt ∈ UW ∧ Nm y n
abbrev Rm (rm R : Room) (maxL : Nat) : Prop := rm.cells = 0 ∧ rm.slots = 0 ∧ rm.frames + 1 ≤ R.frames ∧ 8 + (maxL + 11) + rm.locals ≤ R.locals
theorem runV {n : Nat} {Qc : Array Value → State → Outcome → State → Prop} {X : State → Prop} (E : Ev p s m args c cc nL own D cA A) (Z : Wd D A s ws H locs) (hM : Met l y (wd y bytes maxL rt) rm (PcW D cA (.ref b :: As) w H.size X) Qc 0 0 (va_A w H.size)) (hX1 : ∀ (U : State) (g : JFrame) (mk : MethodId) (a : Array Value), X U → X (U.calling g mk a)) (hX : ∀ U : State, U.heap = H → s.WarmedH U.vm → X U) (hw : WV own index y bytes maxL rt n) (hR : Rm rm R maxL) (isC : List Nat) (hnd : va_nd isC = true) (hC : isC.map (fun i => ws[i]?) = w.map some) {q0 ci : Nat} {q : vw_C} {fs : List Value} (hq : vwCl[ci]? = some q) (hcl : y.cls = q.1) (hb0 : w[q0]? = some (b, .inr (ci, fs)))
    (hn : As.length = n) (hls : ls.size = nL) (hst : st0 = As.reverse ++ .ref b :: rest) (hro : (rest.map fun v => v.category).sum ≤ 8) (hdg : decode cc pc = .ok (.invokevirtual index, 3)) (hf : cells ≤ R.cells ∧ slots ≤ R.slots) :
    va_Run p l e R s m args below meth c H locs cells slots 0 0 (F0 m pc ls st0) rest (Qc (Value.ref b :: As).toArray) (va_A w H.size) := by
  obtain ⟨h1, h2, h3, h4, h5, h6⟩ := hw
  obtain ⟨r1, r2, r3, r4⟩ := hR
  have ht := E.1.2.2.2.2
  have hpre := hpre_at (av := .ref b :: As) (X := X) E Z isC hnd hC hX
  have hP : va_P D vwCl w H := by
    intro k q hq
    have g1 : (isC.map (fun i => ws[i]?))[k]? = some (some q) := by rw [hC, List.getElem?_map, hq]; rfl
    rw [List.getElem?_map] at g1
    cases hi : isC[k]? with
    | none => rw [hi] at g1; cases g1
    | some i => rw [hi] at g1; exact Z.1 i q (Option.some.inj g1)
  refine va_runV (C := y.cls) (n := n) (bytes := bytes) (maxL := maxL) (ret := rt) (As := As) E.1 hM ⟨cwb ht h5 h4 h1 r1 r2 h6 ⟨r3, r4⟩, ht _ h2, ht _ h3⟩ ⟨hpre_blind hX1, ?_, hpre⟩ rfl hn hls hst (lv_room hro) hdg hf
  have hv := va_recv E.2.1 hP hq hb0
  rw [hcl]
  exact hv
theorem runS {n : Nat} {Qc : Array Value → State → Outcome → State → Prop} {X : State → Prop} (E : Ev p s m args c cc nL own D cA A) (Z : Wd D A s ws H locs) (hM : Met l y (wd y bytes maxL rt) rm (PcW D cA As w H.size X) Qc 0 0 (va_A w H.size)) (hX1 : ∀ (U : State) (g : JFrame) (mk : MethodId) (a : Array Value), X U → X (U.calling g mk a)) (hX : ∀ U : State, U.heap = H → s.WarmedH U.vm → X U) (hw : WS own index y bytes maxL rt n) (hR : Rm rm R maxL) (isC : List Nat) (hnd : va_nd isC = true) (hC : isC.map (fun i => ws[i]?) = w.map some)
    (hn : As.length = n) (hls : ls.size = nL) (hst : st0 = As.reverse ++ rest) (hro : (rest.map fun v => v.category).sum ≤ 8) (hdg : decode cc pc = .ok (.invokestatic index, 3)) (hf : cells ≤ R.cells ∧ slots ≤ R.slots) :
    va_Run p l e R s m args below meth c H locs cells slots 0 0 (F0 m pc ls st0) rest (Qc As.toArray) (va_A w H.size) := by
  obtain ⟨h1, h2, h4, h5, h6⟩ := hw
  obtain ⟨r1, r2, r3, r4⟩ := hR
  have ht := E.1.2.2.2.2
  have hpre := hpre_at (av := As) (X := X) E Z isC hnd hC hX
  exact va_runS (n := n) (bytes := bytes) (maxL := maxL) (ret := rt) (As := As) E.1 hM ⟨cwb ht h5 h4 h1 r1 r2 h6 ⟨r3, r4⟩, ht _ h2⟩ ⟨hpre_blind hX1, hpre⟩ rfl hn hls hst (lv_room hro) hdg hf
theorem behind (E : Ev p s m args c cc nL own D cA A) (Z : Wd D A s ws H locs) (isC : List Nat) (hC : isC.map (fun i => ws[i]?) = w.map some) {w1 w2 : va_W} (hs : w1.map (fun q => q.1) = w.map (fun q => q.1)) (hw2 : wput ws isC w1 = w2) {H1 : Heap} {locs1 : List Loc} (hk : ∀ q : Nat, q < H.size → ¬ va_A w H.size q → H1[q]? = H[q]?) (hP1 : va_P D vwCl w1 H1) (hS : va_S A s.heap H1 locs1) : Wd D A s w2 H1 locs1 := by
  subst hw2
  obtain ⟨h1, h2⟩ := wjoin Z.1 Z.2.1 isC hC hs hk hP1
  exact ⟨h1, h2, hS⟩
/-- a virtual call that answers an int; w: the callee's cells, at the places isC; w2: the caller's world behind it -/
theorem c_Vi {n : Nat} {post : Int32 → S → Prop} (E : Ev p s m args c cc nL own D cA A) (Z : Wd D A s ws H locs) (M : Cti l y bytes maxL rt rm D cA (.ref b :: As) w post w') (hw : WV own index y bytes maxL rt n) (hR : Rm rm R maxL) (isC : List Nat) (hnd : va_nd isC = true) (hC : isC.map (fun i => ws[i]?) = w.map some) {q0 ci : Nat} {q : vw_C} {fs : List Value} (hq : vwCl[ci]? = some q) (hcl : y.cls = q.1) (hb0 : w[q0]? = some (b, .inr (ci, fs)))
    (hs : ∀ u, (w' u).map (fun q => q.1) = w.map (fun q => q.1)) (hw2 : ∀ u, wput ws isC (w' u) = w2 u) (hn : As.length = n) (hls : ls.size = nL) (hst : st0 = As.reverse ++ .ref b :: rest) (hro : (rest.map fun v => v.category).sum ≤ 8) (hdg : decode cc pc = .ok (.invokevirtual index, 3)) (hf : cells ≤ R.cells ∧ slots ≤ R.slots)
    (kk : ∀ (r : Int32) (u : S) (H : Heap) (locs : List Loc), post r u → Wd D A s (w2 u) H locs → W p l e R s m args below meth c H locs cells slots Q (F0 m (pc + 3) ls (.int r :: rest))) : W p l e R s m args below meth c H locs cells slots Q (F0 m pc ls st0) :=
  va_calli (runV E Z (M H.size) (fun _ _ _ _ _ => trivial) (fun _ _ _ => trivial) hw hR isC hnd hC hq hcl hb0 hn hls hst hro hdg hf) Z.2.2 (fun q _ h => va_free Z.2.1 Z.2.2 E.2.2 isC hC q h) (va_free Z.2.1 Z.2.2 E.2.2 isC hC)
    (fun r u t H1 locs1 ht _ hp hB _ hk hS => kk r u H1 locs1 hp (behind E Z isC hC (hs u) (hw2 u) hk (by rw [← ht]; exact hB) hS))
theorem c_Vl {n : Nat} {post : Int64 → S → Prop} (E : Ev p s m args c cc nL own D cA A) (Z : Wd D A s ws H locs) (M : Ctl l y bytes maxL rt rm D cA (.ref b :: As) w post w') (hw : WV own index y bytes maxL rt n) (hR : Rm rm R maxL) (isC : List Nat) (hnd : va_nd isC = true) (hC : isC.map (fun i => ws[i]?) = w.map some) {q0 ci : Nat} {q : vw_C} {fs : List Value} (hq : vwCl[ci]? = some q) (hcl : y.cls = q.1) (hb0 : w[q0]? = some (b, .inr (ci, fs)))
    (hs : ∀ u, (w' u).map (fun q => q.1) = w.map (fun q => q.1)) (hw2 : ∀ u, wput ws isC (w' u) = w2 u) (hn : As.length = n) (hls : ls.size = nL) (hst : st0 = As.reverse ++ .ref b :: rest) (hro : (rest.map fun v => v.category).sum ≤ 8) (hdg : decode cc pc = .ok (.invokevirtual index, 3)) (hf : cells ≤ R.cells ∧ slots ≤ R.slots)
    (kk : ∀ (r : Int64) (u : S) (H : Heap) (locs : List Loc), post r u → Wd D A s (w2 u) H locs → W p l e R s m args below meth c H locs cells slots Q (F0 m (pc + 3) ls (.long r :: rest))) : W p l e R s m args below meth c H locs cells slots Q (F0 m pc ls st0) :=
  va_calll (runV E Z (M H.size) (fun _ _ _ _ _ => trivial) (fun _ _ _ => trivial) hw hR isC hnd hC hq hcl hb0 hn hls hst hro hdg hf) Z.2.2 (fun q _ h => va_free Z.2.1 Z.2.2 E.2.2 isC hC q h) (va_free Z.2.1 Z.2.2 E.2.2 isC hC)
    (fun r u t H1 locs1 ht _ hp hB _ hk hS => kk r u H1 locs1 hp (behind E Z isC hC (hs u) (hw2 u) hk (by rw [← ht]; exact hB) hS))
theorem c_Vv {n : Nat} {post : S → Prop} (E : Ev p s m args c cc nL own D cA A) (Z : Wd D A s ws H locs) (M : Ctv l y bytes maxL rt rm D cA (.ref b :: As) w post w') (hw : WV own index y bytes maxL rt n) (hR : Rm rm R maxL) (isC : List Nat) (hnd : va_nd isC = true) (hC : isC.map (fun i => ws[i]?) = w.map some) {q0 ci : Nat} {q : vw_C} {fs : List Value} (hq : vwCl[ci]? = some q) (hcl : y.cls = q.1) (hb0 : w[q0]? = some (b, .inr (ci, fs)))
    (hs : ∀ u, (w' u).map (fun q => q.1) = w.map (fun q => q.1)) (hw2 : ∀ u, wput ws isC (w' u) = w2 u) (hn : As.length = n) (hls : ls.size = nL) (hst : st0 = As.reverse ++ .ref b :: rest) (hro : (rest.map fun v => v.category).sum ≤ 8) (hdg : decode cc pc = .ok (.invokevirtual index, 3)) (hf : cells ≤ R.cells ∧ slots ≤ R.slots)
    (kk : ∀ (u : S) (H : Heap) (locs : List Loc), post u → Wd D A s (w2 u) H locs → W p l e R s m args below meth c H locs cells slots Q (F0 m (pc + 3) ls rest)) : W p l e R s m args below meth c H locs cells slots Q (F0 m pc ls st0) :=
  va_callv (runV E Z (M H.size) (fun _ _ _ _ _ => trivial) (fun _ _ _ => trivial) hw hR isC hnd hC hq hcl hb0 hn hls hst hro hdg hf) Z.2.2 (fun q _ h => va_free Z.2.1 Z.2.2 E.2.2 isC hC q h) (va_free Z.2.1 Z.2.2 E.2.2 isC hC)
    (fun u t H1 locs1 ht _ hp hB _ hk hS => kk u H1 locs1 hp (behind E Z isC hC (hs u) (hw2 u) hk (by rw [← ht]; exact hB) hS))
theorem c_Si {n : Nat} {post : Int32 → S → Prop} (E : Ev p s m args c cc nL own D cA A) (Z : Wd D A s ws H locs) (M : Cti l y bytes maxL rt rm D cA As w post w') (hw : WS own index y bytes maxL rt n) (hR : Rm rm R maxL) (isC : List Nat) (hnd : va_nd isC = true) (hC : isC.map (fun i => ws[i]?) = w.map some)
    (hs : ∀ u, (w' u).map (fun q => q.1) = w.map (fun q => q.1)) (hw2 : ∀ u, wput ws isC (w' u) = w2 u) (hn : As.length = n) (hls : ls.size = nL) (hst : st0 = As.reverse ++ rest) (hro : (rest.map fun v => v.category).sum ≤ 8) (hdg : decode cc pc = .ok (.invokestatic index, 3)) (hf : cells ≤ R.cells ∧ slots ≤ R.slots)
    (kk : ∀ (r : Int32) (u : S) (H : Heap) (locs : List Loc), post r u → Wd D A s (w2 u) H locs → W p l e R s m args below meth c H locs cells slots Q (F0 m (pc + 3) ls (.int r :: rest))) : W p l e R s m args below meth c H locs cells slots Q (F0 m pc ls st0) :=
  va_calli (runS E Z (M H.size) (fun _ _ _ _ _ => trivial) (fun _ _ _ => trivial) hw hR isC hnd hC hn hls hst hro hdg hf) Z.2.2 (fun q _ h => va_free Z.2.1 Z.2.2 E.2.2 isC hC q h) (va_free Z.2.1 Z.2.2 E.2.2 isC hC)
    (fun r u t H1 locs1 ht _ hp hB _ hk hS => kk r u H1 locs1 hp (behind E Z isC hC (hs u) (hw2 u) hk (by rw [← ht]; exact hB) hS))
theorem c_Sv {n : Nat} {post : S → Prop} (E : Ev p s m args c cc nL own D cA A) (Z : Wd D A s ws H locs) (M : Ctv l y bytes maxL rt rm D cA As w post w') (hw : WS own index y bytes maxL rt n) (hR : Rm rm R maxL) (isC : List Nat) (hnd : va_nd isC = true) (hC : isC.map (fun i => ws[i]?) = w.map some)
    (hs : ∀ u, (w' u).map (fun q => q.1) = w.map (fun q => q.1)) (hw2 : ∀ u, wput ws isC (w' u) = w2 u) (hn : As.length = n) (hls : ls.size = nL) (hst : st0 = As.reverse ++ rest) (hro : (rest.map fun v => v.category).sum ≤ 8) (hdg : decode cc pc = .ok (.invokestatic index, 3)) (hf : cells ≤ R.cells ∧ slots ≤ R.slots)
    (kk : ∀ (u : S) (H : Heap) (locs : List Loc), post u → Wd D A s (w2 u) H locs → W p l e R s m args below meth c H locs cells slots Q (F0 m (pc + 3) ls rest)) : W p l e R s m args below meth c H locs cells slots Q (F0 m pc ls st0) :=
  va_callv (runS E Z (M H.size) (fun _ _ _ _ _ => trivial) (fun _ _ _ => trivial) hw hR isC hnd hC hn hls hst hro hdg hf) Z.2.2 (fun q _ h => va_free Z.2.1 Z.2.2 E.2.2 isC hC q h) (va_free Z.2.1 Z.2.2 E.2.2 isC hC)
    (fun u t H1 locs1 ht _ hp hB _ hk hS => kk u H1 locs1 hp (behind E Z isC hC (hs u) (hw2 u) hk (by rw [← ht]; exact hB) hS))
end Calls
end
section
/-! numbers: Nats under nI; truth as an int; rows over them -/
noncomputable def bI (P : Prop) : Int32 := @ite _ P (Classical.propDecidable P) 1 0
theorem bI_t {P : Prop} (h : P) : bI P = 1 := if_pos h
theorem bI_f {P : Prop} (h : ¬ P) : bI P = 0 := if_neg h
theorem bI_01 (P : Prop) : bI P = 0 ∨ bI P = 1 := (Classical.em P).elim (fun h => Or.inr (bI_t h)) (fun h => Or.inl (bI_f h))
theorem bI_c {P Q : Prop} (h : P ↔ Q) : bI P = bI Q := by rw [show P = Q from propext h]
theorem bI_and (P Q : Prop) : bI P &&& bI Q = bI (P ∧ Q) := by
  by_cases h : P <;> by_cases k : Q
  · rw [bI_t h, bI_t k, bI_t ⟨h, k⟩]; decide
  · rw [bI_t h, bI_f k, bI_f (fun q => k q.2)]; decide
  · rw [bI_f h, bI_t k, bI_f (fun q => h q.1)]; decide
  · rw [bI_f h, bI_f k, bI_f (fun q => h q.1)]; decide
theorem n_sl : ∀ n, n < 32 → ((nI n &&& 31).toBitVec.smod 32).toNat = n := by decide +kernel
theorem nI_shl (a : Nat) {k : Nat} (hk : k < 32) : nI a <<< (nI k &&& 31) = nI (a * 2 ^ k) := by
  apply Int32.toBitVec_inj.mp
  apply BitVec.eq_of_toNat_eq
  rw [pk_shl _ _ k (n_sl k hk)]
  show (BitVec.ofNat 32 a).toNat * 2 ^ k % 2 ^ 32 = (BitVec.ofNat 32 (a * 2 ^ k)).toNat
  rw [BitVec.toNat_ofNat, BitVec.toNat_ofNat, Nat.mod_mul_mod]
theorem nI_shr {a k : Nat} (ha : a < 2 ^ 31) (hk : k < 32) : nI a >>> (nI k &&& 31) = nI (a / 2 ^ k) := pk_shrN ha _ k (n_sl k hk)
theorem nI_and (a b : Nat) : nI a &&& nI b = nI (a &&& b) := by
  apply Int32.toBitVec_inj.1
  show BitVec.ofNat 32 a &&& BitVec.ofNat 32 b = BitVec.ofNat 32 (a &&& b)
  apply BitVec.eq_of_getLsbD_eq
  intro i hi
  simp [hi]
theorem nI_or (a b : Nat) : nI a ||| nI b = nI (a ||| b) := by
  apply Int32.toBitVec_inj.1
  show BitVec.ofNat 32 a ||| BitVec.ofNat 32 b = BitVec.ofNat 32 (a ||| b)
  apply BitVec.eq_of_getLsbD_eq
  intro i hi
  simp [hi]
theorem nI_xor (a b : Nat) : nI a ^^^ nI b = nI (a ^^^ b) := by
  apply Int32.toBitVec_inj.1
  show BitVec.ofNat 32 a ^^^ BitVec.ofNat 32 b = BitVec.ofNat 32 (a ^^^ b)
  apply BitVec.eq_of_getLsbD_eq
  intro i hi
  simp [hi]
theorem nI_and1 (a : Nat) : nI a &&& nI 1 = nI (a % 2) := by rw [nI_and]; congr 1; exact Nat.and_two_pow_sub_one_eq_mod a 1
theorem nI_and3 (a : Nat) : nI a &&& nI 3 = nI (a % 4) := by rw [nI_and]; congr 1; exact Nat.and_two_pow_sub_one_eq_mod a 2
theorem nI_and31 (x : Int32) : x &&& nI 31 = nI (x.toBitVec.toNat % 32) := pk_and x 5 (by decide)
/-- an int in a range that begins at a Nat -/
theorem in_nat {x : Int32} {a b : Nat} (hb : b < 2 ^ 31) (h : nI a ≤ x ∧ x ≤ nI b) (ha : a < 2 ^ 31) : ∃ j : Nat, a ≤ j ∧ j ≤ b ∧ x = nI j := by
  obtain ⟨h1, h2⟩ := h
  have g1 := Int32.le_iff_toInt_le.mp h1
  have g2 := Int32.le_iff_toInt_le.mp h2
  rw [nI_toInt ha] at g1
  rw [nI_toInt hb] at g2
  have h0 : ¬ x < 0 := by
    rw [Int32.lt_iff_toInt_lt, Int32.toInt_zero]; omega
  obtain ⟨j, hj, rfl⟩ := nI_of h0
  rw [nI_toInt hj] at g1 g2
  exact ⟨j, by omega, by omega, rfl⟩
section NRows
variable {p : Program} {l : Launch} {e : Env} {R : Room} {s : State} {m : MethodId} {args : Array Value} {below : List Frame} {meth : Method} {c : Code} {H : Heap} {locs : List Loc} {cells slots : Nat} {Q : State → Prop}
variable {cc : ByteArray} {pc : Nat} {ls : Array Slot} {rest : List Value}
theorem n_iadd (hx : p.tables.exec = Jvm.exec) (hb : c.code = cc) {a b : Nat} (hdg : decode cc pc = .ok (.iadd, 1)) (k : W p l e R s m args below meth c H locs cells slots Q (F0 m (pc + 1) ls (.int (nI (a + b)) :: rest))) : W p l e R s m args below meth c H locs cells slots Q (F0 m pc ls (.int (nI b) :: .int (nI a) :: rest)) := by
  refine lv_iadd hx hb hdg ?_; rw [nI_add]; exact k
theorem n_isub (hx : p.tables.exec = Jvm.exec) (hb : c.code = cc) {a b : Nat} (hdg : decode cc pc = .ok (.isub, 1)) (h : b ≤ a) (k : W p l e R s m args below meth c H locs cells slots Q (F0 m (pc + 1) ls (.int (nI (a - b)) :: rest))) : W p l e R s m args below meth c H locs cells slots Q (F0 m pc ls (.int (nI b) :: .int (nI a) :: rest)) := by
  refine lv_isub hx hb hdg ?_; rw [pk_sub h]; exact k
theorem n_imul (hx : p.tables.exec = Jvm.exec) (hb : c.code = cc) {a b : Nat} (hdg : decode cc pc = .ok (.imul, 1)) (k : W p l e R s m args below meth c H locs cells slots Q (F0 m (pc + 1) ls (.int (nI (a * b)) :: rest))) : W p l e R s m args below meth c H locs cells slots Q (F0 m pc ls (.int (nI b) :: .int (nI a) :: rest)) := by
  refine lv_imul hx hb hdg ?_; rw [pk_mul]; exact k
theorem n_ishl (hx : p.tables.exec = Jvm.exec) (hb : c.code = cc) {a b : Nat} (hdg : decode cc pc = .ok (.ishl, 1)) (h : b < 32) (k : W p l e R s m args below meth c H locs cells slots Q (F0 m (pc + 1) ls (.int (nI (a * 2 ^ b)) :: rest))) : W p l e R s m args below meth c H locs cells slots Q (F0 m pc ls (.int (nI b) :: .int (nI a) :: rest)) := by
  refine lv_ishl hx hb hdg ?_; rw [nI_shl a h]; exact k
theorem n_ishl1 (hx : p.tables.exec = Jvm.exec) (hb : c.code = cc) {b : Nat} (hdg : decode cc pc = .ok (.ishl, 1)) (h : b < 32) (k : W p l e R s m args below meth c H locs cells slots Q (F0 m (pc + 1) ls (.int (nI (2 ^ b)) :: rest))) : W p l e R s m args below meth c H locs cells slots Q (F0 m pc ls (.int (nI b) :: .int (nI 1) :: rest)) := by
  refine lv_ishl hx hb hdg ?_; rw [nI_shl 1 h, Nat.one_mul]; exact k
theorem n_ishr (hx : p.tables.exec = Jvm.exec) (hb : c.code = cc) {a b : Nat} (hdg : decode cc pc = .ok (.ishr, 1)) (ha : a < 2 ^ 31) (h : b < 32) (k : W p l e R s m args below meth c H locs cells slots Q (F0 m (pc + 1) ls (.int (nI (a / 2 ^ b)) :: rest))) : W p l e R s m args below meth c H locs cells slots Q (F0 m pc ls (.int (nI b) :: .int (nI a) :: rest)) := by
  refine lv_ishr hx hb hdg ?_; rw [nI_shr ha h]; exact k
theorem n_iand (hx : p.tables.exec = Jvm.exec) (hb : c.code = cc) {a b : Nat} (hdg : decode cc pc = .ok (.iand, 1)) (k : W p l e R s m args below meth c H locs cells slots Q (F0 m (pc + 1) ls (.int (nI (a &&& b)) :: rest))) : W p l e R s m args below meth c H locs cells slots Q (F0 m pc ls (.int (nI b) :: .int (nI a) :: rest)) := by
  refine lv_iand hx hb hdg ?_; rw [nI_and]; exact k
theorem n_iand1 (hx : p.tables.exec = Jvm.exec) (hb : c.code = cc) {a : Nat} (hdg : decode cc pc = .ok (.iand, 1)) (k : W p l e R s m args below meth c H locs cells slots Q (F0 m (pc + 1) ls (.int (nI (a % 2)) :: rest))) : W p l e R s m args below meth c H locs cells slots Q (F0 m pc ls (.int (nI 1) :: .int (nI a) :: rest)) := by
  refine lv_iand hx hb hdg ?_; rw [nI_and1]; exact k
theorem n_iand3 (hx : p.tables.exec = Jvm.exec) (hb : c.code = cc) {a : Nat} (hdg : decode cc pc = .ok (.iand, 1)) (k : W p l e R s m args below meth c H locs cells slots Q (F0 m (pc + 1) ls (.int (nI (a % 4)) :: rest))) : W p l e R s m args below meth c H locs cells slots Q (F0 m pc ls (.int (nI 3) :: .int (nI a) :: rest)) := by
  refine lv_iand hx hb hdg ?_; rw [nI_and3]; exact k
theorem n_ior (hx : p.tables.exec = Jvm.exec) (hb : c.code = cc) {a b : Nat} (hdg : decode cc pc = .ok (.ior, 1)) (k : W p l e R s m args below meth c H locs cells slots Q (F0 m (pc + 1) ls (.int (nI (a ||| b)) :: rest))) : W p l e R s m args below meth c H locs cells slots Q (F0 m pc ls (.int (nI b) :: .int (nI a) :: rest)) := by
  refine lv_ior hx hb hdg ?_; rw [nI_or]; exact k
theorem n_ixor (hx : p.tables.exec = Jvm.exec) (hb : c.code = cc) {a b : Nat} (hdg : decode cc pc = .ok (.ixor, 1)) (k : W p l e R s m args below meth c H locs cells slots Q (F0 m (pc + 1) ls (.int (nI (a ^^^ b)) :: rest))) : W p l e R s m args below meth c H locs cells slots Q (F0 m pc ls (.int (nI b) :: .int (nI a) :: rest)) := by
  refine lv_ixor hx hb hdg ?_; rw [nI_xor]; exact k
theorem n_band (hx : p.tables.exec = Jvm.exec) (hb : c.code = cc) {P P' : Prop} (hdg : decode cc pc = .ok (.iand, 1)) (k : W p l e R s m args below meth c H locs cells slots Q (F0 m (pc + 1) ls (.int (bI (P ∧ P')) :: rest))) : W p l e R s m args below meth c H locs cells slots Q (F0 m pc ls (.int (bI P') :: .int (bI P) :: rest)) := by
  refine lv_iand hx hb hdg ?_; rw [bI_and]; exact k
theorem n_icmp_eq (hx : p.tables.exec = Jvm.exec) (hb : c.code = cc) {a b : Nat} {off : Int} {tgt : Nat} (hdg : decode cc pc = .ok (.if_icmp .eq off, 3)) (ht : (pc : Int) + off = (tgt : Int)) (h1 : a < 2 ^ 31) (h2 : b < 2 ^ 31) (kt : a = b → W p l e R s m args below meth c H locs cells slots Q (F0 m tgt ls rest)) (kf : a ≠ b → W p l e R s m args below meth c H locs cells slots Q (F0 m (pc + 3) ls rest)) : W p l e R s m args below meth c H locs cells slots Q (F0 m pc ls (.int (nI b) :: .int (nI a) :: rest)) :=
  lv_icmp_eq hx hb hdg ht (fun h => kt ((nI_eq h1 h2).mp h)) (fun h => kf (fun q => h ((nI_eq h1 h2).mpr q)))
theorem n_icmp_ne (hx : p.tables.exec = Jvm.exec) (hb : c.code = cc) {a b : Nat} {off : Int} {tgt : Nat} (hdg : decode cc pc = .ok (.if_icmp .ne off, 3)) (ht : (pc : Int) + off = (tgt : Int)) (h1 : a < 2 ^ 31) (h2 : b < 2 ^ 31) (kt : a ≠ b → W p l e R s m args below meth c H locs cells slots Q (F0 m tgt ls rest)) (kf : a = b → W p l e R s m args below meth c H locs cells slots Q (F0 m (pc + 3) ls rest)) : W p l e R s m args below meth c H locs cells slots Q (F0 m pc ls (.int (nI b) :: .int (nI a) :: rest)) :=
  lv_icmp_ne hx hb hdg ht (fun h => kt (fun q => h ((nI_eq h1 h2).mpr q))) (fun h => kf ((nI_eq h1 h2).mp h))
theorem n_icmp_lt (hx : p.tables.exec = Jvm.exec) (hb : c.code = cc) {a b : Nat} {off : Int} {tgt : Nat} (hdg : decode cc pc = .ok (.if_icmp .lt off, 3)) (ht : (pc : Int) + off = (tgt : Int)) (h1 : a < 2 ^ 31) (h2 : b < 2 ^ 31) (kt : a < b → W p l e R s m args below meth c H locs cells slots Q (F0 m tgt ls rest)) (kf : b ≤ a → W p l e R s m args below meth c H locs cells slots Q (F0 m (pc + 3) ls rest)) : W p l e R s m args below meth c H locs cells slots Q (F0 m pc ls (.int (nI b) :: .int (nI a) :: rest)) :=
  lv_icmp_lt hx hb hdg ht (fun h => kt ((nI_ltI h1 h2).mp h)) (fun h => kf (Nat.not_lt.mp (fun q => h ((nI_ltI h1 h2).mpr q))))
theorem n_icmp_ge (hx : p.tables.exec = Jvm.exec) (hb : c.code = cc) {a b : Nat} {off : Int} {tgt : Nat} (hdg : decode cc pc = .ok (.if_icmp .ge off, 3)) (ht : (pc : Int) + off = (tgt : Int)) (h1 : a < 2 ^ 31) (h2 : b < 2 ^ 31) (kt : b ≤ a → W p l e R s m args below meth c H locs cells slots Q (F0 m tgt ls rest)) (kf : a < b → W p l e R s m args below meth c H locs cells slots Q (F0 m (pc + 3) ls rest)) : W p l e R s m args below meth c H locs cells slots Q (F0 m pc ls (.int (nI b) :: .int (nI a) :: rest)) :=
  lv_icmp_ge hx hb hdg ht (fun h => kt ((nI_leI h2 h1).mp h)) (fun h => kf (Nat.not_le.mp (fun q => h ((nI_leI h2 h1).mpr q))))
theorem n_icmp_gt (hx : p.tables.exec = Jvm.exec) (hb : c.code = cc) {a b : Nat} {off : Int} {tgt : Nat} (hdg : decode cc pc = .ok (.if_icmp .gt off, 3)) (ht : (pc : Int) + off = (tgt : Int)) (h1 : a < 2 ^ 31) (h2 : b < 2 ^ 31) (kt : b < a → W p l e R s m args below meth c H locs cells slots Q (F0 m tgt ls rest)) (kf : a ≤ b → W p l e R s m args below meth c H locs cells slots Q (F0 m (pc + 3) ls rest)) : W p l e R s m args below meth c H locs cells slots Q (F0 m pc ls (.int (nI b) :: .int (nI a) :: rest)) :=
  lv_icmp_gt hx hb hdg ht (fun h => kt ((nI_ltI h2 h1).mp h)) (fun h => kf (Nat.not_lt.mp (fun q => h ((nI_ltI h2 h1).mpr q))))
theorem n_icmp_le (hx : p.tables.exec = Jvm.exec) (hb : c.code = cc) {a b : Nat} {off : Int} {tgt : Nat} (hdg : decode cc pc = .ok (.if_icmp .le off, 3)) (ht : (pc : Int) + off = (tgt : Int)) (h1 : a < 2 ^ 31) (h2 : b < 2 ^ 31) (kt : a ≤ b → W p l e R s m args below meth c H locs cells slots Q (F0 m tgt ls rest)) (kf : b < a → W p l e R s m args below meth c H locs cells slots Q (F0 m (pc + 3) ls rest)) : W p l e R s m args below meth c H locs cells slots Q (F0 m pc ls (.int (nI b) :: .int (nI a) :: rest)) :=
  lv_icmp_le hx hb hdg ht (fun h => kt ((nI_leI h1 h2).mp h)) (fun h => kf (Nat.not_le.mp (fun q => h ((nI_leI h1 h2).mpr q))))
theorem n_if_eq (hx : p.tables.exec = Jvm.exec) (hb : c.code = cc) {a : Nat} {off : Int} {tgt : Nat} (hdg : decode cc pc = .ok (.ifCond .eq off, 3)) (ht : (pc : Int) + off = (tgt : Int)) (h1 : a < 2 ^ 31) (kt : a = 0 → W p l e R s m args below meth c H locs cells slots Q (F0 m tgt ls rest)) (kf : a ≠ 0 → W p l e R s m args below meth c H locs cells slots Q (F0 m (pc + 3) ls rest)) : W p l e R s m args below meth c H locs cells slots Q (F0 m pc ls (.int (nI a) :: rest)) :=
  lv_if_eq hx hb hdg ht (fun h => kt ((nI_eq h1 (by decide)).mp (h.trans nI_0.symm))) (fun h => kf (fun q => h (by rw [q]; exact nI_0)))
theorem n_if_ne (hx : p.tables.exec = Jvm.exec) (hb : c.code = cc) {a : Nat} {off : Int} {tgt : Nat} (hdg : decode cc pc = .ok (.ifCond .ne off, 3)) (ht : (pc : Int) + off = (tgt : Int)) (h1 : a < 2 ^ 31) (kt : a ≠ 0 → W p l e R s m args below meth c H locs cells slots Q (F0 m tgt ls rest)) (kf : a = 0 → W p l e R s m args below meth c H locs cells slots Q (F0 m (pc + 3) ls rest)) : W p l e R s m args below meth c H locs cells slots Q (F0 m pc ls (.int (nI a) :: rest)) :=
  lv_if_ne hx hb hdg ht (fun h => kt (fun q => h (by rw [q]; exact nI_0))) (fun h => kf ((nI_eq h1 (by decide)).mp (h.trans nI_0.symm)))
theorem n_if_gt (hx : p.tables.exec = Jvm.exec) (hb : c.code = cc) {a : Nat} {off : Int} {tgt : Nat} (hdg : decode cc pc = .ok (.ifCond .gt off, 3)) (ht : (pc : Int) + off = (tgt : Int)) (h1 : a < 2 ^ 31) (kt : 0 < a → W p l e R s m args below meth c H locs cells slots Q (F0 m tgt ls rest)) (kf : a = 0 → W p l e R s m args below meth c H locs cells slots Q (F0 m (pc + 3) ls rest)) : W p l e R s m args below meth c H locs cells slots Q (F0 m pc ls (.int (nI a) :: rest)) :=
  lv_if_gt hx hb hdg ht (fun h => kt ((nI_ltI (by decide) h1).mp (nI_0.symm ▸ h))) (fun h => kf (Nat.eq_zero_of_not_pos (fun q => h (nI_0 ▸ (nI_ltI (by decide) h1).mpr q))))
theorem n_if_le (hx : p.tables.exec = Jvm.exec) (hb : c.code = cc) {a : Nat} {off : Int} {tgt : Nat} (hdg : decode cc pc = .ok (.ifCond .le off, 3)) (ht : (pc : Int) + off = (tgt : Int)) (h1 : a < 2 ^ 31) (kt : a = 0 → W p l e R s m args below meth c H locs cells slots Q (F0 m tgt ls rest)) (kf : 0 < a → W p l e R s m args below meth c H locs cells slots Q (F0 m (pc + 3) ls rest)) : W p l e R s m args below meth c H locs cells slots Q (F0 m pc ls (.int (nI a) :: rest)) :=
  lv_if_le hx hb hdg ht (fun h => kt (Nat.le_zero.mp ((nI_leI h1 (by decide)).mp (nI_0.symm ▸ h)))) (fun h => kf (Nat.pos_of_ne_zero (fun q => h (by rw [q, nI_0]; exact Int32.le_refl 0))))
theorem b_if_eq (hx : p.tables.exec = Jvm.exec) (hb : c.code = cc) {P : Prop} {off : Int} {tgt : Nat} (hdg : decode cc pc = .ok (.ifCond .eq off, 3)) (ht : (pc : Int) + off = (tgt : Int)) (kt : ¬ P → W p l e R s m args below meth c H locs cells slots Q (F0 m tgt ls rest)) (kf : P → W p l e R s m args below meth c H locs cells slots Q (F0 m (pc + 3) ls rest)) : W p l e R s m args below meth c H locs cells slots Q (F0 m pc ls (.int (bI P) :: rest)) :=
  lv_if_eq hx hb hdg ht (fun h => kt (fun q => by rw [bI_t q] at h; exact absurd h (by decide))) (fun h => kf (Classical.byContradiction fun q => h (bI_f q)))
theorem b_if_ne (hx : p.tables.exec = Jvm.exec) (hb : c.code = cc) {P : Prop} {off : Int} {tgt : Nat} (hdg : decode cc pc = .ok (.ifCond .ne off, 3)) (ht : (pc : Int) + off = (tgt : Int)) (kt : P → W p l e R s m args below meth c H locs cells slots Q (F0 m tgt ls rest)) (kf : ¬ P → W p l e R s m args below meth c H locs cells slots Q (F0 m (pc + 3) ls rest)) : W p l e R s m args below meth c H locs cells slots Q (F0 m pc ls (.int (bI P) :: rest)) :=
  lv_if_ne hx hb hdg ht (fun h => kt (Classical.byContradiction fun q => h (bI_f q))) (fun h => kf (fun q => by rw [bI_t q] at h; exact absurd h (by decide)))
variable {nL : Nat} {own : String} {D : va_G} {cA : ClassId} {A : Nat → Prop}
theorem n_max (E : Ev p s m args c cc nL own D cA A) (hls : ls.size = nL) {index : Nat} (hl : Cond.methodLink own index Lib.Math.max.name ∈ UW) (hdg : decode cc pc = .ok (.invokestatic index, 3)) (hf : 1 ≤ R.frames) (hlo : (rest.map fun v => v.category).sum + 13 ≤ R.locals) (hc : cells ≤ R.cells ∧ slots ≤ R.slots) {a b : Nat} (ha : a < 2 ^ 31) (hb' : b < 2 ^ 31)
    (kk : W p l e R s m args below meth c H locs cells slots Q (F0 m (pc + 3) ls (.int (nI (max a b)) :: rest))) : W p l e R s m args below meth c H locs cells slots Q (F0 m pc ls (.int (nI b) :: .int (nI a) :: rest)) := by
  obtain ⟨⟨hx, hb, hml, ho, ht⟩, -, -⟩ := E
  refine va_mmax hx hb (hml.trans hls.symm) ho (ht _ hl) (ht _ mTL_max) (ht _ mN_J9) (ht _ mCL_max) hf hlo hc.1 hc.2 hdg ?_
  by_cases h : a < b
  · rw [if_pos ((nI_ltI ha hb').mpr h)]; rw [Nat.max_eq_right (by omega)] at kk; exact kk
  · rw [if_neg (fun q => h ((nI_ltI ha hb').mp q))]; rw [Nat.max_eq_left (by omega)] at kk; exact kk
theorem n_min (E : Ev p s m args c cc nL own D cA A) (hls : ls.size = nL) {index : Nat} (hl : Cond.methodLink own index Lib.Math.min.name ∈ UW) (hdg : decode cc pc = .ok (.invokestatic index, 3)) (hf : 1 ≤ R.frames) (hlo : (rest.map fun v => v.category).sum + 13 ≤ R.locals) (hc : cells ≤ R.cells ∧ slots ≤ R.slots) {a b : Nat} (ha : a < 2 ^ 31) (hb' : b < 2 ^ 31)
    (kk : W p l e R s m args below meth c H locs cells slots Q (F0 m (pc + 3) ls (.int (nI (min a b)) :: rest))) : W p l e R s m args below meth c H locs cells slots Q (F0 m pc ls (.int (nI b) :: .int (nI a) :: rest)) := by
  obtain ⟨⟨hx, hb, hml, ho, ht⟩, -, -⟩ := E
  refine va_mmin hx hb (hml.trans hls.symm) ho (ht _ hl) (ht _ mTL_min) (ht _ mN_J9) (ht _ mCL_min) hf hlo hc.1 hc.2 hdg ?_
  by_cases h : b < a
  · rw [if_pos ((nI_ltI hb' ha).mpr h)]; rw [Nat.min_eq_right (by omega)] at kk; exact kk
  · rw [if_neg (fun q => h ((nI_ltI hb' ha).mp q))]; rw [Nat.min_eq_left (by omega)] at kk; exact kk
theorem n_abs (E : Ev p s m args c cc nL own D cA A) (hls : ls.size = nL) {index : Nat} (hl : Cond.methodLink own index Lib.Math.abs.name ∈ UW) (hdg : decode cc pc = .ok (.invokestatic index, 3)) (hf : 1 ≤ R.frames) (hlo : (rest.map fun v => v.category).sum + 13 ≤ R.locals) (hc : cells ≤ R.cells ∧ slots ≤ R.slots) {x : Int32}
    (kk : W p l e R s m args below meth c H locs cells slots Q (F0 m (pc + 3) ls (.int (if 0 ≤ x then x else 0 - x) :: rest))) : W p l e R s m args below meth c H locs cells slots Q (F0 m pc ls (.int x :: rest)) := by
  obtain ⟨⟨hx, hb, hml, ho, ht⟩, -, -⟩ := E
  exact va_mabs hx hb (hml.trans hls.symm) ho (ht _ hl) (ht _ mTL_abs) (ht _ mN_J9) (ht _ mCL_abs) hf hlo hc.1 hc.2 hdg kk
end NRows
/-! a method's start, its end in the hands of 'ret' -/
section Starts2
variable {l : Launch} {y : MethodName} {cc : ByteArray} {nL : Nat} {rm : Room} {D : va_G} {cA : ClassId} {av : List Value} {w : va_W} {S : Type} {w' : S → va_W}
theorem st_i {post : Int32 → S → Prop} (hy : plainName y.cls = true) (hn : (lg_sl av).length ≤ nL)
    (body : ∀ (p : Program) (e : Env) (s : State) (m : MethodId) (args : Array Value) (below : List Frame) (meth : Method) (c : Code) (A : Nat → Prop) (Q : State → Prop), Ev p s m args c cc nL y.cls D cA A →
      (∀ {H : Heap} {locs : List Loc} {ws : va_W} {pc : Nat} {ls : Array Slot} {v : Int32} (u : S), Wd D A s ws H locs → decode cc pc = .ok (.ireturn, 1) → ws = w' u → post v u → W p l e rm s m args below meth c H locs 0 0 Q (F0 m pc ls [.int v])) →
      Wd D A s w s.heap [] → ∀ ls : Array Slot, lv_has ls nL (lv_args 0 av) → W p l e rm s m args below meth c s.heap [] 0 0 Q (F0 m 0 ls [])) : Cti l y cc nL (some .int) rm D cA av w post w' :=
  ct_i hy hn (fun p e s m below meth c A E hr hk Z ls hl => body p e s m _ below meth c A _ E (fun u Z hd hw hp => r_iret E Z hr hk hd u hw hp) Z ls hl)
theorem st_z {post : Int32 → S → Prop} (hy : plainName y.cls = true) (hn : (lg_sl av).length ≤ nL)
    (body : ∀ (p : Program) (e : Env) (s : State) (m : MethodId) (args : Array Value) (below : List Frame) (meth : Method) (c : Code) (A : Nat → Prop) (Q : State → Prop), Ev p s m args c cc nL y.cls D cA A →
      (∀ {H : Heap} {locs : List Loc} {ws : va_W} {pc : Nat} {ls : Array Slot} {v : Int32} (u : S), Wd D A s ws H locs → decode cc pc = .ok (.ireturn, 1) → (v = 0 ∨ v = 1) → ws = w' u → post v u → W p l e rm s m args below meth c H locs 0 0 Q (F0 m pc ls [.int v])) →
      Wd D A s w s.heap [] → ∀ ls : Array Slot, lv_has ls nL (lv_args 0 av) → W p l e rm s m args below meth c s.heap [] 0 0 Q (F0 m 0 ls [])) : Cti l y cc nL (some .boolean) rm D cA av w post w' :=
  ct_i hy hn (fun p e s m below meth c A E hr hk Z ls hl => body p e s m _ below meth c A _ E (fun u Z hd hv hw hp => r_zret E Z hr hk hd (by rcases hv with rfl | rfl <;> rfl) u hw hp) Z ls hl)
theorem st_l {post : Int64 → S → Prop} (hy : plainName y.cls = true) (hn : (lg_sl av).length ≤ nL)
    (body : ∀ (p : Program) (e : Env) (s : State) (m : MethodId) (args : Array Value) (below : List Frame) (meth : Method) (c : Code) (A : Nat → Prop) (Q : State → Prop), Ev p s m args c cc nL y.cls D cA A →
      (∀ {H : Heap} {locs : List Loc} {ws : va_W} {pc : Nat} {ls : Array Slot} {v : Int64} (u : S), Wd D A s ws H locs → decode cc pc = .ok (.lreturn, 1) → ws = w' u → post v u → W p l e rm s m args below meth c H locs 0 0 Q (F0 m pc ls [.long v])) →
      Wd D A s w s.heap [] → ∀ ls : Array Slot, lv_has ls nL (lv_args 0 av) → W p l e rm s m args below meth c s.heap [] 0 0 Q (F0 m 0 ls [])) : Ctl l y cc nL (some .long) rm D cA av w post w' :=
  ct_l hy hn (fun p e s m below meth c A E hr hk Z ls hl => body p e s m _ below meth c A _ E (fun u Z hd hw hp => r_lret E Z hr hk hd u hw hp) Z ls hl)
theorem st_v {post : S → Prop} (hy : plainName y.cls = true) (hn : (lg_sl av).length ≤ nL)
    (body : ∀ (p : Program) (e : Env) (s : State) (m : MethodId) (args : Array Value) (below : List Frame) (meth : Method) (c : Code) (A : Nat → Prop) (Q : State → Prop), Ev p s m args c cc nL y.cls D cA A →
      (∀ {H : Heap} {locs : List Loc} {ws : va_W} {pc : Nat} {ls : Array Slot} (u : S), Wd D A s ws H locs → decode cc pc = .ok (.return_, 1) → ws = w' u → post u → W p l e rm s m args below meth c H locs 0 0 Q (F0 m pc ls [])) →
      Wd D A s w s.heap [] → ∀ ls : Array Slot, lv_has ls nL (lv_args 0 av) → W p l e rm s m args below meth c s.heap [] 0 0 Q (F0 m 0 ls [])) : Ctv l y cc nL none rm D cA av w post w' :=
  ct_v hy hn (fun p e s m below meth c A E hr hk Z ls hl => body p e s m _ below meth c A _ E (fun u Z hd hw hp => r_vret E Z hr hk hd u hw hp) Z ls hl)
end Starts2
end
section
/-! field rows and call words, by program -/
section Fields
variable {p : Program} {l : Launch} {e : Env} {R : Room} {s : State} {m : MethodId} {args : Array Value} {below : List Frame} {meth : Method} {c : Code} {H : Heap} {locs : List Loc} {cells slots : Nat} {Q : State → Prop}
variable {cc : ByteArray} {nL : Nat} {D : va_G} {cA : ClassId} {A : Nat → Prop} {ws w1 : va_W} {pc : Nat} {ls : Array Slot} {rest : List Value} {a : Nat}
theorem gF_X1_9 (E : Ev p s m args c cc nL RX1 D cA A) (Z : Wd D A s ws H locs) (hdg : decode cc pc = .ok (.getfield 9, 3)) (q0 : Nat) {fs : List Value} (he : ws[q0]? = some (a, .inr (1, fs))) {v : Value} (hv : fs[0]? = some v) (kk : W p l e R s m args below meth c H locs cells slots Q (F0 m (pc + 3) ls (v :: rest))) : W p l e R s m args below meth c H locs cells slots Q (F0 m pc ls (.ref a :: rest)) := r_get E Z inX1 rfl 0 (by decide) mF_X1_9 hdg q0 he hv kk
theorem pF_X1_9 (E : Ev p s m args c cc nL RX1 D cA A) (Z : Wd D A s ws H locs) (hinit : meth.name = "<init>") (hdg : decode cc pc = .ok (.putfield 9, 3)) (q0 : Nat) {fs : List Value} {v : Nat} (he : ws[q0]? = some (a, .inr (1, fs))) (hl : 0 < fs.length) (hw : ws.set q0 (a, .inr (1, fs.set 0 (.ref v))) = w1) (kk : ∀ (H : Heap) (locs : List Loc), Wd D A s w1 H locs → W p l e R s m args below meth c H locs cells slots Q (F0 m (pc + 3) ls rest)) : W p l e R s m args below meth c H locs cells slots Q (F0 m pc ls (.ref v :: .ref a :: rest)) := r_putF E Z hinit inX1 rfl tyX1 tyX1_ok nmX1 0 (by decide) rfl rfl mF_X1_9 rfl rfl hdg q0 he hl hw kk
theorem gF_X1_15 (E : Ev p s m args c cc nL RX1 D cA A) (Z : Wd D A s ws H locs) (hdg : decode cc pc = .ok (.getfield 15, 3)) (q0 : Nat) {fs : List Value} (he : ws[q0]? = some (a, .inr (1, fs))) {v : Value} (hv : fs[1]? = some v) (kk : W p l e R s m args below meth c H locs cells slots Q (F0 m (pc + 3) ls (v :: rest))) : W p l e R s m args below meth c H locs cells slots Q (F0 m pc ls (.ref a :: rest)) := r_get E Z inX1 rfl 1 (by decide) mF_X1_15 hdg q0 he hv kk
theorem pF_X1_15 (E : Ev p s m args c cc nL RX1 D cA A) (Z : Wd D A s ws H locs) (hinit : meth.name = "<init>") (hdg : decode cc pc = .ok (.putfield 15, 3)) (q0 : Nat) {fs : List Value} {v : Nat} (he : ws[q0]? = some (a, .inr (1, fs))) (hl : 1 < fs.length) (hw : ws.set q0 (a, .inr (1, fs.set 1 (.ref v))) = w1) (kk : ∀ (H : Heap) (locs : List Loc), Wd D A s w1 H locs → W p l e R s m args below meth c H locs cells slots Q (F0 m (pc + 3) ls rest)) : W p l e R s m args below meth c H locs cells slots Q (F0 m pc ls (.ref v :: .ref a :: rest)) := r_putF E Z hinit inX1 rfl tyX1 tyX1_ok nmX1 1 (by decide) rfl rfl mF_X1_15 rfl rfl hdg q0 he hl hw kk
theorem gF_X1_18 (E : Ev p s m args c cc nL RX1 D cA A) (Z : Wd D A s ws H locs) (hdg : decode cc pc = .ok (.getfield 18, 3)) (q0 : Nat) {fs : List Value} (he : ws[q0]? = some (a, .inr (1, fs))) {v : Value} (hv : fs[2]? = some v) (kk : W p l e R s m args below meth c H locs cells slots Q (F0 m (pc + 3) ls (v :: rest))) : W p l e R s m args below meth c H locs cells slots Q (F0 m pc ls (.ref a :: rest)) := r_get E Z inX1 rfl 2 (by decide) mF_X1_18 hdg q0 he hv kk
theorem pF_X1_18 (E : Ev p s m args c cc nL RX1 D cA A) (Z : Wd D A s ws H locs) (hdg : decode cc pc = .ok (.putfield 18, 3)) (q0 : Nat) {fs : List Value} {v : Int32} (he : ws[q0]? = some (a, .inr (1, fs))) (hl : 2 < fs.length) (hw : ws.set q0 (a, .inr (1, fs.set 2 (.int v))) = w1) (kk : ∀ (H : Heap) (locs : List Loc), Wd D A s w1 H locs → W p l e R s m args below meth c H locs cells slots Q (F0 m (pc + 3) ls rest)) : W p l e R s m args below meth c H locs cells slots Q (F0 m pc ls (.int v :: .ref a :: rest)) := r_put E Z inX1 rfl tyX1 tyX1_ok nmX1 2 (by decide) rfl mF_X1_18 rfl rfl hdg q0 he hl hw kk
theorem gF_X1_22 (E : Ev p s m args c cc nL RX1 D cA A) (Z : Wd D A s ws H locs) (hdg : decode cc pc = .ok (.getfield 22, 3)) (q0 : Nat) {fs : List Value} (he : ws[q0]? = some (a, .inr (1, fs))) {v : Value} (hv : fs[3]? = some v) (kk : W p l e R s m args below meth c H locs cells slots Q (F0 m (pc + 3) ls (v :: rest))) : W p l e R s m args below meth c H locs cells slots Q (F0 m pc ls (.ref a :: rest)) := r_get E Z inX1 rfl 3 (by decide) mF_X1_22 hdg q0 he hv kk
theorem pF_X1_22 (E : Ev p s m args c cc nL RX1 D cA A) (Z : Wd D A s ws H locs) (hdg : decode cc pc = .ok (.putfield 22, 3)) (q0 : Nat) {fs : List Value} {v : Int32} (he : ws[q0]? = some (a, .inr (1, fs))) (hl : 3 < fs.length) (hw : ws.set q0 (a, .inr (1, fs.set 3 (.int v))) = w1) (kk : ∀ (H : Heap) (locs : List Loc), Wd D A s w1 H locs → W p l e R s m args below meth c H locs cells slots Q (F0 m (pc + 3) ls rest)) : W p l e R s m args below meth c H locs cells slots Q (F0 m pc ls (.int v :: .ref a :: rest)) := r_put E Z inX1 rfl tyX1 tyX1_ok nmX1 3 (by decide) rfl mF_X1_22 rfl rfl hdg q0 he hl hw kk
theorem gF_X0_9 (E : Ev p s m args c cc nL RX0 D cA A) (Z : Wd D A s ws H locs) (hdg : decode cc pc = .ok (.getfield 9, 3)) (q0 : Nat) {fs : List Value} (he : ws[q0]? = some (a, .inr (0, fs))) {v : Value} (hv : fs[0]? = some v) (kk : W p l e R s m args below meth c H locs cells slots Q (F0 m (pc + 3) ls (v :: rest))) : W p l e R s m args below meth c H locs cells slots Q (F0 m pc ls (.ref a :: rest)) := r_get E Z inX0 rfl 0 (by decide) mF_X0_9 hdg q0 he hv kk
theorem pF_X0_9 (E : Ev p s m args c cc nL RX0 D cA A) (Z : Wd D A s ws H locs) (hinit : meth.name = "<init>") (hdg : decode cc pc = .ok (.putfield 9, 3)) (q0 : Nat) {fs : List Value} {v : Nat} (he : ws[q0]? = some (a, .inr (0, fs))) (hl : 0 < fs.length) (hw : ws.set q0 (a, .inr (0, fs.set 0 (.ref v))) = w1) (kk : ∀ (H : Heap) (locs : List Loc), Wd D A s w1 H locs → W p l e R s m args below meth c H locs cells slots Q (F0 m (pc + 3) ls rest)) : W p l e R s m args below meth c H locs cells slots Q (F0 m pc ls (.ref v :: .ref a :: rest)) := r_putF E Z hinit inX0 rfl tyX0 tyX0_ok nmX0 0 (by decide) rfl rfl mF_X0_9 rfl rfl hdg q0 he hl hw kk
theorem gF_X0_19 (E : Ev p s m args c cc nL RX0 D cA A) (Z : Wd D A s ws H locs) (hdg : decode cc pc = .ok (.getfield 19, 3)) (q0 : Nat) {fs : List Value} (he : ws[q0]? = some (a, .inr (0, fs))) {v : Value} (hv : fs[1]? = some v) (kk : W p l e R s m args below meth c H locs cells slots Q (F0 m (pc + 3) ls (v :: rest))) : W p l e R s m args below meth c H locs cells slots Q (F0 m pc ls (.ref a :: rest)) := r_get E Z inX0 rfl 1 (by decide) mF_X0_19 hdg q0 he hv kk
theorem pF_X0_19 (E : Ev p s m args c cc nL RX0 D cA A) (Z : Wd D A s ws H locs) (hdg : decode cc pc = .ok (.putfield 19, 3)) (q0 : Nat) {fs : List Value} {v : Int32} (he : ws[q0]? = some (a, .inr (0, fs))) (hl : 1 < fs.length) (hw : ws.set q0 (a, .inr (0, fs.set 1 (.int v))) = w1) (kk : ∀ (H : Heap) (locs : List Loc), Wd D A s w1 H locs → W p l e R s m args below meth c H locs cells slots Q (F0 m (pc + 3) ls rest)) : W p l e R s m args below meth c H locs cells slots Q (F0 m pc ls (.int v :: .ref a :: rest)) := r_put E Z inX0 rfl tyX0 tyX0_ok nmX0 1 (by decide) rfl mF_X0_19 rfl rfl hdg q0 he hl hw kk
theorem gF_X0_15 (E : Ev p s m args c cc nL RX0 D cA A) (Z : Wd D A s ws H locs) (hdg : decode cc pc = .ok (.getfield 15, 3)) (q0 : Nat) {fs : List Value} (he : ws[q0]? = some (a, .inr (0, fs))) {v : Value} (hv : fs[2]? = some v) (kk : W p l e R s m args below meth c H locs cells slots Q (F0 m (pc + 3) ls (v :: rest))) : W p l e R s m args below meth c H locs cells slots Q (F0 m pc ls (.ref a :: rest)) := r_get E Z inX0 rfl 2 (by decide) mF_X0_15 hdg q0 he hv kk
theorem pF_X0_15 (E : Ev p s m args c cc nL RX0 D cA A) (Z : Wd D A s ws H locs) (hdg : decode cc pc = .ok (.putfield 15, 3)) (q0 : Nat) {fs : List Value} {v : Int32} (he : ws[q0]? = some (a, .inr (0, fs))) (hl : 2 < fs.length) (hw : ws.set q0 (a, .inr (0, fs.set 2 (.int v))) = w1) (kk : ∀ (H : Heap) (locs : List Loc), Wd D A s w1 H locs → W p l e R s m args below meth c H locs cells slots Q (F0 m (pc + 3) ls rest)) : W p l e R s m args below meth c H locs cells slots Q (F0 m pc ls (.int v :: .ref a :: rest)) := r_put E Z inX0 rfl tyX0 tyX0_ok nmX0 2 (by decide) rfl mF_X0_15 rfl rfl hdg q0 he hl hw kk
theorem gF_X3_9 (E : Ev p s m args c cc nL RX3 D cA A) (Z : Wd D A s ws H locs) (hdg : decode cc pc = .ok (.getfield 9, 3)) (q0 : Nat) {fs : List Value} (he : ws[q0]? = some (a, .inr (3, fs))) {v : Value} (hv : fs[0]? = some v) (kk : W p l e R s m args below meth c H locs cells slots Q (F0 m (pc + 3) ls (v :: rest))) : W p l e R s m args below meth c H locs cells slots Q (F0 m pc ls (.ref a :: rest)) := r_get E Z inX3 rfl 0 (by decide) mF_X3_9 hdg q0 he hv kk
theorem pF_X3_9 (E : Ev p s m args c cc nL RX3 D cA A) (Z : Wd D A s ws H locs) (hinit : meth.name = "<init>") (hdg : decode cc pc = .ok (.putfield 9, 3)) (q0 : Nat) {fs : List Value} {v : Nat} (he : ws[q0]? = some (a, .inr (3, fs))) (hl : 0 < fs.length) (hw : ws.set q0 (a, .inr (3, fs.set 0 (.ref v))) = w1) (kk : ∀ (H : Heap) (locs : List Loc), Wd D A s w1 H locs → W p l e R s m args below meth c H locs cells slots Q (F0 m (pc + 3) ls rest)) : W p l e R s m args below meth c H locs cells slots Q (F0 m pc ls (.ref v :: .ref a :: rest)) := r_putF E Z hinit inX3 rfl tyX3 tyX3_ok nmX3 0 (by decide) rfl rfl mF_X3_9 rfl rfl hdg q0 he hl hw kk
theorem gF_X3_15 (E : Ev p s m args c cc nL RX3 D cA A) (Z : Wd D A s ws H locs) (hdg : decode cc pc = .ok (.getfield 15, 3)) (q0 : Nat) {fs : List Value} (he : ws[q0]? = some (a, .inr (3, fs))) {v : Value} (hv : fs[1]? = some v) (kk : W p l e R s m args below meth c H locs cells slots Q (F0 m (pc + 3) ls (v :: rest))) : W p l e R s m args below meth c H locs cells slots Q (F0 m pc ls (.ref a :: rest)) := r_get E Z inX3 rfl 1 (by decide) mF_X3_15 hdg q0 he hv kk
theorem pF_X3_15 (E : Ev p s m args c cc nL RX3 D cA A) (Z : Wd D A s ws H locs) (hdg : decode cc pc = .ok (.putfield 15, 3)) (q0 : Nat) {fs : List Value} {v : Int32} (he : ws[q0]? = some (a, .inr (3, fs))) (hl : 1 < fs.length) (hw : ws.set q0 (a, .inr (3, fs.set 1 (.int v))) = w1) (kk : ∀ (H : Heap) (locs : List Loc), Wd D A s w1 H locs → W p l e R s m args below meth c H locs cells slots Q (F0 m (pc + 3) ls rest)) : W p l e R s m args below meth c H locs cells slots Q (F0 m pc ls (.int v :: .ref a :: rest)) := r_put E Z inX3 rfl tyX3 tyX3_ok nmX3 1 (by decide) rfl mF_X3_15 rfl rfl hdg q0 he hl hw kk
theorem gF_X3_26 (E : Ev p s m args c cc nL RX3 D cA A) (Z : Wd D A s ws H locs) (hdg : decode cc pc = .ok (.getfield 26, 3)) (q0 : Nat) {fs : List Value} (he : ws[q0]? = some (a, .inr (3, fs))) {v : Value} (hv : fs[2]? = some v) (kk : W p l e R s m args below meth c H locs cells slots Q (F0 m (pc + 3) ls (v :: rest))) : W p l e R s m args below meth c H locs cells slots Q (F0 m pc ls (.ref a :: rest)) := r_get E Z inX3 rfl 2 (by decide) mF_X3_26 hdg q0 he hv kk
theorem pF_X3_26 (E : Ev p s m args c cc nL RX3 D cA A) (Z : Wd D A s ws H locs) (hdg : decode cc pc = .ok (.putfield 26, 3)) (q0 : Nat) {fs : List Value} {v : Int32} (he : ws[q0]? = some (a, .inr (3, fs))) (hl : 2 < fs.length) (hw : ws.set q0 (a, .inr (3, fs.set 2 (.int v))) = w1) (kk : ∀ (H : Heap) (locs : List Loc), Wd D A s w1 H locs → W p l e R s m args below meth c H locs cells slots Q (F0 m (pc + 3) ls rest)) : W p l e R s m args below meth c H locs cells slots Q (F0 m pc ls (.int v :: .ref a :: rest)) := r_put E Z inX3 rfl tyX3 tyX3_ok nmX3 2 (by decide) rfl mF_X3_26 rfl rfl hdg q0 he hl hw kk
theorem gF_X3_29 (E : Ev p s m args c cc nL RX3 D cA A) (Z : Wd D A s ws H locs) (hdg : decode cc pc = .ok (.getfield 29, 3)) (q0 : Nat) {fs : List Value} (he : ws[q0]? = some (a, .inr (3, fs))) {v : Value} (hv : fs[3]? = some v) (kk : W p l e R s m args below meth c H locs cells slots Q (F0 m (pc + 3) ls (v :: rest))) : W p l e R s m args below meth c H locs cells slots Q (F0 m pc ls (.ref a :: rest)) := r_get E Z inX3 rfl 3 (by decide) mF_X3_29 hdg q0 he hv kk
theorem pF_X3_29 (E : Ev p s m args c cc nL RX3 D cA A) (Z : Wd D A s ws H locs) (hdg : decode cc pc = .ok (.putfield 29, 3)) (q0 : Nat) {fs : List Value} {v : Int32} (he : ws[q0]? = some (a, .inr (3, fs))) (hl : 3 < fs.length) (hw : ws.set q0 (a, .inr (3, fs.set 3 (.int v))) = w1) (kk : ∀ (H : Heap) (locs : List Loc), Wd D A s w1 H locs → W p l e R s m args below meth c H locs cells slots Q (F0 m (pc + 3) ls rest)) : W p l e R s m args below meth c H locs cells slots Q (F0 m pc ls (.int v :: .ref a :: rest)) := r_put E Z inX3 rfl tyX3 tyX3_ok nmX3 3 (by decide) rfl mF_X3_29 rfl rfl hdg q0 he hl hw kk
theorem gF_X3_32 (E : Ev p s m args c cc nL RX3 D cA A) (Z : Wd D A s ws H locs) (hdg : decode cc pc = .ok (.getfield 32, 3)) (q0 : Nat) {fs : List Value} (he : ws[q0]? = some (a, .inr (3, fs))) {v : Value} (hv : fs[4]? = some v) (kk : W p l e R s m args below meth c H locs cells slots Q (F0 m (pc + 3) ls (v :: rest))) : W p l e R s m args below meth c H locs cells slots Q (F0 m pc ls (.ref a :: rest)) := r_get E Z inX3 rfl 4 (by decide) mF_X3_32 hdg q0 he hv kk
theorem pF_X3_32 (E : Ev p s m args c cc nL RX3 D cA A) (Z : Wd D A s ws H locs) (hdg : decode cc pc = .ok (.putfield 32, 3)) (q0 : Nat) {fs : List Value} {v : Int32} (he : ws[q0]? = some (a, .inr (3, fs))) (hl : 4 < fs.length) (hw : ws.set q0 (a, .inr (3, fs.set 4 (.int v))) = w1) (kk : ∀ (H : Heap) (locs : List Loc), Wd D A s w1 H locs → W p l e R s m args below meth c H locs cells slots Q (F0 m (pc + 3) ls rest)) : W p l e R s m args below meth c H locs cells slots Q (F0 m pc ls (.int v :: .ref a :: rest)) := r_put E Z inX3 rfl tyX3 tyX3_ok nmX3 4 (by decide) rfl mF_X3_32 rfl rfl hdg q0 he hl hw kk
theorem gF_X3_35 (E : Ev p s m args c cc nL RX3 D cA A) (Z : Wd D A s ws H locs) (hdg : decode cc pc = .ok (.getfield 35, 3)) (q0 : Nat) {fs : List Value} (he : ws[q0]? = some (a, .inr (3, fs))) {v : Value} (hv : fs[5]? = some v) (kk : W p l e R s m args below meth c H locs cells slots Q (F0 m (pc + 3) ls (v :: rest))) : W p l e R s m args below meth c H locs cells slots Q (F0 m pc ls (.ref a :: rest)) := r_get E Z inX3 rfl 5 (by decide) mF_X3_35 hdg q0 he hv kk
theorem pF_X3_35 (E : Ev p s m args c cc nL RX3 D cA A) (Z : Wd D A s ws H locs) (hdg : decode cc pc = .ok (.putfield 35, 3)) (q0 : Nat) {fs : List Value} {v : Int32} (he : ws[q0]? = some (a, .inr (3, fs))) (hl : 5 < fs.length) (hw : ws.set q0 (a, .inr (3, fs.set 5 (.int v))) = w1) (kk : ∀ (H : Heap) (locs : List Loc), Wd D A s w1 H locs → W p l e R s m args below meth c H locs cells slots Q (F0 m (pc + 3) ls rest)) : W p l e R s m args below meth c H locs cells slots Q (F0 m pc ls (.int v :: .ref a :: rest)) := r_put E Z inX3 rfl tyX3 tyX3_ok nmX3 5 (by decide) rfl mF_X3_35 rfl rfl hdg q0 he hl hw kk
theorem gF_X2_9 (E : Ev p s m args c cc nL RX2 D cA A) (Z : Wd D A s ws H locs) (hdg : decode cc pc = .ok (.getfield 9, 3)) (q0 : Nat) {fs : List Value} (he : ws[q0]? = some (a, .inr (2, fs))) {v : Value} (hv : fs[0]? = some v) (kk : W p l e R s m args below meth c H locs cells slots Q (F0 m (pc + 3) ls (v :: rest))) : W p l e R s m args below meth c H locs cells slots Q (F0 m pc ls (.ref a :: rest)) := r_get E Z inX2 rfl 0 (by decide) mF_X2_9 hdg q0 he hv kk
theorem pF_X2_9 (E : Ev p s m args c cc nL RX2 D cA A) (Z : Wd D A s ws H locs) (hinit : meth.name = "<init>") (hdg : decode cc pc = .ok (.putfield 9, 3)) (q0 : Nat) {fs : List Value} {v : Nat} (he : ws[q0]? = some (a, .inr (2, fs))) (hl : 0 < fs.length) (hw : ws.set q0 (a, .inr (2, fs.set 0 (.ref v))) = w1) (kk : ∀ (H : Heap) (locs : List Loc), Wd D A s w1 H locs → W p l e R s m args below meth c H locs cells slots Q (F0 m (pc + 3) ls rest)) : W p l e R s m args below meth c H locs cells slots Q (F0 m pc ls (.ref v :: .ref a :: rest)) := r_putF E Z hinit inX2 rfl tyX2 tyX2_ok nmX2 0 (by decide) rfl rfl mF_X2_9 rfl rfl hdg q0 he hl hw kk
theorem gF_X2_15 (E : Ev p s m args c cc nL RX2 D cA A) (Z : Wd D A s ws H locs) (hdg : decode cc pc = .ok (.getfield 15, 3)) (q0 : Nat) {fs : List Value} (he : ws[q0]? = some (a, .inr (2, fs))) {v : Value} (hv : fs[1]? = some v) (kk : W p l e R s m args below meth c H locs cells slots Q (F0 m (pc + 3) ls (v :: rest))) : W p l e R s m args below meth c H locs cells slots Q (F0 m pc ls (.ref a :: rest)) := r_get E Z inX2 rfl 1 (by decide) mF_X2_15 hdg q0 he hv kk
theorem pF_X2_15 (E : Ev p s m args c cc nL RX2 D cA A) (Z : Wd D A s ws H locs) (hinit : meth.name = "<init>") (hdg : decode cc pc = .ok (.putfield 15, 3)) (q0 : Nat) {fs : List Value} {v : Nat} (he : ws[q0]? = some (a, .inr (2, fs))) (hl : 1 < fs.length) (hw : ws.set q0 (a, .inr (2, fs.set 1 (.ref v))) = w1) (kk : ∀ (H : Heap) (locs : List Loc), Wd D A s w1 H locs → W p l e R s m args below meth c H locs cells slots Q (F0 m (pc + 3) ls rest)) : W p l e R s m args below meth c H locs cells slots Q (F0 m pc ls (.ref v :: .ref a :: rest)) := r_putF E Z hinit inX2 rfl tyX2 tyX2_ok nmX2 1 (by decide) rfl rfl mF_X2_15 rfl rfl hdg q0 he hl hw kk
theorem gF_X4_9 (E : Ev p s m args c cc nL RX4 D cA A) (Z : Wd D A s ws H locs) (hdg : decode cc pc = .ok (.getfield 9, 3)) (q0 : Nat) {fs : List Value} (he : ws[q0]? = some (a, .inr (4, fs))) {v : Value} (hv : fs[0]? = some v) (kk : W p l e R s m args below meth c H locs cells slots Q (F0 m (pc + 3) ls (v :: rest))) : W p l e R s m args below meth c H locs cells slots Q (F0 m pc ls (.ref a :: rest)) := r_get E Z inX4 rfl 0 (by decide) mF_X4_9 hdg q0 he hv kk
theorem pF_X4_9 (E : Ev p s m args c cc nL RX4 D cA A) (Z : Wd D A s ws H locs) (hinit : meth.name = "<init>") (hdg : decode cc pc = .ok (.putfield 9, 3)) (q0 : Nat) {fs : List Value} {v : Nat} (he : ws[q0]? = some (a, .inr (4, fs))) (hl : 0 < fs.length) (hw : ws.set q0 (a, .inr (4, fs.set 0 (.ref v))) = w1) (kk : ∀ (H : Heap) (locs : List Loc), Wd D A s w1 H locs → W p l e R s m args below meth c H locs cells slots Q (F0 m (pc + 3) ls rest)) : W p l e R s m args below meth c H locs cells slots Q (F0 m pc ls (.ref v :: .ref a :: rest)) := r_putF E Z hinit inX4 rfl tyX4 tyX4_ok nmX4 0 (by decide) rfl rfl mF_X4_9 rfl rfl hdg q0 he hl hw kk
theorem gF_X4_15 (E : Ev p s m args c cc nL RX4 D cA A) (Z : Wd D A s ws H locs) (hdg : decode cc pc = .ok (.getfield 15, 3)) (q0 : Nat) {fs : List Value} (he : ws[q0]? = some (a, .inr (4, fs))) {v : Value} (hv : fs[1]? = some v) (kk : W p l e R s m args below meth c H locs cells slots Q (F0 m (pc + 3) ls (v :: rest))) : W p l e R s m args below meth c H locs cells slots Q (F0 m pc ls (.ref a :: rest)) := r_get E Z inX4 rfl 1 (by decide) mF_X4_15 hdg q0 he hv kk
theorem pF_X4_15 (E : Ev p s m args c cc nL RX4 D cA A) (Z : Wd D A s ws H locs) (hinit : meth.name = "<init>") (hdg : decode cc pc = .ok (.putfield 15, 3)) (q0 : Nat) {fs : List Value} {v : Nat} (he : ws[q0]? = some (a, .inr (4, fs))) (hl : 1 < fs.length) (hw : ws.set q0 (a, .inr (4, fs.set 1 (.ref v))) = w1) (kk : ∀ (H : Heap) (locs : List Loc), Wd D A s w1 H locs → W p l e R s m args below meth c H locs cells slots Q (F0 m (pc + 3) ls rest)) : W p l e R s m args below meth c H locs cells slots Q (F0 m pc ls (.ref v :: .ref a :: rest)) := r_putF E Z hinit inX4 rfl tyX4 tyX4_ok nmX4 1 (by decide) rfl rfl mF_X4_15 rfl rfl hdg q0 he hl hw kk
theorem gF_X4_18 (E : Ev p s m args c cc nL RX4 D cA A) (Z : Wd D A s ws H locs) (hdg : decode cc pc = .ok (.getfield 18, 3)) (q0 : Nat) {fs : List Value} (he : ws[q0]? = some (a, .inr (4, fs))) {v : Value} (hv : fs[2]? = some v) (kk : W p l e R s m args below meth c H locs cells slots Q (F0 m (pc + 3) ls (v :: rest))) : W p l e R s m args below meth c H locs cells slots Q (F0 m pc ls (.ref a :: rest)) := r_get E Z inX4 rfl 2 (by decide) mF_X4_18 hdg q0 he hv kk
theorem pF_X4_18 (E : Ev p s m args c cc nL RX4 D cA A) (Z : Wd D A s ws H locs) (hinit : meth.name = "<init>") (hdg : decode cc pc = .ok (.putfield 18, 3)) (q0 : Nat) {fs : List Value} {v : Nat} (he : ws[q0]? = some (a, .inr (4, fs))) (hl : 2 < fs.length) (hw : ws.set q0 (a, .inr (4, fs.set 2 (.ref v))) = w1) (kk : ∀ (H : Heap) (locs : List Loc), Wd D A s w1 H locs → W p l e R s m args below meth c H locs cells slots Q (F0 m (pc + 3) ls rest)) : W p l e R s m args below meth c H locs cells slots Q (F0 m pc ls (.ref v :: .ref a :: rest)) := r_putF E Z hinit inX4 rfl tyX4 tyX4_ok nmX4 2 (by decide) rfl rfl mF_X4_18 rfl rfl hdg q0 he hl hw kk
theorem gF_X4_25 (E : Ev p s m args c cc nL RX4 D cA A) (Z : Wd D A s ws H locs) (hdg : decode cc pc = .ok (.getfield 25, 3)) (q0 : Nat) {fs : List Value} (he : ws[q0]? = some (a, .inr (4, fs))) {v : Value} (hv : fs[3]? = some v) (kk : W p l e R s m args below meth c H locs cells slots Q (F0 m (pc + 3) ls (v :: rest))) : W p l e R s m args below meth c H locs cells slots Q (F0 m pc ls (.ref a :: rest)) := r_get E Z inX4 rfl 3 (by decide) mF_X4_25 hdg q0 he hv kk
theorem pF_X4_25 (E : Ev p s m args c cc nL RX4 D cA A) (Z : Wd D A s ws H locs) (hdg : decode cc pc = .ok (.putfield 25, 3)) (q0 : Nat) {fs : List Value} {v : Int32} (he : ws[q0]? = some (a, .inr (4, fs))) (hl : 3 < fs.length) (hw : ws.set q0 (a, .inr (4, fs.set 3 (.int v))) = w1) (kk : ∀ (H : Heap) (locs : List Loc), Wd D A s w1 H locs → W p l e R s m args below meth c H locs cells slots Q (F0 m (pc + 3) ls rest)) : W p l e R s m args below meth c H locs cells slots Q (F0 m pc ls (.int v :: .ref a :: rest)) := r_put E Z inX4 rfl tyX4 tyX4_ok nmX4 3 (by decide) rfl mF_X4_25 rfl rfl hdg q0 he hl hw kk
theorem gF_X4_21 (E : Ev p s m args c cc nL RX4 D cA A) (Z : Wd D A s ws H locs) (hdg : decode cc pc = .ok (.getfield 21, 3)) (q0 : Nat) {fs : List Value} (he : ws[q0]? = some (a, .inr (4, fs))) {v : Value} (hv : fs[4]? = some v) (kk : W p l e R s m args below meth c H locs cells slots Q (F0 m (pc + 3) ls (v :: rest))) : W p l e R s m args below meth c H locs cells slots Q (F0 m pc ls (.ref a :: rest)) := r_get E Z inX4 rfl 4 (by decide) mF_X4_21 hdg q0 he hv kk
theorem pF_X4_21 (E : Ev p s m args c cc nL RX4 D cA A) (Z : Wd D A s ws H locs) (hdg : decode cc pc = .ok (.putfield 21, 3)) (q0 : Nat) {fs : List Value} {v : Int32} (he : ws[q0]? = some (a, .inr (4, fs))) (hl : 4 < fs.length) (hw : ws.set q0 (a, .inr (4, fs.set 4 (.int v))) = w1) (kk : ∀ (H : Heap) (locs : List Loc), Wd D A s w1 H locs → W p l e R s m args below meth c H locs cells slots Q (F0 m (pc + 3) ls rest)) : W p l e R s m args below meth c H locs cells slots Q (F0 m pc ls (.int v :: .ref a :: rest)) := r_put E Z inX4 rfl tyX4 tyX4_ok nmX4 4 (by decide) rfl mF_X4_21 rfl rfl hdg q0 he hl hw kk
theorem gF_X5_10 (E : Ev p s m args c cc nL RX5 D cA A) (Z : Wd D A s ws H locs) (hdg : decode cc pc = .ok (.getfield 10, 3)) (q0 : Nat) {fs : List Value} (he : ws[q0]? = some (a, .inr (5, fs))) {v : Value} (hv : fs[0]? = some v) (kk : W p l e R s m args below meth c H locs cells slots Q (F0 m (pc + 3) ls (v :: rest))) : W p l e R s m args below meth c H locs cells slots Q (F0 m pc ls (.ref a :: rest)) := r_get E Z inX5 rfl 0 (by decide) mF_X5_10 hdg q0 he hv kk
theorem pF_X5_10 (E : Ev p s m args c cc nL RX5 D cA A) (Z : Wd D A s ws H locs) (hinit : meth.name = "<init>") (hdg : decode cc pc = .ok (.putfield 10, 3)) (q0 : Nat) {fs : List Value} {v : Nat} (he : ws[q0]? = some (a, .inr (5, fs))) (hl : 0 < fs.length) (hw : ws.set q0 (a, .inr (5, fs.set 0 (.ref v))) = w1) (kk : ∀ (H : Heap) (locs : List Loc), Wd D A s w1 H locs → W p l e R s m args below meth c H locs cells slots Q (F0 m (pc + 3) ls rest)) : W p l e R s m args below meth c H locs cells slots Q (F0 m pc ls (.ref v :: .ref a :: rest)) := r_putF E Z hinit inX5 rfl tyX5 tyX5_ok nmX5 0 (by decide) rfl rfl mF_X5_10 rfl rfl hdg q0 he hl hw kk
theorem gF_X5_19 (E : Ev p s m args c cc nL RX5 D cA A) (Z : Wd D A s ws H locs) (hdg : decode cc pc = .ok (.getfield 19, 3)) (q0 : Nat) {fs : List Value} (he : ws[q0]? = some (a, .inr (5, fs))) {v : Value} (hv : fs[1]? = some v) (kk : W p l e R s m args below meth c H locs cells slots Q (F0 m (pc + 3) ls (v :: rest))) : W p l e R s m args below meth c H locs cells slots Q (F0 m pc ls (.ref a :: rest)) := r_get E Z inX5 rfl 1 (by decide) mF_X5_19 hdg q0 he hv kk
theorem pF_X5_19 (E : Ev p s m args c cc nL RX5 D cA A) (Z : Wd D A s ws H locs) (hinit : meth.name = "<init>") (hdg : decode cc pc = .ok (.putfield 19, 3)) (q0 : Nat) {fs : List Value} {v : Nat} (he : ws[q0]? = some (a, .inr (5, fs))) (hl : 1 < fs.length) (hw : ws.set q0 (a, .inr (5, fs.set 1 (.ref v))) = w1) (kk : ∀ (H : Heap) (locs : List Loc), Wd D A s w1 H locs → W p l e R s m args below meth c H locs cells slots Q (F0 m (pc + 3) ls rest)) : W p l e R s m args below meth c H locs cells slots Q (F0 m pc ls (.ref v :: .ref a :: rest)) := r_putF E Z hinit inX5 rfl tyX5 tyX5_ok nmX5 1 (by decide) rfl rfl mF_X5_19 rfl rfl hdg q0 he hl hw kk
theorem gF_X5_23 (E : Ev p s m args c cc nL RX5 D cA A) (Z : Wd D A s ws H locs) (hdg : decode cc pc = .ok (.getfield 23, 3)) (q0 : Nat) {fs : List Value} (he : ws[q0]? = some (a, .inr (5, fs))) {v : Value} (hv : fs[2]? = some v) (kk : W p l e R s m args below meth c H locs cells slots Q (F0 m (pc + 3) ls (v :: rest))) : W p l e R s m args below meth c H locs cells slots Q (F0 m pc ls (.ref a :: rest)) := r_get E Z inX5 rfl 2 (by decide) mF_X5_23 hdg q0 he hv kk
theorem pF_X5_23 (E : Ev p s m args c cc nL RX5 D cA A) (Z : Wd D A s ws H locs) (hinit : meth.name = "<init>") (hdg : decode cc pc = .ok (.putfield 23, 3)) (q0 : Nat) {fs : List Value} {v : Nat} (he : ws[q0]? = some (a, .inr (5, fs))) (hl : 2 < fs.length) (hw : ws.set q0 (a, .inr (5, fs.set 2 (.ref v))) = w1) (kk : ∀ (H : Heap) (locs : List Loc), Wd D A s w1 H locs → W p l e R s m args below meth c H locs cells slots Q (F0 m (pc + 3) ls rest)) : W p l e R s m args below meth c H locs cells slots Q (F0 m pc ls (.ref v :: .ref a :: rest)) := r_putF E Z hinit inX5 rfl tyX5 tyX5_ok nmX5 2 (by decide) rfl rfl mF_X5_23 rfl rfl hdg q0 he hl hw kk
theorem gF_X5_29 (E : Ev p s m args c cc nL RX5 D cA A) (Z : Wd D A s ws H locs) (hdg : decode cc pc = .ok (.getfield 29, 3)) (q0 : Nat) {fs : List Value} (he : ws[q0]? = some (a, .inr (5, fs))) {v : Value} (hv : fs[3]? = some v) (kk : W p l e R s m args below meth c H locs cells slots Q (F0 m (pc + 3) ls (v :: rest))) : W p l e R s m args below meth c H locs cells slots Q (F0 m pc ls (.ref a :: rest)) := r_get E Z inX5 rfl 3 (by decide) mF_X5_29 hdg q0 he hv kk
theorem pF_X5_29 (E : Ev p s m args c cc nL RX5 D cA A) (Z : Wd D A s ws H locs) (hinit : meth.name = "<init>") (hdg : decode cc pc = .ok (.putfield 29, 3)) (q0 : Nat) {fs : List Value} {v : Nat} (he : ws[q0]? = some (a, .inr (5, fs))) (hl : 3 < fs.length) (hw : ws.set q0 (a, .inr (5, fs.set 3 (.ref v))) = w1) (kk : ∀ (H : Heap) (locs : List Loc), Wd D A s w1 H locs → W p l e R s m args below meth c H locs cells slots Q (F0 m (pc + 3) ls rest)) : W p l e R s m args below meth c H locs cells slots Q (F0 m pc ls (.ref v :: .ref a :: rest)) := r_putF E Z hinit inX5 rfl tyX5 tyX5_ok nmX5 3 (by decide) rfl rfl mF_X5_29 rfl rfl hdg q0 he hl hw kk
theorem gF_X5_36 (E : Ev p s m args c cc nL RX5 D cA A) (Z : Wd D A s ws H locs) (hdg : decode cc pc = .ok (.getfield 36, 3)) (q0 : Nat) {fs : List Value} (he : ws[q0]? = some (a, .inr (5, fs))) {v : Value} (hv : fs[4]? = some v) (kk : W p l e R s m args below meth c H locs cells slots Q (F0 m (pc + 3) ls (v :: rest))) : W p l e R s m args below meth c H locs cells slots Q (F0 m pc ls (.ref a :: rest)) := r_get E Z inX5 rfl 4 (by decide) mF_X5_36 hdg q0 he hv kk
theorem pF_X5_36 (E : Ev p s m args c cc nL RX5 D cA A) (Z : Wd D A s ws H locs) (hinit : meth.name = "<init>") (hdg : decode cc pc = .ok (.putfield 36, 3)) (q0 : Nat) {fs : List Value} {v : Nat} (he : ws[q0]? = some (a, .inr (5, fs))) (hl : 4 < fs.length) (hw : ws.set q0 (a, .inr (5, fs.set 4 (.ref v))) = w1) (kk : ∀ (H : Heap) (locs : List Loc), Wd D A s w1 H locs → W p l e R s m args below meth c H locs cells slots Q (F0 m (pc + 3) ls rest)) : W p l e R s m args below meth c H locs cells slots Q (F0 m pc ls (.ref v :: .ref a :: rest)) := r_putF E Z hinit inX5 rfl tyX5 tyX5_ok nmX5 4 (by decide) rfl rfl mF_X5_36 rfl rfl hdg q0 he hl hw kk
theorem gF_X5_43 (E : Ev p s m args c cc nL RX5 D cA A) (Z : Wd D A s ws H locs) (hdg : decode cc pc = .ok (.getfield 43, 3)) (q0 : Nat) {fs : List Value} (he : ws[q0]? = some (a, .inr (5, fs))) {v : Value} (hv : fs[5]? = some v) (kk : W p l e R s m args below meth c H locs cells slots Q (F0 m (pc + 3) ls (v :: rest))) : W p l e R s m args below meth c H locs cells slots Q (F0 m pc ls (.ref a :: rest)) := r_get E Z inX5 rfl 5 (by decide) mF_X5_43 hdg q0 he hv kk
theorem pF_X5_43 (E : Ev p s m args c cc nL RX5 D cA A) (Z : Wd D A s ws H locs) (hinit : meth.name = "<init>") (hdg : decode cc pc = .ok (.putfield 43, 3)) (q0 : Nat) {fs : List Value} {v : Nat} (he : ws[q0]? = some (a, .inr (5, fs))) (hl : 5 < fs.length) (hw : ws.set q0 (a, .inr (5, fs.set 5 (.ref v))) = w1) (kk : ∀ (H : Heap) (locs : List Loc), Wd D A s w1 H locs → W p l e R s m args below meth c H locs cells slots Q (F0 m (pc + 3) ls rest)) : W p l e R s m args below meth c H locs cells slots Q (F0 m pc ls (.ref v :: .ref a :: rest)) := r_putF E Z hinit inX5 rfl tyX5 tyX5_ok nmX5 5 (by decide) rfl rfl mF_X5_43 rfl rfl hdg q0 he hl hw kk
theorem gF_X5_47 (E : Ev p s m args c cc nL RX5 D cA A) (Z : Wd D A s ws H locs) (hdg : decode cc pc = .ok (.getfield 47, 3)) (q0 : Nat) {fs : List Value} (he : ws[q0]? = some (a, .inr (5, fs))) {v : Value} (hv : fs[6]? = some v) (kk : W p l e R s m args below meth c H locs cells slots Q (F0 m (pc + 3) ls (v :: rest))) : W p l e R s m args below meth c H locs cells slots Q (F0 m pc ls (.ref a :: rest)) := r_get E Z inX5 rfl 6 (by decide) mF_X5_47 hdg q0 he hv kk
theorem pF_X5_47 (E : Ev p s m args c cc nL RX5 D cA A) (Z : Wd D A s ws H locs) (hinit : meth.name = "<init>") (hdg : decode cc pc = .ok (.putfield 47, 3)) (q0 : Nat) {fs : List Value} {v : Nat} (he : ws[q0]? = some (a, .inr (5, fs))) (hl : 6 < fs.length) (hw : ws.set q0 (a, .inr (5, fs.set 6 (.ref v))) = w1) (kk : ∀ (H : Heap) (locs : List Loc), Wd D A s w1 H locs → W p l e R s m args below meth c H locs cells slots Q (F0 m (pc + 3) ls rest)) : W p l e R s m args below meth c H locs cells slots Q (F0 m pc ls (.ref v :: .ref a :: rest)) := r_putF E Z hinit inX5 rfl tyX5 tyX5_ok nmX5 6 (by decide) rfl rfl mF_X5_47 rfl rfl hdg q0 he hl hw kk
theorem gF_X5_51 (E : Ev p s m args c cc nL RX5 D cA A) (Z : Wd D A s ws H locs) (hdg : decode cc pc = .ok (.getfield 51, 3)) (q0 : Nat) {fs : List Value} (he : ws[q0]? = some (a, .inr (5, fs))) {v : Value} (hv : fs[7]? = some v) (kk : W p l e R s m args below meth c H locs cells slots Q (F0 m (pc + 3) ls (v :: rest))) : W p l e R s m args below meth c H locs cells slots Q (F0 m pc ls (.ref a :: rest)) := r_get E Z inX5 rfl 7 (by decide) mF_X5_51 hdg q0 he hv kk
theorem pF_X5_51 (E : Ev p s m args c cc nL RX5 D cA A) (Z : Wd D A s ws H locs) (hinit : meth.name = "<init>") (hdg : decode cc pc = .ok (.putfield 51, 3)) (q0 : Nat) {fs : List Value} {v : Nat} (he : ws[q0]? = some (a, .inr (5, fs))) (hl : 7 < fs.length) (hw : ws.set q0 (a, .inr (5, fs.set 7 (.ref v))) = w1) (kk : ∀ (H : Heap) (locs : List Loc), Wd D A s w1 H locs → W p l e R s m args below meth c H locs cells slots Q (F0 m (pc + 3) ls rest)) : W p l e R s m args below meth c H locs cells slots Q (F0 m pc ls (.ref v :: .ref a :: rest)) := r_putF E Z hinit inX5 rfl tyX5 tyX5_ok nmX5 7 (by decide) rfl rfl mF_X5_51 rfl rfl hdg q0 he hl hw kk
theorem gF_X5_54 (E : Ev p s m args c cc nL RX5 D cA A) (Z : Wd D A s ws H locs) (hdg : decode cc pc = .ok (.getfield 54, 3)) (q0 : Nat) {fs : List Value} (he : ws[q0]? = some (a, .inr (5, fs))) {v : Value} (hv : fs[8]? = some v) (kk : W p l e R s m args below meth c H locs cells slots Q (F0 m (pc + 3) ls (v :: rest))) : W p l e R s m args below meth c H locs cells slots Q (F0 m pc ls (.ref a :: rest)) := r_get E Z inX5 rfl 8 (by decide) mF_X5_54 hdg q0 he hv kk
theorem pF_X5_54 (E : Ev p s m args c cc nL RX5 D cA A) (Z : Wd D A s ws H locs) (hinit : meth.name = "<init>") (hdg : decode cc pc = .ok (.putfield 54, 3)) (q0 : Nat) {fs : List Value} {v : Nat} (he : ws[q0]? = some (a, .inr (5, fs))) (hl : 8 < fs.length) (hw : ws.set q0 (a, .inr (5, fs.set 8 (.ref v))) = w1) (kk : ∀ (H : Heap) (locs : List Loc), Wd D A s w1 H locs → W p l e R s m args below meth c H locs cells slots Q (F0 m (pc + 3) ls rest)) : W p l e R s m args below meth c H locs cells slots Q (F0 m pc ls (.ref v :: .ref a :: rest)) := r_putF E Z hinit inX5 rfl tyX5 tyX5_ok nmX5 8 (by decide) rfl rfl mF_X5_54 rfl rfl hdg q0 he hl hw kk
theorem gF_X5_57 (E : Ev p s m args c cc nL RX5 D cA A) (Z : Wd D A s ws H locs) (hdg : decode cc pc = .ok (.getfield 57, 3)) (q0 : Nat) {fs : List Value} (he : ws[q0]? = some (a, .inr (5, fs))) {v : Value} (hv : fs[9]? = some v) (kk : W p l e R s m args below meth c H locs cells slots Q (F0 m (pc + 3) ls (v :: rest))) : W p l e R s m args below meth c H locs cells slots Q (F0 m pc ls (.ref a :: rest)) := r_get E Z inX5 rfl 9 (by decide) mF_X5_57 hdg q0 he hv kk
theorem pF_X5_57 (E : Ev p s m args c cc nL RX5 D cA A) (Z : Wd D A s ws H locs) (hinit : meth.name = "<init>") (hdg : decode cc pc = .ok (.putfield 57, 3)) (q0 : Nat) {fs : List Value} {v : Nat} (he : ws[q0]? = some (a, .inr (5, fs))) (hl : 9 < fs.length) (hw : ws.set q0 (a, .inr (5, fs.set 9 (.ref v))) = w1) (kk : ∀ (H : Heap) (locs : List Loc), Wd D A s w1 H locs → W p l e R s m args below meth c H locs cells slots Q (F0 m (pc + 3) ls rest)) : W p l e R s m args below meth c H locs cells slots Q (F0 m pc ls (.ref v :: .ref a :: rest)) := r_putF E Z hinit inX5 rfl tyX5 tyX5_ok nmX5 9 (by decide) rfl rfl mF_X5_57 rfl rfl hdg q0 he hl hw kk
theorem gF_X5_60 (E : Ev p s m args c cc nL RX5 D cA A) (Z : Wd D A s ws H locs) (hdg : decode cc pc = .ok (.getfield 60, 3)) (q0 : Nat) {fs : List Value} (he : ws[q0]? = some (a, .inr (5, fs))) {v : Value} (hv : fs[10]? = some v) (kk : W p l e R s m args below meth c H locs cells slots Q (F0 m (pc + 3) ls (v :: rest))) : W p l e R s m args below meth c H locs cells slots Q (F0 m pc ls (.ref a :: rest)) := r_get E Z inX5 rfl 10 (by decide) mF_X5_60 hdg q0 he hv kk
theorem pF_X5_60 (E : Ev p s m args c cc nL RX5 D cA A) (Z : Wd D A s ws H locs) (hinit : meth.name = "<init>") (hdg : decode cc pc = .ok (.putfield 60, 3)) (q0 : Nat) {fs : List Value} {v : Nat} (he : ws[q0]? = some (a, .inr (5, fs))) (hl : 10 < fs.length) (hw : ws.set q0 (a, .inr (5, fs.set 10 (.ref v))) = w1) (kk : ∀ (H : Heap) (locs : List Loc), Wd D A s w1 H locs → W p l e R s m args below meth c H locs cells slots Q (F0 m (pc + 3) ls rest)) : W p l e R s m args below meth c H locs cells slots Q (F0 m pc ls (.ref v :: .ref a :: rest)) := r_putF E Z hinit inX5 rfl tyX5 tyX5_ok nmX5 10 (by decide) rfl rfl mF_X5_60 rfl rfl hdg q0 he hl hw kk
theorem gF_X5_71 (E : Ev p s m args c cc nL RX5 D cA A) (Z : Wd D A s ws H locs) (hdg : decode cc pc = .ok (.getfield 71, 3)) (q0 : Nat) {fs : List Value} (he : ws[q0]? = some (a, .inr (5, fs))) {v : Value} (hv : fs[11]? = some v) (kk : W p l e R s m args below meth c H locs cells slots Q (F0 m (pc + 3) ls (v :: rest))) : W p l e R s m args below meth c H locs cells slots Q (F0 m pc ls (.ref a :: rest)) := r_get E Z inX5 rfl 11 (by decide) mF_X5_71 hdg q0 he hv kk
theorem pF_X5_71 (E : Ev p s m args c cc nL RX5 D cA A) (Z : Wd D A s ws H locs) (hdg : decode cc pc = .ok (.putfield 71, 3)) (q0 : Nat) {fs : List Value} {v : Int32} (he : ws[q0]? = some (a, .inr (5, fs))) (hl : 11 < fs.length) (hw : ws.set q0 (a, .inr (5, fs.set 11 (.int v))) = w1) (kk : ∀ (H : Heap) (locs : List Loc), Wd D A s w1 H locs → W p l e R s m args below meth c H locs cells slots Q (F0 m (pc + 3) ls rest)) : W p l e R s m args below meth c H locs cells slots Q (F0 m pc ls (.int v :: .ref a :: rest)) := r_put E Z inX5 rfl tyX5 tyX5_ok nmX5 11 (by decide) rfl mF_X5_71 rfl rfl hdg q0 he hl hw kk
theorem gF_X5_151 (E : Ev p s m args c cc nL RX5 D cA A) (Z : Wd D A s ws H locs) (hdg : decode cc pc = .ok (.getfield 151, 3)) (q0 : Nat) {fs : List Value} (he : ws[q0]? = some (a, .inr (5, fs))) {v : Value} (hv : fs[12]? = some v) (kk : W p l e R s m args below meth c H locs cells slots Q (F0 m (pc + 3) ls (v :: rest))) : W p l e R s m args below meth c H locs cells slots Q (F0 m pc ls (.ref a :: rest)) := r_get E Z inX5 rfl 12 (by decide) mF_X5_151 hdg q0 he hv kk
theorem pF_X5_151 (E : Ev p s m args c cc nL RX5 D cA A) (Z : Wd D A s ws H locs) (hdg : decode cc pc = .ok (.putfield 151, 3)) (q0 : Nat) {fs : List Value} {v : Int32} (he : ws[q0]? = some (a, .inr (5, fs))) (hl : 12 < fs.length) (hw : ws.set q0 (a, .inr (5, fs.set 12 (.int v))) = w1) (kk : ∀ (H : Heap) (locs : List Loc), Wd D A s w1 H locs → W p l e R s m args below meth c H locs cells slots Q (F0 m (pc + 3) ls rest)) : W p l e R s m args below meth c H locs cells slots Q (F0 m pc ls (.int v :: .ref a :: rest)) := r_put E Z inX5 rfl tyX5 tyX5_ok nmX5 12 (by decide) rfl mF_X5_151 rfl rfl hdg q0 he hl hw kk
theorem gF_X5_154 (E : Ev p s m args c cc nL RX5 D cA A) (Z : Wd D A s ws H locs) (hdg : decode cc pc = .ok (.getfield 154, 3)) (q0 : Nat) {fs : List Value} (he : ws[q0]? = some (a, .inr (5, fs))) {v : Value} (hv : fs[13]? = some v) (kk : W p l e R s m args below meth c H locs cells slots Q (F0 m (pc + 3) ls (v :: rest))) : W p l e R s m args below meth c H locs cells slots Q (F0 m pc ls (.ref a :: rest)) := r_get E Z inX5 rfl 13 (by decide) mF_X5_154 hdg q0 he hv kk
theorem pF_X5_154 (E : Ev p s m args c cc nL RX5 D cA A) (Z : Wd D A s ws H locs) (hdg : decode cc pc = .ok (.putfield 154, 3)) (q0 : Nat) {fs : List Value} {v : Int32} (he : ws[q0]? = some (a, .inr (5, fs))) (hl : 13 < fs.length) (hw : ws.set q0 (a, .inr (5, fs.set 13 (.int v))) = w1) (kk : ∀ (H : Heap) (locs : List Loc), Wd D A s w1 H locs → W p l e R s m args below meth c H locs cells slots Q (F0 m (pc + 3) ls rest)) : W p l e R s m args below meth c H locs cells slots Q (F0 m pc ls (.int v :: .ref a :: rest)) := r_put E Z inX5 rfl tyX5 tyX5_ok nmX5 13 (by decide) rfl mF_X5_154 rfl rfl hdg q0 he hl hw kk
theorem gF_X5_137 (E : Ev p s m args c cc nL RX5 D cA A) (Z : Wd D A s ws H locs) (hdg : decode cc pc = .ok (.getfield 137, 3)) (q0 : Nat) {fs : List Value} (he : ws[q0]? = some (a, .inr (5, fs))) {v : Value} (hv : fs[14]? = some v) (kk : W p l e R s m args below meth c H locs cells slots Q (F0 m (pc + 3) ls (v :: rest))) : W p l e R s m args below meth c H locs cells slots Q (F0 m pc ls (.ref a :: rest)) := r_get E Z inX5 rfl 14 (by decide) mF_X5_137 hdg q0 he hv kk
theorem pF_X5_137 (E : Ev p s m args c cc nL RX5 D cA A) (Z : Wd D A s ws H locs) (hdg : decode cc pc = .ok (.putfield 137, 3)) (q0 : Nat) {fs : List Value} {v : Int64} (he : ws[q0]? = some (a, .inr (5, fs))) (hl : 14 < fs.length) (hw : ws.set q0 (a, .inr (5, fs.set 14 (.long v))) = w1) (kk : ∀ (H : Heap) (locs : List Loc), Wd D A s w1 H locs → W p l e R s m args below meth c H locs cells slots Q (F0 m (pc + 3) ls rest)) : W p l e R s m args below meth c H locs cells slots Q (F0 m pc ls (.long v :: .ref a :: rest)) := r_put E Z inX5 rfl tyX5 tyX5_ok nmX5 14 (by decide) rfl mF_X5_137 rfl rfl hdg q0 he hl hw kk
theorem gF_X6_66 (E : Ev p s m args c cc nL RX6 D cA A) (Z : Wd D A s ws H locs) (hdg : decode cc pc = .ok (.getfield 66, 3)) (q0 : Nat) {fs : List Value} (he : ws[q0]? = some (a, .inr (6, fs))) {v : Value} (hv : fs[0]? = some v) (kk : W p l e R s m args below meth c H locs cells slots Q (F0 m (pc + 3) ls (v :: rest))) : W p l e R s m args below meth c H locs cells slots Q (F0 m pc ls (.ref a :: rest)) := r_get E Z inX6 rfl 0 (by decide) mF_X6_66 hdg q0 he hv kk
theorem pF_X6_66 (E : Ev p s m args c cc nL RX6 D cA A) (Z : Wd D A s ws H locs) (hdg : decode cc pc = .ok (.putfield 66, 3)) (q0 : Nat) {fs : List Value} {v : Int32} (he : ws[q0]? = some (a, .inr (6, fs))) (hl : 0 < fs.length) (hw : ws.set q0 (a, .inr (6, fs.set 0 (.int v))) = w1) (kk : ∀ (H : Heap) (locs : List Loc), Wd D A s w1 H locs → W p l e R s m args below meth c H locs cells slots Q (F0 m (pc + 3) ls rest)) : W p l e R s m args below meth c H locs cells slots Q (F0 m pc ls (.int v :: .ref a :: rest)) := r_put E Z inX6 rfl tyX6 tyX6_ok nmX6 0 (by decide) rfl mF_X6_66 rfl rfl hdg q0 he hl hw kk
theorem gF_X6_107 (E : Ev p s m args c cc nL RX6 D cA A) (Z : Wd D A s ws H locs) (hdg : decode cc pc = .ok (.getfield 107, 3)) (q0 : Nat) {fs : List Value} (he : ws[q0]? = some (a, .inr (6, fs))) {v : Value} (hv : fs[1]? = some v) (kk : W p l e R s m args below meth c H locs cells slots Q (F0 m (pc + 3) ls (v :: rest))) : W p l e R s m args below meth c H locs cells slots Q (F0 m pc ls (.ref a :: rest)) := r_get E Z inX6 rfl 1 (by decide) mF_X6_107 hdg q0 he hv kk
theorem pF_X6_107 (E : Ev p s m args c cc nL RX6 D cA A) (Z : Wd D A s ws H locs) (hdg : decode cc pc = .ok (.putfield 107, 3)) (q0 : Nat) {fs : List Value} {v : Int64} (he : ws[q0]? = some (a, .inr (6, fs))) (hl : 1 < fs.length) (hw : ws.set q0 (a, .inr (6, fs.set 1 (.long v))) = w1) (kk : ∀ (H : Heap) (locs : List Loc), Wd D A s w1 H locs → W p l e R s m args below meth c H locs cells slots Q (F0 m (pc + 3) ls rest)) : W p l e R s m args below meth c H locs cells slots Q (F0 m pc ls (.long v :: .ref a :: rest)) := r_put E Z inX6 rfl tyX6 tyX6_ok nmX6 1 (by decide) rfl mF_X6_107 rfl rfl hdg q0 he hl hw kk
theorem gF_X6_7 (E : Ev p s m args c cc nL RX6 D cA A) (Z : Wd D A s ws H locs) (hdg : decode cc pc = .ok (.getfield 7, 3)) (q0 : Nat) {fs : List Value} (he : ws[q0]? = some (a, .inr (6, fs))) {v : Value} (hv : fs[2]? = some v) (kk : W p l e R s m args below meth c H locs cells slots Q (F0 m (pc + 3) ls (v :: rest))) : W p l e R s m args below meth c H locs cells slots Q (F0 m pc ls (.ref a :: rest)) := r_get E Z inX6 rfl 2 (by decide) mF_X6_7 hdg q0 he hv kk
theorem pF_X6_7 (E : Ev p s m args c cc nL RX6 D cA A) (Z : Wd D A s ws H locs) (hdg : decode cc pc = .ok (.putfield 7, 3)) (q0 : Nat) {fs : List Value} {v : Int32} (he : ws[q0]? = some (a, .inr (6, fs))) (hl : 2 < fs.length) (hw : ws.set q0 (a, .inr (6, fs.set 2 (.int v))) = w1) (kk : ∀ (H : Heap) (locs : List Loc), Wd D A s w1 H locs → W p l e R s m args below meth c H locs cells slots Q (F0 m (pc + 3) ls rest)) : W p l e R s m args below meth c H locs cells slots Q (F0 m pc ls (.int v :: .ref a :: rest)) := r_put E Z inX6 rfl tyX6 tyX6_ok nmX6 2 (by decide) rfl mF_X6_7 rfl rfl hdg q0 he hl hw kk
theorem gF_X6_13 (E : Ev p s m args c cc nL RX6 D cA A) (Z : Wd D A s ws H locs) (hdg : decode cc pc = .ok (.getfield 13, 3)) (q0 : Nat) {fs : List Value} (he : ws[q0]? = some (a, .inr (6, fs))) {v : Value} (hv : fs[3]? = some v) (kk : W p l e R s m args below meth c H locs cells slots Q (F0 m (pc + 3) ls (v :: rest))) : W p l e R s m args below meth c H locs cells slots Q (F0 m pc ls (.ref a :: rest)) := r_get E Z inX6 rfl 3 (by decide) mF_X6_13 hdg q0 he hv kk
theorem pF_X6_13 (E : Ev p s m args c cc nL RX6 D cA A) (Z : Wd D A s ws H locs) (hdg : decode cc pc = .ok (.putfield 13, 3)) (q0 : Nat) {fs : List Value} {v : Int32} (he : ws[q0]? = some (a, .inr (6, fs))) (hl : 3 < fs.length) (hw : ws.set q0 (a, .inr (6, fs.set 3 (.int v))) = w1) (kk : ∀ (H : Heap) (locs : List Loc), Wd D A s w1 H locs → W p l e R s m args below meth c H locs cells slots Q (F0 m (pc + 3) ls rest)) : W p l e R s m args below meth c H locs cells slots Q (F0 m pc ls (.int v :: .ref a :: rest)) := r_put E Z inX6 rfl tyX6 tyX6_ok nmX6 3 (by decide) rfl mF_X6_13 rfl rfl hdg q0 he hl hw kk
theorem gF_X6_16 (E : Ev p s m args c cc nL RX6 D cA A) (Z : Wd D A s ws H locs) (hdg : decode cc pc = .ok (.getfield 16, 3)) (q0 : Nat) {fs : List Value} (he : ws[q0]? = some (a, .inr (6, fs))) {v : Value} (hv : fs[4]? = some v) (kk : W p l e R s m args below meth c H locs cells slots Q (F0 m (pc + 3) ls (v :: rest))) : W p l e R s m args below meth c H locs cells slots Q (F0 m pc ls (.ref a :: rest)) := r_get E Z inX6 rfl 4 (by decide) mF_X6_16 hdg q0 he hv kk
theorem pF_X6_16 (E : Ev p s m args c cc nL RX6 D cA A) (Z : Wd D A s ws H locs) (hinit : meth.name = "<init>") (hdg : decode cc pc = .ok (.putfield 16, 3)) (q0 : Nat) {fs : List Value} {v : Nat} (he : ws[q0]? = some (a, .inr (6, fs))) (hl : 4 < fs.length) (hw : ws.set q0 (a, .inr (6, fs.set 4 (.ref v))) = w1) (kk : ∀ (H : Heap) (locs : List Loc), Wd D A s w1 H locs → W p l e R s m args below meth c H locs cells slots Q (F0 m (pc + 3) ls rest)) : W p l e R s m args below meth c H locs cells slots Q (F0 m pc ls (.ref v :: .ref a :: rest)) := r_putF E Z hinit inX6 rfl tyX6 tyX6_ok nmX6 4 (by decide) rfl rfl mF_X6_16 rfl rfl hdg q0 he hl hw kk
theorem gF_X6_20 (E : Ev p s m args c cc nL RX6 D cA A) (Z : Wd D A s ws H locs) (hdg : decode cc pc = .ok (.getfield 20, 3)) (q0 : Nat) {fs : List Value} (he : ws[q0]? = some (a, .inr (6, fs))) {v : Value} (hv : fs[5]? = some v) (kk : W p l e R s m args below meth c H locs cells slots Q (F0 m (pc + 3) ls (v :: rest))) : W p l e R s m args below meth c H locs cells slots Q (F0 m pc ls (.ref a :: rest)) := r_get E Z inX6 rfl 5 (by decide) mF_X6_20 hdg q0 he hv kk
theorem pF_X6_20 (E : Ev p s m args c cc nL RX6 D cA A) (Z : Wd D A s ws H locs) (hinit : meth.name = "<init>") (hdg : decode cc pc = .ok (.putfield 20, 3)) (q0 : Nat) {fs : List Value} {v : Nat} (he : ws[q0]? = some (a, .inr (6, fs))) (hl : 5 < fs.length) (hw : ws.set q0 (a, .inr (6, fs.set 5 (.ref v))) = w1) (kk : ∀ (H : Heap) (locs : List Loc), Wd D A s w1 H locs → W p l e R s m args below meth c H locs cells slots Q (F0 m (pc + 3) ls rest)) : W p l e R s m args below meth c H locs cells slots Q (F0 m pc ls (.ref v :: .ref a :: rest)) := r_putF E Z hinit inX6 rfl tyX6 tyX6_ok nmX6 5 (by decide) rfl rfl mF_X6_20 rfl rfl hdg q0 he hl hw kk
theorem gF_X6_23 (E : Ev p s m args c cc nL RX6 D cA A) (Z : Wd D A s ws H locs) (hdg : decode cc pc = .ok (.getfield 23, 3)) (q0 : Nat) {fs : List Value} (he : ws[q0]? = some (a, .inr (6, fs))) {v : Value} (hv : fs[6]? = some v) (kk : W p l e R s m args below meth c H locs cells slots Q (F0 m (pc + 3) ls (v :: rest))) : W p l e R s m args below meth c H locs cells slots Q (F0 m pc ls (.ref a :: rest)) := r_get E Z inX6 rfl 6 (by decide) mF_X6_23 hdg q0 he hv kk
theorem pF_X6_23 (E : Ev p s m args c cc nL RX6 D cA A) (Z : Wd D A s ws H locs) (hinit : meth.name = "<init>") (hdg : decode cc pc = .ok (.putfield 23, 3)) (q0 : Nat) {fs : List Value} {v : Nat} (he : ws[q0]? = some (a, .inr (6, fs))) (hl : 6 < fs.length) (hw : ws.set q0 (a, .inr (6, fs.set 6 (.ref v))) = w1) (kk : ∀ (H : Heap) (locs : List Loc), Wd D A s w1 H locs → W p l e R s m args below meth c H locs cells slots Q (F0 m (pc + 3) ls rest)) : W p l e R s m args below meth c H locs cells slots Q (F0 m pc ls (.ref v :: .ref a :: rest)) := r_putF E Z hinit inX6 rfl tyX6 tyX6_ok nmX6 6 (by decide) rfl rfl mF_X6_23 rfl rfl hdg q0 he hl hw kk
theorem gF_X6_26 (E : Ev p s m args c cc nL RX6 D cA A) (Z : Wd D A s ws H locs) (hdg : decode cc pc = .ok (.getfield 26, 3)) (q0 : Nat) {fs : List Value} (he : ws[q0]? = some (a, .inr (6, fs))) {v : Value} (hv : fs[7]? = some v) (kk : W p l e R s m args below meth c H locs cells slots Q (F0 m (pc + 3) ls (v :: rest))) : W p l e R s m args below meth c H locs cells slots Q (F0 m pc ls (.ref a :: rest)) := r_get E Z inX6 rfl 7 (by decide) mF_X6_26 hdg q0 he hv kk
theorem pF_X6_26 (E : Ev p s m args c cc nL RX6 D cA A) (Z : Wd D A s ws H locs) (hinit : meth.name = "<init>") (hdg : decode cc pc = .ok (.putfield 26, 3)) (q0 : Nat) {fs : List Value} {v : Nat} (he : ws[q0]? = some (a, .inr (6, fs))) (hl : 7 < fs.length) (hw : ws.set q0 (a, .inr (6, fs.set 7 (.ref v))) = w1) (kk : ∀ (H : Heap) (locs : List Loc), Wd D A s w1 H locs → W p l e R s m args below meth c H locs cells slots Q (F0 m (pc + 3) ls rest)) : W p l e R s m args below meth c H locs cells slots Q (F0 m pc ls (.ref v :: .ref a :: rest)) := r_putF E Z hinit inX6 rfl tyX6 tyX6_ok nmX6 7 (by decide) rfl rfl mF_X6_26 rfl rfl hdg q0 he hl hw kk
theorem gF_X6_29 (E : Ev p s m args c cc nL RX6 D cA A) (Z : Wd D A s ws H locs) (hdg : decode cc pc = .ok (.getfield 29, 3)) (q0 : Nat) {fs : List Value} (he : ws[q0]? = some (a, .inr (6, fs))) {v : Value} (hv : fs[8]? = some v) (kk : W p l e R s m args below meth c H locs cells slots Q (F0 m (pc + 3) ls (v :: rest))) : W p l e R s m args below meth c H locs cells slots Q (F0 m pc ls (.ref a :: rest)) := r_get E Z inX6 rfl 8 (by decide) mF_X6_29 hdg q0 he hv kk
theorem pF_X6_29 (E : Ev p s m args c cc nL RX6 D cA A) (Z : Wd D A s ws H locs) (hinit : meth.name = "<init>") (hdg : decode cc pc = .ok (.putfield 29, 3)) (q0 : Nat) {fs : List Value} {v : Nat} (he : ws[q0]? = some (a, .inr (6, fs))) (hl : 8 < fs.length) (hw : ws.set q0 (a, .inr (6, fs.set 8 (.ref v))) = w1) (kk : ∀ (H : Heap) (locs : List Loc), Wd D A s w1 H locs → W p l e R s m args below meth c H locs cells slots Q (F0 m (pc + 3) ls rest)) : W p l e R s m args below meth c H locs cells slots Q (F0 m pc ls (.ref v :: .ref a :: rest)) := r_putF E Z hinit inX6 rfl tyX6 tyX6_ok nmX6 8 (by decide) rfl rfl mF_X6_29 rfl rfl hdg q0 he hl hw kk
theorem gF_X6_69 (E : Ev p s m args c cc nL RX6 D cA A) (Z : Wd D A s ws H locs) (hdg : decode cc pc = .ok (.getfield 69, 3)) (q0 : Nat) {fs : List Value} (he : ws[q0]? = some (a, .inr (6, fs))) {v : Value} (hv : fs[9]? = some v) (kk : W p l e R s m args below meth c H locs cells slots Q (F0 m (pc + 3) ls (v :: rest))) : W p l e R s m args below meth c H locs cells slots Q (F0 m pc ls (.ref a :: rest)) := r_get E Z inX6 rfl 9 (by decide) mF_X6_69 hdg q0 he hv kk
theorem pF_X6_69 (E : Ev p s m args c cc nL RX6 D cA A) (Z : Wd D A s ws H locs) (hdg : decode cc pc = .ok (.putfield 69, 3)) (q0 : Nat) {fs : List Value} {v : Int32} (he : ws[q0]? = some (a, .inr (6, fs))) (hl : 9 < fs.length) (hw : ws.set q0 (a, .inr (6, fs.set 9 (.int v))) = w1) (kk : ∀ (H : Heap) (locs : List Loc), Wd D A s w1 H locs → W p l e R s m args below meth c H locs cells slots Q (F0 m (pc + 3) ls rest)) : W p l e R s m args below meth c H locs cells slots Q (F0 m pc ls (.int v :: .ref a :: rest)) := r_put E Z inX6 rfl tyX6 tyX6_ok nmX6 9 (by decide) rfl mF_X6_69 rfl rfl hdg q0 he hl hw kk
theorem gF_X6_32 (E : Ev p s m args c cc nL RX6 D cA A) (Z : Wd D A s ws H locs) (hdg : decode cc pc = .ok (.getfield 32, 3)) (q0 : Nat) {fs : List Value} (he : ws[q0]? = some (a, .inr (6, fs))) {v : Value} (hv : fs[10]? = some v) (kk : W p l e R s m args below meth c H locs cells slots Q (F0 m (pc + 3) ls (v :: rest))) : W p l e R s m args below meth c H locs cells slots Q (F0 m pc ls (.ref a :: rest)) := r_get E Z inX6 rfl 10 (by decide) mF_X6_32 hdg q0 he hv kk
theorem pF_X6_32 (E : Ev p s m args c cc nL RX6 D cA A) (Z : Wd D A s ws H locs) (hinit : meth.name = "<init>") (hdg : decode cc pc = .ok (.putfield 32, 3)) (q0 : Nat) {fs : List Value} {v : Nat} (he : ws[q0]? = some (a, .inr (6, fs))) (hl : 10 < fs.length) (hw : ws.set q0 (a, .inr (6, fs.set 10 (.ref v))) = w1) (kk : ∀ (H : Heap) (locs : List Loc), Wd D A s w1 H locs → W p l e R s m args below meth c H locs cells slots Q (F0 m (pc + 3) ls rest)) : W p l e R s m args below meth c H locs cells slots Q (F0 m pc ls (.ref v :: .ref a :: rest)) := r_putF E Z hinit inX6 rfl tyX6 tyX6_ok nmX6 10 (by decide) rfl rfl mF_X6_32 rfl rfl hdg q0 he hl hw kk
theorem gF_X6_151 (E : Ev p s m args c cc nL RX6 D cA A) (Z : Wd D A s ws H locs) (hdg : decode cc pc = .ok (.getfield 151, 3)) (q0 : Nat) {fs : List Value} (he : ws[q0]? = some (a, .inr (6, fs))) {v : Value} (hv : fs[11]? = some v) (kk : W p l e R s m args below meth c H locs cells slots Q (F0 m (pc + 3) ls (v :: rest))) : W p l e R s m args below meth c H locs cells slots Q (F0 m pc ls (.ref a :: rest)) := r_get E Z inX6 rfl 11 (by decide) mF_X6_151 hdg q0 he hv kk
theorem pF_X6_151 (E : Ev p s m args c cc nL RX6 D cA A) (Z : Wd D A s ws H locs) (hdg : decode cc pc = .ok (.putfield 151, 3)) (q0 : Nat) {fs : List Value} {v : Int32} (he : ws[q0]? = some (a, .inr (6, fs))) (hl : 11 < fs.length) (hw : ws.set q0 (a, .inr (6, fs.set 11 (.int v))) = w1) (kk : ∀ (H : Heap) (locs : List Loc), Wd D A s w1 H locs → W p l e R s m args below meth c H locs cells slots Q (F0 m (pc + 3) ls rest)) : W p l e R s m args below meth c H locs cells slots Q (F0 m pc ls (.int v :: .ref a :: rest)) := r_put E Z inX6 rfl tyX6 tyX6_ok nmX6 11 (by decide) rfl mF_X6_151 rfl rfl hdg q0 he hl hw kk
theorem gF_X6_35 (E : Ev p s m args c cc nL RX6 D cA A) (Z : Wd D A s ws H locs) (hdg : decode cc pc = .ok (.getfield 35, 3)) (q0 : Nat) {fs : List Value} (he : ws[q0]? = some (a, .inr (6, fs))) {v : Value} (hv : fs[12]? = some v) (kk : W p l e R s m args below meth c H locs cells slots Q (F0 m (pc + 3) ls (v :: rest))) : W p l e R s m args below meth c H locs cells slots Q (F0 m pc ls (.ref a :: rest)) := r_get E Z inX6 rfl 12 (by decide) mF_X6_35 hdg q0 he hv kk
theorem pF_X6_35 (E : Ev p s m args c cc nL RX6 D cA A) (Z : Wd D A s ws H locs) (hinit : meth.name = "<init>") (hdg : decode cc pc = .ok (.putfield 35, 3)) (q0 : Nat) {fs : List Value} {v : Nat} (he : ws[q0]? = some (a, .inr (6, fs))) (hl : 12 < fs.length) (hw : ws.set q0 (a, .inr (6, fs.set 12 (.ref v))) = w1) (kk : ∀ (H : Heap) (locs : List Loc), Wd D A s w1 H locs → W p l e R s m args below meth c H locs cells slots Q (F0 m (pc + 3) ls rest)) : W p l e R s m args below meth c H locs cells slots Q (F0 m pc ls (.ref v :: .ref a :: rest)) := r_putF E Z hinit inX6 rfl tyX6 tyX6_ok nmX6 12 (by decide) rfl rfl mF_X6_35 rfl rfl hdg q0 he hl hw kk
theorem gF_X6_38 (E : Ev p s m args c cc nL RX6 D cA A) (Z : Wd D A s ws H locs) (hdg : decode cc pc = .ok (.getfield 38, 3)) (q0 : Nat) {fs : List Value} (he : ws[q0]? = some (a, .inr (6, fs))) {v : Value} (hv : fs[13]? = some v) (kk : W p l e R s m args below meth c H locs cells slots Q (F0 m (pc + 3) ls (v :: rest))) : W p l e R s m args below meth c H locs cells slots Q (F0 m pc ls (.ref a :: rest)) := r_get E Z inX6 rfl 13 (by decide) mF_X6_38 hdg q0 he hv kk
theorem pF_X6_38 (E : Ev p s m args c cc nL RX6 D cA A) (Z : Wd D A s ws H locs) (hdg : decode cc pc = .ok (.putfield 38, 3)) (q0 : Nat) {fs : List Value} {v : Int32} (he : ws[q0]? = some (a, .inr (6, fs))) (hl : 13 < fs.length) (hw : ws.set q0 (a, .inr (6, fs.set 13 (.int v))) = w1) (kk : ∀ (H : Heap) (locs : List Loc), Wd D A s w1 H locs → W p l e R s m args below meth c H locs cells slots Q (F0 m (pc + 3) ls rest)) : W p l e R s m args below meth c H locs cells slots Q (F0 m pc ls (.int v :: .ref a :: rest)) := r_put E Z inX6 rfl tyX6 tyX6_ok nmX6 13 (by decide) rfl mF_X6_38 rfl rfl hdg q0 he hl hw kk
theorem gF_X6_41 (E : Ev p s m args c cc nL RX6 D cA A) (Z : Wd D A s ws H locs) (hdg : decode cc pc = .ok (.getfield 41, 3)) (q0 : Nat) {fs : List Value} (he : ws[q0]? = some (a, .inr (6, fs))) {v : Value} (hv : fs[14]? = some v) (kk : W p l e R s m args below meth c H locs cells slots Q (F0 m (pc + 3) ls (v :: rest))) : W p l e R s m args below meth c H locs cells slots Q (F0 m pc ls (.ref a :: rest)) := r_get E Z inX6 rfl 14 (by decide) mF_X6_41 hdg q0 he hv kk
theorem pF_X6_41 (E : Ev p s m args c cc nL RX6 D cA A) (Z : Wd D A s ws H locs) (hinit : meth.name = "<init>") (hdg : decode cc pc = .ok (.putfield 41, 3)) (q0 : Nat) {fs : List Value} {v : Nat} (he : ws[q0]? = some (a, .inr (6, fs))) (hl : 14 < fs.length) (hw : ws.set q0 (a, .inr (6, fs.set 14 (.ref v))) = w1) (kk : ∀ (H : Heap) (locs : List Loc), Wd D A s w1 H locs → W p l e R s m args below meth c H locs cells slots Q (F0 m (pc + 3) ls rest)) : W p l e R s m args below meth c H locs cells slots Q (F0 m pc ls (.ref v :: .ref a :: rest)) := r_putF E Z hinit inX6 rfl tyX6 tyX6_ok nmX6 14 (by decide) rfl rfl mF_X6_41 rfl rfl hdg q0 he hl hw kk
theorem gF_X6_44 (E : Ev p s m args c cc nL RX6 D cA A) (Z : Wd D A s ws H locs) (hdg : decode cc pc = .ok (.getfield 44, 3)) (q0 : Nat) {fs : List Value} (he : ws[q0]? = some (a, .inr (6, fs))) {v : Value} (hv : fs[15]? = some v) (kk : W p l e R s m args below meth c H locs cells slots Q (F0 m (pc + 3) ls (v :: rest))) : W p l e R s m args below meth c H locs cells slots Q (F0 m pc ls (.ref a :: rest)) := r_get E Z inX6 rfl 15 (by decide) mF_X6_44 hdg q0 he hv kk
theorem pF_X6_44 (E : Ev p s m args c cc nL RX6 D cA A) (Z : Wd D A s ws H locs) (hinit : meth.name = "<init>") (hdg : decode cc pc = .ok (.putfield 44, 3)) (q0 : Nat) {fs : List Value} {v : Nat} (he : ws[q0]? = some (a, .inr (6, fs))) (hl : 15 < fs.length) (hw : ws.set q0 (a, .inr (6, fs.set 15 (.ref v))) = w1) (kk : ∀ (H : Heap) (locs : List Loc), Wd D A s w1 H locs → W p l e R s m args below meth c H locs cells slots Q (F0 m (pc + 3) ls rest)) : W p l e R s m args below meth c H locs cells slots Q (F0 m pc ls (.ref v :: .ref a :: rest)) := r_putF E Z hinit inX6 rfl tyX6 tyX6_ok nmX6 15 (by decide) rfl rfl mF_X6_44 rfl rfl hdg q0 he hl hw kk
theorem gF_X6_47 (E : Ev p s m args c cc nL RX6 D cA A) (Z : Wd D A s ws H locs) (hdg : decode cc pc = .ok (.getfield 47, 3)) (q0 : Nat) {fs : List Value} (he : ws[q0]? = some (a, .inr (6, fs))) {v : Value} (hv : fs[16]? = some v) (kk : W p l e R s m args below meth c H locs cells slots Q (F0 m (pc + 3) ls (v :: rest))) : W p l e R s m args below meth c H locs cells slots Q (F0 m pc ls (.ref a :: rest)) := r_get E Z inX6 rfl 16 (by decide) mF_X6_47 hdg q0 he hv kk
theorem pF_X6_47 (E : Ev p s m args c cc nL RX6 D cA A) (Z : Wd D A s ws H locs) (hinit : meth.name = "<init>") (hdg : decode cc pc = .ok (.putfield 47, 3)) (q0 : Nat) {fs : List Value} {v : Nat} (he : ws[q0]? = some (a, .inr (6, fs))) (hl : 16 < fs.length) (hw : ws.set q0 (a, .inr (6, fs.set 16 (.ref v))) = w1) (kk : ∀ (H : Heap) (locs : List Loc), Wd D A s w1 H locs → W p l e R s m args below meth c H locs cells slots Q (F0 m (pc + 3) ls rest)) : W p l e R s m args below meth c H locs cells slots Q (F0 m pc ls (.ref v :: .ref a :: rest)) := r_putF E Z hinit inX6 rfl tyX6 tyX6_ok nmX6 16 (by decide) rfl rfl mF_X6_47 rfl rfl hdg q0 he hl hw kk
theorem gF_X6_50 (E : Ev p s m args c cc nL RX6 D cA A) (Z : Wd D A s ws H locs) (hdg : decode cc pc = .ok (.getfield 50, 3)) (q0 : Nat) {fs : List Value} (he : ws[q0]? = some (a, .inr (6, fs))) {v : Value} (hv : fs[17]? = some v) (kk : W p l e R s m args below meth c H locs cells slots Q (F0 m (pc + 3) ls (v :: rest))) : W p l e R s m args below meth c H locs cells slots Q (F0 m pc ls (.ref a :: rest)) := r_get E Z inX6 rfl 17 (by decide) mF_X6_50 hdg q0 he hv kk
theorem pF_X6_50 (E : Ev p s m args c cc nL RX6 D cA A) (Z : Wd D A s ws H locs) (hinit : meth.name = "<init>") (hdg : decode cc pc = .ok (.putfield 50, 3)) (q0 : Nat) {fs : List Value} {v : Nat} (he : ws[q0]? = some (a, .inr (6, fs))) (hl : 17 < fs.length) (hw : ws.set q0 (a, .inr (6, fs.set 17 (.ref v))) = w1) (kk : ∀ (H : Heap) (locs : List Loc), Wd D A s w1 H locs → W p l e R s m args below meth c H locs cells slots Q (F0 m (pc + 3) ls rest)) : W p l e R s m args below meth c H locs cells slots Q (F0 m pc ls (.ref v :: .ref a :: rest)) := r_putF E Z hinit inX6 rfl tyX6 tyX6_ok nmX6 17 (by decide) rfl rfl mF_X6_50 rfl rfl hdg q0 he hl hw kk
theorem gF_X6_53 (E : Ev p s m args c cc nL RX6 D cA A) (Z : Wd D A s ws H locs) (hdg : decode cc pc = .ok (.getfield 53, 3)) (q0 : Nat) {fs : List Value} (he : ws[q0]? = some (a, .inr (6, fs))) {v : Value} (hv : fs[18]? = some v) (kk : W p l e R s m args below meth c H locs cells slots Q (F0 m (pc + 3) ls (v :: rest))) : W p l e R s m args below meth c H locs cells slots Q (F0 m pc ls (.ref a :: rest)) := r_get E Z inX6 rfl 18 (by decide) mF_X6_53 hdg q0 he hv kk
theorem pF_X6_53 (E : Ev p s m args c cc nL RX6 D cA A) (Z : Wd D A s ws H locs) (hinit : meth.name = "<init>") (hdg : decode cc pc = .ok (.putfield 53, 3)) (q0 : Nat) {fs : List Value} {v : Nat} (he : ws[q0]? = some (a, .inr (6, fs))) (hl : 18 < fs.length) (hw : ws.set q0 (a, .inr (6, fs.set 18 (.ref v))) = w1) (kk : ∀ (H : Heap) (locs : List Loc), Wd D A s w1 H locs → W p l e R s m args below meth c H locs cells slots Q (F0 m (pc + 3) ls rest)) : W p l e R s m args below meth c H locs cells slots Q (F0 m pc ls (.ref v :: .ref a :: rest)) := r_putF E Z hinit inX6 rfl tyX6 tyX6_ok nmX6 18 (by decide) rfl rfl mF_X6_53 rfl rfl hdg q0 he hl hw kk
theorem gF_X6_56 (E : Ev p s m args c cc nL RX6 D cA A) (Z : Wd D A s ws H locs) (hdg : decode cc pc = .ok (.getfield 56, 3)) (q0 : Nat) {fs : List Value} (he : ws[q0]? = some (a, .inr (6, fs))) {v : Value} (hv : fs[19]? = some v) (kk : W p l e R s m args below meth c H locs cells slots Q (F0 m (pc + 3) ls (v :: rest))) : W p l e R s m args below meth c H locs cells slots Q (F0 m pc ls (.ref a :: rest)) := r_get E Z inX6 rfl 19 (by decide) mF_X6_56 hdg q0 he hv kk
theorem pF_X6_56 (E : Ev p s m args c cc nL RX6 D cA A) (Z : Wd D A s ws H locs) (hinit : meth.name = "<init>") (hdg : decode cc pc = .ok (.putfield 56, 3)) (q0 : Nat) {fs : List Value} {v : Nat} (he : ws[q0]? = some (a, .inr (6, fs))) (hl : 19 < fs.length) (hw : ws.set q0 (a, .inr (6, fs.set 19 (.ref v))) = w1) (kk : ∀ (H : Heap) (locs : List Loc), Wd D A s w1 H locs → W p l e R s m args below meth c H locs cells slots Q (F0 m (pc + 3) ls rest)) : W p l e R s m args below meth c H locs cells slots Q (F0 m pc ls (.ref v :: .ref a :: rest)) := r_putF E Z hinit inX6 rfl tyX6 tyX6_ok nmX6 19 (by decide) rfl rfl mF_X6_56 rfl rfl hdg q0 he hl hw kk
theorem gF_X6_59 (E : Ev p s m args c cc nL RX6 D cA A) (Z : Wd D A s ws H locs) (hdg : decode cc pc = .ok (.getfield 59, 3)) (q0 : Nat) {fs : List Value} (he : ws[q0]? = some (a, .inr (6, fs))) {v : Value} (hv : fs[20]? = some v) (kk : W p l e R s m args below meth c H locs cells slots Q (F0 m (pc + 3) ls (v :: rest))) : W p l e R s m args below meth c H locs cells slots Q (F0 m pc ls (.ref a :: rest)) := r_get E Z inX6 rfl 20 (by decide) mF_X6_59 hdg q0 he hv kk
theorem pF_X6_59 (E : Ev p s m args c cc nL RX6 D cA A) (Z : Wd D A s ws H locs) (hinit : meth.name = "<init>") (hdg : decode cc pc = .ok (.putfield 59, 3)) (q0 : Nat) {fs : List Value} {v : Nat} (he : ws[q0]? = some (a, .inr (6, fs))) (hl : 20 < fs.length) (hw : ws.set q0 (a, .inr (6, fs.set 20 (.ref v))) = w1) (kk : ∀ (H : Heap) (locs : List Loc), Wd D A s w1 H locs → W p l e R s m args below meth c H locs cells slots Q (F0 m (pc + 3) ls rest)) : W p l e R s m args below meth c H locs cells slots Q (F0 m pc ls (.ref v :: .ref a :: rest)) := r_putF E Z hinit inX6 rfl tyX6 tyX6_ok nmX6 20 (by decide) rfl rfl mF_X6_59 rfl rfl hdg q0 he hl hw kk
end Fields
theorem nm_X5_begin : Nm yX5_begin 2 := by decide +kernel
theorem wv_X5_63 : WV RX5 63 yX5_begin cX5_begin 3 none 2 := ⟨mM_X5_63, mI_X5_begin, mS_X5_begin, mN_X5, mC_X5_begin, nm_X5_begin⟩
theorem nm_X1_begin : Nm yX1_begin 1 := by decide +kernel
theorem wv_X5_238 : WV RX5 238 yX1_begin cX1_begin 2 none 1 := ⟨mM_X5_238, mI_X1_begin, mS_X1_begin, mN_X1, mC_X1_begin, nm_X1_begin⟩
theorem nm_J7_fill_53178 : Nm yJ7_fill_53178 2 := by decide +kernel
theorem ws_X1_25 : WS RX1 25 yJ7_fill_53178 cJ7_fill_53178 4 none 2 := ⟨mM_X1_25, mT_J7_fill_53178, mN_J7, mC_J7_fill_53178, nm_J7_fill_53178⟩
theorem nm_X0_become : Nm yX0_become 2 := by decide +kernel
theorem wv_X5_119 : WV RX5 119 yX0_become cX0_become 4 none 2 := ⟨mM_X5_119, mI_X0_become, mS_X0_become, mN_X0, mC_X0_become, nm_X0_become⟩
theorem ws_X0_22 : WS RX0 22 yJ7_fill_53178 cJ7_fill_53178 4 none 2 := ⟨mM_X0_22, mT_J7_fill_53178, mN_J7, mC_J7_fill_53178, nm_J7_fill_53178⟩
theorem nm_X0_cellOf : Nm yX0_cellOf 1 := by decide +kernel
theorem wv_X0_28 : WV RX0 28 yX0_cellOf cX0_cellOf 2 (some .int) 1 := ⟨mM_X0_28, mI_X0_cellOf, mS_X0_cellOf, mN_X0, mC_X0_cellOf, nm_X0_cellOf⟩
theorem ws_X5_191 : WS RX5 191 yJ7_fill_53178 cJ7_fill_53178 4 none 2 := ⟨mM_X5_191, mT_J7_fill_53178, mN_J7, mC_J7_fill_53178, nm_J7_fill_53178⟩
theorem nm_X5_works : Nm yX5_works 2 := by decide +kernel
theorem wv_L_13 : WV RL 13 yX5_works cX5_works 4 (some .int) 2 := ⟨mM_L_13, mI_X5_works, mS_X5_works, mN_X5, mC_X5_works, nm_X5_works⟩
theorem nm_X5_isWithin : Nm yX5_isWithin 3 := by decide +kernel
theorem ws_X5_67 : WS RX5 67 yX5_isWithin cX5_isWithin 3 (some .boolean) 3 := ⟨mM_X5_67, mT_X5_isWithin, mN_X5, mC_X5_isWithin, nm_X5_isWithin⟩
theorem nm_X5_route : Nm yX5_route 3 := by decide +kernel
theorem wv_L_18 : WV RL 18 yX5_route cX5_route 5 (some .int) 3 := ⟨mM_L_18, mI_X5_route, mS_X5_route, mN_X5, mC_X5_route, nm_X5_route⟩
theorem nm_X5_isPart : Nm yX5_isPart 1 := by decide +kernel
theorem wv_X5_75 : WV RX5 75 yX5_isPart cX5_isPart 2 (some .boolean) 1 := ⟨mM_X5_75, mI_X5_isPart, mS_X5_isPart, mN_X5, mC_X5_isPart, nm_X5_isPart⟩
theorem nm_X1_howMany : Nm yX1_howMany 0 := by decide +kernel
theorem wv_X5_237 : WV RX5 237 yX1_howMany cX1_howMany 1 (some .int) 0 := ⟨mM_X5_237, mI_X1_howMany, mS_X1_howMany, mN_X1, mC_X1_howMany, nm_X1_howMany⟩
theorem nm_X1_routeSet : Nm yX1_routeSet 2 := by decide +kernel
theorem wv_X5_79 : WV RX5 79 yX1_routeSet cX1_routeSet 3 (some .int) 2 := ⟨mM_X5_79, mI_X1_routeSet, mS_X1_routeSet, mN_X1, mC_X1_routeSet, nm_X1_routeSet⟩
theorem nm_X1_putRouteSet : Nm yX1_putRouteSet 3 := by decide +kernel
theorem wv_X5_83 : WV RX5 83 yX1_putRouteSet cX1_putRouteSet 4 none 3 := ⟨mM_X5_83, mI_X1_putRouteSet, mS_X1_putRouteSet, mN_X1, mC_X1_putRouteSet, nm_X1_putRouteSet⟩
theorem nm_X5_goes : Nm yX5_goes 2 := by decide +kernel
theorem wv_L_23 : WV RL 23 yX5_goes cX5_goes 4 (some .int) 2 := ⟨mM_L_23, mI_X5_goes, mS_X5_goes, mN_X5, mC_X5_goes, nm_X5_goes⟩
theorem nm_X1_chosenBy : Nm yX1_chosenBy 1 := by decide +kernel
theorem wv_X5_87 : WV RX5 87 yX1_chosenBy cX1_chosenBy 2 (some .int) 1 := ⟨mM_X5_87, mI_X1_chosenBy, mS_X1_chosenBy, mN_X1, mC_X1_chosenBy, nm_X1_chosenBy⟩
theorem nm_X1_choose : Nm yX1_choose 2 := by decide +kernel
theorem wv_X5_91 : WV RX5 91 yX1_choose cX1_choose 3 none 2 := ⟨mM_X5_91, mI_X1_choose, mS_X1_choose, mN_X1, mC_X1_choose, nm_X1_choose⟩
theorem nm_X5_pieces : Nm yX5_pieces 2 := by decide +kernel
theorem wv_L_27 : WV RL 27 yX5_pieces cX5_pieces 4 (some .int) 2 := ⟨mM_L_27, mI_X5_pieces, mS_X5_pieces, mN_X5, mC_X5_pieces, nm_X5_pieces⟩
theorem nm_X1_piecesOf : Nm yX1_piecesOf 1 := by decide +kernel
theorem wv_X5_94 : WV RX5 94 yX1_piecesOf cX1_piecesOf 2 (some .int) 1 := ⟨mM_X5_94, mI_X1_piecesOf, mS_X1_piecesOf, mN_X1, mC_X1_piecesOf, nm_X1_piecesOf⟩
theorem nm_X1_putPieces : Nm yX1_putPieces 2 := by decide +kernel
theorem wv_X5_97 : WV RX5 97 yX1_putPieces cX1_putPieces 3 none 2 := ⟨mM_X5_97, mI_X1_putPieces, mS_X1_putPieces, mN_X1, mC_X1_putPieces, nm_X1_putPieces⟩
theorem nm_X5_cell : Nm yX5_cell 2 := by decide +kernel
theorem wv_L_31 : WV RL 31 yX5_cell cX5_cell 4 (some .int) 2 := ⟨mM_L_31, mI_X5_cell, mS_X5_cell, mN_X5, mC_X5_cell, nm_X5_cell⟩
theorem nm_X5_isMachine : Nm yX5_isMachine 1 := by decide +kernel
theorem wv_X5_100 : WV RX5 100 yX5_isMachine cX5_isMachine 2 (some .boolean) 1 := ⟨mM_X5_100, mI_X5_isMachine, mS_X5_isMachine, mN_X5, mC_X5_isMachine, nm_X5_isMachine⟩
theorem nm_X5_isCell : Nm yX5_isCell 1 := by decide +kernel
theorem ws_X5_103 : WS RX5 103 yX5_isCell cX5_isCell 1 (some .boolean) 1 := ⟨mM_X5_103, mT_X5_isCell, mN_X5, mC_X5_isCell, nm_X5_isCell⟩
theorem wv_X5_106 : WV RX5 106 yX0_cellOf cX0_cellOf 2 (some .int) 1 := ⟨mM_X5_106, mI_X0_cellOf, mS_X0_cellOf, mN_X0, mC_X0_cellOf, nm_X0_cellOf⟩
theorem nm_X0_put : Nm yX0_put 2 := by decide +kernel
theorem wv_X5_109 : WV RX5 109 yX0_put cX0_put 4 none 2 := ⟨mM_X5_109, mI_X0_put, mS_X0_put, mN_X0, mC_X0_put, nm_X0_put⟩
theorem wv_X0_32 : WV RX0 32 yX0_become cX0_become 4 none 2 := ⟨mM_X0_32, mI_X0_become, mS_X0_become, mN_X0, mC_X0_become, nm_X0_become⟩
theorem nm_X5_group : Nm yX5_group 1 := by decide +kernel
theorem wv_L_35 : WV RL 35 yX5_group cX5_group 3 (some .int) 1 := ⟨mM_L_35, mI_X5_group, mS_X5_group, mN_X5, mC_X5_group, nm_X5_group⟩
theorem nm_X5_groupings : Nm yX5_groupings 0 := by decide +kernel
theorem wv_X5_112 : WV RX5 112 yX5_groupings cX5_groupings 1 (some .int) 0 := ⟨mM_X5_112, mI_X5_groupings, mS_X5_groupings, mN_X5, mC_X5_groupings, nm_X5_groupings⟩
theorem nm_X0_numbered : Nm yX0_numbered 0 := by decide +kernel
theorem wv_X5_116 : WV RX5 116 yX0_numbered cX0_numbered 1 (some .int) 0 := ⟨mM_X5_116, mI_X0_numbered, mS_X0_numbered, mN_X0, mC_X0_numbered, nm_X0_numbered⟩
theorem nm_X5_about : Nm yX5_about 2 := by decide +kernel
theorem wv_L_40 : WV RL 40 yX5_about cX5_about 4 (some .int) 2 := ⟨mM_L_40, mI_X5_about, mS_X5_about, mN_X5, mC_X5_about, nm_X5_about⟩
theorem nm_X1_setOf : Nm yX1_setOf 1 := by decide +kernel
theorem wv_X5_122 : WV RX5 122 yX1_setOf cX1_setOf 2 (some .int) 1 := ⟨mM_X5_122, mI_X1_setOf, mS_X1_setOf, mN_X1, mC_X1_setOf, nm_X1_setOf⟩
theorem nm_X1_setBy : Nm yX1_setBy 2 := by decide +kernel
theorem wv_X1_31 : WV RX1 31 yX1_setBy cX1_setBy 3 (some .int) 2 := ⟨mM_X1_31, mI_X1_setBy, mS_X1_setBy, mN_X1, mC_X1_setBy, nm_X1_setBy⟩
theorem nm_X0_homeOf : Nm yX0_homeOf 1 := by decide +kernel
theorem wv_X5_125 : WV RX5 125 yX0_homeOf cX0_homeOf 6 (some .int) 1 := ⟨mM_X5_125, mI_X0_homeOf, mS_X0_homeOf, mN_X0, mC_X0_homeOf, nm_X0_homeOf⟩
theorem nm_J6_bitCount_0f7a4 : Nm yJ6_bitCount_0f7a4 1 := by decide +kernel
theorem ws_X0_36 : WS RX0 36 yJ6_bitCount_0f7a4 cJ6_bitCount_0f7a4 1 (some .int) 1 := ⟨mM_X0_36, mT_J6_bitCount_0f7a4, mN_J6, mC_J6_bitCount_0f7a4, nm_J6_bitCount_0f7a4⟩
theorem nm_X0_wandersOf : Nm yX0_wandersOf 1 := by decide +kernel
theorem wv_X5_128 : WV RX5 128 yX0_wandersOf cX0_wandersOf 2 (some .int) 1 := ⟨mM_X5_128, mI_X0_wandersOf, mS_X0_wandersOf, mN_X0, mC_X0_wandersOf, nm_X0_wandersOf⟩
theorem wv_X0_41 : WV RX0 41 yX0_homeOf cX0_homeOf 6 (some .int) 1 := ⟨mM_X0_41, mI_X0_homeOf, mS_X0_homeOf, mN_X0, mC_X0_homeOf, nm_X0_homeOf⟩
theorem nm_X0_idleOf : Nm yX0_idleOf 1 := by decide +kernel
theorem wv_X5_131 : WV RX5 131 yX0_idleOf cX0_idleOf 2 (some .int) 1 := ⟨mM_X5_131, mI_X0_idleOf, mS_X0_idleOf, mN_X0, mC_X0_idleOf, nm_X0_idleOf⟩
theorem nm_X5_loss : Nm yX5_loss 1 := by decide +kernel
theorem wv_L_44 : WV RL 44 yX5_loss cX5_loss 2 (some .int) 1 := ⟨mM_L_44, mI_X5_loss, mS_X5_loss, mN_X5, mC_X5_loss, nm_X5_loss⟩
theorem nm_X5_isKind : Nm yX5_isKind 1 := by decide +kernel
theorem ws_X5_134 : WS RX5 134 yX5_isKind cX5_isKind 1 (some .boolean) 1 := ⟨mM_X5_134, mT_X5_isKind, mN_X5, mC_X5_isKind, nm_X5_isKind⟩
theorem nm_X5_lossOf : Nm yX5_lossOf 2 := by decide +kernel
theorem wv_X5_144 : WV RX5 144 yX5_lossOf cX5_lossOf 4 (some .int) 2 := ⟨mM_X5_144, mI_X5_lossOf, mS_X5_lossOf, mN_X5, mC_X5_lossOf, nm_X5_lossOf⟩
theorem nm_X1_chosen : Nm yX1_chosen 0 := by decide +kernel
theorem wv_X5_174 : WV RX5 174 yX1_chosen cX1_chosen 1 (some .int) 0 := ⟨mM_X5_174, mI_X1_chosen, mS_X1_chosen, mN_X1, mC_X1_chosen, nm_X1_chosen⟩
theorem nm_X1_wanderBy : Nm yX1_wanderBy 2 := by decide +kernel
theorem wv_X5_183 : WV RX5 183 yX1_wanderBy cX1_wanderBy 5 (some .int) 2 := ⟨mM_X5_183, mI_X1_wanderBy, mS_X1_wanderBy, mN_X1, mC_X1_wanderBy, nm_X1_wanderBy⟩
theorem wv_X1_35 : WV RX1 35 yX0_wandersOf cX0_wandersOf 2 (some .int) 1 := ⟨mM_X1_35, mI_X0_wandersOf, mS_X0_wandersOf, mN_X0, mC_X0_wandersOf, nm_X0_wandersOf⟩
theorem nm_X1_idleOf : Nm yX1_idleOf 1 := by decide +kernel
theorem wv_X5_240 : WV RX5 240 yX1_idleOf cX1_idleOf 4 (some .int) 1 := ⟨mM_X5_240, mI_X1_idleOf, mS_X1_idleOf, mN_X1, mC_X1_idleOf, nm_X1_idleOf⟩
theorem wv_X1_41 : WV RX1 41 yX1_setOf cX1_setOf 2 (some .int) 1 := ⟨mM_X1_41, mI_X1_setOf, mS_X1_setOf, mN_X1, mC_X1_setOf, nm_X1_setOf⟩
theorem wv_X1_44 : WV RX1 44 yX0_idleOf cX0_idleOf 2 (some .int) 1 := ⟨mM_X1_44, mI_X0_idleOf, mS_X0_idleOf, mN_X0, mC_X0_idleOf, nm_X0_idleOf⟩
theorem nm_X0_squares : Nm yX0_squares 0 := by decide +kernel
theorem wv_X5_243 : WV RX5 243 yX0_squares cX0_squares 4 (some .int) 0 := ⟨mM_X5_243, mI_X0_squares, mS_X0_squares, mN_X0, mC_X0_squares, nm_X0_squares⟩
theorem nm_X5_best : Nm yX5_best 3 := by decide +kernel
theorem wv_L_48 : WV RL 48 yX5_best cX5_best 4 (some .int) 3 := ⟨mM_L_48, mI_X5_best, mS_X5_best, mN_X5, mC_X5_best, nm_X5_best⟩
theorem nm_X5_seekGrouping : Nm yX5_seekGrouping 2 := by decide +kernel
theorem wv_X5_148 : WV RX5 148 yX5_seekGrouping cX5_seekGrouping 6 none 2 := ⟨mM_X5_148, mI_X5_seekGrouping, mS_X5_seekGrouping, mN_X5, mC_X5_seekGrouping, nm_X5_seekGrouping⟩
theorem nm_X0_isPlain : Nm yX0_isPlain 2 := by decide +kernel
theorem ws_X5_157 : WS RX5 157 yX0_isPlain cX0_isPlain 5 (some .boolean) 2 := ⟨mM_X5_157, mT_X0_isPlain, mN_X0, mC_X0_isPlain, nm_X0_isPlain⟩
theorem nm_X0_largest : Nm yX0_largest 0 := by decide +kernel
theorem wv_X5_247 : WV RX5 247 yX0_largest cX0_largest 3 (some .int) 0 := ⟨mM_X5_247, mI_X0_largest, mS_X0_largest, mN_X0, mC_X0_largest, nm_X0_largest⟩
theorem nm_J9_max_7cf53 : Nm yJ9_max_7cf53 2 := by decide +kernel
theorem ws_X0_44 : WS RX0 44 yJ9_max_7cf53 cJ9_max_7cf53 2 (some .int) 2 := ⟨mM_X0_44, mT_J9_max_7cf53, mN_J9, mC_J9_max_7cf53, nm_J9_max_7cf53⟩
theorem nm_X5_plain : Nm yX5_plain 0 := by decide +kernel
theorem wv_L_52 : WV RL 52 yX5_plain cX5_plain 1 (some .int) 0 := ⟨mM_L_52, mI_X5_plain, mS_X5_plain, mN_X5, mC_X5_plain, nm_X5_plain⟩
theorem nm_X5_like : Nm yX5_like 3 := by decide +kernel
theorem wv_L_57 : WV RL 57 yX5_like cX5_like 4 (some .int) 3 := ⟨mM_L_57, mI_X5_like, mS_X5_like, mN_X5, mC_X5_like, nm_X5_like⟩
theorem nm_X1_withBoth : Nm yX1_withBoth 2 := by decide +kernel
theorem wv_X5_161 : WV RX5 161 yX1_withBoth cX1_withBoth 6 (some .int) 2 := ⟨mM_X5_161, mI_X1_withBoth, mS_X1_withBoth, mN_X1, mC_X1_withBoth, nm_X1_withBoth⟩
theorem nm_X1_hasMachine : Nm yX1_hasMachine 2 := by decide +kernel
theorem ws_X1_47 : WS RX1 47 yX1_hasMachine cX1_hasMachine 2 (some .boolean) 2 := ⟨mM_X1_47, mT_X1_hasMachine, mN_X1, mC_X1_hasMachine, nm_X1_hasMachine⟩
theorem nm_X1_withEither : Nm yX1_withEither 2 := by decide +kernel
theorem wv_X5_164 : WV RX5 164 yX1_withEither cX1_withEither 6 (some .int) 2 := ⟨mM_X5_164, mI_X1_withEither, mS_X1_withEither, mN_X1, mC_X1_withEither, nm_X1_withEither⟩
theorem ws_X1_51 : WS RX1 51 yJ9_max_7cf53 cJ9_max_7cf53 2 (some .int) 2 := ⟨mM_X1_51, mT_J9_max_7cf53, mN_J9, mC_J9_max_7cf53, nm_J9_max_7cf53⟩
theorem nm_X5_join : Nm yX5_join 2 := by decide +kernel
theorem wv_L_61 : WV RL 61 yX5_join cX5_join 3 (some .int) 2 := ⟨mM_L_61, mI_X5_join, mS_X5_join, mN_X5, mC_X5_join, nm_X5_join⟩
theorem nm_X3_grow : Nm yX3_grow 3 := by decide +kernel
theorem wv_X5_167 : WV RX5 167 yX3_grow cX3_grow 5 none 3 := ⟨mM_X5_167, mI_X3_grow, mS_X3_grow, mN_X3, mC_X3_grow, nm_X3_grow⟩
theorem nm_X3_seekPair : Nm yX3_seekPair 1 := by decide +kernel
theorem wv_X3_19 : WV RX3 19 yX3_seekPair cX3_seekPair 4 none 1 := ⟨mM_X3_19, mI_X3_seekPair, mS_X3_seekPair, mN_X3, mC_X3_seekPair, nm_X3_seekPair⟩
theorem nm_X3_compareHeaps : Nm yX3_compareHeaps 3 := by decide +kernel
theorem wv_X3_38 : WV RX3 38 yX3_compareHeaps cX3_compareHeaps 6 none 3 := ⟨mM_X3_38, mI_X3_compareHeaps, mS_X3_compareHeaps, mN_X3, mC_X3_compareHeaps, nm_X3_compareHeaps⟩
theorem nm_X3_compareMachines : Nm yX3_compareMachines 3 := by decide +kernel
theorem wv_X3_42 : WV RX3 42 yX3_compareMachines cX3_compareMachines 6 none 3 := ⟨mM_X3_42, mI_X3_compareMachines, mS_X3_compareMachines, mN_X3, mC_X3_compareMachines, nm_X3_compareMachines⟩
theorem wv_X3_45 : WV RX3 45 yX1_withBoth cX1_withBoth 6 (some .int) 2 := ⟨mM_X3_45, mI_X1_withBoth, mS_X1_withBoth, mN_X1, mC_X1_withBoth, nm_X1_withBoth⟩
theorem wv_X3_51 : WV RX3 51 yX1_withEither cX1_withEither 6 (some .int) 2 := ⟨mM_X3_51, mI_X1_withEither, mS_X1_withEither, mN_X1, mC_X1_withEither, nm_X1_withEither⟩
theorem nm_X3_unite : Nm yX3_unite 0 := by decide +kernel
theorem wv_X3_23 : WV RX3 23 yX3_unite cX3_unite 2 none 0 := ⟨mM_X3_23, mI_X3_unite, mS_X3_unite, mN_X3, mC_X3_unite, nm_X3_unite⟩
theorem nm_X3_tell : Nm yX3_tell 1 := by decide +kernel
theorem wv_X5_171 : WV RX5 171 yX3_tell cX3_tell 2 (some .int) 1 := ⟨mM_X5_171, mI_X3_tell, mS_X3_tell, mN_X3, mC_X3_tell, nm_X3_tell⟩
theorem nm_X5_bears : Nm yX5_bears 2 := by decide +kernel
theorem wv_L_65 : WV RL 65 yX5_bears cX5_bears 4 (some .int) 2 := ⟨mM_L_65, mI_X5_bears, mS_X5_bears, mN_X5, mC_X5_bears, nm_X5_bears⟩
theorem nm_X5_load : Nm yX5_load 1 := by decide +kernel
theorem wv_L_69 : WV RL 69 yX5_load cX5_load 2 (some .int) 1 := ⟨mM_L_69, mI_X5_load, mS_X5_load, mN_X5, mC_X5_load, nm_X5_load⟩
theorem nm_X1_loadBy : Nm yX1_loadBy 2 := by decide +kernel
theorem wv_X5_177 : WV RX5 177 yX1_loadBy cX1_loadBy 5 (some .int) 2 := ⟨mM_X5_177, mI_X1_loadBy, mS_X1_loadBy, mN_X1, mC_X1_loadBy, nm_X1_loadBy⟩
theorem nm_X5_routes : Nm yX5_routes 1 := by decide +kernel
theorem wv_L_73 : WV RL 73 yX5_routes cX5_routes 3 (some .int) 1 := ⟨mM_L_73, mI_X5_routes, mS_X5_routes, mN_X5, mC_X5_routes, nm_X5_routes⟩
theorem nm_X5_bestChoice : Nm yX5_bestChoice 0 := by decide +kernel
theorem wv_X5_180 : WV RX5 180 yX5_bestChoice cX5_bestChoice 6 (some .int) 0 := ⟨mM_X5_180, mI_X5_bestChoice, mS_X5_bestChoice, mN_X5, mC_X5_bestChoice, nm_X5_bestChoice⟩
theorem nm_X5_isRight : Nm yX5_isRight 1 := by decide +kernel
theorem wv_X5_250 : WV RX5 250 yX5_isRight cX5_isRight 3 (some .boolean) 1 := ⟨mM_X5_250, mI_X5_isRight, mS_X5_isRight, mN_X5, mC_X5_isRight, nm_X5_isRight⟩
theorem nm_X5_price : Nm yX5_price 2 := by decide +kernel
theorem wv_L_77 : WV RL 77 yX5_price cX5_price 4 (some .int) 2 := ⟨mM_L_77, mI_X5_price, mS_X5_price, mN_X5, mC_X5_price, nm_X5_price⟩
theorem nm_X5_copy : Nm yX5_copy 2 := by decide +kernel
theorem wv_L_81 : WV RL 81 yX5_copy cX5_copy 3 (some .int) 2 := ⟨mM_L_81, mI_X5_copy, mS_X5_copy, mN_X5, mC_X5_copy, nm_X5_copy⟩
theorem nm_X1_keptHome : Nm yX1_keptHome 3 := by decide +kernel
theorem wv_X5_187 : WV RX5 187 yX1_keptHome cX1_keptHome 7 (some .int) 3 := ⟨mM_X5_187, mI_X1_keptHome, mS_X1_keptHome, mN_X1, mC_X1_keptHome, nm_X1_keptHome⟩
theorem wv_X1_56 : WV RX1 56 yX0_homeOf cX0_homeOf 6 (some .int) 1 := ⟨mM_X1_56, mI_X0_homeOf, mS_X0_homeOf, mN_X0, mC_X0_homeOf, nm_X0_homeOf⟩
theorem nm_X5_saved : Nm yX5_saved 1 := by decide +kernel
theorem wv_L_85 : WV RL 85 yX5_saved cX5_saved 3 (some .int) 1 := ⟨mM_L_85, mI_X5_saved, mS_X5_saved, mN_X5, mC_X5_saved, nm_X5_saved⟩
theorem nm_X5_offerCopies : Nm yX5_offerCopies 2 := by decide +kernel
theorem wv_X5_197 : WV RX5 197 yX5_offerCopies cX5_offerCopies 4 none 2 := ⟨mM_X5_197, mI_X5_offerCopies, mS_X5_offerCopies, mN_X5, mC_X5_offerCopies, nm_X5_offerCopies⟩
theorem nm_X5_offerCopy : Nm yX5_offerCopy 3 := by decide +kernel
theorem wv_X5_253 : WV RX5 253 yX5_offerCopy cX5_offerCopy 5 none 3 := ⟨mM_X5_253, mI_X5_offerCopy, mS_X5_offerCopy, mN_X5, mC_X5_offerCopy, nm_X5_offerCopy⟩
theorem ws_X5_256 : WS RX5 256 yJ9_max_7cf53 cJ9_max_7cf53 2 (some .int) 2 := ⟨mM_X5_256, mT_J9_max_7cf53, mN_J9, mC_J9_max_7cf53, nm_J9_max_7cf53⟩
theorem nm_X5_way : Nm yX5_way 4 := by decide +kernel
theorem wv_L_89 : WV RL 89 yX5_way cX5_way 6 (some .int) 4 := ⟨mM_L_89, mI_X5_way, mS_X5_way, mN_X5, mC_X5_way, nm_X5_way⟩
theorem nm_X2_orderOf : Nm yX2_orderOf 4 := by decide +kernel
theorem ws_X5_200 : WS RX5 200 yX2_orderOf cX2_orderOf 4 (some .int) 4 := ⟨mM_X5_200, mT_X2_orderOf, mN_X2, mC_X2_orderOf, nm_X2_orderOf⟩
theorem nm_X2_hasEachOnce : Nm yX2_hasEachOnce 1 := by decide +kernel
theorem ws_X5_204 : WS RX5 204 yX2_hasEachOnce cX2_hasEachOnce 3 (some .boolean) 1 := ⟨mM_X5_204, mT_X2_hasEachOnce, mN_X2, mC_X2_hasEachOnce, nm_X2_hasEachOnce⟩
theorem nm_X2_cellAt : Nm yX2_cellAt 2 := by decide +kernel
theorem ws_X2_18 : WS RX2 18 yX2_cellAt cX2_cellAt 2 (some .int) 2 := ⟨mM_X2_18, mT_X2_cellAt, mN_X2, mC_X2_cellAt, nm_X2_cellAt⟩
theorem nm_X2_observe : Nm yX2_observe 3 := by decide +kernel
theorem wv_X5_207 : WV RX5 207 yX2_observe cX2_observe 8 none 3 := ⟨mM_X5_207, mI_X2_observe, mS_X2_observe, mN_X2, mC_X2_observe, nm_X2_observe⟩
theorem ws_X2_22 : WS RX2 22 yJ7_fill_53178 cJ7_fill_53178 4 none 2 := ⟨mM_X2_22, mT_J7_fill_53178, mN_J7, mC_J7_fill_53178, nm_J7_fill_53178⟩
theorem wv_X2_28 : WV RX2 28 yX1_howMany cX1_howMany 1 (some .int) 0 := ⟨mM_X2_28, mI_X1_howMany, mS_X1_howMany, mN_X1, mC_X1_howMany, nm_X1_howMany⟩
theorem wv_X2_34 : WV RX2 34 yX1_setOf cX1_setOf 2 (some .int) 1 := ⟨mM_X2_34, mI_X1_setOf, mS_X1_setOf, mN_X1, mC_X1_setOf, nm_X1_setOf⟩
theorem wv_X2_38 : WV RX2 38 yX0_homeOf cX0_homeOf 6 (some .int) 1 := ⟨mM_X2_38, mI_X0_homeOf, mS_X0_homeOf, mN_X0, mC_X0_homeOf, nm_X0_homeOf⟩
theorem ws_X2_43 : WS RX2 43 yX1_hasMachine cX1_hasMachine 2 (some .boolean) 2 := ⟨mM_X2_43, mT_X1_hasMachine, mN_X1, mC_X1_hasMachine, nm_X1_hasMachine⟩
theorem wv_X2_47 : WV RX2 47 yX0_cellOf cX0_cellOf 2 (some .int) 1 := ⟨mM_X2_47, mI_X0_cellOf, mS_X0_cellOf, mN_X0, mC_X0_cellOf, nm_X0_cellOf⟩
theorem wv_X2_50 : WV RX2 50 yX1_piecesOf cX1_piecesOf 2 (some .int) 1 := ⟨mM_X2_50, mI_X1_piecesOf, mS_X1_piecesOf, mN_X1, mC_X1_piecesOf, nm_X1_piecesOf⟩
theorem nm_X2_wayOf : Nm yX2_wayOf 1 := by decide +kernel
theorem wv_X5_211 : WV RX5 211 yX2_wayOf cX2_wayOf 5 (some .int) 1 := ⟨mM_X5_211, mI_X2_wayOf, mS_X2_wayOf, mN_X2, mC_X2_wayOf, nm_X2_wayOf⟩
theorem nm_J9_abs_0f7a4 : Nm yJ9_abs_0f7a4 1 := by decide +kernel
theorem ws_X2_53 : WS RX2 53 yJ9_abs_0f7a4 cJ9_abs_0f7a4 1 (some .int) 1 := ⟨mM_X2_53, mT_J9_abs_0f7a4, mN_J9, mC_J9_abs_0f7a4, nm_J9_abs_0f7a4⟩
theorem nm_X5_floor : Nm yX5_floor 1 := by decide +kernel
theorem wv_L_94 : WV RL 94 yX5_floor cX5_floor 3 (some .int) 1 := ⟨mM_L_94, mI_X5_floor, mS_X5_floor, mN_X5, mC_X5_floor, nm_X5_floor⟩
theorem nm_X2_bestOrder : Nm yX2_bestOrder 0 := by decide +kernel
theorem wv_X5_214 : WV RX5 214 yX2_bestOrder cX2_bestOrder 5 (some .int) 0 := ⟨mM_X5_214, mI_X2_bestOrder, mS_X2_bestOrder, mN_X2, mC_X2_bestOrder, nm_X2_bestOrder⟩
theorem ws_X2_59 : WS RX2 59 yX2_hasEachOnce cX2_hasEachOnce 3 (some .boolean) 1 := ⟨mM_X2_59, mT_X2_hasEachOnce, mN_X2, mC_X2_hasEachOnce, nm_X2_hasEachOnce⟩
theorem wv_X2_63 : WV RX2 63 yX2_wayOf cX2_wayOf 5 (some .int) 1 := ⟨mM_X2_63, mI_X2_wayOf, mS_X2_wayOf, mN_X2, mC_X2_wayOf, nm_X2_wayOf⟩
theorem ws_X5_217 : WS RX5 217 yX2_cellAt cX2_cellAt 2 (some .int) 2 := ⟨mM_X5_217, mT_X2_cellAt, mN_X2, mC_X2_cellAt, nm_X2_cellAt⟩
theorem nm_X5_keep : Nm yX5_keep 1 := by decide +kernel
theorem wv_L_98 : WV RL 98 yX5_keep cX5_keep 2 (some .int) 1 := ⟨mM_L_98, mI_X5_keep, mS_X5_keep, mN_X5, mC_X5_keep, nm_X5_keep⟩
theorem nm_X5_year : Nm yX5_year 1 := by decide +kernel
theorem wv_L_102 : WV RL 102 yX5_year cX5_year 2 (some .int) 1 := ⟨mM_L_102, mI_X5_year, mS_X5_year, mN_X5, mC_X5_year, nm_X5_year⟩
theorem nm_X4_howMany : Nm yX4_howMany 0 := by decide +kernel
theorem wv_X5_220 : WV RX5 220 yX4_howMany cX4_howMany 1 (some .int) 0 := ⟨mM_X5_220, mI_X4_howMany, mS_X4_howMany, mN_X4, mC_X4_howMany, nm_X4_howMany⟩
theorem nm_X4_append : Nm yX4_append 1 := by decide +kernel
theorem wv_X5_223 : WV RX5 223 yX4_append cX4_append 2 none 1 := ⟨mM_X5_223, mI_X4_append, mS_X4_append, mN_X4, mC_X4_append, nm_X4_append⟩
theorem nm_X5_change : Nm yX5_change 1 := by decide +kernel
theorem wv_L_106 : WV RL 106 yX5_change cX5_change 3 (some .int) 1 := ⟨mM_L_106, mI_X5_change, mS_X5_change, mN_X5, mC_X5_change, nm_X5_change⟩
theorem nm_X4_costOfMove : Nm yX4_costOfMove 0 := by decide +kernel
theorem wv_X5_227 : WV RX5 227 yX4_costOfMove cX4_costOfMove 1 (some .int) 0 := ⟨mM_X5_227, mI_X4_costOfMove, mS_X4_costOfMove, mN_X4, mC_X4_costOfMove, nm_X4_costOfMove⟩
theorem nm_X4_putCostOfMove : Nm yX4_putCostOfMove 1 := by decide +kernel
theorem wv_X5_230 : WV RX5 230 yX4_putCostOfMove cX4_putCostOfMove 2 none 1 := ⟨mM_X5_230, mI_X4_putCostOfMove, mS_X4_putCostOfMove, mN_X4, mC_X4_putCostOfMove, nm_X4_putCostOfMove⟩
theorem nm_X5_plan : Nm yX5_plan 0 := by decide +kernel
theorem wv_L_110 : WV RL 110 yX5_plan cX5_plan 2 (some .int) 0 := ⟨mM_L_110, mI_X5_plan, mS_X5_plan, mN_X5, mC_X5_plan, nm_X5_plan⟩
theorem nm_X4_cheapest : Nm yX4_cheapest 2 := by decide +kernel
theorem wv_X5_233 : WV RX5 233 yX4_cheapest cX4_cheapest 5 (some .int) 2 := ⟨mM_X5_233, mI_X4_cheapest, mS_X4_cheapest, mN_X4, mC_X4_cheapest, nm_X4_cheapest⟩
theorem nm_X4_leastTo : Nm yX4_leastTo 2 := by decide +kernel
theorem wv_X4_28 : WV RX4 28 yX4_leastTo cX4_leastTo 6 (some .int) 2 := ⟨mM_X4_28, mI_X4_leastTo, mS_X4_leastTo, mN_X4, mC_X4_leastTo, nm_X4_leastTo⟩
theorem nm_X0_moved : Nm yX0_moved 2 := by decide +kernel
theorem ws_X4_45 : WS RX4 45 yX0_moved cX0_moved 4 (some .int) 2 := ⟨mM_X4_45, mT_X0_moved, mN_X0, mC_X0_moved, nm_X0_moved⟩
theorem nm_J9_min_7cf53 : Nm yJ9_min_7cf53 2 := by decide +kernel
theorem ws_X4_38 : WS RX4 38 yJ9_min_7cf53 cJ9_min_7cf53 2 (some .int) 2 := ⟨mM_X4_38, mT_J9_min_7cf53, mN_J9, mC_J9_min_7cf53, nm_J9_min_7cf53⟩
theorem nm_X5_count : Nm yX5_count 1 := by decide +kernel
theorem wv_L_114 : WV RL 114 yX5_count cX5_count 2 (some .int) 1 := ⟨mM_L_114, mI_X5_count, mS_X5_count, mN_X5, mC_X5_count, nm_X5_count⟩
theorem nm_X5_trace : Nm yX5_trace 0 := by decide +kernel
theorem wv_L_118 : WV RL 118 yX5_trace cX5_trace 1 (some .long) 0 := ⟨mM_L_118, mI_X5_trace, mS_X5_trace, mN_X5, mC_X5_trace, nm_X5_trace⟩
theorem nm_X6_begins : Nm yX6_begins 2 := by decide +kernel
theorem wv_X6_62 : WV RX6 62 yX6_begins cX6_begins 4 none 2 := ⟨mM_X6_62, mI_X6_begins, mS_X6_begins, mN_X6, mC_X6_begins, nm_X6_begins⟩
theorem nm_X6_works : Nm yX6_works 2 := by decide +kernel
theorem wv_L_17 : WV RL 17 yX6_works cX6_works 4 (some .int) 2 := ⟨mM_L_17, mI_X6_works, mS_X6_works, mN_X6, mC_X6_works, nm_X6_works⟩
theorem nm_X6_in : Nm yX6_in 3 := by decide +kernel
theorem ws_X6_72 : WS RX6 72 yX6_in cX6_in 3 (some .boolean) 3 := ⟨mM_X6_72, mT_X6_in, mN_X6, mC_X6_in, nm_X6_in⟩
theorem nm_X6_route : Nm yX6_route 3 := by decide +kernel
theorem wv_L_22 : WV RL 22 yX6_route cX6_route 5 (some .int) 3 := ⟨mM_L_22, mI_X6_route, mS_X6_route, mN_X6, mC_X6_route, nm_X6_route⟩
theorem nm_X6_isPart : Nm yX6_isPart 1 := by decide +kernel
theorem wv_X6_76 : WV RX6 76 yX6_isPart cX6_isPart 2 (some .boolean) 1 := ⟨mM_X6_76, mI_X6_isPart, mS_X6_isPart, mN_X6, mC_X6_isPart, nm_X6_isPart⟩
theorem nm_X6_goes : Nm yX6_goes 2 := by decide +kernel
theorem wv_L_26 : WV RL 26 yX6_goes cX6_goes 4 (some .int) 2 := ⟨mM_L_26, mI_X6_goes, mS_X6_goes, mN_X6, mC_X6_goes, nm_X6_goes⟩
theorem nm_X6_pieces : Nm yX6_pieces 2 := by decide +kernel
theorem wv_L_30 : WV RL 30 yX6_pieces cX6_pieces 4 (some .int) 2 := ⟨mM_L_30, mI_X6_pieces, mS_X6_pieces, mN_X6, mC_X6_pieces, nm_X6_pieces⟩
theorem nm_X6_cell : Nm yX6_cell 2 := by decide +kernel
theorem wv_L_34 : WV RL 34 yX6_cell cX6_cell 4 (some .int) 2 := ⟨mM_L_34, mI_X6_cell, mS_X6_cell, mN_X6, mC_X6_cell, nm_X6_cell⟩
theorem nm_X6_isMachine : Nm yX6_isMachine 1 := by decide +kernel
theorem wv_X6_80 : WV RX6 80 yX6_isMachine cX6_isMachine 2 (some .boolean) 1 := ⟨mM_X6_80, mI_X6_isMachine, mS_X6_isMachine, mN_X6, mC_X6_isMachine, nm_X6_isMachine⟩
theorem nm_X6_cellOf : Nm yX6_cellOf 2 := by decide +kernel
theorem ws_X6_83 : WS RX6 83 yX6_cellOf cX6_cellOf 2 (some .int) 2 := ⟨mM_X6_83, mT_X6_cellOf, mN_X6, mC_X6_cellOf, nm_X6_cellOf⟩
theorem nm_X6_power : Nm yX6_power 1 := by decide +kernel
theorem ws_X6_87 : WS RX6 87 yX6_power cX6_power 1 (some .int) 1 := ⟨mM_X6_87, mT_X6_power, mN_X6, mC_X6_power, nm_X6_power⟩
theorem nm_X6_group : Nm yX6_group 1 := by decide +kernel
theorem wv_L_39 : WV RL 39 yX6_group cX6_group 3 (some .int) 1 := ⟨mM_L_39, mI_X6_group, mS_X6_group, mN_X6, mC_X6_group, nm_X6_group⟩
theorem nm_X6_about : Nm yX6_about 2 := by decide +kernel
theorem wv_L_43 : WV RL 43 yX6_about cX6_about 3 (some .int) 2 := ⟨mM_L_43, mI_X6_about, mS_X6_about, mN_X6, mC_X6_about, nm_X6_about⟩
theorem nm_X6_setOf : Nm yX6_setOf 1 := by decide +kernel
theorem wv_X6_98 : WV RX6 98 yX6_setOf cX6_setOf 2 (some .int) 1 := ⟨mM_X6_98, mI_X6_setOf, mS_X6_setOf, mN_X6, mC_X6_setOf, nm_X6_setOf⟩
theorem nm_X6_homeOf : Nm yX6_homeOf 2 := by decide +kernel
theorem wv_X6_95 : WV RX6 95 yX6_homeOf cX6_homeOf 5 (some .int) 2 := ⟨mM_X6_95, mI_X6_homeOf, mS_X6_homeOf, mN_X6, mC_X6_homeOf, nm_X6_homeOf⟩
theorem nm_X6_inCell : Nm yX6_inCell 3 := by decide +kernel
theorem wv_X6_91 : WV RX6 91 yX6_inCell cX6_inCell 6 (some .int) 3 := ⟨mM_X6_91, mI_X6_inCell, mS_X6_inCell, mN_X6, mC_X6_inCell, nm_X6_inCell⟩
theorem nm_X6_wandersOf : Nm yX6_wandersOf 2 := by decide +kernel
theorem wv_X6_101 : WV RX6 101 yX6_wandersOf cX6_wandersOf 6 (some .int) 2 := ⟨mM_X6_101, mI_X6_wandersOf, mS_X6_wandersOf, mN_X6, mC_X6_wandersOf, nm_X6_wandersOf⟩
theorem nm_X6_idleOf : Nm yX6_idleOf 2 := by decide +kernel
theorem wv_X6_104 : WV RX6 104 yX6_idleOf cX6_idleOf 3 (some .int) 2 := ⟨mM_X6_104, mI_X6_idleOf, mS_X6_idleOf, mN_X6, mC_X6_idleOf, nm_X6_idleOf⟩
theorem nm_X6_loss : Nm yX6_loss 1 := by decide +kernel
theorem wv_L_47 : WV RL 47 yX6_loss cX6_loss 2 (some .int) 1 := ⟨mM_L_47, mI_X6_loss, mS_X6_loss, mN_X6, mC_X6_loss, nm_X6_loss⟩
theorem nm_X6_lossOf : Nm yX6_lossOf 2 := by decide +kernel
theorem wv_X6_115 : WV RX6 115 yX6_lossOf cX6_lossOf 6 (some .int) 2 := ⟨mM_X6_115, mI_X6_lossOf, mS_X6_lossOf, mN_X6, mC_X6_lossOf, nm_X6_lossOf⟩
theorem nm_X6_best : Nm yX6_best 3 := by decide +kernel
theorem wv_L_51 : WV RL 51 yX6_best cX6_best 8 (some .int) 3 := ⟨mM_L_51, mI_X6_best, mS_X6_best, mN_X6, mC_X6_best, nm_X6_best⟩
theorem nm_X6_isPlain : Nm yX6_isPlain 1 := by decide +kernel
theorem wv_X6_118 : WV RX6 118 yX6_isPlain cX6_isPlain 6 (some .boolean) 1 := ⟨mM_X6_118, mI_X6_isPlain, mS_X6_isPlain, mN_X6, mC_X6_isPlain, nm_X6_isPlain⟩
theorem nm_X6_isWithin : Nm yX6_isWithin 2 := by decide +kernel
theorem wv_X6_121 : WV RX6 121 yX6_isWithin cX6_isWithin 5 (some .boolean) 2 := ⟨mM_X6_121, mI_X6_isWithin, mS_X6_isWithin, mN_X6, mC_X6_isWithin, nm_X6_isWithin⟩
theorem nm_X6_plain : Nm yX6_plain 0 := by decide +kernel
theorem wv_L_56 : WV RL 56 yX6_plain cX6_plain 1 (some .int) 0 := ⟨mM_L_56, mI_X6_plain, mS_X6_plain, mN_X6, mC_X6_plain, nm_X6_plain⟩
theorem nm_X6_like : Nm yX6_like 3 := by decide +kernel
theorem wv_L_60 : WV RL 60 yX6_like cX6_like 4 (some .int) 3 := ⟨mM_L_60, mI_X6_like, mS_X6_like, mN_X6, mC_X6_like, nm_X6_like⟩
theorem nm_X6_bothOf : Nm yX6_bothOf 2 := by decide +kernel
theorem wv_X6_125 : WV RX6 125 yX6_bothOf cX6_bothOf 5 (some .int) 2 := ⟨mM_X6_125, mI_X6_bothOf, mS_X6_bothOf, mN_X6, mC_X6_bothOf, nm_X6_bothOf⟩
theorem nm_X6_eitherOf : Nm yX6_eitherOf 2 := by decide +kernel
theorem wv_X6_128 : WV RX6 128 yX6_eitherOf cX6_eitherOf 5 (some .int) 2 := ⟨mM_X6_128, mI_X6_eitherOf, mS_X6_eitherOf, mN_X6, mC_X6_eitherOf, nm_X6_eitherOf⟩
theorem nm_X6_join : Nm yX6_join 2 := by decide +kernel
theorem wv_L_64 : WV RL 64 yX6_join cX6_join 5 (some .int) 2 := ⟨mM_L_64, mI_X6_join, mS_X6_join, mN_X6, mC_X6_join, nm_X6_join⟩
theorem nm_X6_joins : Nm yX6_joins 0 := by decide +kernel
theorem wv_X6_131 : WV RX6 131 yX6_joins cX6_joins 5 none 0 := ⟨mM_X6_131, mI_X6_joins, mS_X6_joins, mN_X6, mC_X6_joins, nm_X6_joins⟩
theorem nm_X6_bears : Nm yX6_bears 2 := by decide +kernel
theorem wv_L_68 : WV RL 68 yX6_bears cX6_bears 4 (some .int) 2 := ⟨mM_L_68, mI_X6_bears, mS_X6_bears, mN_X6, mC_X6_bears, nm_X6_bears⟩
theorem nm_X6_load : Nm yX6_load 1 := by decide +kernel
theorem wv_L_72 : WV RL 72 yX6_load cX6_load 2 (some .int) 1 := ⟨mM_L_72, mI_X6_load, mS_X6_load, mN_X6, mC_X6_load, nm_X6_load⟩
theorem nm_X6_bits : Nm yX6_bits 0 := by decide +kernel
theorem wv_X6_134 : WV RX6 134 yX6_bits cX6_bits 3 (some .int) 0 := ⟨mM_X6_134, mI_X6_bits, mS_X6_bits, mN_X6, mC_X6_bits, nm_X6_bits⟩
theorem nm_X6_loadOf : Nm yX6_loadOf 2 := by decide +kernel
theorem wv_X6_138 : WV RX6 138 yX6_loadOf cX6_loadOf 5 (some .int) 2 := ⟨mM_X6_138, mI_X6_loadOf, mS_X6_loadOf, mN_X6, mC_X6_loadOf, nm_X6_loadOf⟩
theorem nm_X6_routes : Nm yX6_routes 1 := by decide +kernel
theorem wv_L_76 : WV RL 76 yX6_routes cX6_routes 8 (some .int) 1 := ⟨mM_L_76, mI_X6_routes, mS_X6_routes, mN_X6, mC_X6_routes, nm_X6_routes⟩
theorem nm_X6_price : Nm yX6_price 2 := by decide +kernel
theorem wv_L_80 : WV RL 80 yX6_price cX6_price 4 (some .int) 2 := ⟨mM_L_80, mI_X6_price, mS_X6_price, mN_X6, mC_X6_price, nm_X6_price⟩
theorem nm_X6_copy : Nm yX6_copy 2 := by decide +kernel
theorem wv_L_84 : WV RL 84 yX6_copy cX6_copy 3 (some .int) 2 := ⟨mM_L_84, mI_X6_copy, mS_X6_copy, mN_X6, mC_X6_copy, nm_X6_copy⟩
theorem nm_X6_copyOf : Nm yX6_copyOf 2 := by decide +kernel
theorem wv_X6_141 : WV RX6 141 yX6_copyOf cX6_copyOf 5 (some .int) 2 := ⟨mM_X6_141, mI_X6_copyOf, mS_X6_copyOf, mN_X6, mC_X6_copyOf, nm_X6_copyOf⟩
theorem nm_X6_saved : Nm yX6_saved 1 := by decide +kernel
theorem wv_L_88 : WV RL 88 yX6_saved cX6_saved 6 (some .int) 1 := ⟨mM_L_88, mI_X6_saved, mS_X6_saved, mN_X6, mC_X6_saved, nm_X6_saved⟩
theorem nm_X6_way : Nm yX6_way 4 := by decide +kernel
theorem wv_L_93 : WV RL 93 yX6_way cX6_way 5 (some .int) 4 := ⟨mM_L_93, mI_X6_way, mS_X6_way, mN_X6, mC_X6_way, nm_X6_way⟩
theorem nm_X6_lays : Nm yX6_lays 4 := by decide +kernel
theorem wv_X6_144 : WV RX6 144 yX6_lays cX6_lays 5 (some .boolean) 4 := ⟨mM_X6_144, mI_X6_lays, mS_X6_lays, mN_X6, mC_X6_lays, nm_X6_lays⟩
theorem nm_X6_wayOf : Nm yX6_wayOf 0 := by decide +kernel
theorem wv_X6_148 : WV RX6 148 yX6_wayOf cX6_wayOf 6 (some .int) 0 := ⟨mM_X6_148, mI_X6_wayOf, mS_X6_wayOf, mN_X6, mC_X6_wayOf, nm_X6_wayOf⟩
theorem nm_X6_floor : Nm yX6_floor 1 := by decide +kernel
theorem wv_L_97 : WV RL 97 yX6_floor cX6_floor 4 (some .int) 1 := ⟨mM_L_97, mI_X6_floor, mS_X6_floor, mN_X6, mC_X6_floor, nm_X6_floor⟩
theorem nm_X6_keep : Nm yX6_keep 1 := by decide +kernel
theorem wv_L_101 : WV RL 101 yX6_keep cX6_keep 2 (some .int) 1 := ⟨mM_L_101, mI_X6_keep, mS_X6_keep, mN_X6, mC_X6_keep, nm_X6_keep⟩
theorem nm_X6_year : Nm yX6_year 1 := by decide +kernel
theorem wv_L_105 : WV RL 105 yX6_year cX6_year 2 (some .int) 1 := ⟨mM_L_105, mI_X6_year, mS_X6_year, mN_X6, mC_X6_year, nm_X6_year⟩
theorem nm_X6_change : Nm yX6_change 1 := by decide +kernel
theorem wv_L_109 : WV RL 109 yX6_change cX6_change 3 (some .int) 1 := ⟨mM_L_109, mI_X6_change, mS_X6_change, mN_X6, mC_X6_change, nm_X6_change⟩
theorem nm_X6_plan : Nm yX6_plan 0 := by decide +kernel
theorem wv_L_113 : WV RL 113 yX6_plan cX6_plan 5 (some .int) 0 := ⟨mM_L_113, mI_X6_plan, mS_X6_plan, mN_X6, mC_X6_plan, nm_X6_plan⟩
theorem nm_X6_movedOf : Nm yX6_movedOf 2 := by decide +kernel
theorem wv_X6_154 : WV RX6 154 yX6_movedOf cX6_movedOf 5 (some .int) 2 := ⟨mM_X6_154, mI_X6_movedOf, mS_X6_movedOf, mN_X6, mC_X6_movedOf, nm_X6_movedOf⟩
theorem nm_X6_count : Nm yX6_count 1 := by decide +kernel
theorem wv_L_117 : WV RL 117 yX6_count cX6_count 2 (some .int) 1 := ⟨mM_L_117, mI_X6_count, mS_X6_count, mN_X6, mC_X6_count, nm_X6_count⟩
theorem nm_X6_trace : Nm yX6_trace 0 := by decide +kernel
theorem wv_L_122 : WV RL 122 yX6_trace cX6_trace 1 (some .long) 0 := ⟨mM_L_122, mI_X6_trace, mS_X6_trace, mN_X6, mC_X6_trace, nm_X6_trace⟩
end
section
/-! the mathematical words: sums, bits, cells, homes -/
theorem n_inc (a n : Nat) {z : Int} (h : Int32.ofInt z = nI n) : nI a + Int32.ofInt z = nI (a + n) := by rw [h, nI_add]
theorem n_dec {a n : Nat} (h1 : n ≤ a) {z : Int} (h : Int32.ofInt z = -nI n) : nI a + Int32.ofInt z = nI (a - n) := by rw [h, ← Int32.sub_eq_add_neg, pk_sub h1]
def sm (f : Nat → Nat) : Nat → Nat
  | 0 => 0
  | n + 1 => sm f n + f n
def bt (x j : Nat) : Nat := x / 2 ^ j % 2
def cl (g m : Nat) : Nat := g / 2 ^ (2 * m) % 4
def ic (M g set c : Nat) : Nat := sm (fun m => if bt set m = 1 ∧ cl g m = c then 1 else 0) M
def hmi (M g set : Nat) : Nat → Nat
  | 0 => 0
  | i + 1 => if ic M g set (hmi M g set i) < ic M g set i then i else hmi M g set i
def hm (M g set : Nat) : Nat := hmi M g set 4
def wn (M g set : Nat) : Nat := sm (fun c => if c = hm M g set then 0 else ic M g set c) 4
def il (M g set : Nat) : Nat := ic M g (2 ^ M - 1 - set) (hm M g set)
def pop (n : Nat) : Nat := sm (fun m => bt n m) 7
theorem sm_le {f g : Nat → Nat} {n : Nat} (h : ∀ m, m < n → f m ≤ g m) : sm f n ≤ sm g n := by
  induction n with
  | zero => exact Nat.le_refl _
  | succ n ih => exact Nat.add_le_add (ih fun m hm => h m (by omega)) (h n (by omega))
theorem sm_congr {f g : Nat → Nat} {n : Nat} (h : ∀ m, m < n → f m = g m) : sm f n = sm g n := by
  induction n with
  | zero => rfl
  | succ n ih => show sm f n + f n = sm g n + g n; rw [ih fun m hm => h m (by omega), h n (by omega)]
theorem sm_bd {f : Nat → Nat} {n b : Nat} (h : ∀ m, m < n → f m ≤ b) : sm f n ≤ n * b := by
  induction n with
  | zero => exact Nat.zero_le _
  | succ n ih =>
    have h1 := ih fun m hm => h m (by omega)
    have h2 := h n (by omega)
    show sm f n + f n ≤ (n + 1) * b
    rw [Nat.succ_mul]; omega
theorem sm_add (f g : Nat → Nat) (n : Nat) : sm f n + sm g n = sm (fun m => f m + g m) n := by
  induction n with
  | zero => rfl
  | succ n ih => show sm f n + f n + (sm g n + g n) = sm (fun m => f m + g m) n + (f n + g n); rw [← ih]; omega
theorem sm_cut {f g : Nat → Nat} {M n : Nat} (hM : M ≤ n) (h1 : ∀ m, m < M → f m = g m) (h2 : ∀ m, M ≤ m → m < n → f m = 0) : sm f n = sm g M := by
  induction n with
  | zero => have : M = 0 := by omega
            subst this; rfl
  | succ n ih =>
    by_cases h : M = n + 1
    · subst h; exact sm_congr h1
    · show sm f n + f n = sm g M
      rw [ih (by omega) (fun m a b => h2 m a (by omega)), h2 n (by omega) (by omega)]
      rfl
theorem sm_mul (f : Nat → Nat) (k n : Nat) : k * sm f n = sm (fun m => k * f m) n := by
  induction n with
  | zero => rfl
  | succ n ih => show k * (sm f n + f n) = sm (fun m => k * f m) n + k * f n; rw [Nat.mul_add, ih]
theorem sm_swap (f : Nat → Nat → Nat) (n k : Nat) : sm (fun i => sm (fun j => f i j) k) n = sm (fun j => sm (fun i => f i j) n) k := by
  induction n with
  | zero =>
    show 0 = sm (fun _ => 0) k
    induction k with
    | zero => rfl
    | succ k ih => show 0 = sm (fun _ => 0) k + 0; omega
  | succ n ih =>
    show sm (fun i => sm (fun j => f i j) k) n + sm (fun j => f n j) k = _
    rw [ih, sm_add]
    rfl
theorem bt_lt (x j : Nat) : bt x j < 2 := Nat.mod_lt _ (by decide)
theorem bt_tb (x j : Nat) : bt x j = (x.testBit j).toNat := (Nat.toNat_testBit x j).symm
theorem bt_and (a b j : Nat) : bt (a &&& b) j = bt a j * bt b j := by
  rw [bt_tb, bt_tb, bt_tb, Nat.testBit_and]
  cases a.testBit j <;> cases b.testBit j <;> rfl
theorem bt_or (a b j : Nat) : bt (a ||| b) j = if bt a j = 1 ∨ bt b j = 1 then 1 else 0 := by
  rw [bt_tb, bt_tb, bt_tb, Nat.testBit_or]
  cases a.testBit j <;> cases b.testBit j <;> rfl
theorem bt_big {x k : Nat} (h : x < 2 ^ k) {j : Nat} (hj : k ≤ j) : bt x j = 0 := by
  rw [bt_tb, Nat.testBit_lt_two_pow (Nat.lt_of_lt_of_le h (Nat.pow_le_pow_right (by decide) hj))]; rfl
theorem bt_pow (k j : Nat) : bt (2 ^ k) j = if j = k then 1 else 0 := by
  rw [bt_tb, Nat.testBit_two_pow]
  by_cases h : k = j
  · subst h; simp
  · rw [if_neg (fun q => h q.symm)]; simp [h]
theorem bt_not {M x j : Nat} (h : x < 2 ^ M) (hj : j < M) : bt (2 ^ M - 1 - x) j = 1 - bt x j := by
  have e : 2 ^ M - 1 - x = 2 ^ M - (x + 1) := by omega
  rw [e, bt_tb, bt_tb, Nat.testBit_two_pow_sub_succ h]
  cases x.testBit j <;> simp [hj]
theorem bt_ext {a b k : Nat} (ha : a < 2 ^ k) (hb : b < 2 ^ k) (h : ∀ j, j < k → bt a j = bt b j) : a = b := by
  apply Nat.eq_of_testBit_eq
  intro i
  by_cases hi : i < k
  · have e := h i hi
    rw [bt_tb, bt_tb] at e
    revert e
    cases a.testBit i <;> cases b.testBit i <;> simp
  · rw [Nat.testBit_lt_two_pow (Nat.lt_of_lt_of_le ha (Nat.pow_le_pow_right (by decide) (by omega))), Nat.testBit_lt_two_pow (Nat.lt_of_lt_of_le hb (Nat.pow_le_pow_right (by decide) (by omega)))]
theorem cl_lt (g m : Nat) : cl g m < 4 := Nat.mod_lt _ (by decide)
theorem ic_le (M g set c : Nat) : ic M g set c ≤ M := by
  have h := sm_bd (f := fun m => if bt set m = 1 ∧ cl g m = c then 1 else 0) (n := M) (b := 1) (fun m _ => by split <;> omega)
  unfold ic; omega
theorem hmi_lt (M g set : Nat) : ∀ i, hmi M g set i < 4 ∨ hmi M g set i < i := by
  intro i
  induction i with
  | zero => exact Or.inl (show (0 : Nat) < 4 by decide)
  | succ i ih =>
    show (if _ then i else hmi M g set i) < 4 ∨ (if _ then i else hmi M g set i) < i + 1
    split
    · exact Or.inr (by omega)
    · omega
theorem hm_lt (M g set : Nat) : hm M g set < 4 := (hmi_lt M g set 4).elim id id
theorem wn_le {M : Nat} (g set : Nat) : wn M g set ≤ 4 * M := by
  refine sm_bd (fun c _ => ?_)
  split
  · omega
  · exact ic_le M g set c
theorem il_le {M : Nat} (g set : Nat) : il M g set ≤ M := ic_le _ _ _ _
theorem ic_full {M : Nat} (g c : Nat) : ic M g (2 ^ M - 1) c = sm (fun m => if cl g m = c then 1 else 0) M := by
  refine sm_congr fun m hm => ?_
  have h : bt (2 ^ M - 1) m = 1 := by
    have := bt_not (M := M) (x := 0) (Nat.two_pow_pos M) hm
    rw [Nat.sub_zero] at this
    rw [this]
    show 1 - 0 / 2 ^ m % 2 = 1
    rw [Nat.zero_div]
  simp [h]
/-! the class's picture of a grouping: for each cell the set of its machines -/
def mOk (M g : Nat) (mem : Nat → Nat) : Prop := ∀ c, c < 4 → mem c < 128 ∧ ∀ m, m < 7 → bt (mem c) m = if m < M ∧ cl g m = c then 1 else 0
def mF (g : Nat) : Nat → Nat → Nat
  | 0 => fun _ => 0
  | i + 1 => up (mF g i) (cl g i) (mF g i (cl g i) ||| 2 ^ i)
theorem mF_ok (g : Nat) : ∀ M, M ≤ 7 → mOk M g (mF g M) := by
  intro M
  induction M with
  | zero =>
    intro _ c _
    refine ⟨by show (0 : Nat) < 128; decide, fun m _ => ?_⟩
    rw [if_neg (by omega)]
    show 0 / 2 ^ m % 2 = 0
    rw [Nat.zero_div]
  | succ M ih =>
    intro hM c hc
    obtain ⟨h1, h2⟩ := ih (by omega) c hc
    have h7 : (2 : Nat) ^ M < 2 ^ 7 := Nat.pow_lt_pow_right (by decide) (by omega)
    by_cases e : c = cl g M
    · subst e
      have ev : mF g (M + 1) (cl g M) = mF g M (cl g M) ||| 2 ^ M := up_s _ _ _
      rw [ev]
      refine ⟨Nat.or_lt_two_pow (n := 7) h1 h7, fun m hm => ?_⟩
      rw [bt_or, h2 m hm, bt_pow]
      by_cases a : m = M
      · subst a; simp
      · by_cases b : m < M
        · rw [if_neg a]
          by_cases d : cl g m = cl g M
          · simp [b, d]; omega
          · simp [d]
        · rw [if_neg a]; simp [b]; omega
    · have ev : mF g (M + 1) c = mF g M c := up_n _ _ e
      rw [ev]
      refine ⟨h1, fun m hm => ?_⟩
      rw [h2 m hm]
      by_cases a : m = M
      · subst a; simp; exact fun h => e h.symm
      · by_cases b : m < M
        · simp [b, show m < M + 1 by omega]
        · simp [b, show ¬ m < M + 1 by omega]
theorem pop_ic {M g set c : Nat} {mem : Nat → Nat} (h : mOk M g mem) (hM : M ≤ 7) (hc : c < 4) : pop (mem c &&& set) = ic M g set c := by
  refine sm_cut hM (fun m hm => ?_) (fun m h1 h2 => ?_)
  · rw [bt_and, (h c hc).2 m (by omega)]
    have hb := bt_lt set m
    by_cases a : cl g m = c
    · by_cases b : bt set m = 1
      · simp [a, b, hm]
      · have : bt set m = 0 := by omega
        simp [this]
    · simp [a]
  · rw [bt_and, (h c hc).2 m h2, if_neg (by omega), Nat.zero_mul]
theorem pop_full {M g c : Nat} {mem : Nat → Nat} (h : mOk M g mem) (hM : M ≤ 7) (hc : c < 4) : pop (mem c) = ic M g (2 ^ M - 1) c := by
  rw [ic_full]
  refine sm_cut hM (fun m hm => ?_) (fun m h1 h2 => ?_)
  · rw [(h c hc).2 m (by omega)]; simp [hm]
  · rw [(h c hc).2 m h2, if_neg (by omega)]
def andn (a b : Nat) : Nat := a &&& (127 ^^^ b)
theorem bt_andn {a b j : Nat} (hj : j < 7) : bt (andn a b) j = bt a j * (1 - bt b j) := by
  unfold andn
  rw [bt_tb, Nat.testBit_and, Nat.testBit_xor, bt_tb, bt_tb]
  have h : Nat.testBit 127 j = true := (by decide : ∀ j, j < 7 → Nat.testBit 127 j = true) j hj
  rw [h]
  cases a.testBit j <;> cases b.testBit j <;> rfl
theorem andn_lt {a : Nat} (b : Nat) (h : a < 128) : andn a b < 128 := Nat.lt_of_le_of_lt (Nat.and_le_left) h
theorem nI_andn {a b : Nat} (ha : a < 128) : nI a &&& (nI b ^^^ (-1)) = nI (andn a b) := by
  apply Int32.toBitVec_inj.1
  show BitVec.ofNat 32 a &&& (BitVec.ofNat 32 b ^^^ (-1 : Int32).toBitVec) = BitVec.ofNat 32 (a &&& (127 ^^^ b))
  apply BitVec.eq_of_getLsbD_eq
  intro i hi
  have e : ((-1 : Int32).toBitVec).getLsbD i = true := (by decide +kernel : ∀ i, i < 32 → ((-1 : Int32).toBitVec).getLsbD i = true) i hi
  rw [BitVec.getLsbD_and, BitVec.getLsbD_xor, e, BitVec.getLsbD_ofNat, BitVec.getLsbD_ofNat, BitVec.getLsbD_ofNat, Nat.testBit_and, Nat.testBit_xor]
  by_cases h : i < 7
  · have h2 : Nat.testBit 127 i = true := (by decide : ∀ j, j < 7 → Nat.testBit 127 j = true) i h
    rw [h2]; simp [hi]
  · have h2 : a.testBit i = false := Nat.testBit_lt_two_pow (Nat.lt_of_lt_of_le (show a < 2 ^ 7 from ha) (Nat.pow_le_pow_right (by decide) (by omega)))
    rw [h2]; simp
theorem pop_wn {M g set : Nat} {mem : Nat → Nat} (h : mOk M g mem) (hM : M ≤ 7) (hs : set < 2 ^ M) : pop (andn set (mem (hm M g set))) = wn M g set := by
  have hh := hm_lt M g set
  unfold wn
  generalize hm M g set = t at hh ⊢
  have e1 : pop (andn set (mem t)) = sm (fun m => if bt set m = 1 ∧ cl g m ≠ t then 1 else 0) M := by
    refine sm_cut hM (fun m hm => ?_) (fun m h1 h2 => ?_)
    · rw [bt_andn (by omega), (h t hh).2 m (by omega)]
      have hb := bt_lt set m
      by_cases a : cl g m = t
      · simp [a, hm]
      · by_cases b : bt set m = 1
        · simp [a, b]
        · have : bt set m = 0 := by omega
          simp [this]
    · rw [bt_andn h2, bt_big hs h1, Nat.zero_mul]
  rw [e1]
  have e2 : ∀ c, (if c = t then 0 else ic M g set c) = sm (fun m => if c = t then 0 else if bt set m = 1 ∧ cl g m = c then 1 else 0) M := by
    intro c
    by_cases hc : c = t
    · simp only [hc, if_true]
      exact (Nat.le_zero.mp (Nat.le_trans (sm_bd (b := 0) (fun _ _ => Nat.le_refl 0)) (by simp))).symm
    · simp only [hc, if_false]; rfl
  have e3 : sm (fun c => if c = t then 0 else ic M g set c) 4 = sm (fun c => sm (fun m => if c = t then 0 else if bt set m = 1 ∧ cl g m = c then 1 else 0) M) 4 := sm_congr fun c _ => e2 c
  rw [e3, sm_swap]
  refine sm_congr fun m _ => ?_
  have h4 := cl_lt g m
  generalize cl g m = k at h4 ⊢
  by_cases b : bt set m = 1
  · simp only [b, true_and]
    exact (by decide : ∀ k, k < 4 → ∀ t, t < 4 → (if k ≠ t then 1 else 0) = sm (fun c => if c = t then 0 else if k = c then 1 else 0) 4) k h4 t hh
  · simp only [b, false_and, if_false]
    exact (by decide : ∀ t, t < 4 → 0 = sm (fun c => if c = t then 0 else 0) 4) t hh
theorem pop_il {M g set : Nat} {mem : Nat → Nat} (h : mOk M g mem) (hM : M ≤ 7) (hs : set < 2 ^ M) : pop (andn (mem (hm M g set)) set) = il M g set := by
  have hh := hm_lt M g set
  unfold il
  generalize hm M g set = t at hh ⊢
  refine sm_cut hM (fun m hm => ?_) (fun m h1 h2 => ?_)
  · rw [bt_andn (by omega), (h t hh).2 m (by omega), bt_not hs hm]
    have hb := bt_lt set m
    by_cases a : cl g m = t
    · by_cases b : bt set m = 1
      · simp [a, b, hm]
      · have : bt set m = 0 := by omega
        simp [a, this, hm]
    · simp [a]
  · rw [bt_andn h2, (h t hh).2 m h2, if_neg (by omega), Nat.zero_mul]
def fillF (f : Nat → Nat) (v : Nat) : Nat → Nat → Nat
  | 0 => f
  | i + 1 => up (fillF f v i) i v
theorem fillF_at (f : Nat → Nat) (v : Nat) : ∀ n j, j < n → fillF f v n j = v := by
  intro n
  induction n with
  | zero => intro j h; omega
  | succ n ih =>
    intro j h
    by_cases e : j = n
    · subst e; exact up_s _ _ _
    · exact (up_n _ _ e).trans (ih j (by omega))
/-! Integer.bitCount, as it is written -/
def bcs (x : Int32) (k : Nat) : Int32 := (x.toUInt32 >>> ((nI k).toUInt32 &&& Int32.toUInt32 31)).toInt32
def bc1 (x : Int32) : Int32 := x - (bcs x 1 &&& nI 1431655765)
def bc2 (x : Int32) : Int32 := (x &&& nI 858993459) + (bcs x 2 &&& nI 858993459)
def bc3 (x : Int32) : Int32 := (x + bcs x 4) &&& nI 252645135
def bc4 (x : Int32) : Int32 := x + bcs x 8
def bc5 (x : Int32) : Int32 := x + bcs x 16
theorem bc_ok : ∀ n, n < 128 → bc5 (bc4 (bc3 (bc2 (bc1 (nI n))))) &&& nI 63 = nI (pop n) := by decide +kernel
theorem pop_le (n : Nat) : pop n ≤ 7 := by
  have h := sm_bd (f := fun m => bt n m) (n := 7) (b := 1) (fun m _ => by have := bt_lt n m; omega)
  unfold pop; omega
end
section
/-! the cells of the two worlds -/
abbrev aN (cA : ClassId) (q n : Nat) (f : Nat → Nat) : Nat × va_E := (q, ar cA n f)
abbrev aR (cA : ClassId) (q n : Nat) (f : Nat → Int32) : Nat × va_E := (q, arR cA n f)
abbrev oG (q qm mc n : Nat) : Nat × va_E := (q, .inr (0, [.ref qm, .int (nI mc), .int (nI n)]))
abbrev oP (q qs qa size ch : Nat) : Nat × va_E := (q, .inr (1, [.ref qs, .ref qa, .int (nI size), .int (nI ch)]))
abbrev oR (q qt qp : Nat) : Nat × va_E := (q, .inr (2, [.ref qt, .ref qp]))
abbrev TS : Type := Nat × Nat × Int32 × Int32
abbrev oT (q qh mc : Nat) (t : TS) : Nat × va_E := (q, .inr (3, [.ref qh, .int (nI mc), .int (nI t.1), .int (nI t.2.1), .int t.2.2.1, .int t.2.2.2]))
abbrev oY (q qw qc qn size mv : Nat) : Nat × va_E := (q, .inr (4, [.ref qw, .ref qc, .ref qn, .int (nI size), .int (nI mv)]))
abbrev oX (q : Nat → Nat) (mc bn bl : Nat) (tr : Int64) : Nat × va_E := (q 0, .inr (5, [.ref (q 1), .ref (q 4), .ref (q 6), .ref (q 8), .ref (q 10), .ref (q 13), .ref (q 17), .ref (q 18), .ref (q 19), .ref (q 20), .ref (q 21), .int (nI mc), .int (nI bn), .int (nI bl), .long tr]))
abbrev oM (q : Nat → Nat) (th : Nat) (tr : Int64) (mc pp num yn cg : Nat) : Nat × va_E := (q 0, .inr (6, [.int (nI th), .long tr, .int (nI mc), .int (nI pp), .ref (q 1), .ref (q 2), .ref (q 3), .ref (q 4), .ref (q 5), .int (nI num), .ref (q 6), .int (nI yn), .ref (q 7), .int (nI cg), .ref (q 8), .ref (q 9), .ref (q 10), .ref (q 11), .ref (q 12), .ref (q 13), .ref (q 14)]))
theorem nI_one : nI 1 = 1 := by decide

theorem pop_lt (n : Nat) : pop n < 8 := Nat.lt_succ_of_le (pop_le n)
/-- the grouping with a machine put into a cell -/
def pt (n k c : Nat) : Nat := n - cl n k * 2 ^ (2 * k) + c * 2 ^ (2 * k)
theorem cl_split (n k : Nat) : n = 2 ^ (2 * k + 2) * (n / 2 ^ (2 * k + 2)) + (2 ^ (2 * k) * cl n k + n % 2 ^ (2 * k)) := by
  have h1 := Nat.div_add_mod n (2 ^ (2 * k))
  have h2 := Nat.div_add_mod (n / 2 ^ (2 * k)) 4
  have h3 : n / 2 ^ (2 * k) / 4 = n / 2 ^ (2 * k + 2) := by rw [Nat.div_div_eq_div_mul, ← show (2 : Nat) ^ 2 = 4 by decide, ← Nat.pow_add]
  have h4 : 2 ^ (2 * k + 2) = 2 ^ (2 * k) * 4 := by rw [Nat.pow_add]
  rw [h3] at h2
  unfold cl
  rw [h4] at h2 ⊢
  rw [Nat.mul_assoc, ← Nat.add_assoc, ← Nat.mul_add, h2, h1]
theorem cl_sub (n k : Nat) : n - cl n k * 2 ^ (2 * k) = 2 ^ (2 * k + 2) * (n / 2 ^ (2 * k + 2)) + n % 2 ^ (2 * k) := by
  have h := cl_split n k
  have e : cl n k * 2 ^ (2 * k) = 2 ^ (2 * k) * cl n k := Nat.mul_comm _ _
  rw [e]
  omega
theorem pt_or {n k c : Nat} (hc : c < 4) : (n - cl n k * 2 ^ (2 * k)) ||| (c * 2 ^ (2 * k)) = pt n k c := by
  unfold pt
  rw [cl_sub]
  have hlo : n % 2 ^ (2 * k) < 2 ^ (2 * k) := Nat.mod_lt _ (Nat.two_pow_pos _)
  have hlo2 : n % 2 ^ (2 * k) < 2 ^ (2 * k + 2) := Nat.lt_of_lt_of_le hlo (Nat.pow_le_pow_right (by decide) (by omega))
  have hmid : 2 ^ (2 * k) * c + n % 2 ^ (2 * k) < 2 ^ (2 * k + 2) := by
    have h4 : 2 ^ (2 * k + 2) = 2 ^ (2 * k) * 4 := by rw [Nat.pow_add]
    have h5 : 2 ^ (2 * k) * c ≤ 2 ^ (2 * k) * 3 := Nat.mul_le_mul_left _ (by omega)
    rw [h4]; omega
  rw [Nat.two_pow_add_eq_or_of_lt hlo2, Nat.or_assoc, Nat.or_comm (n % 2 ^ (2 * k)), Nat.mul_comm c, ← Nat.two_pow_add_eq_or_of_lt hlo, ← Nat.two_pow_add_eq_or_of_lt hmid, ← Nat.two_pow_add_eq_or_of_lt hlo2]
  omega
theorem pt_lt {M n k c : Nat} (hn : n < 2 ^ (2 * M)) (hk : k < M) (hc : c < 4) : pt n k c < 2 ^ (2 * M) := by
  rw [← pt_or hc]
  refine Nat.or_lt_two_pow (Nat.lt_of_le_of_lt (Nat.sub_le _ _) hn) ?_
  have h4 : 2 ^ (2 * k + 2) = 2 ^ (2 * k) * 4 := by rw [Nat.pow_add]
  have h5 : 2 ^ (2 * k) * c < 2 ^ (2 * k) * 4 := Nat.mul_lt_mul_of_pos_left hc (Nat.two_pow_pos _)
  rw [Nat.mul_comm]
  exact Nat.lt_of_lt_of_le h5 (by rw [← h4]; exact Nat.pow_le_pow_right (by decide) (by omega))
theorem nI_clr {n k : Nat} (hn : n < 2 ^ 31) (hk : k < 15) : nI n &&& (nI (3 * 2 ^ (2 * k)) ^^^ (-1)) = nI (n - cl n k * 2 ^ (2 * k)) := by
  rw [cl_sub]
  have hs := cl_split n k
  have hlo : n % 2 ^ (2 * k) < 2 ^ (2 * k) := Nat.mod_lt _ (Nat.two_pow_pos _)
  have hlo2 : n % 2 ^ (2 * k) < 2 ^ (2 * k + 2) := Nat.lt_of_lt_of_le hlo (Nat.pow_le_pow_right (by decide) (by omega))
  have hmid : 2 ^ (2 * k) * cl n k + n % 2 ^ (2 * k) < 2 ^ (2 * k + 2) := by
    have h4 : 2 ^ (2 * k + 2) = 2 ^ (2 * k) * 4 := by rw [Nat.pow_add]
    have h5 : 2 ^ (2 * k) * cl n k ≤ 2 ^ (2 * k) * 3 := Nat.mul_le_mul_left _ (by have := cl_lt n k; omega)
    rw [h4]; omega
  apply Int32.toBitVec_inj.1
  show BitVec.ofNat 32 n &&& (BitVec.ofNat 32 (3 * 2 ^ (2 * k)) ^^^ (-1 : Int32).toBitVec) = BitVec.ofNat 32 _
  apply BitVec.eq_of_getLsbD_eq
  intro i hi
  have e : ((-1 : Int32).toBitVec).getLsbD i = true := (by decide +kernel : ∀ i, i < 32 → ((-1 : Int32).toBitVec).getLsbD i = true) i hi
  rw [BitVec.getLsbD_and, BitVec.getLsbD_xor, e, BitVec.getLsbD_ofNat, BitVec.getLsbD_ofNat, BitVec.getLsbD_ofNat]
  simp only [hi, decide_true, Bool.true_and, Bool.bne_true]
  have e3 : (3 * 2 ^ (2 * k)).testBit i = (decide (2 * k ≤ i) && decide (i < 2 * k + 2)) := by
    rw [Nat.mul_comm, Nat.testBit_two_pow_mul]
    by_cases h : 2 * k ≤ i
    · simp only [h, decide_true, Bool.true_and]
      by_cases h2 : i < 2 * k + 2
      · have : i - 2 * k = 0 ∨ i - 2 * k = 1 := by omega
        rcases this with q | q <;> rw [q, show decide (i < 2 * k + 2) = true by simp [h2]] <;> decide
      · rw [show decide (i < 2 * k + 2) = false by simp [h2]]
        exact Nat.testBit_lt_two_pow (Nat.lt_of_lt_of_le (by decide : 3 < 2 ^ 2) (Nat.pow_le_pow_right (by decide) (by omega)))
    · simp [h]
  rw [e3, Nat.testBit_two_pow_mul_add _ hlo2]
  have en : n.testBit i = (2 ^ (2 * k + 2) * (n / 2 ^ (2 * k + 2)) + (2 ^ (2 * k) * cl n k + n % 2 ^ (2 * k))).testBit i := by rw [← hs]
  rw [en, Nat.testBit_two_pow_mul_add _ hmid, Nat.testBit_two_pow_mul_add _ hlo]
  by_cases h1 : i < 2 * k
  · simp [show i < 2 * k + 2 by omega, h1, show ¬ 2 * k ≤ i by omega]
  · by_cases h2 : i < 2 * k + 2
    · have h3 : (n % 2 ^ (2 * k)).testBit i = false := Nat.testBit_lt_two_pow (Nat.lt_of_lt_of_le hlo (Nat.pow_le_pow_right (by decide) (by omega)))
      simp [h2, h1, show 2 * k ≤ i by omega, h3]
    · simp [h2, show 2 * k ≤ i by omega]
/-! plain groupings; the most members of a cell; squares; what has moved -/
def opn (g : Nat) : Nat → Nat
  | 0 => 0
  | i + 1 => if cl g i = opn g i then opn g i + 1 else opn g i
def plain (M g : Nat) : Prop := ∀ i, i < M → cl g i ≤ opn g i
theorem opn_le (g : Nat) : ∀ i, opn g i ≤ i := by
  intro i
  induction i with
  | zero => exact Nat.le_refl _
  | succ i ih =>
    have e : opn g (i + 1) = if cl g i = opn g i then opn g i + 1 else opn g i := rfl
    rw [e]
    by_cases h : cl g i = opn g i
    · rw [if_pos h]; omega
    · rw [if_neg h]; omega
def mx (M g st : Nat) : Nat → Nat
  | 0 => 0
  | i + 1 => ic M g st (hmi M g st (i + 1))
theorem mx_le (M g st i : Nat) : mx M g st i ≤ M := by
  cases i with
  | zero => exact Nat.zero_le _
  | succ i => exact ic_le _ _ _ _
theorem mx_t {M g st k : Nat} (h : mx M g st k < ic M g st k) : hmi M g st (k + 1) = k ∧ mx M g st (k + 1) = ic M g st k := by
  have e : hmi M g st (k + 1) = k := by
    cases k with
    | zero => show (if _ then 0 else hmi M g st 0) = 0; split <;> rfl
    | succ j => exact if_pos h
  exact ⟨e, by show ic M g st (hmi M g st (k + 1)) = _; rw [e]⟩
theorem mx_f {M g st k : Nat} (h : ic M g st k ≤ mx M g st k) : hmi M g st (k + 1) = hmi M g st k ∧ mx M g st (k + 1) = mx M g st k := by
  cases k with
  | zero =>
    have e : hmi M g st 1 = 0 := by show (if _ then 0 else hmi M g st 0) = 0; split <;> rfl
    refine ⟨e, ?_⟩
    show ic M g st (hmi M g st 1) = 0
    rw [e]
    exact Nat.le_zero.mp h
  | succ j =>
    have e : hmi M g st (j + 1 + 1) = hmi M g st (j + 1) := if_neg (Nat.not_lt.mpr h)
    exact ⟨e, by show ic M g st (hmi M g st (j + 1 + 1)) = _; rw [e]; rfl⟩
def sq (M g c : Nat) : Nat := ic M g (2 ^ M - 1) c * ic M g (2 ^ M - 1) c
def lrg (M g : Nat) : Nat → Nat
  | 0 => 0
  | i + 1 => max (lrg M g i) (ic M g (2 ^ M - 1) i)
theorem lrg_le (M g : Nat) : ∀ i, lrg M g i ≤ M := by
  intro i
  induction i with
  | zero => exact Nat.zero_le _
  | succ i ih => exact Nat.max_le.mpr ⟨ih, ic_le _ _ _ _⟩
def mv1 (a b m : Nat) : Nat := if cl (a ^^^ b) m = 0 then 0 else 1
end
section
abbrev rm_k_J6_bitCount_0f7a4 : Room := { frames := 0, cells := 0, slots := 0, locals := 0 }
set_option maxHeartbeats 4000000 in
set_option maxRecDepth 100000 in
theorem k_J6_bitCount_0f7a4 (l : Launch) (D : va_G) (cA : ClassId) (n : Nat) (hn : n < 128) : Cti l yJ6_bitCount_0f7a4 cJ6_bitCount_0f7a4 1 (some .int) rm_k_J6_bitCount_0f7a4 D cA [.int (nI n)] ([]) (fun (r : Int32) (_ : Unit) => r = nI (pop n)) (fun _ => []) := by
  refine st_i (by decide) (Nat.le_of_ble_eq_true rfl) ?_
  intro p e s m args below meth c A Q E ret Z ls hl
  have hx := E.1.1
  have hb := E.1.2.1
  have hl : lv_has ls 1 [(0, .int (nI n))] := hl
  refine lv_iload_n hx hb dJ6_bitCount_0f7a4_0 rfl (lv_at hl 0 rfl) ?_
  refine lv_iload_n hx hb dJ6_bitCount_0f7a4_1 rfl (lv_at hl 0 rfl) ?_
  refine lv_iconst (v := nI 1) hx hb dJ6_bitCount_0f7a4_2 (by decide) ?_
  refine lv_iushr (v := ((nI n).toUInt32 >>> ((nI 1).toUInt32 &&& Int32.toUInt32 31)).toInt32) hx hb dJ6_bitCount_0f7a4_3 rfl ?_
  refine lv_ldcw (v := 1431655765) hx hb E.1.2.2.2.1 (E.1.2.2.2.2 _ mK_J6_265) dJ6_bitCount_0f7a4_4 ?_
  refine r_top (y := nI 1431655765) (by decide) ?_
  refine lv_iand hx hb dJ6_bitCount_0f7a4_7 ?_
  refine lv_isub hx hb dJ6_bitCount_0f7a4_8 ?_
  refine r_top (y := (bc1 (nI n))) rfl ?_
  refine lv_istore_n (lv' := [(0, .int (bc1 (nI n)))]) hx hb dJ6_bitCount_0f7a4_9 rfl hl (by decide) rfl (fun ls hl => ?_)
  refine lv_iload_n hx hb dJ6_bitCount_0f7a4_10 rfl (lv_at hl 0 rfl) ?_
  refine lv_ldcw (v := 858993459) hx hb E.1.2.2.2.1 (E.1.2.2.2.2 _ mK_J6_266) dJ6_bitCount_0f7a4_11 ?_
  refine r_top (y := nI 858993459) (by decide) ?_
  refine lv_iand hx hb dJ6_bitCount_0f7a4_14 ?_
  refine lv_iload_n hx hb dJ6_bitCount_0f7a4_15 rfl (lv_at hl 0 rfl) ?_
  refine lv_iconst (v := nI 2) hx hb dJ6_bitCount_0f7a4_16 (by decide) ?_
  refine lv_iushr (v := ((bc1 (nI n)).toUInt32 >>> ((nI 2).toUInt32 &&& Int32.toUInt32 31)).toInt32) hx hb dJ6_bitCount_0f7a4_17 rfl ?_
  refine lv_ldcw (v := 858993459) hx hb E.1.2.2.2.1 (E.1.2.2.2.2 _ mK_J6_266) dJ6_bitCount_0f7a4_18 ?_
  refine r_top (y := nI 858993459) (by decide) ?_
  refine lv_iand hx hb dJ6_bitCount_0f7a4_21 ?_
  refine lv_iadd hx hb dJ6_bitCount_0f7a4_22 ?_
  refine r_top (y := (bc2 (bc1 (nI n)))) rfl ?_
  refine lv_istore_n (lv' := [(0, .int (bc2 (bc1 (nI n))))]) hx hb dJ6_bitCount_0f7a4_23 rfl hl (by decide) rfl (fun ls hl => ?_)
  refine lv_iload_n hx hb dJ6_bitCount_0f7a4_24 rfl (lv_at hl 0 rfl) ?_
  refine lv_iload_n hx hb dJ6_bitCount_0f7a4_25 rfl (lv_at hl 0 rfl) ?_
  refine lv_iconst (v := nI 4) hx hb dJ6_bitCount_0f7a4_26 (by decide) ?_
  refine lv_iushr (v := ((bc2 (bc1 (nI n))).toUInt32 >>> ((nI 4).toUInt32 &&& Int32.toUInt32 31)).toInt32) hx hb dJ6_bitCount_0f7a4_27 rfl ?_
  refine lv_iadd hx hb dJ6_bitCount_0f7a4_28 ?_
  refine lv_ldcw (v := 252645135) hx hb E.1.2.2.2.1 (E.1.2.2.2.2 _ mK_J6_267) dJ6_bitCount_0f7a4_29 ?_
  refine r_top (y := nI 252645135) (by decide) ?_
  refine lv_iand hx hb dJ6_bitCount_0f7a4_32 ?_
  refine r_top (y := (bc3 (bc2 (bc1 (nI n))))) rfl ?_
  refine lv_istore_n (lv' := [(0, .int (bc3 (bc2 (bc1 (nI n)))))]) hx hb dJ6_bitCount_0f7a4_33 rfl hl (by decide) rfl (fun ls hl => ?_)
  refine lv_iload_n hx hb dJ6_bitCount_0f7a4_34 rfl (lv_at hl 0 rfl) ?_
  refine lv_iload_n hx hb dJ6_bitCount_0f7a4_35 rfl (lv_at hl 0 rfl) ?_
  refine lv_bipush (v := nI 8) hx hb dJ6_bitCount_0f7a4_36 (by decide) ?_
  refine lv_iushr (v := ((bc3 (bc2 (bc1 (nI n)))).toUInt32 >>> ((nI 8).toUInt32 &&& Int32.toUInt32 31)).toInt32) hx hb dJ6_bitCount_0f7a4_38 rfl ?_
  refine lv_iadd hx hb dJ6_bitCount_0f7a4_39 ?_
  refine r_top (y := (bc4 (bc3 (bc2 (bc1 (nI n)))))) rfl ?_
  refine lv_istore_n (lv' := [(0, .int (bc4 (bc3 (bc2 (bc1 (nI n))))))]) hx hb dJ6_bitCount_0f7a4_40 rfl hl (by decide) rfl (fun ls hl => ?_)
  refine lv_iload_n hx hb dJ6_bitCount_0f7a4_41 rfl (lv_at hl 0 rfl) ?_
  refine lv_iload_n hx hb dJ6_bitCount_0f7a4_42 rfl (lv_at hl 0 rfl) ?_
  refine lv_bipush (v := nI 16) hx hb dJ6_bitCount_0f7a4_43 (by decide) ?_
  refine lv_iushr (v := ((bc4 (bc3 (bc2 (bc1 (nI n))))).toUInt32 >>> ((nI 16).toUInt32 &&& Int32.toUInt32 31)).toInt32) hx hb dJ6_bitCount_0f7a4_45 rfl ?_
  refine lv_iadd hx hb dJ6_bitCount_0f7a4_46 ?_
  refine r_top (y := (bc5 (bc4 (bc3 (bc2 (bc1 (nI n))))))) rfl ?_
  refine lv_istore_n (lv' := [(0, .int (bc5 (bc4 (bc3 (bc2 (bc1 (nI n)))))))]) hx hb dJ6_bitCount_0f7a4_47 rfl hl (by decide) rfl (fun ls hl => ?_)
  refine lv_iload_n hx hb dJ6_bitCount_0f7a4_48 rfl (lv_at hl 0 rfl) ?_
  refine lv_bipush (v := nI 63) hx hb dJ6_bitCount_0f7a4_49 (by decide) ?_
  refine lv_iand hx hb dJ6_bitCount_0f7a4_51 ?_
  exact ret () Z dJ6_bitCount_0f7a4_52 rfl (bc_ok n hn)
abbrev rm_k_J7_fill_53178 : Room := { frames := 0, cells := 0, slots := 0, locals := 0 }
set_option maxHeartbeats 4000000 in
set_option maxRecDepth 100000 in
theorem k_J7_fill_53178 (l : Launch) (D : va_G) (cA : ClassId) (q : Nat) (n : Nat) (f : Nat → Nat) (fv : Nat) (hn : n < 1000) : Ctv l yJ7_fill_53178 cJ7_fill_53178 4 none rm_k_J7_fill_53178 D cA [.ref q, .int (nI fv)] ([aN cA q n f]) (fun (_ : Unit) => True) (fun _ => [aN cA q n (fun _ => fv)]) := by
  refine st_v (by decide) (Nat.le_of_ble_eq_true rfl) ?_
  intro p e s m args below meth c A Q E ret Z ls hl
  have hx := E.1.1
  have hb := E.1.2.1
  have hl : lv_has ls 4 [(0, .ref q), (1, .int (nI fv))] := hl
  refine lv_iconst (v := nI 0) hx hb dJ7_fill_53178_0 (by decide) ?_
  refine lv_istore_n (lv' := [(2, .int (nI 0)), (0, .ref q), (1, .int (nI fv))]) hx hb dJ7_fill_53178_1 rfl hl (by decide) rfl (fun ls hl => ?_)
  refine lv_aload_n hx hb dJ7_fill_53178_2 rfl (lv_at hl 1 rfl) ?_
  refine r_alen E Z dJ7_fill_53178_3 0 rfl ?_
  refine lv_istore_n (lv' := [(3, .int (nI n)), (2, .int (nI 0)), (0, .ref q), (1, .int (nI fv))]) hx hb dJ7_fill_53178_4 rfl hl (by decide) rfl (fun ls hl => ?_)
  have L5 : ∀ (n5 i : Nat), n + 1 ≤ i + n5 → i ≤ n → ∀ (H : Heap) (locs : List Loc), Wd D A s ([aN cA q n (fillF f fv i)]) H locs → ∀ (ls : Array Slot), lv_has ls 4 [(0, .ref q), (1, .int (nI fv)), (2, .int (nI i)), (3, .int (nI n))] → W p l e rm_k_J7_fill_53178 s m args below meth c H locs 0 0 Q (F0 m 5 ls []) := by
    intro n5
    induction n5 with
    | zero => exact fun i h1 h2 => absurd h1 (by omega)
    | succ n5 ih5 =>
      intro i hn5 hi5  H locs Z ls hl
      refine lv_iload_n hx hb dJ7_fill_53178_5 rfl (lv_at hl 2 rfl) ?_
      refine lv_iload_n hx hb dJ7_fill_53178_6 rfl (lv_at hl 3 rfl) ?_
      refine n_icmp_ge (tgt := 20) hx hb dJ7_fill_53178_7 (by decide) (by omega) (by omega) (fun c7 => ?_) (fun c7 => ?_)
      · obtain rfl : n = i := by omega
        replace Z : Wd D A s ([aN cA q n (fun _ => fv)]) _ _ := Z.norm 0 rfl (fun j hj => congrArg nI (fillF_at f fv n j hj)) rfl
        exact ret () Z dJ7_fill_53178_20 rfl trivial
      · refine lv_aload_n hx hb dJ7_fill_53178_10 rfl (lv_at hl 0 rfl) ?_
        refine lv_iload_n hx hb dJ7_fill_53178_11 rfl (lv_at hl 2 rfl) ?_
        refine lv_iload_n hx hb dJ7_fill_53178_12 rfl (lv_at hl 1 rfl) ?_
        refine r_ast (w1 := [aN cA q n (up (fillF f fv i) i fv)]) E Z dJ7_fill_53178_13 0 rfl (by omega) hn rfl (fun H locs Z => ?_)
        refine lv_iinc (v := nI (i + 1)) (lv' := [(2, .int (nI (i + 1))), (0, .ref q), (1, .int (nI fv)), (3, .int (nI n))]) hx hb dJ7_fill_53178_14 hl (k := 2) rfl (n_inc _ _ (by decide)) (by decide) rfl (fun ls hl => ?_)
        refine lv_goto (tgt := 5) hx hb dJ7_fill_53178_17 (by decide) ?_
        exact ih5 (i + 1) (by omega) (by omega)   _ _ Z ls (lv_sub hl [1, 2, 0, 3] rfl)
  exact L5 (n + 1) 0 (by omega) (by omega)   _ _ Z ls (lv_sub hl [2, 3, 1, 0] rfl)
abbrev rm_k_X0_cellOf : Room := { frames := 0, cells := 0, slots := 0, locals := 0 }
set_option maxHeartbeats 4000000 in
set_option maxRecDepth 100000 in
theorem k_X0_cellOf (l : Launch) (D : va_G) (cA : ClassId) (q : Nat) (qm : Nat) (mc : Nat) (n : Nat) (k : Nat) (hn : n < 2 ^ 31) (hk : k < 16) : Cti l yX0_cellOf cX0_cellOf 2 (some .int) rm_k_X0_cellOf D cA [.ref q, .int (nI k)] ([oG q qm mc n]) (fun (r : Int32) (_ : Unit) => r = nI (cl n k)) (fun _ => [oG q qm mc n]) := by
  refine st_i (by decide) (Nat.le_of_ble_eq_true rfl) ?_
  intro p e s m args below meth c A Q E ret Z ls hl
  have hx := E.1.1
  have hb := E.1.2.1
  have hl : lv_has ls 2 [(0, .ref q), (1, .int (nI k))] := hl
  refine lv_aload_n hx hb dX0_cellOf_0 rfl (lv_at hl 0 rfl) ?_
  refine gF_X0_15 E Z dX0_cellOf_1 0 rfl rfl ?_
  refine lv_iconst (v := nI 2) hx hb dX0_cellOf_4 (by decide) ?_
  refine lv_iload_n hx hb dX0_cellOf_5 rfl (lv_at hl 1 rfl) ?_
  refine n_imul hx hb dX0_cellOf_6 ?_
  refine n_ishr hx hb dX0_cellOf_7 (by omega) (by omega) ?_
  refine lv_iconst (v := nI 3) hx hb dX0_cellOf_8 (by decide) ?_
  refine n_iand3 hx hb dX0_cellOf_9 ?_
  refine r_top (y := nI (cl n k)) rfl ?_
  exact ret () Z dX0_cellOf_10 rfl rfl
abbrev rm_k_X0_become : Room := { frames := 1, cells := 0, slots := 0, locals := 23 }
set_option maxHeartbeats 4000000 in
set_option maxRecDepth 100000 in
theorem k_X0_become (l : Launch) (D : va_G) (cA : ClassId) (q : Nat) (qm : Nat) (mc : Nat) (n : Nat) (mem : Nat → Nat) (g : Nat) (M : Nat) (hg : g < 2 ^ 31) (hM : M ≤ 7) : Ctv l yX0_become cX0_become 4 none rm_k_X0_become D cA [.ref q, .int (nI g), .int (nI M)] ([oG q qm mc n, aN cA qm 4 mem]) (fun (_ : Unit) => True) (fun _ => [oG q qm M g, aN cA qm 4 (mF g M)]) := by
  refine st_v (by decide) (Nat.le_of_ble_eq_true rfl) ?_
  intro p e s m args below meth c A Q E ret Z ls hl
  have hx := E.1.1
  have hb := E.1.2.1
  have hl : lv_has ls 4 [(0, .ref q), (1, .int (nI g)), (2, .int (nI M))] := hl
  refine lv_aload_n hx hb dX0_become_0 rfl (lv_at hl 0 rfl) ?_
  refine lv_iload_n hx hb dX0_become_1 rfl (lv_at hl 1 rfl) ?_
  refine pF_X0_15 (w1 := [oG q qm mc g, aN cA qm 4 mem]) E Z dX0_become_2 0 rfl (Nat.le_of_ble_eq_true rfl) rfl (fun H locs Z => ?_)
  refine lv_aload_n hx hb dX0_become_5 rfl (lv_at hl 0 rfl) ?_
  refine lv_iload_n hx hb dX0_become_6 rfl (lv_at hl 2 rfl) ?_
  refine pF_X0_19 (w1 := [oG q qm M g, aN cA qm 4 mem]) E Z dX0_become_7 0 rfl (Nat.le_of_ble_eq_true rfl) rfl (fun H locs Z => ?_)
  refine lv_aload_n hx hb dX0_become_10 rfl (lv_at hl 0 rfl) ?_
  refine gF_X0_9 E Z dX0_become_11 0 rfl rfl ?_
  refine lv_iconst (v := nI 0) hx hb dX0_become_14 (by decide) ?_
  refine c_Sv (As := [.ref qm, .int (nI 0)]) (rest := []) (w2 := fun _ => [oG q qm M g, aN cA qm 4 (fun _ => 0)]) E Z (k_J7_fill_53178 l D cA qm 4 mem 0 (by decide)) ws_X0_22 ⟨rfl, rfl, Nat.le_of_ble_eq_true rfl, Nat.le_of_ble_eq_true rfl⟩ [1] rfl rfl (fun _ => rfl) (fun _ => rfl) rfl hl.1 rfl (Nat.le_of_ble_eq_true rfl) dX0_become_15 ⟨Nat.zero_le _, Nat.zero_le _⟩ (fun _ H locs hp15 Z => ?_)
  refine lv_iconst (v := nI 0) hx hb dX0_become_18 (by decide) ?_
  refine lv_istore_n (lv' := [(3, .int (nI 0)), (0, .ref q), (1, .int (nI g)), (2, .int (nI M))]) hx hb dX0_become_19 rfl hl (by decide) rfl (fun ls hl => ?_)
  have L20 : ∀ (n20 i : Nat), M + 1 ≤ i + n20 → i ≤ M → ∀ (H : Heap) (locs : List Loc), Wd D A s ([oG q qm M g, aN cA qm 4 (mF g i)]) H locs → ∀ (ls : Array Slot), lv_has ls 4 [(0, .ref q), (1, .int (nI g)), (2, .int (nI M)), (3, .int (nI i))] → W p l e rm_k_X0_become s m args below meth c H locs 0 0 Q (F0 m 20 ls []) := by
    intro n20
    induction n20 with
    | zero => exact fun i h1 h2 => absurd h1 (by omega)
    | succ n20 ih20 =>
      intro i hn20 hi20  H locs Z ls hl
      refine lv_iload_n hx hb dX0_become_20 rfl (lv_at hl 3 rfl) ?_
      refine lv_aload_n hx hb dX0_become_21 rfl (lv_at hl 0 rfl) ?_
      refine gF_X0_19 E Z dX0_become_22 0 rfl rfl ?_
      refine n_icmp_ge (tgt := 50) hx hb dX0_become_25 (by decide) (by omega) (by omega) (fun c25 => ?_) (fun c25 => ?_)
      · obtain rfl : M = i := by omega
        exact ret () Z dX0_become_50 rfl trivial
      · refine lv_aload_n hx hb dX0_become_28 rfl (lv_at hl 0 rfl) ?_
        refine gF_X0_9 E Z dX0_become_29 0 rfl rfl ?_
        refine lv_aload_n hx hb dX0_become_32 rfl (lv_at hl 0 rfl) ?_
        refine lv_iload_n hx hb dX0_become_33 rfl (lv_at hl 3 rfl) ?_
        refine c_Vi (As := [.int (nI i)]) (rest := [.ref qm]) (w2 := fun _ => [oG q qm M g, aN cA qm 4 (mF g i)]) E Z (k_X0_cellOf l D cA q qm M g i (by first | assumption | omega) (by first | assumption | omega)) wv_X0_28 ⟨rfl, rfl, Nat.le_of_ble_eq_true rfl, Nat.le_of_ble_eq_true rfl⟩ [0] rfl rfl rfl rfl (q0 := 0) rfl (fun _ => rfl) (fun _ => rfl) rfl hl.1 rfl (Nat.le_of_ble_eq_true rfl) dX0_become_34 ⟨Nat.zero_le _, Nat.zero_le _⟩ (fun r34 _ H locs hp34 Z => ?_)
        subst hp34
        refine lv_dup2_11 hx hb dX0_become_37 rfl rfl ?_
        refine r_ald E Z dX0_become_38 1 rfl (cl_lt _ _) (by decide) ?_
        refine lv_iconst (v := nI 1) hx hb dX0_become_39 (by decide) ?_
        refine lv_iload_n hx hb dX0_become_40 rfl (lv_at hl 3 rfl) ?_
        refine n_ishl1 hx hb dX0_become_41 (by omega) ?_
        refine n_ior hx hb dX0_become_42 ?_
        refine r_ast (w1 := [oG q qm M g, aN cA qm 4 (up (mF g i) (cl g i) (((mF g i) (cl g i)) ||| (2 ^ i)))]) E Z dX0_become_43 1 rfl (cl_lt _ _) (by decide) rfl (fun H locs Z => ?_)
        refine lv_iinc (v := nI (i + 1)) (lv' := [(3, .int (nI (i + 1))), (0, .ref q), (1, .int (nI g)), (2, .int (nI M))]) hx hb dX0_become_44 hl (k := 3) rfl (n_inc _ _ (by decide)) (by decide) rfl (fun ls hl => ?_)
        refine lv_goto (tgt := 20) hx hb dX0_become_47 (by decide) ?_
        exact ih20 (i + 1) (by omega) (by omega)   _ _ Z ls (lv_sub hl [1, 2, 3, 0] rfl)
  exact L20 (M + 1) 0 (by omega) (by omega)   _ _ Z ls (lv_sub hl [1, 2, 3, 0] rfl)
abbrev rm_k_X0_put : Room := { frames := 2, cells := 0, slots := 0, locals := 46 }
set_option maxHeartbeats 4000000 in
set_option maxRecDepth 100000 in
theorem k_X0_put (l : Launch) (D : va_G) (cA : ClassId) (q : Nat) (qm : Nat) (mc : Nat) (n : Nat) (mem : Nat → Nat) (k : Nat) (d : Nat) (hn : n < 2 ^ (2 * mc)) (hM : mc ≤ 7) (hk : k < mc) (hd : d < 4) : Ctv l yX0_put cX0_put 4 none rm_k_X0_put D cA [.ref q, .int (nI k), .int (nI d)] ([oG q qm mc n, aN cA qm 4 mem]) (fun (_ : Unit) => True) (fun _ => [oG q qm mc (pt n k d), aN cA qm 4 (mF (pt n k d) mc)]) := by
  refine st_v (by decide) (Nat.le_of_ble_eq_true rfl) ?_
  intro p e s m args below meth c A Q E ret Z ls hl
  have hx := E.1.1
  have hb := E.1.2.1
  have hl : lv_has ls 4 [(0, .ref q), (1, .int (nI k)), (2, .int (nI d))] := hl
  have h14 : 2 ^ (2 * mc) ≤ 2 ^ 14 := Nat.pow_le_pow_right (by decide) (by omega)
  have hp := pt_lt hn hk hd
  refine lv_aload_n hx hb dX0_put_0 rfl (lv_at hl 0 rfl) ?_
  refine gF_X0_15 E Z dX0_put_1 0 rfl rfl ?_
  refine lv_iconst (v := nI 3) hx hb dX0_put_4 (by decide) ?_
  refine lv_iconst (v := nI 2) hx hb dX0_put_5 (by decide) ?_
  refine lv_iload_n hx hb dX0_put_6 rfl (lv_at hl 1 rfl) ?_
  refine n_imul hx hb dX0_put_7 ?_
  refine n_ishl hx hb dX0_put_8 (by omega) ?_
  refine lv_iconst (v := (-1)) hx hb dX0_put_9 (by decide) ?_
  refine lv_ixor hx hb dX0_put_10 ?_
  refine lv_iand hx hb dX0_put_11 ?_
  refine r_top (y := nI (n - cl n k * 2 ^ (2 * k))) (nI_clr (by omega) (by omega)) ?_
  refine lv_istore_n (lv' := [(3, .int (nI (n - cl n k * 2 ^ (2 * k)))), (0, .ref q), (1, .int (nI k)), (2, .int (nI d))]) hx hb dX0_put_12 rfl hl (by decide) rfl (fun ls hl => ?_)
  refine lv_aload_n hx hb dX0_put_13 rfl (lv_at hl 1 rfl) ?_
  refine lv_iload_n hx hb dX0_put_14 rfl (lv_at hl 0 rfl) ?_
  refine lv_iload_n hx hb dX0_put_15 rfl (lv_at hl 3 rfl) ?_
  refine lv_iconst (v := nI 2) hx hb dX0_put_16 (by decide) ?_
  refine lv_iload_n hx hb dX0_put_17 rfl (lv_at hl 2 rfl) ?_
  refine n_imul hx hb dX0_put_18 ?_
  refine n_ishl hx hb dX0_put_19 (by omega) ?_
  refine n_ior hx hb dX0_put_20 ?_
  refine r_top (y := nI (pt n k d)) (congrArg nI (pt_or hd)) ?_
  refine lv_aload_n hx hb dX0_put_21 rfl (lv_at hl 1 rfl) ?_
  refine gF_X0_19 E Z dX0_put_22 0 rfl rfl ?_
  refine c_Vv (As := [.int (nI (pt n k d)), .int (nI mc)]) (rest := []) (w2 := fun _ => [oG q qm mc (pt n k d), aN cA qm 4 (mF (pt n k d) mc)]) E Z (k_X0_become l D cA q qm mc n mem (pt n k d) mc (by first | assumption | omega) (by first | assumption | omega)) wv_X0_32 ⟨rfl, rfl, Nat.le_of_ble_eq_true rfl, Nat.le_of_ble_eq_true rfl⟩ [0, 1] rfl rfl rfl rfl (q0 := 0) rfl (fun _ => rfl) (fun _ => rfl) rfl hl.1 rfl (Nat.le_of_ble_eq_true rfl) dX0_put_25 ⟨Nat.zero_le _, Nat.zero_le _⟩ (fun _ H locs hp25 Z => ?_)
  exact ret () Z dX0_put_28 rfl trivial
abbrev rm_k_X0_numbered : Room := { frames := 0, cells := 0, slots := 0, locals := 0 }
set_option maxHeartbeats 4000000 in
set_option maxRecDepth 100000 in
theorem k_X0_numbered (l : Launch) (D : va_G) (cA : ClassId) (q : Nat) (qm : Nat) (mc : Nat) (n : Nat)  : Cti l yX0_numbered cX0_numbered 1 (some .int) rm_k_X0_numbered D cA [.ref q] ([oG q qm mc n]) (fun (r : Int32) (_ : Unit) => r = nI n) (fun _ => [oG q qm mc n]) := by
  refine st_i (by decide) (Nat.le_of_ble_eq_true rfl) ?_
  intro p e s m args below meth c A Q E ret Z ls hl
  have hx := E.1.1
  have hb := E.1.2.1
  have hl : lv_has ls 1 [(0, .ref q)] := hl
  refine lv_aload_n hx hb dX0_numbered_0 rfl (lv_at hl 0 rfl) ?_
  refine gF_X0_15 E Z dX0_numbered_1 0 rfl rfl ?_
  exact ret () Z dX0_numbered_4 rfl rfl
abbrev rm_k_X0_isPlain : Room := { frames := 0, cells := 0, slots := 0, locals := 0 }
set_option maxHeartbeats 4000000 in
set_option maxRecDepth 100000 in
theorem k_X0_isPlain (l : Launch) (D : va_G) (cA : ClassId) (g : Nat) (M : Nat) (hg : g < 2 ^ 31) (hM : M ≤ 7) : Cti l yX0_isPlain cX0_isPlain 5 (some .boolean) rm_k_X0_isPlain D cA [.int (nI g), .int (nI M)] ([]) (fun (r : Int32) (_ : Unit) => r = bI (plain M g)) (fun _ => []) := by
  refine st_z (by decide) (Nat.le_of_ble_eq_true rfl) ?_
  intro p e s m args below meth c A Q E ret Z ls hl
  have hx := E.1.1
  have hb := E.1.2.1
  have hl : lv_has ls 5 [(0, .int (nI g)), (1, .int (nI M))] := hl
  refine lv_iconst (v := nI 0) hx hb dX0_isPlain_0 (by decide) ?_
  refine lv_istore_n (lv' := [(2, .int (nI 0)), (0, .int (nI g)), (1, .int (nI M))]) hx hb dX0_isPlain_1 rfl hl (by decide) rfl (fun ls hl => ?_)
  refine lv_iconst (v := nI 0) hx hb dX0_isPlain_2 (by decide) ?_
  refine lv_istore_n (lv' := [(3, .int (nI 0)), (2, .int (nI 0)), (0, .int (nI g)), (1, .int (nI M))]) hx hb dX0_isPlain_3 rfl hl (by decide) rfl (fun ls hl => ?_)
  have L4 : ∀ (n4 i : Nat), M + 1 ≤ i + n4 → i ≤ M → (∀ j, j < i → cl g j ≤ opn g j) → ∀ (H : Heap) (locs : List Loc), Wd D A s ([]) H locs → ∀ (ls : Array Slot), lv_has ls 5 [(0, .int (nI g)), (1, .int (nI M)), (2, .int (nI (opn g i))), (3, .int (nI i))] → W p l e rm_k_X0_isPlain s m args below meth c H locs 0 0 Q (F0 m 4 ls []) := by
    intro n4
    induction n4 with
    | zero => exact fun i h1 h2 => absurd h1 (by omega)
    | succ n4 ih4 =>
      intro i hn4 hi4 hv H locs Z ls hl
      refine lv_iload_n hx hb dX0_isPlain_4 rfl (lv_at hl 3 rfl) ?_
      refine lv_iload_n hx hb dX0_isPlain_5 rfl (lv_at hl 1 rfl) ?_
      refine n_icmp_ge (tgt := 41) hx hb dX0_isPlain_6 (by decide) (by omega) (by omega) (fun c6 => ?_) (fun c6 => ?_)
      · obtain rfl : M = i := by omega
        refine lv_iconst (v := nI 1) hx hb dX0_isPlain_41 (by decide) ?_
        exact ret () Z dX0_isPlain_42 (Or.inr nI_one) rfl (nI_one.trans (bI_t hv).symm)
      · refine lv_iload_n hx hb dX0_isPlain_9 rfl (lv_at hl 0 rfl) ?_
        refine lv_iconst (v := nI 2) hx hb dX0_isPlain_10 (by decide) ?_
        refine lv_iload_n hx hb dX0_isPlain_11 rfl (lv_at hl 3 rfl) ?_
        refine n_imul hx hb dX0_isPlain_12 ?_
        refine n_ishr hx hb dX0_isPlain_13 (by omega) (by omega) ?_
        refine lv_iconst (v := nI 3) hx hb dX0_isPlain_14 (by decide) ?_
        refine n_iand3 hx hb dX0_isPlain_15 ?_
        refine r_top (y := nI (cl g i)) rfl ?_
        refine lv_istore (lv' := [(4, .int (nI (cl g i))), (0, .int (nI g)), (1, .int (nI M)), (2, .int (nI (opn g i))), (3, .int (nI i))]) hx hb dX0_isPlain_16 hl (by decide) rfl (fun ls hl => ?_)
        have h4 := cl_lt g i
        have ho := opn_le g i
        refine lv_iload hx hb dX0_isPlain_18 (lv_at hl 0 rfl) ?_
        refine lv_iload_n hx hb dX0_isPlain_20 rfl (lv_at hl 3 rfl) ?_
        refine n_icmp_le (tgt := 26) hx hb dX0_isPlain_21 (by decide) (by omega) (by omega) (fun c21 => ?_) (fun c21 => ?_)
        · refine lv_iload hx hb dX0_isPlain_26 (lv_at hl 0 rfl) ?_
          refine lv_iload_n hx hb dX0_isPlain_28 rfl (lv_at hl 3 rfl) ?_
          refine n_icmp_ne (tgt := 35) hx hb dX0_isPlain_29 (by decide) (by omega) (by omega) (fun c29 => ?_) (fun c29 => ?_)
          · replace hl : lv_has ls 5 [(4, .int (nI (cl g i))), (0, .int (nI g)), (1, .int (nI M)), (2, .int (nI (opn g (i + 1)))), (3, .int (nI i))] := by rw [show opn g (i + 1) = opn g i from if_neg c29]; exact hl
            refine lv_iinc (v := nI (i + 1)) (lv' := [(3, .int (nI (i + 1))), (4, .int (nI (cl g i))), (0, .int (nI g)), (1, .int (nI M)), (2, .int (nI (opn g (i + 1))))]) hx hb dX0_isPlain_35 hl (k := 4) rfl (n_inc _ _ (by decide)) (by decide) rfl (fun ls hl => ?_)
            refine lv_goto (tgt := 4) hx hb dX0_isPlain_38 (by decide) ?_
            exact ih4 (i + 1) (by omega) (by omega)  (fun j h => (Nat.lt_succ_iff_lt_or_eq.mp h).elim (hv j) (fun q => q ▸ c21)) _ _ Z ls (lv_sub hl [2, 3, 4, 0] rfl)
          · refine lv_iinc (v := nI (opn g i + 1)) (lv' := [(2, .int (nI (opn g i + 1))), (4, .int (nI (cl g i))), (0, .int (nI g)), (1, .int (nI M)), (3, .int (nI i))]) hx hb dX0_isPlain_32 hl (k := 3) rfl (n_inc _ _ (by decide)) (by decide) rfl (fun ls hl => ?_)
            replace hl : lv_has ls 5 [(2, .int (nI (opn g (i + 1)))), (4, .int (nI (cl g i))), (0, .int (nI g)), (1, .int (nI M)), (3, .int (nI i))] := by rw [show opn g (i + 1) = opn g i + 1 from if_pos c29]; exact hl
            refine lv_iinc (v := nI (i + 1)) (lv' := [(3, .int (nI (i + 1))), (2, .int (nI (opn g (i + 1)))), (4, .int (nI (cl g i))), (0, .int (nI g)), (1, .int (nI M))]) hx hb dX0_isPlain_35 hl (k := 4) rfl (n_inc _ _ (by decide)) (by decide) rfl (fun ls hl => ?_)
            refine lv_goto (tgt := 4) hx hb dX0_isPlain_38 (by decide) ?_
            exact ih4 (i + 1) (by omega) (by omega)  (fun j h => (Nat.lt_succ_iff_lt_or_eq.mp h).elim (hv j) (fun q => q ▸ c21)) _ _ Z ls (lv_sub hl [3, 4, 1, 0] rfl)
        · refine lv_iconst (v := nI 0) hx hb dX0_isPlain_24 (by decide) ?_
          exact ret () Z dX0_isPlain_25 (Or.inl nI_0) rfl (nI_0.trans (bI_f (fun h => absurd (h i (by omega)) (by omega))).symm)
  exact L4 (M + 1) 0 (by omega) (by omega)  (fun j h => absurd h (Nat.not_lt_zero j)) _ _ Z ls (lv_sub hl [2, 3, 1, 0] rfl)
abbrev rm_k_X0_homeOf : Room := { frames := 1, cells := 0, slots := 0, locals := 20 }
set_option maxHeartbeats 4000000 in
set_option maxRecDepth 100000 in
theorem k_X0_homeOf (l : Launch) (D : va_G) (cA : ClassId) (q : Nat) (qm : Nat) (mc : Nat) (n : Nat) (mem : Nat → Nat) (st : Nat) (hm0 : mOk mc n mem) (hM : mc ≤ 7) : Cti l yX0_homeOf cX0_homeOf 6 (some .int) rm_k_X0_homeOf D cA [.ref q, .int (nI st)] ([oG q qm mc n, aN cA qm 4 mem]) (fun (r : Int32) (_ : Unit) => r = nI (hm mc n st)) (fun _ => [oG q qm mc n, aN cA qm 4 mem]) := by
  refine st_i (by decide) (Nat.le_of_ble_eq_true rfl) ?_
  intro p e s m args below meth c A Q E ret Z ls hl
  have hx := E.1.1
  have hb := E.1.2.1
  have hl : lv_has ls 6 [(0, .ref q), (1, .int (nI st))] := hl
  refine lv_iconst (v := nI 0) hx hb dX0_homeOf_0 (by decide) ?_
  refine lv_istore_n (lv' := [(2, .int (nI 0)), (0, .ref q), (1, .int (nI st))]) hx hb dX0_homeOf_1 rfl hl (by decide) rfl (fun ls hl => ?_)
  refine lv_iconst (v := nI 0) hx hb dX0_homeOf_2 (by decide) ?_
  refine lv_istore_n (lv' := [(3, .int (nI 0)), (2, .int (nI 0)), (0, .ref q), (1, .int (nI st))]) hx hb dX0_homeOf_3 rfl hl (by decide) rfl (fun ls hl => ?_)
  refine lv_iconst (v := nI 0) hx hb dX0_homeOf_4 (by decide) ?_
  refine lv_istore (lv' := [(4, .int (nI 0)), (3, .int (nI 0)), (2, .int (nI 0)), (0, .ref q), (1, .int (nI st))]) hx hb dX0_homeOf_5 hl (by decide) rfl (fun ls hl => ?_)
  have L7 : ∀ (n7 k : Nat), 4 + 1 ≤ k + n7 → k ≤ 4 → ∀ (H : Heap) (locs : List Loc), Wd D A s ([oG q qm mc n, aN cA qm 4 mem]) H locs → ∀ (ls : Array Slot), lv_has ls 6 [(0, .ref q), (1, .int (nI st)), (2, .int (nI (hmi mc n st k))), (3, .int (nI (mx mc n st k))), (4, .int (nI k))] → W p l e rm_k_X0_homeOf s m args below meth c H locs 0 0 Q (F0 m 7 ls []) := by
    intro n7
    induction n7 with
    | zero => exact fun k h1 h2 => absurd h1 (by omega)
    | succ n7 ih7 =>
      intro k hn7 hi7  H locs Z ls hl
      refine lv_iload hx hb dX0_homeOf_7 (lv_at hl 4 rfl) ?_
      refine lv_iconst (v := nI 4) hx hb dX0_homeOf_9 (by decide) ?_
      refine n_icmp_ge (tgt := 45) hx hb dX0_homeOf_10 (by decide) (by omega) (by omega) (fun c10 => ?_) (fun c10 => ?_)
      · obtain rfl : 4 = k := by omega
        refine lv_iload_n hx hb dX0_homeOf_45 rfl (lv_at hl 2 rfl) ?_
        exact ret () Z dX0_homeOf_46 rfl rfl
      · refine lv_aload_n hx hb dX0_homeOf_13 rfl (lv_at hl 0 rfl) ?_
        refine gF_X0_9 E Z dX0_homeOf_14 0 rfl rfl ?_
        refine lv_iload hx hb dX0_homeOf_17 (lv_at hl 4 rfl) ?_
        refine r_ald E Z dX0_homeOf_19 1 rfl (by omega) (by decide) ?_
        refine lv_iload_n hx hb dX0_homeOf_20 rfl (lv_at hl 1 rfl) ?_
        refine n_iand hx hb dX0_homeOf_21 ?_
        refine c_Si (As := [.int (nI ((mem k) &&& st))]) (rest := []) (w2 := fun _ => [oG q qm mc n, aN cA qm 4 mem]) E Z (k_J6_bitCount_0f7a4 l D cA ((mem k) &&& st) (Nat.lt_of_le_of_lt Nat.and_le_left (hm0 k (by omega)).1)) ws_X0_36 ⟨rfl, rfl, Nat.le_of_ble_eq_true rfl, Nat.le_of_ble_eq_true rfl⟩ [] rfl rfl (fun _ => rfl) (fun _ => rfl) rfl hl.1 rfl (Nat.le_of_ble_eq_true rfl) dX0_homeOf_22 ⟨Nat.zero_le _, Nat.zero_le _⟩ (fun r22 _ H locs hp22 Z => ?_)
        subst hp22
        refine r_top (y := nI (ic mc n st k)) (congrArg nI (pop_ic hm0 hM (by omega))) ?_
        refine lv_istore (lv' := [(5, .int (nI (ic mc n st k))), (0, .ref q), (1, .int (nI st)), (2, .int (nI (hmi mc n st k))), (3, .int (nI (mx mc n st k))), (4, .int (nI k))]) hx hb dX0_homeOf_25 hl (by decide) rfl (fun ls hl => ?_)
        have h1 := ic_le mc n st k
        have h2 := mx_le mc n st k
        refine lv_iload hx hb dX0_homeOf_27 (lv_at hl 0 rfl) ?_
        refine lv_iload_n hx hb dX0_homeOf_29 rfl (lv_at hl 4 rfl) ?_
        refine n_icmp_le (tgt := 39) hx hb dX0_homeOf_30 (by decide) (by omega) (by omega) (fun c30 => ?_) (fun c30 => ?_)
        · replace hl : lv_has ls 6 [(5, .int (nI (ic mc n st k))), (0, .ref q), (1, .int (nI st)), (2, .int (nI (hmi mc n st (k + 1)))), (3, .int (nI (mx mc n st k))), (4, .int (nI k))] := by rw [(mx_f c30).1]; exact hl
          replace hl : lv_has ls 6 [(5, .int (nI (ic mc n st k))), (0, .ref q), (1, .int (nI st)), (2, .int (nI (hmi mc n st (k + 1)))), (3, .int (nI (mx mc n st (k + 1)))), (4, .int (nI k))] := by rw [(mx_f c30).2]; exact hl
          refine lv_iinc (v := nI (k + 1)) (lv' := [(4, .int (nI (k + 1))), (5, .int (nI (ic mc n st k))), (0, .ref q), (1, .int (nI st)), (2, .int (nI (hmi mc n st (k + 1)))), (3, .int (nI (mx mc n st (k + 1))))]) hx hb dX0_homeOf_39 hl (k := 5) rfl (n_inc _ _ (by decide)) (by decide) rfl (fun ls hl => ?_)
          refine lv_goto (tgt := 7) hx hb dX0_homeOf_42 (by decide) ?_
          exact ih7 (k + 1) (by omega) (by omega)   _ _ Z ls (lv_sub hl [2, 3, 4, 5, 0] rfl)
        · refine lv_iload hx hb dX0_homeOf_33 (lv_at hl 0 rfl) ?_
          refine lv_istore_n (lv' := [(3, .int (nI (ic mc n st k))), (5, .int (nI (ic mc n st k))), (0, .ref q), (1, .int (nI st)), (2, .int (nI (hmi mc n st k))), (4, .int (nI k))]) hx hb dX0_homeOf_35 rfl hl (by decide) rfl (fun ls hl => ?_)
          refine lv_iload hx hb dX0_homeOf_36 (lv_at hl 5 rfl) ?_
          refine lv_istore_n (lv' := [(2, .int (nI k)), (3, .int (nI (ic mc n st k))), (5, .int (nI (ic mc n st k))), (0, .ref q), (1, .int (nI st)), (4, .int (nI k))]) hx hb dX0_homeOf_38 rfl hl (by decide) rfl (fun ls hl => ?_)
          replace hl : lv_has ls 6 [(2, .int (nI (hmi mc n st (k + 1)))), (3, .int (nI (ic mc n st k))), (5, .int (nI (ic mc n st k))), (0, .ref q), (1, .int (nI st)), (4, .int (nI k))] := by rw [(mx_t c30).1]; exact hl
          replace hl : lv_has ls 6 [(2, .int (nI (hmi mc n st (k + 1)))), (3, .int (nI (mx mc n st (k + 1)))), (5, .int (nI (ic mc n st k))), (0, .ref q), (1, .int (nI st)), (4, .int (nI k))] := by rw [(mx_t c30).2]; exact hl
          refine lv_iinc (v := nI (k + 1)) (lv' := [(4, .int (nI (k + 1))), (2, .int (nI (hmi mc n st (k + 1)))), (3, .int (nI (mx mc n st (k + 1)))), (5, .int (nI (ic mc n st k))), (0, .ref q), (1, .int (nI st))]) hx hb dX0_homeOf_39 hl (k := 5) rfl (n_inc _ _ (by decide)) (by decide) rfl (fun ls hl => ?_)
          refine lv_goto (tgt := 7) hx hb dX0_homeOf_42 (by decide) ?_
          exact ih7 (k + 1) (by omega) (by omega)   _ _ Z ls (lv_sub hl [4, 5, 1, 2, 0] rfl)
  exact L7 (4 + 1) 0 (by omega) (by omega)   _ _ Z ls (lv_sub hl [3, 4, 2, 1, 0] rfl)
abbrev rm_k_X0_wandersOf : Room := { frames := 2, cells := 0, slots := 0, locals := 45 }
set_option maxHeartbeats 4000000 in
set_option maxRecDepth 100000 in
theorem k_X0_wandersOf (l : Launch) (D : va_G) (cA : ClassId) (q : Nat) (qm : Nat) (mc : Nat) (n : Nat) (mem : Nat → Nat) (st : Nat) (hm0 : mOk mc n mem) (hM : mc ≤ 7) (hs : st < 2 ^ mc) : Cti l yX0_wandersOf cX0_wandersOf 2 (some .int) rm_k_X0_wandersOf D cA [.ref q, .int (nI st)] ([oG q qm mc n, aN cA qm 4 mem]) (fun (r : Int32) (_ : Unit) => r = nI (wn mc n st)) (fun _ => [oG q qm mc n, aN cA qm 4 mem]) := by
  refine st_i (by decide) (Nat.le_of_ble_eq_true rfl) ?_
  intro p e s m args below meth c A Q E ret Z ls hl
  have hx := E.1.1
  have hb := E.1.2.1
  have hl : lv_has ls 2 [(0, .ref q), (1, .int (nI st))] := hl
  have h7 : 2 ^ mc ≤ 2 ^ 7 := Nat.pow_le_pow_right (by decide) hM
  refine lv_iload_n hx hb dX0_wandersOf_0 rfl (lv_at hl 1 rfl) ?_
  refine lv_aload_n hx hb dX0_wandersOf_1 rfl (lv_at hl 0 rfl) ?_
  refine gF_X0_9 E Z dX0_wandersOf_2 0 rfl rfl ?_
  refine lv_aload_n hx hb dX0_wandersOf_5 rfl (lv_at hl 0 rfl) ?_
  refine lv_iload_n hx hb dX0_wandersOf_6 rfl (lv_at hl 1 rfl) ?_
  refine c_Vi (As := [.int (nI st)]) (rest := [.ref qm, .int (nI st)]) (w2 := fun _ => [oG q qm mc n, aN cA qm 4 mem]) E Z (k_X0_homeOf l D cA q qm mc n mem st (by first | assumption | omega) (by first | assumption | omega)) wv_X0_41 ⟨rfl, rfl, Nat.le_of_ble_eq_true rfl, Nat.le_of_ble_eq_true rfl⟩ [0, 1] rfl rfl rfl rfl (q0 := 0) rfl (fun _ => rfl) (fun _ => rfl) rfl hl.1 rfl (Nat.le_of_ble_eq_true rfl) dX0_wandersOf_7 ⟨Nat.zero_le _, Nat.zero_le _⟩ (fun r7 _ H locs hp7 Z => ?_)
  subst hp7
  refine r_ald E Z dX0_wandersOf_10 1 rfl (hm_lt _ _ _) (by decide) ?_
  refine lv_iconst (v := (-1)) hx hb dX0_wandersOf_11 (by decide) ?_
  refine lv_ixor hx hb dX0_wandersOf_12 ?_
  refine lv_iand hx hb dX0_wandersOf_13 ?_
  refine r_top (y := nI (andn st (mem (hm mc n st)))) (nI_andn (by omega)) ?_
  refine c_Si (As := [.int (nI (andn st (mem (hm mc n st))))]) (rest := []) (w2 := fun _ => [oG q qm mc n, aN cA qm 4 mem]) E Z (k_J6_bitCount_0f7a4 l D cA (andn st (mem (hm mc n st))) (andn_lt _ (by omega))) ws_X0_36 ⟨rfl, rfl, Nat.le_of_ble_eq_true rfl, Nat.le_of_ble_eq_true rfl⟩ [] rfl rfl (fun _ => rfl) (fun _ => rfl) rfl hl.1 rfl (Nat.le_of_ble_eq_true rfl) dX0_wandersOf_14 ⟨Nat.zero_le _, Nat.zero_le _⟩ (fun r14 _ H locs hp14 Z => ?_)
  subst hp14
  exact ret () Z dX0_wandersOf_17 rfl (congrArg nI (pop_wn hm0 hM hs))
abbrev rm_k_X0_idleOf : Room := { frames := 2, cells := 0, slots := 0, locals := 45 }
set_option maxHeartbeats 4000000 in
set_option maxRecDepth 100000 in
theorem k_X0_idleOf (l : Launch) (D : va_G) (cA : ClassId) (q : Nat) (qm : Nat) (mc : Nat) (n : Nat) (mem : Nat → Nat) (st : Nat) (hm0 : mOk mc n mem) (hM : mc ≤ 7) (hs : st < 2 ^ mc) : Cti l yX0_idleOf cX0_idleOf 2 (some .int) rm_k_X0_idleOf D cA [.ref q, .int (nI st)] ([oG q qm mc n, aN cA qm 4 mem]) (fun (r : Int32) (_ : Unit) => r = nI (il mc n st)) (fun _ => [oG q qm mc n, aN cA qm 4 mem]) := by
  refine st_i (by decide) (Nat.le_of_ble_eq_true rfl) ?_
  intro p e s m args below meth c A Q E ret Z ls hl
  have hx := E.1.1
  have hb := E.1.2.1
  have hl : lv_has ls 2 [(0, .ref q), (1, .int (nI st))] := hl
  refine lv_aload_n hx hb dX0_idleOf_0 rfl (lv_at hl 0 rfl) ?_
  refine gF_X0_9 E Z dX0_idleOf_1 0 rfl rfl ?_
  refine lv_aload_n hx hb dX0_idleOf_4 rfl (lv_at hl 0 rfl) ?_
  refine lv_iload_n hx hb dX0_idleOf_5 rfl (lv_at hl 1 rfl) ?_
  refine c_Vi (As := [.int (nI st)]) (rest := [.ref qm]) (w2 := fun _ => [oG q qm mc n, aN cA qm 4 mem]) E Z (k_X0_homeOf l D cA q qm mc n mem st (by first | assumption | omega) (by first | assumption | omega)) wv_X0_41 ⟨rfl, rfl, Nat.le_of_ble_eq_true rfl, Nat.le_of_ble_eq_true rfl⟩ [0, 1] rfl rfl rfl rfl (q0 := 0) rfl (fun _ => rfl) (fun _ => rfl) rfl hl.1 rfl (Nat.le_of_ble_eq_true rfl) dX0_idleOf_6 ⟨Nat.zero_le _, Nat.zero_le _⟩ (fun r6 _ H locs hp6 Z => ?_)
  subst hp6
  refine r_ald E Z dX0_idleOf_9 1 rfl (hm_lt _ _ _) (by decide) ?_
  refine lv_iload_n hx hb dX0_idleOf_10 rfl (lv_at hl 1 rfl) ?_
  refine lv_iconst (v := (-1)) hx hb dX0_idleOf_11 (by decide) ?_
  refine lv_ixor hx hb dX0_idleOf_12 ?_
  refine lv_iand hx hb dX0_idleOf_13 ?_
  refine r_top (y := nI (andn (mem (hm mc n st)) st)) (nI_andn (hm0 _ (hm_lt _ _ _)).1) ?_
  refine c_Si (As := [.int (nI (andn (mem (hm mc n st)) st))]) (rest := []) (w2 := fun _ => [oG q qm mc n, aN cA qm 4 mem]) E Z (k_J6_bitCount_0f7a4 l D cA (andn (mem (hm mc n st)) st) (andn_lt _ (hm0 _ (hm_lt _ _ _)).1)) ws_X0_36 ⟨rfl, rfl, Nat.le_of_ble_eq_true rfl, Nat.le_of_ble_eq_true rfl⟩ [] rfl rfl (fun _ => rfl) (fun _ => rfl) rfl hl.1 rfl (Nat.le_of_ble_eq_true rfl) dX0_idleOf_14 ⟨Nat.zero_le _, Nat.zero_le _⟩ (fun r14 _ H locs hp14 Z => ?_)
  subst hp14
  exact ret () Z dX0_idleOf_17 rfl (congrArg nI (pop_il hm0 hM hs))
abbrev rm_k_X0_squares : Room := { frames := 1, cells := 0, slots := 0, locals := 20 }
set_option maxHeartbeats 4000000 in
set_option maxRecDepth 100000 in
theorem k_X0_squares (l : Launch) (D : va_G) (cA : ClassId) (q : Nat) (qm : Nat) (mc : Nat) (n : Nat) (mem : Nat → Nat) (hm0 : mOk mc n mem) (hM : mc ≤ 7) : Cti l yX0_squares cX0_squares 4 (some .int) rm_k_X0_squares D cA [.ref q] ([oG q qm mc n, aN cA qm 4 mem]) (fun (r : Int32) (_ : Unit) => r = nI (sm (sq mc n) 4)) (fun _ => [oG q qm mc n, aN cA qm 4 mem]) := by
  refine st_i (by decide) (Nat.le_of_ble_eq_true rfl) ?_
  intro p e s m args below meth c A Q E ret Z ls hl
  have hx := E.1.1
  have hb := E.1.2.1
  have hl : lv_has ls 4 [(0, .ref q)] := hl
  refine lv_iconst (v := nI 0) hx hb dX0_squares_0 (by decide) ?_
  refine lv_istore_n (lv' := [(1, .int (nI 0)), (0, .ref q)]) hx hb dX0_squares_1 rfl hl (by decide) rfl (fun ls hl => ?_)
  refine lv_iconst (v := nI 0) hx hb dX0_squares_2 (by decide) ?_
  refine lv_istore_n (lv' := [(2, .int (nI 0)), (1, .int (nI 0)), (0, .ref q)]) hx hb dX0_squares_3 rfl hl (by decide) rfl (fun ls hl => ?_)
  have L4 : ∀ (n4 k : Nat), 4 + 1 ≤ k + n4 → k ≤ 4 → ∀ (H : Heap) (locs : List Loc), Wd D A s ([oG q qm mc n, aN cA qm 4 mem]) H locs → ∀ (ls : Array Slot), lv_has ls 4 [(0, .ref q), (1, .int (nI (sm (sq mc n) k))), (2, .int (nI k))] → W p l e rm_k_X0_squares s m args below meth c H locs 0 0 Q (F0 m 4 ls []) := by
    intro n4
    induction n4 with
    | zero => exact fun k h1 h2 => absurd h1 (by omega)
    | succ n4 ih4 =>
      intro k hn4 hi4  H locs Z ls hl
      refine lv_iload_n hx hb dX0_squares_4 rfl (lv_at hl 2 rfl) ?_
      refine lv_iconst (v := nI 4) hx hb dX0_squares_5 (by decide) ?_
      refine n_icmp_ge (tgt := 31) hx hb dX0_squares_6 (by decide) (by omega) (by omega) (fun c6 => ?_) (fun c6 => ?_)
      · obtain rfl : 4 = k := by omega
        refine lv_iload_n hx hb dX0_squares_31 rfl (lv_at hl 1 rfl) ?_
        exact ret () Z dX0_squares_32 rfl rfl
      · refine lv_aload_n hx hb dX0_squares_9 rfl (lv_at hl 0 rfl) ?_
        refine gF_X0_9 E Z dX0_squares_10 0 rfl rfl ?_
        refine lv_iload_n hx hb dX0_squares_13 rfl (lv_at hl 2 rfl) ?_
        refine r_ald E Z dX0_squares_14 1 rfl (by omega) (by decide) ?_
        refine c_Si (As := [.int (nI (mem k))]) (rest := []) (w2 := fun _ => [oG q qm mc n, aN cA qm 4 mem]) E Z (k_J6_bitCount_0f7a4 l D cA (mem k) (hm0 k (by omega)).1) ws_X0_36 ⟨rfl, rfl, Nat.le_of_ble_eq_true rfl, Nat.le_of_ble_eq_true rfl⟩ [] rfl rfl (fun _ => rfl) (fun _ => rfl) rfl hl.1 rfl (Nat.le_of_ble_eq_true rfl) dX0_squares_15 ⟨Nat.zero_le _, Nat.zero_le _⟩ (fun r15 _ H locs hp15 Z => ?_)
        subst hp15
        refine r_top (y := nI (ic mc n (2 ^ mc - 1) k)) (congrArg nI (pop_full hm0 hM (by omega))) ?_
        refine lv_istore_n (lv' := [(3, .int (nI (ic mc n (2 ^ mc - 1) k))), (0, .ref q), (1, .int (nI (sm (sq mc n) k))), (2, .int (nI k))]) hx hb dX0_squares_18 rfl hl (by decide) rfl (fun ls hl => ?_)
        refine lv_iload_n hx hb dX0_squares_19 rfl (lv_at hl 2 rfl) ?_
        refine lv_iload_n hx hb dX0_squares_20 rfl (lv_at hl 0 rfl) ?_
        refine lv_iload_n hx hb dX0_squares_21 rfl (lv_at hl 0 rfl) ?_
        refine n_imul hx hb dX0_squares_22 ?_
        refine n_iadd hx hb dX0_squares_23 ?_
        refine lv_istore_n (lv' := [(1, .int (nI (sm (sq mc n) k + ((ic mc n (2 ^ mc - 1) k) * (ic mc n (2 ^ mc - 1) k))))), (3, .int (nI (ic mc n (2 ^ mc - 1) k))), (0, .ref q), (2, .int (nI k))]) hx hb dX0_squares_24 rfl hl (by decide) rfl (fun ls hl => ?_)
        refine lv_iinc (v := nI (k + 1)) (lv' := [(2, .int (nI (k + 1))), (1, .int (nI (sm (sq mc n) k + ((ic mc n (2 ^ mc - 1) k) * (ic mc n (2 ^ mc - 1) k))))), (3, .int (nI (ic mc n (2 ^ mc - 1) k))), (0, .ref q)]) hx hb dX0_squares_25 hl (k := 3) rfl (n_inc _ _ (by decide)) (by decide) rfl (fun ls hl => ?_)
        refine lv_goto (tgt := 4) hx hb dX0_squares_28 (by decide) ?_
        exact ih4 (k + 1) (by omega) (by omega)   _ _ Z ls (lv_sub hl [3, 1, 0] rfl)
  exact L4 (4 + 1) 0 (by omega) (by omega)   _ _ Z ls (lv_sub hl [2, 1, 0] rfl)
abbrev rm_k_X0_largest : Room := { frames := 1, cells := 0, slots := 0, locals := 21 }
set_option maxHeartbeats 4000000 in
set_option maxRecDepth 100000 in
theorem k_X0_largest (l : Launch) (D : va_G) (cA : ClassId) (q : Nat) (qm : Nat) (mc : Nat) (n : Nat) (mem : Nat → Nat) (hm0 : mOk mc n mem) (hM : mc ≤ 7) : Cti l yX0_largest cX0_largest 3 (some .int) rm_k_X0_largest D cA [.ref q] ([oG q qm mc n, aN cA qm 4 mem]) (fun (r : Int32) (_ : Unit) => r = nI (lrg mc n 4)) (fun _ => [oG q qm mc n, aN cA qm 4 mem]) := by
  refine st_i (by decide) (Nat.le_of_ble_eq_true rfl) ?_
  intro p e s m args below meth c A Q E ret Z ls hl
  have hx := E.1.1
  have hb := E.1.2.1
  have hl : lv_has ls 3 [(0, .ref q)] := hl
  refine lv_iconst (v := nI 0) hx hb dX0_largest_0 (by decide) ?_
  refine lv_istore_n (lv' := [(1, .int (nI 0)), (0, .ref q)]) hx hb dX0_largest_1 rfl hl (by decide) rfl (fun ls hl => ?_)
  refine lv_iconst (v := nI 0) hx hb dX0_largest_2 (by decide) ?_
  refine lv_istore_n (lv' := [(2, .int (nI 0)), (1, .int (nI 0)), (0, .ref q)]) hx hb dX0_largest_3 rfl hl (by decide) rfl (fun ls hl => ?_)
  have L4 : ∀ (n4 k : Nat), 4 + 1 ≤ k + n4 → k ≤ 4 → ∀ (H : Heap) (locs : List Loc), Wd D A s ([oG q qm mc n, aN cA qm 4 mem]) H locs → ∀ (ls : Array Slot), lv_has ls 3 [(0, .ref q), (1, .int (nI (lrg mc n k))), (2, .int (nI k))] → W p l e rm_k_X0_largest s m args below meth c H locs 0 0 Q (F0 m 4 ls []) := by
    intro n4
    induction n4 with
    | zero => exact fun k h1 h2 => absurd h1 (by omega)
    | succ n4 ih4 =>
      intro k hn4 hi4  H locs Z ls hl
      refine lv_iload_n hx hb dX0_largest_4 rfl (lv_at hl 2 rfl) ?_
      refine lv_iconst (v := nI 4) hx hb dX0_largest_5 (by decide) ?_
      refine n_icmp_ge (tgt := 29) hx hb dX0_largest_6 (by decide) (by omega) (by omega) (fun c6 => ?_) (fun c6 => ?_)
      · obtain rfl : 4 = k := by omega
        refine lv_iload_n hx hb dX0_largest_29 rfl (lv_at hl 1 rfl) ?_
        exact ret () Z dX0_largest_30 rfl rfl
      · refine lv_iload_n hx hb dX0_largest_9 rfl (lv_at hl 1 rfl) ?_
        refine lv_aload_n hx hb dX0_largest_10 rfl (lv_at hl 0 rfl) ?_
        refine gF_X0_9 E Z dX0_largest_11 0 rfl rfl ?_
        refine lv_iload_n hx hb dX0_largest_14 rfl (lv_at hl 2 rfl) ?_
        refine r_ald E Z dX0_largest_15 1 rfl (by omega) (by decide) ?_
        refine c_Si (As := [.int (nI (mem k))]) (rest := [.int (nI (lrg mc n k))]) (w2 := fun _ => [oG q qm mc n, aN cA qm 4 mem]) E Z (k_J6_bitCount_0f7a4 l D cA (mem k) (hm0 k (by omega)).1) ws_X0_36 ⟨rfl, rfl, Nat.le_of_ble_eq_true rfl, Nat.le_of_ble_eq_true rfl⟩ [] rfl rfl (fun _ => rfl) (fun _ => rfl) rfl hl.1 rfl (Nat.le_of_ble_eq_true rfl) dX0_largest_16 ⟨Nat.zero_le _, Nat.zero_le _⟩ (fun r16 _ H locs hp16 Z => ?_)
        subst hp16
        refine r_top (y := nI (ic mc n (2 ^ mc - 1) k)) (congrArg nI (pop_full hm0 hM (by omega))) ?_
        have h1 := ic_le mc n (2 ^ mc - 1) k
        have h2 := lrg_le mc n k
        refine n_max E hl.1 mML_X0_44 dX0_largest_19 (Nat.le_of_ble_eq_true rfl) (Nat.le_of_ble_eq_true rfl) ⟨Nat.zero_le _, Nat.zero_le _⟩ (by omega) (by omega) ?_
        refine lv_istore_n (lv' := [(1, .int (nI (max (lrg mc n k) (ic mc n (2 ^ mc - 1) k)))), (0, .ref q), (2, .int (nI k))]) hx hb dX0_largest_22 rfl hl (by decide) rfl (fun ls hl => ?_)
        refine lv_iinc (v := nI (k + 1)) (lv' := [(2, .int (nI (k + 1))), (1, .int (nI (max (lrg mc n k) (ic mc n (2 ^ mc - 1) k)))), (0, .ref q)]) hx hb dX0_largest_23 hl (k := 2) rfl (n_inc _ _ (by decide)) (by decide) rfl (fun ls hl => ?_)
        refine lv_goto (tgt := 4) hx hb dX0_largest_26 (by decide) ?_
        exact ih4 (k + 1) (by omega) (by omega)   _ _ Z ls (lv_sub hl [2, 1, 0] rfl)
  exact L4 (4 + 1) 0 (by omega) (by omega)   _ _ Z ls (lv_sub hl [2, 1, 0] rfl)
abbrev rm_k_X0_moved : Room := { frames := 0, cells := 0, slots := 0, locals := 0 }
set_option maxHeartbeats 4000000 in
set_option maxRecDepth 100000 in
theorem k_X0_moved (l : Launch) (D : va_G) (cA : ClassId) (a : Nat) (b : Nat) (ha : a < 2 ^ 31) (hb0 : b < 2 ^ 31) : Cti l yX0_moved cX0_moved 4 (some .int) rm_k_X0_moved D cA [.int (nI a), .int (nI b)] ([]) (fun (r : Int32) (_ : Unit) => r = nI (sm (mv1 a b) 7)) (fun _ => []) := by
  refine st_i (by decide) (Nat.le_of_ble_eq_true rfl) ?_
  intro p e s m args below meth c A Q E ret Z ls hl
  have hx := E.1.1
  have hb := E.1.2.1
  have hl : lv_has ls 4 [(0, .int (nI a)), (1, .int (nI b))] := hl
  have hab : a ^^^ b < 2 ^ 31 := Nat.xor_lt_two_pow ha hb0
  refine lv_iconst (v := nI 0) hx hb dX0_moved_0 (by decide) ?_
  refine lv_istore_n (lv' := [(2, .int (nI 0)), (0, .int (nI a)), (1, .int (nI b))]) hx hb dX0_moved_1 rfl hl (by decide) rfl (fun ls hl => ?_)
  refine lv_iconst (v := nI 0) hx hb dX0_moved_2 (by decide) ?_
  refine lv_istore_n (lv' := [(3, .int (nI 0)), (2, .int (nI 0)), (0, .int (nI a)), (1, .int (nI b))]) hx hb dX0_moved_3 rfl hl (by decide) rfl (fun ls hl => ?_)
  have L4 : ∀ (n4 k : Nat), 7 + 1 ≤ k + n4 → k ≤ 7 → ∀ (H : Heap) (locs : List Loc), Wd D A s ([]) H locs → ∀ (ls : Array Slot), lv_has ls 4 [(0, .int (nI a)), (1, .int (nI b)), (2, .int (nI (sm (mv1 a b) k))), (3, .int (nI k))] → W p l e rm_k_X0_moved s m args below meth c H locs 0 0 Q (F0 m 4 ls []) := by
    intro n4
    induction n4 with
    | zero => exact fun k h1 h2 => absurd h1 (by omega)
    | succ n4 ih4 =>
      intro k hn4 hi4  H locs Z ls hl
      refine lv_iload_n hx hb dX0_moved_4 rfl (lv_at hl 3 rfl) ?_
      refine lv_bipush (v := nI 7) hx hb dX0_moved_5 (by decide) ?_
      refine n_icmp_ge (tgt := 31) hx hb dX0_moved_7 (by decide) (by omega) (by omega) (fun c7 => ?_) (fun c7 => ?_)
      · obtain rfl : 7 = k := by omega
        refine lv_iload_n hx hb dX0_moved_31 rfl (lv_at hl 2 rfl) ?_
        exact ret () Z dX0_moved_32 rfl rfl
      · refine lv_iload_n hx hb dX0_moved_10 rfl (lv_at hl 0 rfl) ?_
        refine lv_iload_n hx hb dX0_moved_11 rfl (lv_at hl 1 rfl) ?_
        refine n_ixor hx hb dX0_moved_12 ?_
        refine lv_iconst (v := nI 2) hx hb dX0_moved_13 (by decide) ?_
        refine lv_iload_n hx hb dX0_moved_14 rfl (lv_at hl 3 rfl) ?_
        refine n_imul hx hb dX0_moved_15 ?_
        refine n_ishr hx hb dX0_moved_16 (by omega) (by omega) ?_
        refine lv_iconst (v := nI 3) hx hb dX0_moved_17 (by decide) ?_
        refine n_iand3 hx hb dX0_moved_18 ?_
        refine r_top (y := nI (cl (a ^^^ b) k)) rfl ?_
        have h4 := cl_lt (a ^^^ b) k
        refine n_if_eq (tgt := 25) hx hb dX0_moved_19 (by decide) (by omega) (fun c19 => ?_) (fun c19 => ?_)
        · replace hl : lv_has ls 4 [(0, .int (nI a)), (1, .int (nI b)), (2, .int (nI (sm (mv1 a b) (k + 1)))), (3, .int (nI k))] := by rw [show sm (mv1 a b) (k + 1) = sm (mv1 a b) k from congrArg (sm (mv1 a b) k + ·) (if_pos c19)]; exact hl
          refine lv_iinc (v := nI (k + 1)) (lv' := [(3, .int (nI (k + 1))), (0, .int (nI a)), (1, .int (nI b)), (2, .int (nI (sm (mv1 a b) (k + 1))))]) hx hb dX0_moved_25 hl (k := 3) rfl (n_inc _ _ (by decide)) (by decide) rfl (fun ls hl => ?_)
          refine lv_goto (tgt := 4) hx hb dX0_moved_28 (by decide) ?_
          exact ih4 (k + 1) (by omega) (by omega)   _ _ Z ls (lv_sub hl [1, 2, 3, 0] rfl)
        · refine lv_iinc (v := nI (sm (mv1 a b) k + 1)) (lv' := [(2, .int (nI (sm (mv1 a b) k + 1))), (0, .int (nI a)), (1, .int (nI b)), (3, .int (nI k))]) hx hb dX0_moved_22 hl (k := 2) rfl (n_inc _ _ (by decide)) (by decide) rfl (fun ls hl => ?_)
          replace hl : lv_has ls 4 [(2, .int (nI (sm (mv1 a b) (k + 1)))), (0, .int (nI a)), (1, .int (nI b)), (3, .int (nI k))] := by rw [show sm (mv1 a b) (k + 1) = sm (mv1 a b) k + 1 from congrArg (sm (mv1 a b) k + ·) (if_neg c19)]; exact hl
          refine lv_iinc (v := nI (k + 1)) (lv' := [(3, .int (nI (k + 1))), (2, .int (nI (sm (mv1 a b) (k + 1)))), (0, .int (nI a)), (1, .int (nI b))]) hx hb dX0_moved_25 hl (k := 3) rfl (n_inc _ _ (by decide)) (by decide) rfl (fun ls hl => ?_)
          refine lv_goto (tgt := 4) hx hb dX0_moved_28 (by decide) ?_
          exact ih4 (k + 1) (by omega) (by omega)   _ _ Z ls (lv_sub hl [2, 3, 1, 0] rfl)
  exact L4 (7 + 1) 0 (by omega) (by omega)   _ _ Z ls (lv_sub hl [2, 3, 1, 0] rfl)
end
section
/-! parts: their sets, what wanders, loads, likeness -/
def setB (sets : Nat → Nat) (sc k : Nat) : Nat := sets (2 * k + bt sc k)
def wdp (M g : Nat) (sets amts : Nat → Nat) (sc k : Nat) : Nat := amts k * wn M g (setB sets sc k)
def idp (M g : Nat) (sets : Nat → Nat) (sc k : Nat) : Nat := il M g (setB sets sc k)
def ldp (sets amts : Nat → Nat) (sc m k : Nat) : Nat := if bt (setB sets sc k) m = 1 then amts k else 0
def bop (sets : Nat → Nat) (sc a b k : Nat) : Nat := if bt (setB sets sc k) a = 1 ∧ bt (setB sets sc k) b = 1 then 1 else 0
def eip (sets : Nat → Nat) (sc a b k : Nat) : Nat := if bt (setB sets sc k) a = 1 ∨ bt (setB sets sc k) b = 1 then 1 else 0
def kpp (M g : Nat) (sets amts : Nat → Nat) (sc m d k : Nat) : Nat := if bt (setB sets sc k) m = 1 ∧ hm M g (setB sets sc k) = d then amts k else 0
def eith (P : Nat) (sets : Nat → Nat) (sc a b : Nat) : Nat := max (sm (eip sets sc a b) P) 1
/-- a choice of routes with one bit put -/
def setb (ch k w : Nat) : Nat := ch - bt ch k * 2 ^ k + w * 2 ^ k
theorem nI_setb : ∀ ch, ch < 256 → ∀ k, k < 8 → ∀ w, w < 2 → (nI ch &&& (nI (2 ^ k) ^^^ (-1))) ||| nI (w * 2 ^ k) = nI (setb ch k w) := by decide +kernel
theorem setb_lt : ∀ ch, ch < 256 → ∀ k, k < 8 → ∀ w, w < 2 → setb ch k w < 256 := by decide +kernel
theorem setb_bt : ∀ ch, ch < 256 → ∀ k, k < 8 → ∀ w, w < 2 → ∀ j, j < 8 → bt (setb ch k w) j = if j = k then w else bt ch j := by decide +kernel
theorem setb_big : ∀ P, P ≤ 8 → ∀ ch, ch < 2 ^ P → ∀ k, k < P → ∀ w, w < 2 → setb ch k w < 2 ^ P := by decide +kernel
end
section
abbrev rm_k_X1_begin : Room := { frames := 1, cells := 0, slots := 0, locals := 23 }
set_option maxHeartbeats 4000000 in
set_option maxRecDepth 100000 in
theorem k_X1_begin (l : Launch) (D : va_G) (cA : ClassId) (q : Nat) (qs : Nat) (qa : Nat) (size : Nat) (ch : Nat) (sets : Nat → Nat) (amts : Nat → Nat) (np : Nat)  : Ctv l yX1_begin cX1_begin 2 none rm_k_X1_begin D cA [.ref q, .int (nI np)] ([oP q qs qa size ch, aN cA qs 16 sets, aN cA qa 8 amts]) (fun (_ : Unit) => True) (fun _ => [oP q qs qa np 0, aN cA qs 16 (fun _ => 0), aN cA qa 8 (fun _ => 1)]) := by
  refine st_v (by decide) (Nat.le_of_ble_eq_true rfl) ?_
  intro p e s m args below meth c A Q E ret Z ls hl
  have hx := E.1.1
  have hb := E.1.2.1
  have hl : lv_has ls 2 [(0, .ref q), (1, .int (nI np))] := hl
  refine lv_aload_n hx hb dX1_begin_0 rfl (lv_at hl 0 rfl) ?_
  refine lv_iload_n hx hb dX1_begin_1 rfl (lv_at hl 1 rfl) ?_
  refine pF_X1_18 (w1 := [oP q qs qa np ch, aN cA qs 16 sets, aN cA qa 8 amts]) E Z dX1_begin_2 0 rfl (Nat.le_of_ble_eq_true rfl) rfl (fun H locs Z => ?_)
  refine lv_aload_n hx hb dX1_begin_5 rfl (lv_at hl 0 rfl) ?_
  refine lv_iconst (v := nI 0) hx hb dX1_begin_6 (by decide) ?_
  refine pF_X1_22 (w1 := [oP q qs qa np 0, aN cA qs 16 sets, aN cA qa 8 amts]) E Z dX1_begin_7 0 rfl (Nat.le_of_ble_eq_true rfl) rfl (fun H locs Z => ?_)
  refine lv_aload_n hx hb dX1_begin_10 rfl (lv_at hl 0 rfl) ?_
  refine gF_X1_9 E Z dX1_begin_11 0 rfl rfl ?_
  refine lv_iconst (v := nI 0) hx hb dX1_begin_14 (by decide) ?_
  refine c_Sv (As := [.ref qs, .int (nI 0)]) (rest := []) (w2 := fun _ => [oP q qs qa np 0, aN cA qs 16 (fun _ => 0), aN cA qa 8 amts]) E Z (k_J7_fill_53178 l D cA qs 16 sets 0 (by decide)) ws_X1_25 ⟨rfl, rfl, Nat.le_of_ble_eq_true rfl, Nat.le_of_ble_eq_true rfl⟩ [1] rfl rfl (fun _ => rfl) (fun _ => rfl) rfl hl.1 rfl (Nat.le_of_ble_eq_true rfl) dX1_begin_15 ⟨Nat.zero_le _, Nat.zero_le _⟩ (fun _ H locs hp15 Z => ?_)
  refine lv_aload_n hx hb dX1_begin_18 rfl (lv_at hl 0 rfl) ?_
  refine gF_X1_15 E Z dX1_begin_19 0 rfl rfl ?_
  refine lv_iconst (v := nI 1) hx hb dX1_begin_22 (by decide) ?_
  refine c_Sv (As := [.ref qa, .int (nI 1)]) (rest := []) (w2 := fun _ => [oP q qs qa np 0, aN cA qs 16 (fun _ => 0), aN cA qa 8 (fun _ => 1)]) E Z (k_J7_fill_53178 l D cA qa 8 amts 1 (by decide)) ws_X1_25 ⟨rfl, rfl, Nat.le_of_ble_eq_true rfl, Nat.le_of_ble_eq_true rfl⟩ [2] rfl rfl (fun _ => rfl) (fun _ => rfl) rfl hl.1 rfl (Nat.le_of_ble_eq_true rfl) dX1_begin_23 ⟨Nat.zero_le _, Nat.zero_le _⟩ (fun _ H locs hp23 Z => ?_)
  exact ret () Z dX1_begin_26 rfl trivial
abbrev rm_k_X1_howMany : Room := { frames := 0, cells := 0, slots := 0, locals := 0 }
set_option maxHeartbeats 4000000 in
set_option maxRecDepth 100000 in
theorem k_X1_howMany (l : Launch) (D : va_G) (cA : ClassId) (q : Nat) (qs : Nat) (qa : Nat) (size : Nat) (ch : Nat)  : Cti l yX1_howMany cX1_howMany 1 (some .int) rm_k_X1_howMany D cA [.ref q] ([oP q qs qa size ch]) (fun (r : Int32) (_ : Unit) => r = nI size) (fun _ => [oP q qs qa size ch]) := by
  refine st_i (by decide) (Nat.le_of_ble_eq_true rfl) ?_
  intro p e s m args below meth c A Q E ret Z ls hl
  have hx := E.1.1
  have hb := E.1.2.1
  have hl : lv_has ls 1 [(0, .ref q)] := hl
  refine lv_aload_n hx hb dX1_howMany_0 rfl (lv_at hl 0 rfl) ?_
  refine gF_X1_18 E Z dX1_howMany_1 0 rfl rfl ?_
  exact ret () Z dX1_howMany_4 rfl rfl
abbrev rm_k_X1_chosen : Room := { frames := 0, cells := 0, slots := 0, locals := 0 }
set_option maxHeartbeats 4000000 in
set_option maxRecDepth 100000 in
theorem k_X1_chosen (l : Launch) (D : va_G) (cA : ClassId) (q : Nat) (qs : Nat) (qa : Nat) (size : Nat) (ch : Nat)  : Cti l yX1_chosen cX1_chosen 1 (some .int) rm_k_X1_chosen D cA [.ref q] ([oP q qs qa size ch]) (fun (r : Int32) (_ : Unit) => r = nI ch) (fun _ => [oP q qs qa size ch]) := by
  refine st_i (by decide) (Nat.le_of_ble_eq_true rfl) ?_
  intro p e s m args below meth c A Q E ret Z ls hl
  have hx := E.1.1
  have hb := E.1.2.1
  have hl : lv_has ls 1 [(0, .ref q)] := hl
  refine lv_aload_n hx hb dX1_chosen_0 rfl (lv_at hl 0 rfl) ?_
  refine gF_X1_22 E Z dX1_chosen_1 0 rfl rfl ?_
  exact ret () Z dX1_chosen_4 rfl rfl
abbrev rm_k_X1_chosenBy : Room := { frames := 0, cells := 0, slots := 0, locals := 0 }
set_option maxHeartbeats 4000000 in
set_option maxRecDepth 100000 in
theorem k_X1_chosenBy (l : Launch) (D : va_G) (cA : ClassId) (q : Nat) (qs : Nat) (qa : Nat) (size : Nat) (ch : Nat) (k : Nat) (hch : ch < 256) (hk : k < 8) : Cti l yX1_chosenBy cX1_chosenBy 2 (some .int) rm_k_X1_chosenBy D cA [.ref q, .int (nI k)] ([oP q qs qa size ch]) (fun (r : Int32) (_ : Unit) => r = nI (bt ch k)) (fun _ => [oP q qs qa size ch]) := by
  refine st_i (by decide) (Nat.le_of_ble_eq_true rfl) ?_
  intro p e s m args below meth c A Q E ret Z ls hl
  have hx := E.1.1
  have hb := E.1.2.1
  have hl : lv_has ls 2 [(0, .ref q), (1, .int (nI k))] := hl
  refine lv_aload_n hx hb dX1_chosenBy_0 rfl (lv_at hl 0 rfl) ?_
  refine gF_X1_22 E Z dX1_chosenBy_1 0 rfl rfl ?_
  refine lv_iload_n hx hb dX1_chosenBy_4 rfl (lv_at hl 1 rfl) ?_
  refine n_ishr hx hb dX1_chosenBy_5 (by omega) (by omega) ?_
  refine lv_iconst (v := nI 1) hx hb dX1_chosenBy_6 (by decide) ?_
  refine n_iand1 hx hb dX1_chosenBy_7 ?_
  refine r_top (y := nI (bt ch k)) rfl ?_
  exact ret () Z dX1_chosenBy_8 rfl rfl
abbrev rm_k_X1_choose : Room := { frames := 0, cells := 0, slots := 0, locals := 0 }
set_option maxHeartbeats 4000000 in
set_option maxRecDepth 100000 in
theorem k_X1_choose (l : Launch) (D : va_G) (cA : ClassId) (q : Nat) (qs : Nat) (qa : Nat) (size : Nat) (ch : Nat) (k : Nat) (wh : Nat) (hch : ch < 256) (hk : k < 8) (hw : wh < 2) : Ctv l yX1_choose cX1_choose 3 none rm_k_X1_choose D cA [.ref q, .int (nI k), .int (nI wh)] ([oP q qs qa size ch]) (fun (_ : Unit) => True) (fun _ => [oP q qs qa size (setb ch k wh)]) := by
  refine st_v (by decide) (Nat.le_of_ble_eq_true rfl) ?_
  intro p e s m args below meth c A Q E ret Z ls hl
  have hx := E.1.1
  have hb := E.1.2.1
  have hl : lv_has ls 3 [(0, .ref q), (1, .int (nI k)), (2, .int (nI wh))] := hl
  refine lv_aload_n hx hb dX1_choose_0 rfl (lv_at hl 0 rfl) ?_
  refine lv_aload_n hx hb dX1_choose_1 rfl (lv_at hl 0 rfl) ?_
  refine gF_X1_22 E Z dX1_choose_2 0 rfl rfl ?_
  refine lv_iconst (v := nI 1) hx hb dX1_choose_5 (by decide) ?_
  refine lv_iload_n hx hb dX1_choose_6 rfl (lv_at hl 1 rfl) ?_
  refine n_ishl1 hx hb dX1_choose_7 (by omega) ?_
  refine lv_iconst (v := (-1)) hx hb dX1_choose_8 (by decide) ?_
  refine lv_ixor hx hb dX1_choose_9 ?_
  refine lv_iand hx hb dX1_choose_10 ?_
  refine lv_iload_n hx hb dX1_choose_11 rfl (lv_at hl 2 rfl) ?_
  refine lv_iload_n hx hb dX1_choose_12 rfl (lv_at hl 1 rfl) ?_
  refine n_ishl hx hb dX1_choose_13 (by omega) ?_
  refine lv_ior hx hb dX1_choose_14 ?_
  refine r_top (y := nI (setb ch k wh)) (nI_setb ch hch k hk wh hw) ?_
  refine pF_X1_22 (w1 := [oP q qs qa size (setb ch k wh)]) E Z dX1_choose_15 0 rfl (Nat.le_of_ble_eq_true rfl) rfl (fun H locs Z => ?_)
  exact ret () Z dX1_choose_18 rfl trivial
abbrev rm_k_X1_routeSet : Room := { frames := 0, cells := 0, slots := 0, locals := 0 }
set_option maxHeartbeats 4000000 in
set_option maxRecDepth 100000 in
theorem k_X1_routeSet (l : Launch) (D : va_G) (cA : ClassId) (q : Nat) (qs : Nat) (qa : Nat) (size : Nat) (ch : Nat) (sets : Nat → Nat) (k : Nat) (wh : Nat) (hk : k < 8) (hw : wh < 2) : Cti l yX1_routeSet cX1_routeSet 3 (some .int) rm_k_X1_routeSet D cA [.ref q, .int (nI k), .int (nI wh)] ([oP q qs qa size ch, aN cA qs 16 sets]) (fun (r : Int32) (_ : Unit) => r = nI (sets (2 * k + wh))) (fun _ => [oP q qs qa size ch, aN cA qs 16 sets]) := by
  refine st_i (by decide) (Nat.le_of_ble_eq_true rfl) ?_
  intro p e s m args below meth c A Q E ret Z ls hl
  have hx := E.1.1
  have hb := E.1.2.1
  have hl : lv_has ls 3 [(0, .ref q), (1, .int (nI k)), (2, .int (nI wh))] := hl
  refine lv_aload_n hx hb dX1_routeSet_0 rfl (lv_at hl 0 rfl) ?_
  refine gF_X1_9 E Z dX1_routeSet_1 0 rfl rfl ?_
  refine lv_iconst (v := nI 2) hx hb dX1_routeSet_4 (by decide) ?_
  refine lv_iload_n hx hb dX1_routeSet_5 rfl (lv_at hl 1 rfl) ?_
  refine n_imul hx hb dX1_routeSet_6 ?_
  refine lv_iload_n hx hb dX1_routeSet_7 rfl (lv_at hl 2 rfl) ?_
  refine n_iadd hx hb dX1_routeSet_8 ?_
  refine r_ald E Z dX1_routeSet_9 1 rfl (by omega) (by decide) ?_
  exact ret () Z dX1_routeSet_10 rfl rfl
abbrev rm_k_X1_putRouteSet : Room := { frames := 0, cells := 0, slots := 0, locals := 0 }
set_option maxHeartbeats 4000000 in
set_option maxRecDepth 100000 in
theorem k_X1_putRouteSet (l : Launch) (D : va_G) (cA : ClassId) (q : Nat) (qs : Nat) (qa : Nat) (size : Nat) (ch : Nat) (sets : Nat → Nat) (k : Nat) (wh : Nat) (st : Nat) (hk : k < 8) (hw : wh < 2) : Ctv l yX1_putRouteSet cX1_putRouteSet 4 none rm_k_X1_putRouteSet D cA [.ref q, .int (nI k), .int (nI wh), .int (nI st)] ([oP q qs qa size ch, aN cA qs 16 sets]) (fun (_ : Unit) => True) (fun _ => [oP q qs qa size ch, aN cA qs 16 (up sets (2 * k + wh) st)]) := by
  refine st_v (by decide) (Nat.le_of_ble_eq_true rfl) ?_
  intro p e s m args below meth c A Q E ret Z ls hl
  have hx := E.1.1
  have hb := E.1.2.1
  have hl : lv_has ls 4 [(0, .ref q), (1, .int (nI k)), (2, .int (nI wh)), (3, .int (nI st))] := hl
  refine lv_aload_n hx hb dX1_putRouteSet_0 rfl (lv_at hl 0 rfl) ?_
  refine gF_X1_9 E Z dX1_putRouteSet_1 0 rfl rfl ?_
  refine lv_iconst (v := nI 2) hx hb dX1_putRouteSet_4 (by decide) ?_
  refine lv_iload_n hx hb dX1_putRouteSet_5 rfl (lv_at hl 1 rfl) ?_
  refine n_imul hx hb dX1_putRouteSet_6 ?_
  refine lv_iload_n hx hb dX1_putRouteSet_7 rfl (lv_at hl 2 rfl) ?_
  refine n_iadd hx hb dX1_putRouteSet_8 ?_
  refine lv_iload_n hx hb dX1_putRouteSet_9 rfl (lv_at hl 3 rfl) ?_
  refine r_ast (w1 := [oP q qs qa size ch, aN cA qs 16 (up sets (2 * k + wh) st)]) E Z dX1_putRouteSet_10 1 rfl (by omega) (by decide) rfl (fun H locs Z => ?_)
  exact ret () Z dX1_putRouteSet_11 rfl trivial
abbrev rm_k_X1_setBy : Room := { frames := 0, cells := 0, slots := 0, locals := 0 }
set_option maxHeartbeats 4000000 in
set_option maxRecDepth 100000 in
theorem k_X1_setBy (l : Launch) (D : va_G) (cA : ClassId) (q : Nat) (qs : Nat) (qa : Nat) (size : Nat) (ch : Nat) (sets : Nat → Nat) (sc : Nat) (k : Nat) (hsc : sc < 256) (hk : k < 8) : Cti l yX1_setBy cX1_setBy 3 (some .int) rm_k_X1_setBy D cA [.ref q, .int (nI sc), .int (nI k)] ([oP q qs qa size ch, aN cA qs 16 sets]) (fun (r : Int32) (_ : Unit) => r = nI (setB sets sc k)) (fun _ => [oP q qs qa size ch, aN cA qs 16 sets]) := by
  refine st_i (by decide) (Nat.le_of_ble_eq_true rfl) ?_
  intro p e s m args below meth c A Q E ret Z ls hl
  have hx := E.1.1
  have hb := E.1.2.1
  have hl : lv_has ls 3 [(0, .ref q), (1, .int (nI sc)), (2, .int (nI k))] := hl
  refine lv_aload_n hx hb dX1_setBy_0 rfl (lv_at hl 0 rfl) ?_
  refine gF_X1_9 E Z dX1_setBy_1 0 rfl rfl ?_
  refine lv_iconst (v := nI 2) hx hb dX1_setBy_4 (by decide) ?_
  refine lv_iload_n hx hb dX1_setBy_5 rfl (lv_at hl 2 rfl) ?_
  refine n_imul hx hb dX1_setBy_6 ?_
  refine lv_iload_n hx hb dX1_setBy_7 rfl (lv_at hl 1 rfl) ?_
  refine lv_iload_n hx hb dX1_setBy_8 rfl (lv_at hl 2 rfl) ?_
  refine n_ishr hx hb dX1_setBy_9 (by omega) (by omega) ?_
  refine lv_iconst (v := nI 1) hx hb dX1_setBy_10 (by decide) ?_
  refine n_iand1 hx hb dX1_setBy_11 ?_
  refine r_top (y := nI (bt sc k)) rfl ?_
  have hbt := bt_lt sc k
  refine n_iadd hx hb dX1_setBy_12 ?_
  refine r_ald E Z dX1_setBy_13 1 rfl (by omega) (by decide) ?_
  exact ret () Z dX1_setBy_14 rfl rfl
abbrev rm_k_X1_setOf : Room := { frames := 1, cells := 0, slots := 0, locals := 22 }
set_option maxHeartbeats 4000000 in
set_option maxRecDepth 100000 in
theorem k_X1_setOf (l : Launch) (D : va_G) (cA : ClassId) (q : Nat) (qs : Nat) (qa : Nat) (size : Nat) (ch : Nat) (sets : Nat → Nat) (k : Nat) (hch : ch < 256) (hk : k < 8) : Cti l yX1_setOf cX1_setOf 2 (some .int) rm_k_X1_setOf D cA [.ref q, .int (nI k)] ([oP q qs qa size ch, aN cA qs 16 sets]) (fun (r : Int32) (_ : Unit) => r = nI (setB sets ch k)) (fun _ => [oP q qs qa size ch, aN cA qs 16 sets]) := by
  refine st_i (by decide) (Nat.le_of_ble_eq_true rfl) ?_
  intro p e s m args below meth c A Q E ret Z ls hl
  have hx := E.1.1
  have hb := E.1.2.1
  have hl : lv_has ls 2 [(0, .ref q), (1, .int (nI k))] := hl
  refine lv_aload_n hx hb dX1_setOf_0 rfl (lv_at hl 0 rfl) ?_
  refine lv_aload_n hx hb dX1_setOf_1 rfl (lv_at hl 0 rfl) ?_
  refine gF_X1_22 E Z dX1_setOf_2 0 rfl rfl ?_
  refine lv_iload_n hx hb dX1_setOf_5 rfl (lv_at hl 1 rfl) ?_
  refine c_Vi (As := [.int (nI ch), .int (nI k)]) (rest := []) (w2 := fun _ => [oP q qs qa size ch, aN cA qs 16 sets]) E Z (k_X1_setBy l D cA q qs qa size ch sets ch k (by first | assumption | omega) (by first | assumption | omega)) wv_X1_31 ⟨rfl, rfl, Nat.le_of_ble_eq_true rfl, Nat.le_of_ble_eq_true rfl⟩ [0, 1] rfl rfl rfl rfl (q0 := 0) rfl (fun _ => rfl) (fun _ => rfl) rfl hl.1 rfl (Nat.le_of_ble_eq_true rfl) dX1_setOf_6 ⟨Nat.zero_le _, Nat.zero_le _⟩ (fun r6 _ H locs hp6 Z => ?_)
  subst hp6
  exact ret () Z dX1_setOf_9 rfl rfl
abbrev rm_k_X1_piecesOf : Room := { frames := 0, cells := 0, slots := 0, locals := 0 }
set_option maxHeartbeats 4000000 in
set_option maxRecDepth 100000 in
theorem k_X1_piecesOf (l : Launch) (D : va_G) (cA : ClassId) (q : Nat) (qs : Nat) (qa : Nat) (size : Nat) (ch : Nat) (amts : Nat → Nat) (k : Nat) (hk : k < 8) : Cti l yX1_piecesOf cX1_piecesOf 2 (some .int) rm_k_X1_piecesOf D cA [.ref q, .int (nI k)] ([oP q qs qa size ch, aN cA qa 8 amts]) (fun (r : Int32) (_ : Unit) => r = nI (amts k)) (fun _ => [oP q qs qa size ch, aN cA qa 8 amts]) := by
  refine st_i (by decide) (Nat.le_of_ble_eq_true rfl) ?_
  intro p e s m args below meth c A Q E ret Z ls hl
  have hx := E.1.1
  have hb := E.1.2.1
  have hl : lv_has ls 2 [(0, .ref q), (1, .int (nI k))] := hl
  refine lv_aload_n hx hb dX1_piecesOf_0 rfl (lv_at hl 0 rfl) ?_
  refine gF_X1_15 E Z dX1_piecesOf_1 0 rfl rfl ?_
  refine lv_iload_n hx hb dX1_piecesOf_4 rfl (lv_at hl 1 rfl) ?_
  refine r_ald E Z dX1_piecesOf_5 1 rfl (by omega) (by decide) ?_
  exact ret () Z dX1_piecesOf_6 rfl rfl
abbrev rm_k_X1_putPieces : Room := { frames := 0, cells := 0, slots := 0, locals := 0 }
set_option maxHeartbeats 4000000 in
set_option maxRecDepth 100000 in
theorem k_X1_putPieces (l : Launch) (D : va_G) (cA : ClassId) (q : Nat) (qs : Nat) (qa : Nat) (size : Nat) (ch : Nat) (amts : Nat → Nat) (k : Nat) (am : Nat) (hk : k < 8) : Ctv l yX1_putPieces cX1_putPieces 3 none rm_k_X1_putPieces D cA [.ref q, .int (nI k), .int (nI am)] ([oP q qs qa size ch, aN cA qa 8 amts]) (fun (_ : Unit) => True) (fun _ => [oP q qs qa size ch, aN cA qa 8 (up amts k am)]) := by
  refine st_v (by decide) (Nat.le_of_ble_eq_true rfl) ?_
  intro p e s m args below meth c A Q E ret Z ls hl
  have hx := E.1.1
  have hb := E.1.2.1
  have hl : lv_has ls 3 [(0, .ref q), (1, .int (nI k)), (2, .int (nI am))] := hl
  refine lv_aload_n hx hb dX1_putPieces_0 rfl (lv_at hl 0 rfl) ?_
  refine gF_X1_15 E Z dX1_putPieces_1 0 rfl rfl ?_
  refine lv_iload_n hx hb dX1_putPieces_4 rfl (lv_at hl 1 rfl) ?_
  refine lv_iload_n hx hb dX1_putPieces_5 rfl (lv_at hl 2 rfl) ?_
  refine r_ast (w1 := [oP q qs qa size ch, aN cA qa 8 (up amts k am)]) E Z dX1_putPieces_6 1 rfl (by omega) (by decide) rfl (fun H locs Z => ?_)
  exact ret () Z dX1_putPieces_7 rfl trivial
abbrev rm_k_X1_hasMachine : Room := { frames := 0, cells := 0, slots := 0, locals := 0 }
set_option maxHeartbeats 4000000 in
set_option maxRecDepth 100000 in
theorem k_X1_hasMachine (l : Launch) (D : va_G) (cA : ClassId) (st : Nat) (k : Nat) (hst : st < 2 ^ 31) (hk : k < 32) : Cti l yX1_hasMachine cX1_hasMachine 2 (some .boolean) rm_k_X1_hasMachine D cA [.int (nI st), .int (nI k)] ([]) (fun (r : Int32) (_ : Unit) => r = bI (bt st k = 1)) (fun _ => []) := by
  refine st_z (by decide) (Nat.le_of_ble_eq_true rfl) ?_
  intro p e s m args below meth c A Q E ret Z ls hl
  have hx := E.1.1
  have hb := E.1.2.1
  have hl : lv_has ls 2 [(0, .int (nI st)), (1, .int (nI k))] := hl
  refine lv_iload_n hx hb dX1_hasMachine_0 rfl (lv_at hl 0 rfl) ?_
  refine lv_iload_n hx hb dX1_hasMachine_1 rfl (lv_at hl 1 rfl) ?_
  refine n_ishr hx hb dX1_hasMachine_2 (by omega) (by omega) ?_
  refine lv_iconst (v := nI 1) hx hb dX1_hasMachine_3 (by decide) ?_
  refine n_iand1 hx hb dX1_hasMachine_4 ?_
  refine r_top (y := nI (bt st k)) rfl ?_
  have hbt := bt_lt st k
  refine lv_iconst (v := nI 1) hx hb dX1_hasMachine_5 (by decide) ?_
  refine n_icmp_ne (tgt := 13) hx hb dX1_hasMachine_6 (by decide) (by omega) (by omega) (fun c6 => ?_) (fun c6 => ?_)
  · refine lv_iconst (v := nI 0) hx hb dX1_hasMachine_13 (by decide) ?_
    exact ret () Z dX1_hasMachine_14 (Or.inl nI_0) rfl (nI_0.trans (bI_f c6).symm)
  · refine lv_iconst (v := nI 1) hx hb dX1_hasMachine_9 (by decide) ?_
    refine lv_goto (tgt := 14) hx hb dX1_hasMachine_10 (by decide) ?_
    exact ret () Z dX1_hasMachine_14 (Or.inr nI_one) rfl (nI_one.trans (bI_t c6).symm)
abbrev rm_k_X1_wanderBy : Room := { frames := 3, cells := 0, slots := 0, locals := 66 }
set_option maxHeartbeats 4000000 in
set_option maxRecDepth 100000 in
theorem k_X1_wanderBy (l : Launch) (D : va_G) (cA : ClassId) (q : Nat) (qs : Nat) (qa : Nat) (size : Nat) (ch : Nat) (sets : Nat → Nat) (amts : Nat → Nat) (gq : Nat) (gm : Nat) (mc : Nat) (n : Nat) (mem : Nat → Nat) (sc : Nat) (hP : size ≤ 8) (hsc : sc < 256) (hs : ∀ j, sets j < 2 ^ mc) (hm0 : mOk mc n mem) (hM : mc ≤ 7) : Cti l yX1_wanderBy cX1_wanderBy 5 (some .int) rm_k_X1_wanderBy D cA [.ref q, .int (nI sc), .ref gq] ([oP q qs qa size ch, aN cA qs 16 sets, aN cA qa 8 amts, oG gq gm mc n, aN cA gm 4 mem]) (fun (r : Int32) (_ : Unit) => r = nI (sm (wdp mc n sets amts sc) size)) (fun _ => [oP q qs qa size ch, aN cA qs 16 sets, aN cA qa 8 amts, oG gq gm mc n, aN cA gm 4 mem]) := by
  refine st_i (by decide) (Nat.le_of_ble_eq_true rfl) ?_
  intro p e s m args below meth c A Q E ret Z ls hl
  have hx := E.1.1
  have hb := E.1.2.1
  have hl : lv_has ls 5 [(0, .ref q), (1, .int (nI sc)), (2, .ref gq)] := hl
  refine lv_iconst (v := nI 0) hx hb dX1_wanderBy_0 (by decide) ?_
  refine lv_istore_n (lv' := [(3, .int (nI 0)), (0, .ref q), (1, .int (nI sc)), (2, .ref gq)]) hx hb dX1_wanderBy_1 rfl hl (by decide) rfl (fun ls hl => ?_)
  refine lv_iconst (v := nI 0) hx hb dX1_wanderBy_2 (by decide) ?_
  refine lv_istore (lv' := [(4, .int (nI 0)), (3, .int (nI 0)), (0, .ref q), (1, .int (nI sc)), (2, .ref gq)]) hx hb dX1_wanderBy_3 hl (by decide) rfl (fun ls hl => ?_)
  have L5 : ∀ (n5 k : Nat), size + 1 ≤ k + n5 → k ≤ size → ∀ (H : Heap) (locs : List Loc), Wd D A s ([oP q qs qa size ch, aN cA qs 16 sets, aN cA qa 8 amts, oG gq gm mc n, aN cA gm 4 mem]) H locs → ∀ (ls : Array Slot), lv_has ls 5 [(0, .ref q), (1, .int (nI sc)), (2, .ref gq), (3, .int (nI (sm (wdp mc n sets amts sc) k))), (4, .int (nI k))] → W p l e rm_k_X1_wanderBy s m args below meth c H locs 0 0 Q (F0 m 5 ls []) := by
    intro n5
    induction n5 with
    | zero => exact fun k h1 h2 => absurd h1 (by omega)
    | succ n5 ih5 =>
      intro k hn5 hi5  H locs Z ls hl
      refine lv_iload hx hb dX1_wanderBy_5 (lv_at hl 4 rfl) ?_
      refine lv_aload_n hx hb dX1_wanderBy_7 rfl (lv_at hl 0 rfl) ?_
      refine gF_X1_18 E Z dX1_wanderBy_8 0 rfl rfl ?_
      refine n_icmp_ge (tgt := 42) hx hb dX1_wanderBy_11 (by decide) (by omega) (by omega) (fun c11 => ?_) (fun c11 => ?_)
      · obtain rfl : size = k := by omega
        refine lv_iload_n hx hb dX1_wanderBy_42 rfl (lv_at hl 3 rfl) ?_
        exact ret () Z dX1_wanderBy_43 rfl rfl
      · refine lv_iload_n hx hb dX1_wanderBy_14 rfl (lv_at hl 3 rfl) ?_
        refine lv_aload_n hx hb dX1_wanderBy_15 rfl (lv_at hl 0 rfl) ?_
        refine gF_X1_15 E Z dX1_wanderBy_16 0 rfl rfl ?_
        refine lv_iload hx hb dX1_wanderBy_19 (lv_at hl 4 rfl) ?_
        refine r_ald E Z dX1_wanderBy_21 2 rfl (by omega) (by decide) ?_
        refine lv_aload_n hx hb dX1_wanderBy_22 rfl (lv_at hl 2 rfl) ?_
        refine lv_aload_n hx hb dX1_wanderBy_23 rfl (lv_at hl 0 rfl) ?_
        refine lv_iload_n hx hb dX1_wanderBy_24 rfl (lv_at hl 1 rfl) ?_
        refine lv_iload hx hb dX1_wanderBy_25 (lv_at hl 4 rfl) ?_
        refine c_Vi (As := [.int (nI sc), .int (nI k)]) (rest := [.ref gq, .int (nI (amts k)), .int (nI (sm (wdp mc n sets amts sc) k))]) (w2 := fun _ => [oP q qs qa size ch, aN cA qs 16 sets, aN cA qa 8 amts, oG gq gm mc n, aN cA gm 4 mem]) E Z (k_X1_setBy l D cA q qs qa size ch sets sc k (by first | assumption | omega) (by first | assumption | omega)) wv_X1_31 ⟨rfl, rfl, Nat.le_of_ble_eq_true rfl, Nat.le_of_ble_eq_true rfl⟩ [0, 1] rfl rfl rfl rfl (q0 := 0) rfl (fun _ => rfl) (fun _ => rfl) rfl hl.1 rfl (Nat.le_of_ble_eq_true rfl) dX1_wanderBy_27 ⟨Nat.zero_le _, Nat.zero_le _⟩ (fun r27 _ H locs hp27 Z => ?_)
        subst hp27
        refine c_Vi (As := [.int (nI (setB sets sc k))]) (rest := [.int (nI (amts k)), .int (nI (sm (wdp mc n sets amts sc) k))]) (w2 := fun _ => [oP q qs qa size ch, aN cA qs 16 sets, aN cA qa 8 amts, oG gq gm mc n, aN cA gm 4 mem]) E Z (k_X0_wandersOf l D cA gq gm mc n mem (setB sets sc k) (by first | assumption | omega) (by first | assumption | omega) (hs _)) wv_X1_35 ⟨rfl, rfl, Nat.le_of_ble_eq_true rfl, Nat.le_of_ble_eq_true rfl⟩ [3, 4] rfl rfl rfl rfl (q0 := 0) rfl (fun _ => rfl) (fun _ => rfl) rfl hl.1 rfl (Nat.le_of_ble_eq_true rfl) dX1_wanderBy_30 ⟨Nat.zero_le _, Nat.zero_le _⟩ (fun r30 _ H locs hp30 Z => ?_)
        subst hp30
        refine n_imul hx hb dX1_wanderBy_33 ?_
        refine n_iadd hx hb dX1_wanderBy_34 ?_
        refine lv_istore_n (lv' := [(3, .int (nI (sm (wdp mc n sets amts sc) k + ((amts k) * (wn mc n (setB sets sc k)))))), (0, .ref q), (1, .int (nI sc)), (2, .ref gq), (4, .int (nI k))]) hx hb dX1_wanderBy_35 rfl hl (by decide) rfl (fun ls hl => ?_)
        refine lv_iinc (v := nI (k + 1)) (lv' := [(4, .int (nI (k + 1))), (3, .int (nI (sm (wdp mc n sets amts sc) k + ((amts k) * (wn mc n (setB sets sc k)))))), (0, .ref q), (1, .int (nI sc)), (2, .ref gq)]) hx hb dX1_wanderBy_36 hl (k := 4) rfl (n_inc _ _ (by decide)) (by decide) rfl (fun ls hl => ?_)
        refine lv_goto (tgt := 5) hx hb dX1_wanderBy_39 (by decide) ?_
        exact ih5 (k + 1) (by omega) (by omega)   _ _ Z ls (lv_sub hl [2, 3, 4, 1, 0] rfl)
  exact L5 (size + 1) 0 (by omega) (by omega)   _ _ Z ls (lv_sub hl [2, 3, 4, 1, 0] rfl)
abbrev rm_k_X1_idleOf : Room := { frames := 3, cells := 0, slots := 0, locals := 66 }
set_option maxHeartbeats 4000000 in
set_option maxRecDepth 100000 in
theorem k_X1_idleOf (l : Launch) (D : va_G) (cA : ClassId) (q : Nat) (qs : Nat) (qa : Nat) (size : Nat) (ch : Nat) (sets : Nat → Nat) (gq : Nat) (gm : Nat) (mc : Nat) (n : Nat) (mem : Nat → Nat) (hP : size ≤ 8) (hch : ch < 256) (hs : ∀ j, sets j < 2 ^ mc) (hm0 : mOk mc n mem) (hM : mc ≤ 7) : Cti l yX1_idleOf cX1_idleOf 4 (some .int) rm_k_X1_idleOf D cA [.ref q, .ref gq] ([oP q qs qa size ch, aN cA qs 16 sets, oG gq gm mc n, aN cA gm 4 mem]) (fun (r : Int32) (_ : Unit) => r = nI (sm (idp mc n sets ch) size)) (fun _ => [oP q qs qa size ch, aN cA qs 16 sets, oG gq gm mc n, aN cA gm 4 mem]) := by
  refine st_i (by decide) (Nat.le_of_ble_eq_true rfl) ?_
  intro p e s m args below meth c A Q E ret Z ls hl
  have hx := E.1.1
  have hb := E.1.2.1
  have hl : lv_has ls 4 [(0, .ref q), (1, .ref gq)] := hl
  refine lv_iconst (v := nI 0) hx hb dX1_idleOf_0 (by decide) ?_
  refine lv_istore_n (lv' := [(2, .int (nI 0)), (0, .ref q), (1, .ref gq)]) hx hb dX1_idleOf_1 rfl hl (by decide) rfl (fun ls hl => ?_)
  refine lv_iconst (v := nI 0) hx hb dX1_idleOf_2 (by decide) ?_
  refine lv_istore_n (lv' := [(3, .int (nI 0)), (2, .int (nI 0)), (0, .ref q), (1, .ref gq)]) hx hb dX1_idleOf_3 rfl hl (by decide) rfl (fun ls hl => ?_)
  have L4 : ∀ (n4 k : Nat), size + 1 ≤ k + n4 → k ≤ size → ∀ (H : Heap) (locs : List Loc), Wd D A s ([oP q qs qa size ch, aN cA qs 16 sets, oG gq gm mc n, aN cA gm 4 mem]) H locs → ∀ (ls : Array Slot), lv_has ls 4 [(0, .ref q), (1, .ref gq), (2, .int (nI (sm (idp mc n sets ch) k))), (3, .int (nI k))] → W p l e rm_k_X1_idleOf s m args below meth c H locs 0 0 Q (F0 m 4 ls []) := by
    intro n4
    induction n4 with
    | zero => exact fun k h1 h2 => absurd h1 (by omega)
    | succ n4 ih4 =>
      intro k hn4 hi4  H locs Z ls hl
      refine lv_iload_n hx hb dX1_idleOf_4 rfl (lv_at hl 3 rfl) ?_
      refine lv_aload_n hx hb dX1_idleOf_5 rfl (lv_at hl 0 rfl) ?_
      refine gF_X1_18 E Z dX1_idleOf_6 0 rfl rfl ?_
      refine n_icmp_ge (tgt := 30) hx hb dX1_idleOf_9 (by decide) (by omega) (by omega) (fun c9 => ?_) (fun c9 => ?_)
      · obtain rfl : size = k := by omega
        refine lv_iload_n hx hb dX1_idleOf_30 rfl (lv_at hl 2 rfl) ?_
        exact ret () Z dX1_idleOf_31 rfl rfl
      · refine lv_iload_n hx hb dX1_idleOf_12 rfl (lv_at hl 2 rfl) ?_
        refine lv_aload_n hx hb dX1_idleOf_13 rfl (lv_at hl 1 rfl) ?_
        refine lv_aload_n hx hb dX1_idleOf_14 rfl (lv_at hl 0 rfl) ?_
        refine lv_iload_n hx hb dX1_idleOf_15 rfl (lv_at hl 3 rfl) ?_
        refine c_Vi (As := [.int (nI k)]) (rest := [.ref gq, .int (nI (sm (idp mc n sets ch) k))]) (w2 := fun _ => [oP q qs qa size ch, aN cA qs 16 sets, oG gq gm mc n, aN cA gm 4 mem]) E Z (k_X1_setOf l D cA q qs qa size ch sets k (by first | assumption | omega) (by first | assumption | omega)) wv_X1_41 ⟨rfl, rfl, Nat.le_of_ble_eq_true rfl, Nat.le_of_ble_eq_true rfl⟩ [0, 1] rfl rfl rfl rfl (q0 := 0) rfl (fun _ => rfl) (fun _ => rfl) rfl hl.1 rfl (Nat.le_of_ble_eq_true rfl) dX1_idleOf_16 ⟨Nat.zero_le _, Nat.zero_le _⟩ (fun r16 _ H locs hp16 Z => ?_)
        subst hp16
        refine c_Vi (As := [.int (nI (setB sets ch k))]) (rest := [.int (nI (sm (idp mc n sets ch) k))]) (w2 := fun _ => [oP q qs qa size ch, aN cA qs 16 sets, oG gq gm mc n, aN cA gm 4 mem]) E Z (k_X0_idleOf l D cA gq gm mc n mem (setB sets ch k) (by first | assumption | omega) (by first | assumption | omega) (hs _)) wv_X1_44 ⟨rfl, rfl, Nat.le_of_ble_eq_true rfl, Nat.le_of_ble_eq_true rfl⟩ [2, 3] rfl rfl rfl rfl (q0 := 0) rfl (fun _ => rfl) (fun _ => rfl) rfl hl.1 rfl (Nat.le_of_ble_eq_true rfl) dX1_idleOf_19 ⟨Nat.zero_le _, Nat.zero_le _⟩ (fun r19 _ H locs hp19 Z => ?_)
        subst hp19
        refine n_iadd hx hb dX1_idleOf_22 ?_
        refine lv_istore_n (lv' := [(2, .int (nI (sm (idp mc n sets ch) k + (il mc n (setB sets ch k))))), (0, .ref q), (1, .ref gq), (3, .int (nI k))]) hx hb dX1_idleOf_23 rfl hl (by decide) rfl (fun ls hl => ?_)
        refine lv_iinc (v := nI (k + 1)) (lv' := [(3, .int (nI (k + 1))), (2, .int (nI (sm (idp mc n sets ch) k + (il mc n (setB sets ch k))))), (0, .ref q), (1, .ref gq)]) hx hb dX1_idleOf_24 hl (k := 3) rfl (n_inc _ _ (by decide)) (by decide) rfl (fun ls hl => ?_)
        refine lv_goto (tgt := 4) hx hb dX1_idleOf_27 (by decide) ?_
        exact ih4 (k + 1) (by omega) (by omega)   _ _ Z ls (lv_sub hl [2, 3, 1, 0] rfl)
  exact L4 (size + 1) 0 (by omega) (by omega)   _ _ Z ls (lv_sub hl [2, 3, 1, 0] rfl)
abbrev rm_k_X1_loadBy : Room := { frames := 1, cells := 0, slots := 0, locals := 22 }
set_option maxHeartbeats 4000000 in
set_option maxRecDepth 100000 in
theorem k_X1_loadBy (l : Launch) (D : va_G) (cA : ClassId) (q : Nat) (qs : Nat) (qa : Nat) (size : Nat) (ch : Nat) (sets : Nat → Nat) (amts : Nat → Nat) (sc : Nat) (mm : Nat) (hP : size ≤ 8) (hsc : sc < 256) (hs : ∀ j, sets j < 128) (hmm : mm < 32) : Cti l yX1_loadBy cX1_loadBy 5 (some .int) rm_k_X1_loadBy D cA [.ref q, .int (nI sc), .int (nI mm)] ([oP q qs qa size ch, aN cA qs 16 sets, aN cA qa 8 amts]) (fun (r : Int32) (_ : Unit) => r = nI (sm (ldp sets amts sc mm) size)) (fun _ => [oP q qs qa size ch, aN cA qs 16 sets, aN cA qa 8 amts]) := by
  refine st_i (by decide) (Nat.le_of_ble_eq_true rfl) ?_
  intro p e s m args below meth c A Q E ret Z ls hl
  have hx := E.1.1
  have hb := E.1.2.1
  have hl : lv_has ls 5 [(0, .ref q), (1, .int (nI sc)), (2, .int (nI mm))] := hl
  refine lv_iconst (v := nI 0) hx hb dX1_loadBy_0 (by decide) ?_
  refine lv_istore_n (lv' := [(3, .int (nI 0)), (0, .ref q), (1, .int (nI sc)), (2, .int (nI mm))]) hx hb dX1_loadBy_1 rfl hl (by decide) rfl (fun ls hl => ?_)
  refine lv_iconst (v := nI 0) hx hb dX1_loadBy_2 (by decide) ?_
  refine lv_istore (lv' := [(4, .int (nI 0)), (3, .int (nI 0)), (0, .ref q), (1, .int (nI sc)), (2, .int (nI mm))]) hx hb dX1_loadBy_3 hl (by decide) rfl (fun ls hl => ?_)
  have L5 : ∀ (n5 k : Nat), size + 1 ≤ k + n5 → k ≤ size → ∀ (H : Heap) (locs : List Loc), Wd D A s ([oP q qs qa size ch, aN cA qs 16 sets, aN cA qa 8 amts]) H locs → ∀ (ls : Array Slot), lv_has ls 5 [(0, .ref q), (1, .int (nI sc)), (2, .int (nI mm)), (3, .int (nI (sm (ldp sets amts sc mm) k))), (4, .int (nI k))] → W p l e rm_k_X1_loadBy s m args below meth c H locs 0 0 Q (F0 m 5 ls []) := by
    intro n5
    induction n5 with
    | zero => exact fun k h1 h2 => absurd h1 (by omega)
    | succ n5 ih5 =>
      intro k hn5 hi5  H locs Z ls hl
      refine lv_iload hx hb dX1_loadBy_5 (lv_at hl 4 rfl) ?_
      refine lv_aload_n hx hb dX1_loadBy_7 rfl (lv_at hl 0 rfl) ?_
      refine gF_X1_18 E Z dX1_loadBy_8 0 rfl rfl ?_
      refine n_icmp_ge (tgt := 44) hx hb dX1_loadBy_11 (by decide) (by omega) (by omega) (fun c11 => ?_) (fun c11 => ?_)
      · obtain rfl : size = k := by omega
        refine lv_iload_n hx hb dX1_loadBy_44 rfl (lv_at hl 3 rfl) ?_
        exact ret () Z dX1_loadBy_45 rfl rfl
      · refine lv_aload_n hx hb dX1_loadBy_14 rfl (lv_at hl 0 rfl) ?_
        refine lv_iload_n hx hb dX1_loadBy_15 rfl (lv_at hl 1 rfl) ?_
        refine lv_iload hx hb dX1_loadBy_16 (lv_at hl 4 rfl) ?_
        refine c_Vi (As := [.int (nI sc), .int (nI k)]) (rest := []) (w2 := fun _ => [oP q qs qa size ch, aN cA qs 16 sets, aN cA qa 8 amts]) E Z (k_X1_setBy l D cA q qs qa size ch sets sc k (by first | assumption | omega) (by first | assumption | omega)) wv_X1_31 ⟨rfl, rfl, Nat.le_of_ble_eq_true rfl, Nat.le_of_ble_eq_true rfl⟩ [0, 1] rfl rfl rfl rfl (q0 := 0) rfl (fun _ => rfl) (fun _ => rfl) rfl hl.1 rfl (Nat.le_of_ble_eq_true rfl) dX1_loadBy_18 ⟨Nat.zero_le _, Nat.zero_le _⟩ (fun r18 _ H locs hp18 Z => ?_)
        subst hp18
        refine lv_iload_n hx hb dX1_loadBy_21 rfl (lv_at hl 2 rfl) ?_
        refine c_Si (As := [.int (nI (setB sets sc k)), .int (nI mm)]) (rest := []) (w2 := fun _ => [oP q qs qa size ch, aN cA qs 16 sets, aN cA qa 8 amts]) E Z (k_X1_hasMachine l D cA (setB sets sc k) mm (Nat.lt_trans (hs _) (by decide)) (by first | assumption | omega)) ws_X1_47 ⟨rfl, rfl, Nat.le_of_ble_eq_true rfl, Nat.le_of_ble_eq_true rfl⟩ [] rfl rfl (fun _ => rfl) (fun _ => rfl) rfl hl.1 rfl (Nat.le_of_ble_eq_true rfl) dX1_loadBy_22 ⟨Nat.zero_le _, Nat.zero_le _⟩ (fun r22 _ H locs hp22 Z => ?_)
        subst hp22
        refine b_if_eq (tgt := 38) hx hb dX1_loadBy_25 (by decide) (fun c25 => ?_) (fun c25 => ?_)
        · replace hl : lv_has ls 5 [(0, .ref q), (1, .int (nI sc)), (2, .int (nI mm)), (3, .int (nI (sm (ldp sets amts sc mm) (k + 1)))), (4, .int (nI k))] := by rw [show sm (ldp sets amts sc mm) (k + 1) = sm (ldp sets amts sc mm) k from congrArg (sm (ldp sets amts sc mm) k + ·) (if_neg c25)]; exact hl
          refine lv_iinc (v := nI (k + 1)) (lv' := [(4, .int (nI (k + 1))), (0, .ref q), (1, .int (nI sc)), (2, .int (nI mm)), (3, .int (nI (sm (ldp sets amts sc mm) (k + 1))))]) hx hb dX1_loadBy_38 hl (k := 4) rfl (n_inc _ _ (by decide)) (by decide) rfl (fun ls hl => ?_)
          refine lv_goto (tgt := 5) hx hb dX1_loadBy_41 (by decide) ?_
          exact ih5 (k + 1) (by omega) (by omega)   _ _ Z ls (lv_sub hl [1, 2, 3, 4, 0] rfl)
        · refine lv_iload_n hx hb dX1_loadBy_28 rfl (lv_at hl 3 rfl) ?_
          refine lv_aload_n hx hb dX1_loadBy_29 rfl (lv_at hl 0 rfl) ?_
          refine gF_X1_15 E Z dX1_loadBy_30 0 rfl rfl ?_
          refine lv_iload hx hb dX1_loadBy_33 (lv_at hl 4 rfl) ?_
          refine r_ald E Z dX1_loadBy_35 2 rfl (by omega) (by decide) ?_
          refine n_iadd hx hb dX1_loadBy_36 ?_
          refine lv_istore_n (lv' := [(3, .int (nI (sm (ldp sets amts sc mm) k + (amts k)))), (0, .ref q), (1, .int (nI sc)), (2, .int (nI mm)), (4, .int (nI k))]) hx hb dX1_loadBy_37 rfl hl (by decide) rfl (fun ls hl => ?_)
          replace hl : lv_has ls 5 [(3, .int (nI (sm (ldp sets amts sc mm) (k + 1)))), (0, .ref q), (1, .int (nI sc)), (2, .int (nI mm)), (4, .int (nI k))] := by rw [show sm (ldp sets amts sc mm) (k + 1) = sm (ldp sets amts sc mm) k + (amts k) from congrArg (sm (ldp sets amts sc mm) k + ·) (if_pos c25)]; exact hl
          refine lv_iinc (v := nI (k + 1)) (lv' := [(4, .int (nI (k + 1))), (3, .int (nI (sm (ldp sets amts sc mm) (k + 1)))), (0, .ref q), (1, .int (nI sc)), (2, .int (nI mm))]) hx hb dX1_loadBy_38 hl (k := 4) rfl (n_inc _ _ (by decide)) (by decide) rfl (fun ls hl => ?_)
          refine lv_goto (tgt := 5) hx hb dX1_loadBy_41 (by decide) ?_
          exact ih5 (k + 1) (by omega) (by omega)   _ _ Z ls (lv_sub hl [2, 3, 4, 1, 0] rfl)
  exact L5 (size + 1) 0 (by omega) (by omega)   _ _ Z ls (lv_sub hl [2, 3, 4, 1, 0] rfl)
abbrev rm_k_X1_withBoth : Room := { frames := 1, cells := 0, slots := 0, locals := 22 }
set_option maxHeartbeats 4000000 in
set_option maxRecDepth 100000 in
theorem k_X1_withBoth (l : Launch) (D : va_G) (cA : ClassId) (q : Nat) (qs : Nat) (qa : Nat) (size : Nat) (ch : Nat) (sets : Nat → Nat) (a : Nat) (b : Nat) (hP : size ≤ 8) (hch : ch < 256) (hs : ∀ j, sets j < 128) (ha : a < 32) (hb0 : b < 32) : Cti l yX1_withBoth cX1_withBoth 6 (some .int) rm_k_X1_withBoth D cA [.ref q, .int (nI a), .int (nI b)] ([oP q qs qa size ch, aN cA qs 16 sets]) (fun (r : Int32) (_ : Unit) => r = nI (sm (bop sets ch a b) size)) (fun _ => [oP q qs qa size ch, aN cA qs 16 sets]) := by
  refine st_i (by decide) (Nat.le_of_ble_eq_true rfl) ?_
  intro p e s m args below meth c A Q E ret Z ls hl
  have hx := E.1.1
  have hb := E.1.2.1
  have hl : lv_has ls 6 [(0, .ref q), (1, .int (nI a)), (2, .int (nI b))] := hl
  refine lv_iconst (v := nI 0) hx hb dX1_withBoth_0 (by decide) ?_
  refine lv_istore_n (lv' := [(3, .int (nI 0)), (0, .ref q), (1, .int (nI a)), (2, .int (nI b))]) hx hb dX1_withBoth_1 rfl hl (by decide) rfl (fun ls hl => ?_)
  refine lv_iconst (v := nI 0) hx hb dX1_withBoth_2 (by decide) ?_
  refine lv_istore (lv' := [(4, .int (nI 0)), (3, .int (nI 0)), (0, .ref q), (1, .int (nI a)), (2, .int (nI b))]) hx hb dX1_withBoth_3 hl (by decide) rfl (fun ls hl => ?_)
  have L5 : ∀ (n5 k : Nat), size + 1 ≤ k + n5 → k ≤ size → ∀ (H : Heap) (locs : List Loc), Wd D A s ([oP q qs qa size ch, aN cA qs 16 sets]) H locs → ∀ (ls : Array Slot), lv_has ls 6 [(0, .ref q), (1, .int (nI a)), (2, .int (nI b)), (3, .int (nI (sm (bop sets ch a b) k))), (4, .int (nI k))] → W p l e rm_k_X1_withBoth s m args below meth c H locs 0 0 Q (F0 m 5 ls []) := by
    intro n5
    induction n5 with
    | zero => exact fun k h1 h2 => absurd h1 (by omega)
    | succ n5 ih5 =>
      intro k hn5 hi5  H locs Z ls hl
      refine lv_iload hx hb dX1_withBoth_5 (lv_at hl 4 rfl) ?_
      refine lv_aload_n hx hb dX1_withBoth_7 rfl (lv_at hl 0 rfl) ?_
      refine gF_X1_18 E Z dX1_withBoth_8 0 rfl rfl ?_
      refine n_icmp_ge (tgt := 53) hx hb dX1_withBoth_11 (by decide) (by omega) (by omega) (fun c11 => ?_) (fun c11 => ?_)
      · obtain rfl : size = k := by omega
        refine lv_iload_n hx hb dX1_withBoth_53 rfl (lv_at hl 3 rfl) ?_
        exact ret () Z dX1_withBoth_54 rfl rfl
      · refine lv_aload_n hx hb dX1_withBoth_14 rfl (lv_at hl 0 rfl) ?_
        refine lv_aload_n hx hb dX1_withBoth_15 rfl (lv_at hl 0 rfl) ?_
        refine gF_X1_22 E Z dX1_withBoth_16 0 rfl rfl ?_
        refine lv_iload hx hb dX1_withBoth_19 (lv_at hl 4 rfl) ?_
        refine c_Vi (As := [.int (nI ch), .int (nI k)]) (rest := []) (w2 := fun _ => [oP q qs qa size ch, aN cA qs 16 sets]) E Z (k_X1_setBy l D cA q qs qa size ch sets ch k (by first | assumption | omega) (by first | assumption | omega)) wv_X1_31 ⟨rfl, rfl, Nat.le_of_ble_eq_true rfl, Nat.le_of_ble_eq_true rfl⟩ [0, 1] rfl rfl rfl rfl (q0 := 0) rfl (fun _ => rfl) (fun _ => rfl) rfl hl.1 rfl (Nat.le_of_ble_eq_true rfl) dX1_withBoth_21 ⟨Nat.zero_le _, Nat.zero_le _⟩ (fun r21 _ H locs hp21 Z => ?_)
        subst hp21
        refine lv_istore (lv' := [(5, .int (nI (setB sets ch k))), (0, .ref q), (1, .int (nI a)), (2, .int (nI b)), (3, .int (nI (sm (bop sets ch a b) k))), (4, .int (nI k))]) hx hb dX1_withBoth_24 hl (by decide) rfl (fun ls hl => ?_)
        refine lv_iload hx hb dX1_withBoth_26 (lv_at hl 0 rfl) ?_
        refine lv_iload_n hx hb dX1_withBoth_28 rfl (lv_at hl 2 rfl) ?_
        refine c_Si (As := [.int (nI (setB sets ch k)), .int (nI a)]) (rest := []) (w2 := fun _ => [oP q qs qa size ch, aN cA qs 16 sets]) E Z (k_X1_hasMachine l D cA (setB sets ch k) a (Nat.lt_trans (hs _) (by decide)) (by first | assumption | omega)) ws_X1_47 ⟨rfl, rfl, Nat.le_of_ble_eq_true rfl, Nat.le_of_ble_eq_true rfl⟩ [] rfl rfl (fun _ => rfl) (fun _ => rfl) rfl hl.1 rfl (Nat.le_of_ble_eq_true rfl) dX1_withBoth_29 ⟨Nat.zero_le _, Nat.zero_le _⟩ (fun r29 _ H locs hp29 Z => ?_)
        subst hp29
        refine b_if_eq (tgt := 47) hx hb dX1_withBoth_32 (by decide) (fun c32 => ?_) (fun c32 => ?_)
        · replace hl : lv_has ls 6 [(5, .int (nI (setB sets ch k))), (0, .ref q), (1, .int (nI a)), (2, .int (nI b)), (3, .int (nI (sm (bop sets ch a b) (k + 1)))), (4, .int (nI k))] := by rw [show sm (bop sets ch a b) (k + 1) = sm (bop sets ch a b) k from congrArg (sm (bop sets ch a b) k + ·) (if_neg (fun h => c32 h.1))]; exact hl
          refine lv_iinc (v := nI (k + 1)) (lv' := [(4, .int (nI (k + 1))), (5, .int (nI (setB sets ch k))), (0, .ref q), (1, .int (nI a)), (2, .int (nI b)), (3, .int (nI (sm (bop sets ch a b) (k + 1))))]) hx hb dX1_withBoth_47 hl (k := 5) rfl (n_inc _ _ (by decide)) (by decide) rfl (fun ls hl => ?_)
          refine lv_goto (tgt := 5) hx hb dX1_withBoth_50 (by decide) ?_
          exact ih5 (k + 1) (by omega) (by omega)   _ _ Z ls (lv_sub hl [2, 3, 4, 5, 0] rfl)
        · refine lv_iload hx hb dX1_withBoth_35 (lv_at hl 0 rfl) ?_
          refine lv_iload_n hx hb dX1_withBoth_37 rfl (lv_at hl 3 rfl) ?_
          refine c_Si (As := [.int (nI (setB sets ch k)), .int (nI b)]) (rest := []) (w2 := fun _ => [oP q qs qa size ch, aN cA qs 16 sets]) E Z (k_X1_hasMachine l D cA (setB sets ch k) b (Nat.lt_trans (hs _) (by decide)) (by first | assumption | omega)) ws_X1_47 ⟨rfl, rfl, Nat.le_of_ble_eq_true rfl, Nat.le_of_ble_eq_true rfl⟩ [] rfl rfl (fun _ => rfl) (fun _ => rfl) rfl hl.1 rfl (Nat.le_of_ble_eq_true rfl) dX1_withBoth_38 ⟨Nat.zero_le _, Nat.zero_le _⟩ (fun r38 _ H locs hp38 Z => ?_)
          subst hp38
          refine b_if_eq (tgt := 47) hx hb dX1_withBoth_41 (by decide) (fun c41 => ?_) (fun c41 => ?_)
          · replace hl : lv_has ls 6 [(5, .int (nI (setB sets ch k))), (0, .ref q), (1, .int (nI a)), (2, .int (nI b)), (3, .int (nI (sm (bop sets ch a b) (k + 1)))), (4, .int (nI k))] := by rw [show sm (bop sets ch a b) (k + 1) = sm (bop sets ch a b) k from congrArg (sm (bop sets ch a b) k + ·) (if_neg (fun h => c41 h.2))]; exact hl
            refine lv_iinc (v := nI (k + 1)) (lv' := [(4, .int (nI (k + 1))), (5, .int (nI (setB sets ch k))), (0, .ref q), (1, .int (nI a)), (2, .int (nI b)), (3, .int (nI (sm (bop sets ch a b) (k + 1))))]) hx hb dX1_withBoth_47 hl (k := 5) rfl (n_inc _ _ (by decide)) (by decide) rfl (fun ls hl => ?_)
            refine lv_goto (tgt := 5) hx hb dX1_withBoth_50 (by decide) ?_
            exact ih5 (k + 1) (by omega) (by omega)   _ _ Z ls (lv_sub hl [2, 3, 4, 5, 0] rfl)
          · refine lv_iinc (v := nI (sm (bop sets ch a b) k + 1)) (lv' := [(3, .int (nI (sm (bop sets ch a b) k + 1))), (5, .int (nI (setB sets ch k))), (0, .ref q), (1, .int (nI a)), (2, .int (nI b)), (4, .int (nI k))]) hx hb dX1_withBoth_44 hl (k := 4) rfl (n_inc _ _ (by decide)) (by decide) rfl (fun ls hl => ?_)
            replace hl : lv_has ls 6 [(3, .int (nI (sm (bop sets ch a b) (k + 1)))), (5, .int (nI (setB sets ch k))), (0, .ref q), (1, .int (nI a)), (2, .int (nI b)), (4, .int (nI k))] := by rw [show sm (bop sets ch a b) (k + 1) = sm (bop sets ch a b) k + 1 from congrArg (sm (bop sets ch a b) k + ·) (if_pos ⟨c32, c41⟩)]; exact hl
            refine lv_iinc (v := nI (k + 1)) (lv' := [(4, .int (nI (k + 1))), (3, .int (nI (sm (bop sets ch a b) (k + 1)))), (5, .int (nI (setB sets ch k))), (0, .ref q), (1, .int (nI a)), (2, .int (nI b))]) hx hb dX1_withBoth_47 hl (k := 5) rfl (n_inc _ _ (by decide)) (by decide) rfl (fun ls hl => ?_)
            refine lv_goto (tgt := 5) hx hb dX1_withBoth_50 (by decide) ?_
            exact ih5 (k + 1) (by omega) (by omega)   _ _ Z ls (lv_sub hl [3, 4, 5, 1, 0] rfl)
  exact L5 (size + 1) 0 (by omega) (by omega)   _ _ Z ls (lv_sub hl [2, 3, 4, 1, 0] rfl)
abbrev rm_k_X1_withEither : Room := { frames := 1, cells := 0, slots := 0, locals := 22 }
set_option maxHeartbeats 4000000 in
set_option maxRecDepth 100000 in
theorem k_X1_withEither (l : Launch) (D : va_G) (cA : ClassId) (q : Nat) (qs : Nat) (qa : Nat) (size : Nat) (ch : Nat) (sets : Nat → Nat) (a : Nat) (b : Nat) (hP : size ≤ 8) (hch : ch < 256) (hs : ∀ j, sets j < 128) (ha : a < 32) (hb0 : b < 32) : Cti l yX1_withEither cX1_withEither 6 (some .int) rm_k_X1_withEither D cA [.ref q, .int (nI a), .int (nI b)] ([oP q qs qa size ch, aN cA qs 16 sets]) (fun (r : Int32) (_ : Unit) => r = nI (eith size sets ch a b)) (fun _ => [oP q qs qa size ch, aN cA qs 16 sets]) := by
  refine st_i (by decide) (Nat.le_of_ble_eq_true rfl) ?_
  intro p e s m args below meth c A Q E ret Z ls hl
  have hx := E.1.1
  have hb := E.1.2.1
  have hl : lv_has ls 6 [(0, .ref q), (1, .int (nI a)), (2, .int (nI b))] := hl
  refine lv_iconst (v := nI 0) hx hb dX1_withEither_0 (by decide) ?_
  refine lv_istore_n (lv' := [(3, .int (nI 0)), (0, .ref q), (1, .int (nI a)), (2, .int (nI b))]) hx hb dX1_withEither_1 rfl hl (by decide) rfl (fun ls hl => ?_)
  refine lv_iconst (v := nI 0) hx hb dX1_withEither_2 (by decide) ?_
  refine lv_istore (lv' := [(4, .int (nI 0)), (3, .int (nI 0)), (0, .ref q), (1, .int (nI a)), (2, .int (nI b))]) hx hb dX1_withEither_3 hl (by decide) rfl (fun ls hl => ?_)
  have L5 : ∀ (n5 k : Nat), size + 1 ≤ k + n5 → k ≤ size → ∀ (H : Heap) (locs : List Loc), Wd D A s ([oP q qs qa size ch, aN cA qs 16 sets]) H locs → ∀ (ls : Array Slot), lv_has ls 6 [(0, .ref q), (1, .int (nI a)), (2, .int (nI b)), (3, .int (nI (sm (eip sets ch a b) k))), (4, .int (nI k))] → W p l e rm_k_X1_withEither s m args below meth c H locs 0 0 Q (F0 m 5 ls []) := by
    intro n5
    induction n5 with
    | zero => exact fun k h1 h2 => absurd h1 (by omega)
    | succ n5 ih5 =>
      intro k hn5 hi5  H locs Z ls hl
      refine lv_iload hx hb dX1_withEither_5 (lv_at hl 4 rfl) ?_
      refine lv_aload_n hx hb dX1_withEither_7 rfl (lv_at hl 0 rfl) ?_
      refine gF_X1_18 E Z dX1_withEither_8 0 rfl rfl ?_
      refine n_icmp_ge (tgt := 53) hx hb dX1_withEither_11 (by decide) (by omega) (by omega) (fun c11 => ?_) (fun c11 => ?_)
      · obtain rfl : size = k := by omega
        refine lv_iload_n hx hb dX1_withEither_53 rfl (lv_at hl 3 rfl) ?_
        refine lv_iconst (v := nI 1) hx hb dX1_withEither_54 (by decide) ?_
        have hbd : sm (eip sets ch a b) size ≤ size * 1 := sm_bd (fun m _ => by unfold eip; split <;> omega)
        refine n_max E hl.1 mML_X1_51 dX1_withEither_55 (Nat.le_of_ble_eq_true rfl) (Nat.le_of_ble_eq_true rfl) ⟨Nat.zero_le _, Nat.zero_le _⟩ (by omega) (by omega) ?_
        exact ret () Z dX1_withEither_58 rfl rfl
      · refine lv_aload_n hx hb dX1_withEither_14 rfl (lv_at hl 0 rfl) ?_
        refine lv_aload_n hx hb dX1_withEither_15 rfl (lv_at hl 0 rfl) ?_
        refine gF_X1_22 E Z dX1_withEither_16 0 rfl rfl ?_
        refine lv_iload hx hb dX1_withEither_19 (lv_at hl 4 rfl) ?_
        refine c_Vi (As := [.int (nI ch), .int (nI k)]) (rest := []) (w2 := fun _ => [oP q qs qa size ch, aN cA qs 16 sets]) E Z (k_X1_setBy l D cA q qs qa size ch sets ch k (by first | assumption | omega) (by first | assumption | omega)) wv_X1_31 ⟨rfl, rfl, Nat.le_of_ble_eq_true rfl, Nat.le_of_ble_eq_true rfl⟩ [0, 1] rfl rfl rfl rfl (q0 := 0) rfl (fun _ => rfl) (fun _ => rfl) rfl hl.1 rfl (Nat.le_of_ble_eq_true rfl) dX1_withEither_21 ⟨Nat.zero_le _, Nat.zero_le _⟩ (fun r21 _ H locs hp21 Z => ?_)
        subst hp21
        refine lv_istore (lv' := [(5, .int (nI (setB sets ch k))), (0, .ref q), (1, .int (nI a)), (2, .int (nI b)), (3, .int (nI (sm (eip sets ch a b) k))), (4, .int (nI k))]) hx hb dX1_withEither_24 hl (by decide) rfl (fun ls hl => ?_)
        refine lv_iload hx hb dX1_withEither_26 (lv_at hl 0 rfl) ?_
        refine lv_iload_n hx hb dX1_withEither_28 rfl (lv_at hl 2 rfl) ?_
        refine c_Si (As := [.int (nI (setB sets ch k)), .int (nI a)]) (rest := []) (w2 := fun _ => [oP q qs qa size ch, aN cA qs 16 sets]) E Z (k_X1_hasMachine l D cA (setB sets ch k) a (Nat.lt_trans (hs _) (by decide)) (by first | assumption | omega)) ws_X1_47 ⟨rfl, rfl, Nat.le_of_ble_eq_true rfl, Nat.le_of_ble_eq_true rfl⟩ [] rfl rfl (fun _ => rfl) (fun _ => rfl) rfl hl.1 rfl (Nat.le_of_ble_eq_true rfl) dX1_withEither_29 ⟨Nat.zero_le _, Nat.zero_le _⟩ (fun r29 _ H locs hp29 Z => ?_)
        subst hp29
        refine b_if_ne (tgt := 44) hx hb dX1_withEither_32 (by decide) (fun c32 => ?_) (fun c32 => ?_)
        · refine lv_iinc (v := nI (sm (eip sets ch a b) k + 1)) (lv' := [(3, .int (nI (sm (eip sets ch a b) k + 1))), (5, .int (nI (setB sets ch k))), (0, .ref q), (1, .int (nI a)), (2, .int (nI b)), (4, .int (nI k))]) hx hb dX1_withEither_44 hl (k := 4) rfl (n_inc _ _ (by decide)) (by decide) rfl (fun ls hl => ?_)
          replace hl : lv_has ls 6 [(3, .int (nI (sm (eip sets ch a b) (k + 1)))), (5, .int (nI (setB sets ch k))), (0, .ref q), (1, .int (nI a)), (2, .int (nI b)), (4, .int (nI k))] := by rw [show sm (eip sets ch a b) (k + 1) = sm (eip sets ch a b) k + 1 from congrArg (sm (eip sets ch a b) k + ·) (if_pos (Or.inl c32))]; exact hl
          refine lv_iinc (v := nI (k + 1)) (lv' := [(4, .int (nI (k + 1))), (3, .int (nI (sm (eip sets ch a b) (k + 1)))), (5, .int (nI (setB sets ch k))), (0, .ref q), (1, .int (nI a)), (2, .int (nI b))]) hx hb dX1_withEither_47 hl (k := 5) rfl (n_inc _ _ (by decide)) (by decide) rfl (fun ls hl => ?_)
          refine lv_goto (tgt := 5) hx hb dX1_withEither_50 (by decide) ?_
          exact ih5 (k + 1) (by omega) (by omega)   _ _ Z ls (lv_sub hl [3, 4, 5, 1, 0] rfl)
        · refine lv_iload hx hb dX1_withEither_35 (lv_at hl 0 rfl) ?_
          refine lv_iload_n hx hb dX1_withEither_37 rfl (lv_at hl 3 rfl) ?_
          refine c_Si (As := [.int (nI (setB sets ch k)), .int (nI b)]) (rest := []) (w2 := fun _ => [oP q qs qa size ch, aN cA qs 16 sets]) E Z (k_X1_hasMachine l D cA (setB sets ch k) b (Nat.lt_trans (hs _) (by decide)) (by first | assumption | omega)) ws_X1_47 ⟨rfl, rfl, Nat.le_of_ble_eq_true rfl, Nat.le_of_ble_eq_true rfl⟩ [] rfl rfl (fun _ => rfl) (fun _ => rfl) rfl hl.1 rfl (Nat.le_of_ble_eq_true rfl) dX1_withEither_38 ⟨Nat.zero_le _, Nat.zero_le _⟩ (fun r38 _ H locs hp38 Z => ?_)
          subst hp38
          refine b_if_eq (tgt := 47) hx hb dX1_withEither_41 (by decide) (fun c41 => ?_) (fun c41 => ?_)
          · replace hl : lv_has ls 6 [(5, .int (nI (setB sets ch k))), (0, .ref q), (1, .int (nI a)), (2, .int (nI b)), (3, .int (nI (sm (eip sets ch a b) (k + 1)))), (4, .int (nI k))] := by rw [show sm (eip sets ch a b) (k + 1) = sm (eip sets ch a b) k from congrArg (sm (eip sets ch a b) k + ·) (if_neg (fun h => h.elim c32 c41))]; exact hl
            refine lv_iinc (v := nI (k + 1)) (lv' := [(4, .int (nI (k + 1))), (5, .int (nI (setB sets ch k))), (0, .ref q), (1, .int (nI a)), (2, .int (nI b)), (3, .int (nI (sm (eip sets ch a b) (k + 1))))]) hx hb dX1_withEither_47 hl (k := 5) rfl (n_inc _ _ (by decide)) (by decide) rfl (fun ls hl => ?_)
            refine lv_goto (tgt := 5) hx hb dX1_withEither_50 (by decide) ?_
            exact ih5 (k + 1) (by omega) (by omega)   _ _ Z ls (lv_sub hl [2, 3, 4, 5, 0] rfl)
          · refine lv_iinc (v := nI (sm (eip sets ch a b) k + 1)) (lv' := [(3, .int (nI (sm (eip sets ch a b) k + 1))), (5, .int (nI (setB sets ch k))), (0, .ref q), (1, .int (nI a)), (2, .int (nI b)), (4, .int (nI k))]) hx hb dX1_withEither_44 hl (k := 4) rfl (n_inc _ _ (by decide)) (by decide) rfl (fun ls hl => ?_)
            replace hl : lv_has ls 6 [(3, .int (nI (sm (eip sets ch a b) (k + 1)))), (5, .int (nI (setB sets ch k))), (0, .ref q), (1, .int (nI a)), (2, .int (nI b)), (4, .int (nI k))] := by rw [show sm (eip sets ch a b) (k + 1) = sm (eip sets ch a b) k + 1 from congrArg (sm (eip sets ch a b) k + ·) (if_pos (Or.inr c41))]; exact hl
            refine lv_iinc (v := nI (k + 1)) (lv' := [(4, .int (nI (k + 1))), (3, .int (nI (sm (eip sets ch a b) (k + 1)))), (5, .int (nI (setB sets ch k))), (0, .ref q), (1, .int (nI a)), (2, .int (nI b))]) hx hb dX1_withEither_47 hl (k := 5) rfl (n_inc _ _ (by decide)) (by decide) rfl (fun ls hl => ?_)
            refine lv_goto (tgt := 5) hx hb dX1_withEither_50 (by decide) ?_
            exact ih5 (k + 1) (by omega) (by omega)   _ _ Z ls (lv_sub hl [3, 4, 5, 1, 0] rfl)
  exact L5 (size + 1) 0 (by omega) (by omega)   _ _ Z ls (lv_sub hl [2, 3, 4, 1, 0] rfl)
abbrev rm_k_X1_keptHome : Room := { frames := 2, cells := 0, slots := 0, locals := 45 }
set_option maxHeartbeats 4000000 in
set_option maxRecDepth 100000 in
theorem k_X1_keptHome (l : Launch) (D : va_G) (cA : ClassId) (q : Nat) (qs : Nat) (qa : Nat) (size : Nat) (ch : Nat) (sets : Nat → Nat) (amts : Nat → Nat) (gq : Nat) (gm : Nat) (mc : Nat) (n : Nat) (mem : Nat → Nat) (mm : Nat) (d : Nat) (hP : size ≤ 8) (hch : ch < 256) (hs : ∀ j, sets j < 128) (hmm : mm < 32) (hd : d < 4) (hm0 : mOk mc n mem) (hM : mc ≤ 7) : Cti l yX1_keptHome cX1_keptHome 7 (some .int) rm_k_X1_keptHome D cA [.ref q, .int (nI mm), .int (nI d), .ref gq] ([oP q qs qa size ch, aN cA qs 16 sets, aN cA qa 8 amts, oG gq gm mc n, aN cA gm 4 mem]) (fun (r : Int32) (_ : Unit) => r = nI (sm (kpp mc n sets amts ch mm d) size)) (fun _ => [oP q qs qa size ch, aN cA qs 16 sets, aN cA qa 8 amts, oG gq gm mc n, aN cA gm 4 mem]) := by
  refine st_i (by decide) (Nat.le_of_ble_eq_true rfl) ?_
  intro p e s m args below meth c A Q E ret Z ls hl
  have hx := E.1.1
  have hb := E.1.2.1
  have hl : lv_has ls 7 [(0, .ref q), (1, .int (nI mm)), (2, .int (nI d)), (3, .ref gq)] := hl
  refine lv_iconst (v := nI 0) hx hb dX1_keptHome_0 (by decide) ?_
  refine lv_istore (lv' := [(4, .int (nI 0)), (0, .ref q), (1, .int (nI mm)), (2, .int (nI d)), (3, .ref gq)]) hx hb dX1_keptHome_1 hl (by decide) rfl (fun ls hl => ?_)
  refine lv_iconst (v := nI 0) hx hb dX1_keptHome_3 (by decide) ?_
  refine lv_istore (lv' := [(5, .int (nI 0)), (4, .int (nI 0)), (0, .ref q), (1, .int (nI mm)), (2, .int (nI d)), (3, .ref gq)]) hx hb dX1_keptHome_4 hl (by decide) rfl (fun ls hl => ?_)
  have L6 : ∀ (n6 k : Nat), size + 1 ≤ k + n6 → k ≤ size → ∀ (H : Heap) (locs : List Loc), Wd D A s ([oP q qs qa size ch, aN cA qs 16 sets, aN cA qa 8 amts, oG gq gm mc n, aN cA gm 4 mem]) H locs → ∀ (ls : Array Slot), lv_has ls 7 [(0, .ref q), (1, .int (nI mm)), (2, .int (nI d)), (3, .ref gq), (4, .int (nI (sm (kpp mc n sets amts ch mm d) k))), (5, .int (nI k))] → W p l e rm_k_X1_keptHome s m args below meth c H locs 0 0 Q (F0 m 6 ls []) := by
    intro n6
    induction n6 with
    | zero => exact fun k h1 h2 => absurd h1 (by omega)
    | succ n6 ih6 =>
      intro k hn6 hi6  H locs Z ls hl
      refine lv_iload hx hb dX1_keptHome_6 (lv_at hl 5 rfl) ?_
      refine lv_aload_n hx hb dX1_keptHome_8 rfl (lv_at hl 0 rfl) ?_
      refine gF_X1_18 E Z dX1_keptHome_9 0 rfl rfl ?_
      refine n_icmp_ge (tgt := 60) hx hb dX1_keptHome_12 (by decide) (by omega) (by omega) (fun c12 => ?_) (fun c12 => ?_)
      · obtain rfl : size = k := by omega
        refine lv_iload hx hb dX1_keptHome_60 (lv_at hl 4 rfl) ?_
        exact ret () Z dX1_keptHome_62 rfl rfl
      · refine lv_aload_n hx hb dX1_keptHome_15 rfl (lv_at hl 0 rfl) ?_
        refine lv_iload hx hb dX1_keptHome_16 (lv_at hl 5 rfl) ?_
        refine c_Vi (As := [.int (nI k)]) (rest := []) (w2 := fun _ => [oP q qs qa size ch, aN cA qs 16 sets, aN cA qa 8 amts, oG gq gm mc n, aN cA gm 4 mem]) E Z (k_X1_setOf l D cA q qs qa size ch sets k (by first | assumption | omega) (by first | assumption | omega)) wv_X1_41 ⟨rfl, rfl, Nat.le_of_ble_eq_true rfl, Nat.le_of_ble_eq_true rfl⟩ [0, 1] rfl rfl rfl rfl (q0 := 0) rfl (fun _ => rfl) (fun _ => rfl) rfl hl.1 rfl (Nat.le_of_ble_eq_true rfl) dX1_keptHome_18 ⟨Nat.zero_le _, Nat.zero_le _⟩ (fun r18 _ H locs hp18 Z => ?_)
        subst hp18
        refine lv_istore (lv' := [(6, .int (nI (setB sets ch k))), (0, .ref q), (1, .int (nI mm)), (2, .int (nI d)), (3, .ref gq), (4, .int (nI (sm (kpp mc n sets amts ch mm d) k))), (5, .int (nI k))]) hx hb dX1_keptHome_21 hl (by decide) rfl (fun ls hl => ?_)
        refine lv_iload hx hb dX1_keptHome_23 (lv_at hl 0 rfl) ?_
        refine lv_iload_n hx hb dX1_keptHome_25 rfl (lv_at hl 2 rfl) ?_
        refine c_Si (As := [.int (nI (setB sets ch k)), .int (nI mm)]) (rest := []) (w2 := fun _ => [oP q qs qa size ch, aN cA qs 16 sets, aN cA qa 8 amts, oG gq gm mc n, aN cA gm 4 mem]) E Z (k_X1_hasMachine l D cA (setB sets ch k) mm (Nat.lt_trans (hs _) (by decide)) (by first | assumption | omega)) ws_X1_47 ⟨rfl, rfl, Nat.le_of_ble_eq_true rfl, Nat.le_of_ble_eq_true rfl⟩ [] rfl rfl (fun _ => rfl) (fun _ => rfl) rfl hl.1 rfl (Nat.le_of_ble_eq_true rfl) dX1_keptHome_26 ⟨Nat.zero_le _, Nat.zero_le _⟩ (fun r26 _ H locs hp26 Z => ?_)
        subst hp26
        refine b_if_eq (tgt := 54) hx hb dX1_keptHome_29 (by decide) (fun c29 => ?_) (fun c29 => ?_)
        · replace hl : lv_has ls 7 [(6, .int (nI (setB sets ch k))), (0, .ref q), (1, .int (nI mm)), (2, .int (nI d)), (3, .ref gq), (4, .int (nI (sm (kpp mc n sets amts ch mm d) (k + 1)))), (5, .int (nI k))] := by rw [show sm (kpp mc n sets amts ch mm d) (k + 1) = sm (kpp mc n sets amts ch mm d) k from congrArg (sm (kpp mc n sets amts ch mm d) k + ·) (if_neg (fun h => c29 h.1))]; exact hl
          refine lv_iinc (v := nI (k + 1)) (lv' := [(5, .int (nI (k + 1))), (6, .int (nI (setB sets ch k))), (0, .ref q), (1, .int (nI mm)), (2, .int (nI d)), (3, .ref gq), (4, .int (nI (sm (kpp mc n sets amts ch mm d) (k + 1))))]) hx hb dX1_keptHome_54 hl (k := 6) rfl (n_inc _ _ (by decide)) (by decide) rfl (fun ls hl => ?_)
          refine lv_goto (tgt := 6) hx hb dX1_keptHome_57 (by decide) ?_
          exact ih6 (k + 1) (by omega) (by omega)   _ _ Z ls (lv_sub hl [2, 3, 4, 5, 6, 0] rfl)
        · refine lv_aload_n hx hb dX1_keptHome_32 rfl (lv_at hl 4 rfl) ?_
          refine lv_iload hx hb dX1_keptHome_33 (lv_at hl 0 rfl) ?_
          refine c_Vi (As := [.int (nI (setB sets ch k))]) (rest := []) (w2 := fun _ => [oP q qs qa size ch, aN cA qs 16 sets, aN cA qa 8 amts, oG gq gm mc n, aN cA gm 4 mem]) E Z (k_X0_homeOf l D cA gq gm mc n mem (setB sets ch k) (by first | assumption | omega) (by first | assumption | omega)) wv_X1_56 ⟨rfl, rfl, Nat.le_of_ble_eq_true rfl, Nat.le_of_ble_eq_true rfl⟩ [3, 4] rfl rfl rfl rfl (q0 := 0) rfl (fun _ => rfl) (fun _ => rfl) rfl hl.1 rfl (Nat.le_of_ble_eq_true rfl) dX1_keptHome_35 ⟨Nat.zero_le _, Nat.zero_le _⟩ (fun r35 _ H locs hp35 Z => ?_)
          subst hp35
          refine lv_iload_n hx hb dX1_keptHome_38 rfl (lv_at hl 3 rfl) ?_
          have hh := hm_lt mc n (setB sets ch k)
          refine n_icmp_ne (tgt := 54) hx hb dX1_keptHome_39 (by decide) (by omega) (by omega) (fun c39 => ?_) (fun c39 => ?_)
          · replace hl : lv_has ls 7 [(6, .int (nI (setB sets ch k))), (0, .ref q), (1, .int (nI mm)), (2, .int (nI d)), (3, .ref gq), (4, .int (nI (sm (kpp mc n sets amts ch mm d) (k + 1)))), (5, .int (nI k))] := by rw [show sm (kpp mc n sets amts ch mm d) (k + 1) = sm (kpp mc n sets amts ch mm d) k from congrArg (sm (kpp mc n sets amts ch mm d) k + ·) (if_neg (fun h => c39 h.2))]; exact hl
            refine lv_iinc (v := nI (k + 1)) (lv' := [(5, .int (nI (k + 1))), (6, .int (nI (setB sets ch k))), (0, .ref q), (1, .int (nI mm)), (2, .int (nI d)), (3, .ref gq), (4, .int (nI (sm (kpp mc n sets amts ch mm d) (k + 1))))]) hx hb dX1_keptHome_54 hl (k := 6) rfl (n_inc _ _ (by decide)) (by decide) rfl (fun ls hl => ?_)
            refine lv_goto (tgt := 6) hx hb dX1_keptHome_57 (by decide) ?_
            exact ih6 (k + 1) (by omega) (by omega)   _ _ Z ls (lv_sub hl [2, 3, 4, 5, 6, 0] rfl)
          · refine lv_iload hx hb dX1_keptHome_42 (lv_at hl 5 rfl) ?_
            refine lv_aload_n hx hb dX1_keptHome_44 rfl (lv_at hl 1 rfl) ?_
            refine gF_X1_15 E Z dX1_keptHome_45 0 rfl rfl ?_
            refine lv_iload hx hb dX1_keptHome_48 (lv_at hl 6 rfl) ?_
            refine r_ald E Z dX1_keptHome_50 2 rfl (by omega) (by decide) ?_
            refine n_iadd hx hb dX1_keptHome_51 ?_
            refine lv_istore (lv' := [(4, .int (nI (sm (kpp mc n sets amts ch mm d) k + (amts k)))), (6, .int (nI (setB sets ch k))), (0, .ref q), (1, .int (nI mm)), (2, .int (nI d)), (3, .ref gq), (5, .int (nI k))]) hx hb dX1_keptHome_52 hl (by decide) rfl (fun ls hl => ?_)
            replace hl : lv_has ls 7 [(4, .int (nI (sm (kpp mc n sets amts ch mm d) (k + 1)))), (6, .int (nI (setB sets ch k))), (0, .ref q), (1, .int (nI mm)), (2, .int (nI d)), (3, .ref gq), (5, .int (nI k))] := by rw [show sm (kpp mc n sets amts ch mm d) (k + 1) = sm (kpp mc n sets amts ch mm d) k + (amts k) from congrArg (sm (kpp mc n sets amts ch mm d) k + ·) (if_pos ⟨c29, c39⟩)]; exact hl
            refine lv_iinc (v := nI (k + 1)) (lv' := [(5, .int (nI (k + 1))), (4, .int (nI (sm (kpp mc n sets amts ch mm d) (k + 1)))), (6, .int (nI (setB sets ch k))), (0, .ref q), (1, .int (nI mm)), (2, .int (nI d)), (3, .ref gq)]) hx hb dX1_keptHome_54 hl (k := 6) rfl (n_inc _ _ (by decide)) (by decide) rfl (fun ls hl => ?_)
            refine lv_goto (tgt := 6) hx hb dX1_keptHome_57 (by decide) ?_
            exact ih6 (k + 1) (by omega) (by omega)   _ _ Z ls (lv_sub hl [3, 4, 5, 6, 1, 0] rfl)
  exact L6 (size + 1) 0 (by omega) (by omega)   _ _ Z ls (lv_sub hl [2, 3, 4, 5, 1, 0] rfl)
end
section
/-! the floor; a switch's cases; a row copied -/
theorem tsw (x : Int32) (n : Nat) (hn : n < 2 ^ 31) : (∃ j : Nat, j < n ∧ x = nI j) ∨ (x.toInt < 0 ∨ ((n : Int) - 1) < x.toInt) := by
  rcases pk_ix x hn with h | h | h
  · exact Or.inr (Or.inl (by have := Int32.lt_iff_toInt_lt.mp h; rwa [Int32.toInt_zero] at this))
  · refine Or.inr (Or.inr ?_)
    have := Int32.le_iff_toInt_le.mp h
    rw [nI_toInt hn] at this
    omega
  · exact Or.inl h
def dist (a b : Nat) : Nat := (a - b) + (b - a)
theorem nI_abs {a b : Nat} (ha : a < 2 ^ 30) (hb : b < 2 ^ 30) : (if 0 ≤ nI a - nI b then nI a - nI b else 0 - (nI a - nI b)) = nI (dist a b) := by
  have e := pk_sub_toInt ha hb
  unfold dist
  by_cases h : b ≤ a
  · rw [if_pos (by rw [Int32.le_iff_toInt_le, e, Int32.toInt_zero]; omega), pk_sub h]
    congr 1; omega
  · rw [if_neg (by rw [Int32.le_iff_toInt_le, e, Int32.toInt_zero]; omega)]
    have e2 : (0 : Int32) - (nI a - nI b) = nI b - nI a := by
      rw [Int32.sub_eq_add_neg, Int32.zero_add, Int32.neg_sub]
    rw [e2, pk_sub (by omega)]
    congr 1; omega
def cat (o i : Nat) : Nat := o / 2 ^ (2 * (3 - i)) % 4
theorem cat_lt (o i : Nat) : cat o i < 4 := Nat.mod_lt _ (by decide)
def ord (a b d e : Nat) : Nat := ((a * 2 ^ 6 ||| b * 2 ^ 4) ||| d * 2 ^ 2) ||| e
theorem ord_lt : ∀ a, a < 4 → ∀ b, b < 4 → ∀ d, d < 4 → ∀ e, e < 4 → ord a b d e < 256 := by decide +kernel
theorem ord_0 : ∀ a, a < 4 → ∀ b, b < 4 → ∀ d, d < 4 → ∀ e, e < 4 → cat (ord a b d e) 0 = a := by decide +kernel
theorem ord_1 : ∀ a, a < 4 → ∀ b, b < 4 → ∀ d, d < 4 → ∀ e, e < 4 → cat (ord a b d e) 1 = b := by decide +kernel
theorem ord_2 : ∀ a, a < 4 → ∀ b, b < 4 → ∀ d, d < 4 → ∀ e, e < 4 → cat (ord a b d e) 2 = d := by decide +kernel
theorem ord_3 : ∀ a, a < 4 → ∀ b, b < 4 → ∀ d, d < 4 → ∀ e, e < 4 → cat (ord a b d e) 3 = e := by decide +kernel
def sn (o : Nat) : Nat → Nat
  | 0 => 0
  | i + 1 => sn o i ||| 2 ^ cat o i
theorem sn_lt (o : Nat) : ∀ i, sn o i < 2 ^ 4 := by
  intro i
  induction i with
  | zero => show (0 : Nat) < 16; decide
  | succ i ih => exact Nat.or_lt_two_pow ih (Nat.pow_lt_pow_right (by decide) (cat_lt o i))
def eo (o : Nat) : Prop := sn o 4 = 15
def plc (o j : Nat) : Nat := if j = cat o 3 then 3 else if j = cat o 2 then 2 else if j = cat o 1 then 1 else 0
theorem plc_lt (o j : Nat) : plc o j < 4 := by unfold plc; split; · decide
                                               split; · decide
                                               split <;> decide
theorem eo_all : ∀ o, o < 256 → sn o 4 = 15 → ∀ j, j < 4 → j = cat o 3 ∨ j = cat o 2 ∨ j = cat o 1 ∨ j = cat o 0 := by decide +kernel
def plo (o : Nat) (pl : Nat → Nat) : Nat → Nat → Nat
  | 0 => pl
  | i + 1 => up (plo o pl i) (cat o i) i
theorem plo_plc {o : Nat} (ho : o < 256) (he : eo o) (pl : Nat → Nat) {j : Nat} (hj : j < 4) : plo o pl 4 j = plc o j := by
  show (if j = cat o 3 then 3 else if j = cat o 2 then 2 else if j = cat o 1 then 1 else if j = cat o 0 then 0 else pl j) = plc o j
  unfold plc
  rcases eo_all o ho he j hj with h | h | h | h
  · rw [if_pos h, if_pos h]
  · by_cases a : j = cat o 3
    · rw [if_pos a, if_pos a]
    · rw [if_neg a, if_neg a, if_pos h, if_pos h]
  · by_cases a : j = cat o 3
    · rw [if_pos a, if_pos a]
    · rw [if_neg a, if_neg a]
      by_cases b : j = cat o 2
      · rw [if_pos b, if_pos b]
      · rw [if_neg b, if_neg b, if_pos h, if_pos h]
  · rw [if_pos h]
def wft (tp pl : Nat → Nat) (f t : Nat) : Nat := tp (4 * f + t) * dist (pl f) (pl t)
def wfs (tp pl : Nat → Nat) (f : Nat) : Nat := sm (wft tp pl f) 4
/-- the pieces between cells, part by part, machine by machine -/
def oi (M g : Nat) (sets amts : Nat → Nat) (ch k : Nat) (f0 : Nat → Nat) : Nat → Nat → Nat
  | 0 => f0
  | i + 1 => if bt (setB sets ch k) i = 1 then up (oi M g sets amts ch k f0 i) (4 * hm M g (setB sets ch k) + cl g i) (oi M g sets amts ch k f0 i (4 * hm M g (setB sets ch k) + cl g i) + amts k) else oi M g sets amts ch k f0 i
def ob (M g : Nat) (sets amts : Nat → Nat) (ch : Nat) : Nat → Nat → Nat
  | 0 => fun _ => 0
  | k + 1 => oi M g sets amts ch k (ob M g sets amts ch k) M
def bo (tp : Nat → Nat) : Nat → Nat × Nat
  | 0 => (0, 1073741824)
  | o + 1 => if sn o 4 = 15 ∧ sm (wfs tp (plc o)) 4 < (bo tp o).2 then (o, sm (wfs tp (plc o)) 4) else bo tp o
theorem bo_le (tp : Nat → Nat) : ∀ o, (bo tp o).2 ≤ 1073741824 := by
  intro o
  induction o with
  | zero => exact Nat.le_refl _
  | succ o ih =>
    by_cases h : sn o 4 = 15 ∧ sm (wfs tp (plc o)) 4 < (bo tp o).2
    · rw [show bo tp (o + 1) = (o, sm (wfs tp (plc o)) 4) from if_pos h]
      exact Nat.le_trans (Nat.le_of_lt h.2) ih
    · rw [show bo tp (o + 1) = bo tp o from if_neg h]; exact ih
section Copy
variable {p : Program} {l : Launch} {e : Env} {R : Room} {s : State} {m : MethodId} {args : Array Value} {below : List Frame} {meth : Method} {c : Code} {H : Heap} {locs : List Loc} {cells slots : Nat} {Q : State → Prop}
variable {cc : ByteArray} {nL : Nat} {own : String} {D : va_G} {cA : ClassId} {A : Nat → Prop} {ws w1 : va_W} {pc : Nat} {ls : Array Slot} {rest : List Value} {a a0 : Nat}
theorem c_copy4 (E : Ev p s m args c cc nL own D cA A) (Z : Wd D A s ws H locs) (hls : ls.size = nL) {index : Nat} (hl : Cond.methodLink own index ⟨"java/lang/System", "arraycopy", "(Ljava/lang/Object;ILjava/lang/Object;II)V"⟩ ∈ UW) (hdg : decode cc pc = .ok (.invokestatic index, 3)) (q0 q1 : Nat) {f g f' : Nat → Int32} (he0 : ws[q0]? = some (a0, arR cA 4 f)) (he1 : ws[q1]? = some (a, arR cA 4 g)) (hf' : ∀ j, j < 4 → f j = f' j) (hw : ws.set q1 (a, arR cA 4 f') = w1)
    (hfr : 1 ≤ R.frames) (hlo : (rest.map fun v => v.category).sum + (nativeFrameWords "java/lang/System" "arraycopy" 5 + 11) ≤ R.locals)
    (kk : ∀ (H : Heap) (locs : List Loc), Wd D A s w1 H locs → W p l e R s m args below meth c H locs cells slots Q (F0 m (pc + 3) ls rest)) : W p l e R s m args below meth c H locs cells slots Q (F0 m pc ls (.int (nI 4) :: .int (nI 0) :: .ref a :: .int (nI 0) :: .ref a0 :: rest)) := by
  obtain ⟨⟨hx, hb, hml, ho, ht⟩, hK, hA⟩ := E
  have z4 : (nI 4).toNatClampNeg = 4 := nI_clamp (by decide)
  have z0 : (nI 0).toNatClampNeg = 0 := nI_clamp (by decide)
  refine va_copyi hx hb (hml.trans hls.symm) ho (ht _ hl) (ht _ mNat_arraycopy) (ht _ mT_java_lang_System_arraycopy) (ht _ mN_J10) hK Z.1 Z.2.1 Z.2.2 q0 q1 0 0 he0 he1 rfl rfl rfl (by decide) (by decide) (by decide) (by rw [z4, z0]; decide) (by rw [z4, z0]; decide) (fun _ _ => rfl) hfr hlo hdg (fun H1 locs1 h1 h2 h3 => ?_)
  rw [z4, z0] at h1 h2
  have Z1 : Wd D A s (ws.set q1 (a, arR cA 4 (va_cpy f g 0 0 4))) H1 locs1 := ⟨h1, h2, h3⟩
  have hlt : q1 < ws.length := (List.getElem?_eq_some_iff.mp he1).1
  refine kk H1 locs1 (Z1.norm (f' := f') q1 (by rw [List.getElem?_set, if_pos rfl, if_pos hlt]) (fun j hj => ?_) (by rw [List.set_set]; exact hw))
  rw [pk_cpy_in (Nat.zero_le _) (by omega), Nat.zero_add, Nat.sub_zero]
  exact hf' j hj
end Copy
end
section
abbrev rm_k_X2_orderOf : Room := { frames := 0, cells := 0, slots := 0, locals := 0 }
set_option maxHeartbeats 4000000 in
set_option maxRecDepth 100000 in
theorem k_X2_orderOf (l : Launch) (D : va_G) (cA : ClassId) (a : Nat) (b : Nat) (d : Nat) (f : Nat)  : Cti l yX2_orderOf cX2_orderOf 4 (some .int) rm_k_X2_orderOf D cA [.int (nI a), .int (nI b), .int (nI d), .int (nI f)] ([]) (fun (r : Int32) (_ : Unit) => r = nI (ord a b d f)) (fun _ => []) := by
  refine st_i (by decide) (Nat.le_of_ble_eq_true rfl) ?_
  intro p e s m args below meth c A Q E ret Z ls hl
  have hx := E.1.1
  have hb := E.1.2.1
  have hl : lv_has ls 4 [(0, .int (nI a)), (1, .int (nI b)), (2, .int (nI d)), (3, .int (nI f))] := hl
  refine lv_iload_n hx hb dX2_orderOf_0 rfl (lv_at hl 0 rfl) ?_
  refine lv_bipush (v := nI 6) hx hb dX2_orderOf_1 (by decide) ?_
  refine n_ishl hx hb dX2_orderOf_3 (by omega) ?_
  refine lv_iload_n hx hb dX2_orderOf_4 rfl (lv_at hl 1 rfl) ?_
  refine lv_iconst (v := nI 4) hx hb dX2_orderOf_5 (by decide) ?_
  refine n_ishl hx hb dX2_orderOf_6 (by omega) ?_
  refine n_ior hx hb dX2_orderOf_7 ?_
  refine lv_iload_n hx hb dX2_orderOf_8 rfl (lv_at hl 2 rfl) ?_
  refine lv_iconst (v := nI 2) hx hb dX2_orderOf_9 (by decide) ?_
  refine n_ishl hx hb dX2_orderOf_10 (by omega) ?_
  refine n_ior hx hb dX2_orderOf_11 ?_
  refine lv_iload_n hx hb dX2_orderOf_12 rfl (lv_at hl 3 rfl) ?_
  refine n_ior hx hb dX2_orderOf_13 ?_
  exact ret () Z dX2_orderOf_14 rfl rfl
abbrev rm_k_X2_cellAt : Room := { frames := 0, cells := 0, slots := 0, locals := 0 }
set_option maxHeartbeats 4000000 in
set_option maxRecDepth 100000 in
theorem k_X2_cellAt (l : Launch) (D : va_G) (cA : ClassId) (o : Nat) (i : Nat) (ho : o < 2 ^ 31) (hi : i < 4) : Cti l yX2_cellAt cX2_cellAt 2 (some .int) rm_k_X2_cellAt D cA [.int (nI o), .int (nI i)] ([]) (fun (r : Int32) (_ : Unit) => r = nI (cat o i)) (fun _ => []) := by
  refine st_i (by decide) (Nat.le_of_ble_eq_true rfl) ?_
  intro p e s m args below meth c A Q E ret Z ls hl
  have hx := E.1.1
  have hb := E.1.2.1
  have hl : lv_has ls 2 [(0, .int (nI o)), (1, .int (nI i))] := hl
  refine lv_iload_n hx hb dX2_cellAt_0 rfl (lv_at hl 0 rfl) ?_
  refine lv_iconst (v := nI 2) hx hb dX2_cellAt_1 (by decide) ?_
  refine lv_iconst (v := nI 3) hx hb dX2_cellAt_2 (by decide) ?_
  refine lv_iload_n hx hb dX2_cellAt_3 rfl (lv_at hl 1 rfl) ?_
  refine n_isub hx hb dX2_cellAt_4 (by omega) ?_
  refine n_imul hx hb dX2_cellAt_5 ?_
  refine n_ishr hx hb dX2_cellAt_6 (by omega) (by omega) ?_
  refine lv_iconst (v := nI 3) hx hb dX2_cellAt_7 (by decide) ?_
  refine n_iand3 hx hb dX2_cellAt_8 ?_
  refine r_top (y := nI (cat o i)) rfl ?_
  exact ret () Z dX2_cellAt_9 rfl rfl
abbrev rm_k_X2_hasEachOnce : Room := { frames := 1, cells := 0, slots := 0, locals := 21 }
set_option maxHeartbeats 4000000 in
set_option maxRecDepth 100000 in
theorem k_X2_hasEachOnce (l : Launch) (D : va_G) (cA : ClassId) (o : Nat) (ho : o < 2 ^ 31) : Cti l yX2_hasEachOnce cX2_hasEachOnce 3 (some .boolean) rm_k_X2_hasEachOnce D cA [.int (nI o)] ([]) (fun (r : Int32) (_ : Unit) => r = bI (eo o)) (fun _ => []) := by
  refine st_z (by decide) (Nat.le_of_ble_eq_true rfl) ?_
  intro p e s m args below meth c A Q E ret Z ls hl
  have hx := E.1.1
  have hb := E.1.2.1
  have hl : lv_has ls 3 [(0, .int (nI o))] := hl
  refine lv_iconst (v := nI 0) hx hb dX2_hasEachOnce_0 (by decide) ?_
  refine lv_istore_n (lv' := [(1, .int (nI 0)), (0, .int (nI o))]) hx hb dX2_hasEachOnce_1 rfl hl (by decide) rfl (fun ls hl => ?_)
  refine lv_iconst (v := nI 0) hx hb dX2_hasEachOnce_2 (by decide) ?_
  refine lv_istore_n (lv' := [(2, .int (nI 0)), (1, .int (nI 0)), (0, .int (nI o))]) hx hb dX2_hasEachOnce_3 rfl hl (by decide) rfl (fun ls hl => ?_)
  have L4 : ∀ (n4 i : Nat), 4 + 1 ≤ i + n4 → i ≤ 4 → ∀ (H : Heap) (locs : List Loc), Wd D A s ([]) H locs → ∀ (ls : Array Slot), lv_has ls 3 [(0, .int (nI o)), (1, .int (nI (sn o i))), (2, .int (nI i))] → W p l e rm_k_X2_hasEachOnce s m args below meth c H locs 0 0 Q (F0 m 4 ls []) := by
    intro n4
    induction n4 with
    | zero => exact fun i h1 h2 => absurd h1 (by omega)
    | succ n4 ih4 =>
      intro i hn4 hi4  H locs Z ls hl
      refine lv_iload_n hx hb dX2_hasEachOnce_4 rfl (lv_at hl 2 rfl) ?_
      refine lv_iconst (v := nI 4) hx hb dX2_hasEachOnce_5 (by decide) ?_
      refine n_icmp_ge (tgt := 25) hx hb dX2_hasEachOnce_6 (by decide) (by omega) (by omega) (fun c6 => ?_) (fun c6 => ?_)
      · obtain rfl : 4 = i := by omega
        refine lv_iload_n hx hb dX2_hasEachOnce_25 rfl (lv_at hl 1 rfl) ?_
        refine lv_bipush (v := nI 15) hx hb dX2_hasEachOnce_26 (by decide) ?_
        have hsn := sn_lt o 4
        refine n_icmp_ne (tgt := 35) hx hb dX2_hasEachOnce_28 (by decide) (by omega) (by omega) (fun c28 => ?_) (fun c28 => ?_)
        · refine lv_iconst (v := nI 0) hx hb dX2_hasEachOnce_35 (by decide) ?_
          exact ret () Z dX2_hasEachOnce_36 (Or.inl nI_0) rfl (nI_0.trans (bI_f c28).symm)
        · refine lv_iconst (v := nI 1) hx hb dX2_hasEachOnce_31 (by decide) ?_
          refine lv_goto (tgt := 36) hx hb dX2_hasEachOnce_32 (by decide) ?_
          exact ret () Z dX2_hasEachOnce_36 (Or.inr nI_one) rfl (nI_one.trans (bI_t c28).symm)
      · refine lv_iload_n hx hb dX2_hasEachOnce_9 rfl (lv_at hl 1 rfl) ?_
        refine lv_iconst (v := nI 1) hx hb dX2_hasEachOnce_10 (by decide) ?_
        refine lv_iload_n hx hb dX2_hasEachOnce_11 rfl (lv_at hl 0 rfl) ?_
        refine lv_iload_n hx hb dX2_hasEachOnce_12 rfl (lv_at hl 2 rfl) ?_
        refine c_Si (As := [.int (nI o), .int (nI i)]) (rest := [.int (nI 1), .int (nI (sn o i))]) (w2 := fun _ => []) E Z (k_X2_cellAt l D cA o i (by first | assumption | omega) (by first | assumption | omega)) ws_X2_18 ⟨rfl, rfl, Nat.le_of_ble_eq_true rfl, Nat.le_of_ble_eq_true rfl⟩ [] rfl rfl (fun _ => rfl) (fun _ => rfl) rfl hl.1 rfl (Nat.le_of_ble_eq_true rfl) dX2_hasEachOnce_13 ⟨Nat.zero_le _, Nat.zero_le _⟩ (fun r13 _ H locs hp13 Z => ?_)
        subst hp13
        have hc := cat_lt o i
        refine n_ishl1 hx hb dX2_hasEachOnce_16 (by omega) ?_
        refine n_ior hx hb dX2_hasEachOnce_17 ?_
        refine lv_istore_n (lv' := [(1, .int (nI ((sn o i) ||| (2 ^ (cat o i))))), (0, .int (nI o)), (2, .int (nI i))]) hx hb dX2_hasEachOnce_18 rfl hl (by decide) rfl (fun ls hl => ?_)
        refine lv_iinc (v := nI (i + 1)) (lv' := [(2, .int (nI (i + 1))), (1, .int (nI ((sn o i) ||| (2 ^ (cat o i))))), (0, .int (nI o))]) hx hb dX2_hasEachOnce_19 hl (k := 2) rfl (n_inc _ _ (by decide)) (by decide) rfl (fun ls hl => ?_)
        refine lv_goto (tgt := 4) hx hb dX2_hasEachOnce_22 (by decide) ?_
        exact ih4 (i + 1) (by omega) (by omega)   _ _ Z ls (lv_sub hl [2, 1, 0] rfl)
  exact L4 (4 + 1) 0 (by omega) (by omega)   _ _ Z ls (lv_sub hl [2, 1, 0] rfl)
abbrev rm_k_X2_observe : Room := { frames := 2, cells := 0, slots := 0, locals := 45 }
set_option maxHeartbeats 4000000 in
set_option maxRecDepth 100000 in
theorem k_X2_observe (l : Launch) (D : va_G) (cA : ClassId) (q : Nat) (qt : Nat) (qp : Nat) (tp : Nat → Nat) (pq : Nat) (ps : Nat) (pa : Nat) (size : Nat) (ch : Nat) (sets : Nat → Nat) (amts : Nat → Nat) (gq : Nat) (gm : Nat) (mc : Nat) (n : Nat) (mem : Nat → Nat) (hP : size ≤ 8) (hch : ch < 256) (hs : ∀ j, sets j < 128) (hn31 : n < 2 ^ 31) (hm0 : mOk mc n mem) (hM : mc ≤ 7) : Ctv l yX2_observe cX2_observe 8 none rm_k_X2_observe D cA [.ref q, .ref pq, .ref gq, .int (nI mc)] ([oR q qt qp, aN cA qt 16 tp, oP pq ps pa size ch, aN cA ps 16 sets, aN cA pa 8 amts, oG gq gm mc n, aN cA gm 4 mem]) (fun (_ : Unit) => True) (fun _ => [oR q qt qp, aN cA qt 16 (ob mc n sets amts ch size), oP pq ps pa size ch, aN cA ps 16 sets, aN cA pa 8 amts, oG gq gm mc n, aN cA gm 4 mem]) := by
  refine st_v (by decide) (Nat.le_of_ble_eq_true rfl) ?_
  intro p e s m args below meth c A Q E ret Z ls hl
  have hx := E.1.1
  have hb := E.1.2.1
  have hl : lv_has ls 8 [(0, .ref q), (1, .ref pq), (2, .ref gq), (3, .int (nI mc))] := hl
  refine lv_aload_n hx hb dX2_observe_0 rfl (lv_at hl 0 rfl) ?_
  refine gF_X2_9 E Z dX2_observe_1 0 rfl rfl ?_
  refine lv_iconst (v := nI 0) hx hb dX2_observe_4 (by decide) ?_
  refine c_Sv (As := [.ref qt, .int (nI 0)]) (rest := []) (w2 := fun _ => [oR q qt qp, aN cA qt 16 (fun _ => 0), oP pq ps pa size ch, aN cA ps 16 sets, aN cA pa 8 amts, oG gq gm mc n, aN cA gm 4 mem]) E Z (k_J7_fill_53178 l D cA qt 16 tp 0 (by decide)) ws_X2_22 ⟨rfl, rfl, Nat.le_of_ble_eq_true rfl, Nat.le_of_ble_eq_true rfl⟩ [1] rfl rfl (fun _ => rfl) (fun _ => rfl) rfl hl.1 rfl (Nat.le_of_ble_eq_true rfl) dX2_observe_5 ⟨Nat.zero_le _, Nat.zero_le _⟩ (fun _ H locs hp5 Z => ?_)
  refine lv_iconst (v := nI 0) hx hb dX2_observe_8 (by decide) ?_
  refine lv_istore (lv' := [(4, .int (nI 0)), (0, .ref q), (1, .ref pq), (2, .ref gq), (3, .int (nI mc))]) hx hb dX2_observe_9 hl (by decide) rfl (fun ls hl => ?_)
  have L11 : ∀ (n11 k : Nat), size + 1 ≤ k + n11 → k ≤ size → ∀ (H : Heap) (locs : List Loc), Wd D A s ([oR q qt qp, aN cA qt 16 (ob mc n sets amts ch k), oP pq ps pa size ch, aN cA ps 16 sets, aN cA pa 8 amts, oG gq gm mc n, aN cA gm 4 mem]) H locs → ∀ (ls : Array Slot), lv_has ls 8 [(0, .ref q), (1, .ref pq), (2, .ref gq), (3, .int (nI mc)), (4, .int (nI k))] → W p l e rm_k_X2_observe s m args below meth c H locs 0 0 Q (F0 m 11 ls []) := by
    intro n11
    induction n11 with
    | zero => exact fun k h1 h2 => absurd h1 (by omega)
    | succ n11 ih11 =>
      intro k hn11 hi11  H locs Z ls hl
      refine lv_iload hx hb dX2_observe_11 (lv_at hl 4 rfl) ?_
      refine lv_aload_n hx hb dX2_observe_13 rfl (lv_at hl 1 rfl) ?_
      refine c_Vi (As := []) (rest := [.int (nI k)]) (w2 := fun _ => [oR q qt qp, aN cA qt 16 (ob mc n sets amts ch k), oP pq ps pa size ch, aN cA ps 16 sets, aN cA pa 8 amts, oG gq gm mc n, aN cA gm 4 mem]) E Z (k_X1_howMany l D cA pq ps pa size ch ) wv_X2_28 ⟨rfl, rfl, Nat.le_of_ble_eq_true rfl, Nat.le_of_ble_eq_true rfl⟩ [2] rfl rfl rfl rfl (q0 := 0) rfl (fun _ => rfl) (fun _ => rfl) rfl hl.1 rfl (Nat.le_of_ble_eq_true rfl) dX2_observe_14 ⟨Nat.zero_le _, Nat.zero_le _⟩ (fun r14 _ H locs hp14 Z => ?_)
      subst hp14
      refine n_icmp_ge (tgt := 92) hx hb dX2_observe_17 (by decide) (by omega) (by omega) (fun c17 => ?_) (fun c17 => ?_)
      · obtain rfl : size = k := by omega
        exact ret () Z dX2_observe_92 rfl trivial
      · refine lv_aload_n hx hb dX2_observe_20 rfl (lv_at hl 1 rfl) ?_
        refine lv_iload hx hb dX2_observe_21 (lv_at hl 4 rfl) ?_
        refine c_Vi (As := [.int (nI k)]) (rest := []) (w2 := fun _ => [oR q qt qp, aN cA qt 16 (ob mc n sets amts ch k), oP pq ps pa size ch, aN cA ps 16 sets, aN cA pa 8 amts, oG gq gm mc n, aN cA gm 4 mem]) E Z (k_X1_setOf l D cA pq ps pa size ch sets k (by first | assumption | omega) (by first | assumption | omega)) wv_X2_34 ⟨rfl, rfl, Nat.le_of_ble_eq_true rfl, Nat.le_of_ble_eq_true rfl⟩ [2, 3] rfl rfl rfl rfl (q0 := 0) rfl (fun _ => rfl) (fun _ => rfl) rfl hl.1 rfl (Nat.le_of_ble_eq_true rfl) dX2_observe_23 ⟨Nat.zero_le _, Nat.zero_le _⟩ (fun r23 _ H locs hp23 Z => ?_)
        subst hp23
        refine lv_istore (lv' := [(5, .int (nI (setB sets ch k))), (0, .ref q), (1, .ref pq), (2, .ref gq), (3, .int (nI mc)), (4, .int (nI k))]) hx hb dX2_observe_26 hl (by decide) rfl (fun ls hl => ?_)
        refine lv_aload_n hx hb dX2_observe_28 rfl (lv_at hl 3 rfl) ?_
        refine lv_iload hx hb dX2_observe_29 (lv_at hl 0 rfl) ?_
        refine c_Vi (As := [.int (nI (setB sets ch k))]) (rest := []) (w2 := fun _ => [oR q qt qp, aN cA qt 16 (ob mc n sets amts ch k), oP pq ps pa size ch, aN cA ps 16 sets, aN cA pa 8 amts, oG gq gm mc n, aN cA gm 4 mem]) E Z (k_X0_homeOf l D cA gq gm mc n mem (setB sets ch k) (by first | assumption | omega) (by first | assumption | omega)) wv_X2_38 ⟨rfl, rfl, Nat.le_of_ble_eq_true rfl, Nat.le_of_ble_eq_true rfl⟩ [5, 6] rfl rfl rfl rfl (q0 := 0) rfl (fun _ => rfl) (fun _ => rfl) rfl hl.1 rfl (Nat.le_of_ble_eq_true rfl) dX2_observe_31 ⟨Nat.zero_le _, Nat.zero_le _⟩ (fun r31 _ H locs hp31 Z => ?_)
        subst hp31
        refine lv_istore (lv' := [(6, .int (nI (hm mc n (setB sets ch k)))), (5, .int (nI (setB sets ch k))), (0, .ref q), (1, .ref pq), (2, .ref gq), (3, .int (nI mc)), (4, .int (nI k))]) hx hb dX2_observe_34 hl (by decide) rfl (fun ls hl => ?_)
        refine lv_iconst (v := nI 0) hx hb dX2_observe_36 (by decide) ?_
        refine lv_istore (lv' := [(7, .int (nI 0)), (6, .int (nI (hm mc n (setB sets ch k)))), (5, .int (nI (setB sets ch k))), (0, .ref q), (1, .ref pq), (2, .ref gq), (3, .int (nI mc)), (4, .int (nI k))]) hx hb dX2_observe_37 hl (by decide) rfl (fun ls hl => ?_)
        have L39 : ∀ (n39 i : Nat), mc + 1 ≤ i + n39 → i ≤ mc → ∀ (H : Heap) (locs : List Loc), Wd D A s ([oR q qt qp, aN cA qt 16 (oi mc n sets amts ch k (ob mc n sets amts ch k) i), oP pq ps pa size ch, aN cA ps 16 sets, aN cA pa 8 amts, oG gq gm mc n, aN cA gm 4 mem]) H locs → ∀ (ls : Array Slot), lv_has ls 8 [(0, .ref q), (1, .ref pq), (2, .ref gq), (3, .int (nI mc)), (4, .int (nI k)), (5, .int (nI (setB sets ch k))), (6, .int (nI (hm mc n (setB sets ch k)))), (7, .int (nI i))] → W p l e rm_k_X2_observe s m args below meth c H locs 0 0 Q (F0 m 39 ls []) := by
          intro n39
          induction n39 with
          | zero => exact fun i h1 h2 => absurd h1 (by omega)
          | succ n39 ih39 =>
            intro i hn39 hi39  H locs Z ls hl
            refine lv_iload hx hb dX2_observe_39 (lv_at hl 7 rfl) ?_
            refine lv_iload_n hx hb dX2_observe_41 rfl (lv_at hl 3 rfl) ?_
            refine n_icmp_ge (tgt := 86) hx hb dX2_observe_42 (by decide) (by omega) (by omega) (fun c42 => ?_) (fun c42 => ?_)
            · obtain rfl : mc = i := by omega
              refine lv_iinc (v := nI (k + 1)) (lv' := [(4, .int (nI (k + 1))), (0, .ref q), (1, .ref pq), (2, .ref gq), (3, .int (nI mc)), (5, .int (nI (setB sets ch k))), (6, .int (nI (hm mc n (setB sets ch k)))), (7, .int (nI mc))]) hx hb dX2_observe_86 hl (k := 4) rfl (n_inc _ _ (by decide)) (by decide) rfl (fun ls hl => ?_)
              refine lv_goto (tgt := 11) hx hb dX2_observe_89 (by decide) ?_
              exact ih11 (k + 1) (by omega) (by omega)   _ _ Z ls (lv_sub hl [1, 2, 3, 4, 0] rfl)
            · refine lv_iload hx hb dX2_observe_45 (lv_at hl 5 rfl) ?_
              refine lv_iload hx hb dX2_observe_47 (lv_at hl 7 rfl) ?_
              refine c_Si (As := [.int (nI (setB sets ch k)), .int (nI i)]) (rest := []) (w2 := fun _ => [oR q qt qp, aN cA qt 16 (oi mc n sets amts ch k (ob mc n sets amts ch k) i), oP pq ps pa size ch, aN cA ps 16 sets, aN cA pa 8 amts, oG gq gm mc n, aN cA gm 4 mem]) E Z (k_X1_hasMachine l D cA (setB sets ch k) i (Nat.lt_trans (hs _) (by decide)) (by first | assumption | omega)) ws_X2_43 ⟨rfl, rfl, Nat.le_of_ble_eq_true rfl, Nat.le_of_ble_eq_true rfl⟩ [] rfl rfl (fun _ => rfl) (fun _ => rfl) rfl hl.1 rfl (Nat.le_of_ble_eq_true rfl) dX2_observe_49 ⟨Nat.zero_le _, Nat.zero_le _⟩ (fun r49 _ H locs hp49 Z => ?_)
              subst hp49
              refine b_if_eq (tgt := 80) hx hb dX2_observe_52 (by decide) (fun c52 => ?_) (fun c52 => ?_)
              · replace Z : Wd D A s ([oR q qt qp, aN cA qt 16 (oi mc n sets amts ch k (ob mc n sets amts ch k) (i + 1)), oP pq ps pa size ch, aN cA ps 16 sets, aN cA pa 8 amts, oG gq gm mc n, aN cA gm 4 mem]) _ _ := Z.to (by rw [show oi mc n sets amts ch k (ob mc n sets amts ch k) (i + 1) = oi mc n sets amts ch k (ob mc n sets amts ch k) i from if_neg c52])
                refine lv_iinc (v := nI (i + 1)) (lv' := [(7, .int (nI (i + 1))), (0, .ref q), (1, .ref pq), (2, .ref gq), (3, .int (nI mc)), (4, .int (nI k)), (5, .int (nI (setB sets ch k))), (6, .int (nI (hm mc n (setB sets ch k))))]) hx hb dX2_observe_80 hl (k := 7) rfl (n_inc _ _ (by decide)) (by decide) rfl (fun ls hl => ?_)
                refine lv_goto (tgt := 39) hx hb dX2_observe_83 (by decide) ?_
                exact ih39 (i + 1) (by omega) (by omega)   _ _ Z ls (lv_sub hl [1, 2, 3, 4, 5, 6, 7, 0] rfl)
              · refine lv_aload_n hx hb dX2_observe_55 rfl (lv_at hl 0 rfl) ?_
                refine gF_X2_9 E Z dX2_observe_56 0 rfl rfl ?_
                refine lv_iconst (v := nI 4) hx hb dX2_observe_59 (by decide) ?_
                refine lv_iload hx hb dX2_observe_60 (lv_at hl 6 rfl) ?_
                refine n_imul hx hb dX2_observe_62 ?_
                refine lv_aload_n hx hb dX2_observe_63 rfl (lv_at hl 2 rfl) ?_
                refine lv_iload hx hb dX2_observe_64 (lv_at hl 7 rfl) ?_
                refine c_Vi (As := [.int (nI i)]) (rest := [.int (nI (4 * (hm mc n (setB sets ch k)))), .ref qt]) (w2 := fun _ => [oR q qt qp, aN cA qt 16 (oi mc n sets amts ch k (ob mc n sets amts ch k) i), oP pq ps pa size ch, aN cA ps 16 sets, aN cA pa 8 amts, oG gq gm mc n, aN cA gm 4 mem]) E Z (k_X0_cellOf l D cA gq gm mc n i (by first | assumption | omega) (by first | assumption | omega)) wv_X2_47 ⟨rfl, rfl, Nat.le_of_ble_eq_true rfl, Nat.le_of_ble_eq_true rfl⟩ [5] rfl rfl rfl rfl (q0 := 0) rfl (fun _ => rfl) (fun _ => rfl) rfl hl.1 rfl (Nat.le_of_ble_eq_true rfl) dX2_observe_66 ⟨Nat.zero_le _, Nat.zero_le _⟩ (fun r66 _ H locs hp66 Z => ?_)
                subst hp66
                have hh := hm_lt mc n (setB sets ch k)
                have hc := cl_lt n i
                refine n_iadd hx hb dX2_observe_69 ?_
                refine lv_dup2_11 hx hb dX2_observe_70 rfl rfl ?_
                refine r_ald E Z dX2_observe_71 1 rfl (by omega) (by decide) ?_
                refine lv_aload_n hx hb dX2_observe_72 rfl (lv_at hl 1 rfl) ?_
                refine lv_iload hx hb dX2_observe_73 (lv_at hl 4 rfl) ?_
                refine c_Vi (As := [.int (nI k)]) (rest := [.int (nI ((oi mc n sets amts ch k (ob mc n sets amts ch k) i) (4 * (hm mc n (setB sets ch k)) + (cl n i)))), .int (nI (4 * (hm mc n (setB sets ch k)) + (cl n i))), .ref qt]) (w2 := fun _ => [oR q qt qp, aN cA qt 16 (oi mc n sets amts ch k (ob mc n sets amts ch k) i), oP pq ps pa size ch, aN cA ps 16 sets, aN cA pa 8 amts, oG gq gm mc n, aN cA gm 4 mem]) E Z (k_X1_piecesOf l D cA pq ps pa size ch amts k (by first | assumption | omega)) wv_X2_50 ⟨rfl, rfl, Nat.le_of_ble_eq_true rfl, Nat.le_of_ble_eq_true rfl⟩ [2, 4] rfl rfl rfl rfl (q0 := 0) rfl (fun _ => rfl) (fun _ => rfl) rfl hl.1 rfl (Nat.le_of_ble_eq_true rfl) dX2_observe_75 ⟨Nat.zero_le _, Nat.zero_le _⟩ (fun r75 _ H locs hp75 Z => ?_)
                subst hp75
                refine n_iadd hx hb dX2_observe_78 ?_
                refine r_ast (w1 := [oR q qt qp, aN cA qt 16 (up (oi mc n sets amts ch k (ob mc n sets amts ch k) i) (4 * (hm mc n (setB sets ch k)) + (cl n i)) ((oi mc n sets amts ch k (ob mc n sets amts ch k) i) (4 * (hm mc n (setB sets ch k)) + (cl n i)) + (amts k))), oP pq ps pa size ch, aN cA ps 16 sets, aN cA pa 8 amts, oG gq gm mc n, aN cA gm 4 mem]) E Z dX2_observe_79 1 rfl (by omega) (by decide) rfl (fun H locs Z => ?_)
                replace Z : Wd D A s ([oR q qt qp, aN cA qt 16 (oi mc n sets amts ch k (ob mc n sets amts ch k) (i + 1)), oP pq ps pa size ch, aN cA ps 16 sets, aN cA pa 8 amts, oG gq gm mc n, aN cA gm 4 mem]) _ _ := Z.to (by rw [show oi mc n sets amts ch k (ob mc n sets amts ch k) (i + 1) = up (oi mc n sets amts ch k (ob mc n sets amts ch k) i) (4 * (hm mc n (setB sets ch k)) + (cl n i)) ((oi mc n sets amts ch k (ob mc n sets amts ch k) i) (4 * (hm mc n (setB sets ch k)) + (cl n i)) + (amts k)) from if_pos c52])
                refine lv_iinc (v := nI (i + 1)) (lv' := [(7, .int (nI (i + 1))), (0, .ref q), (1, .ref pq), (2, .ref gq), (3, .int (nI mc)), (4, .int (nI k)), (5, .int (nI (setB sets ch k))), (6, .int (nI (hm mc n (setB sets ch k))))]) hx hb dX2_observe_80 hl (k := 7) rfl (n_inc _ _ (by decide)) (by decide) rfl (fun ls hl => ?_)
                refine lv_goto (tgt := 39) hx hb dX2_observe_83 (by decide) ?_
                exact ih39 (i + 1) (by omega) (by omega)   _ _ Z ls (lv_sub hl [1, 2, 3, 4, 5, 6, 7, 0] rfl)
        exact L39 (mc + 1) 0 (by omega) (by omega)   _ _ Z ls (lv_sub hl [3, 4, 5, 6, 7, 2, 1, 0] rfl)
  exact L11 (size + 1) 0 (by omega) (by omega)   _ _ Z ls (lv_sub hl [1, 2, 3, 4, 0] rfl)
abbrev rm_k_X2_wayOf : Room := { frames := 1, cells := 0, slots := 0, locals := 21 }
set_option maxHeartbeats 4000000 in
set_option maxRecDepth 100000 in
theorem k_X2_wayOf (l : Launch) (D : va_G) (cA : ClassId) (q : Nat) (qt : Nat) (qp : Nat) (tp : Nat → Nat) (pl : Nat → Nat) (o : Nat) (ho : o < 256) (he : eo o) : Cti l yX2_wayOf cX2_wayOf 5 (some .int) rm_k_X2_wayOf D cA [.ref q, .int (nI o)] ([oR q qt qp, aN cA qt 16 tp, aN cA qp 4 pl]) (fun (r : Int32) (_ : Unit) => r = nI (sm (wfs tp (plc o)) 4)) (fun _ => [oR q qt qp, aN cA qt 16 tp, aN cA qp 4 (plc o)]) := by
  refine st_i (by decide) (Nat.le_of_ble_eq_true rfl) ?_
  intro p e s m args below meth c A Q E ret Z ls hl
  have hx := E.1.1
  have hb := E.1.2.1
  have hl : lv_has ls 5 [(0, .ref q), (1, .int (nI o))] := hl
  refine lv_iconst (v := nI 0) hx hb dX2_wayOf_0 (by decide) ?_
  refine lv_istore_n (lv' := [(2, .int (nI 0)), (0, .ref q), (1, .int (nI o))]) hx hb dX2_wayOf_1 rfl hl (by decide) rfl (fun ls hl => ?_)
  have L2 : ∀ (n2 i : Nat), 4 + 1 ≤ i + n2 → i ≤ 4 → ∀ (H : Heap) (locs : List Loc), Wd D A s ([oR q qt qp, aN cA qt 16 tp, aN cA qp 4 (plo o pl i)]) H locs → ∀ (ls : Array Slot), lv_has ls 5 [(0, .ref q), (1, .int (nI o)), (2, .int (nI i))] → W p l e rm_k_X2_wayOf s m args below meth c H locs 0 0 Q (F0 m 2 ls []) := by
    intro n2
    induction n2 with
    | zero => exact fun i h1 h2 => absurd h1 (by omega)
    | succ n2 ih2 =>
      intro i hn2 hi2  H locs Z ls hl
      refine lv_iload_n hx hb dX2_wayOf_2 rfl (lv_at hl 2 rfl) ?_
      refine lv_iconst (v := nI 4) hx hb dX2_wayOf_3 (by decide) ?_
      refine n_icmp_ge (tgt := 24) hx hb dX2_wayOf_4 (by decide) (by omega) (by omega) (fun c4 => ?_) (fun c4 => ?_)
      · obtain rfl : 4 = i := by omega
        replace Z : Wd D A s ([oR q qt qp, aN cA qt 16 tp, aN cA qp 4 (plc o)]) _ _ := Z.norm 2 rfl (fun j hj => congrArg nI (plo_plc ho he pl hj)) rfl
        refine lv_iconst (v := nI 0) hx hb dX2_wayOf_24 (by decide) ?_
        refine lv_istore_n (lv' := [(2, .int (nI 0)), (0, .ref q), (1, .int (nI o))]) hx hb dX2_wayOf_25 rfl hl (by decide) rfl (fun ls hl => ?_)
        refine lv_iconst (v := nI 0) hx hb dX2_wayOf_26 (by decide) ?_
        refine lv_istore_n (lv' := [(3, .int (nI 0)), (2, .int (nI 0)), (0, .ref q), (1, .int (nI o))]) hx hb dX2_wayOf_27 rfl hl (by decide) rfl (fun ls hl => ?_)
        have L28 : ∀ (n28 f : Nat), 4 + 1 ≤ f + n28 → f ≤ 4 → ∀ (H : Heap) (locs : List Loc), Wd D A s ([oR q qt qp, aN cA qt 16 tp, aN cA qp 4 (plc o)]) H locs → ∀ (ls : Array Slot), lv_has ls 5 [(0, .ref q), (1, .int (nI o)), (2, .int (nI (sm (wfs tp (plc o)) f))), (3, .int (nI f))] → W p l e rm_k_X2_wayOf s m args below meth c H locs 0 0 Q (F0 m 28 ls []) := by
          intro n28
          induction n28 with
          | zero => exact fun f h1 h2 => absurd h1 (by omega)
          | succ n28 ih28 =>
            intro f hn28 hi28  H locs Z ls hl
            refine lv_iload_n hx hb dX2_wayOf_28 rfl (lv_at hl 3 rfl) ?_
            refine lv_iconst (v := nI 4) hx hb dX2_wayOf_29 (by decide) ?_
            refine n_icmp_ge (tgt := 86) hx hb dX2_wayOf_30 (by decide) (by omega) (by omega) (fun c30 => ?_) (fun c30 => ?_)
            · obtain rfl : 4 = f := by omega
              refine lv_iload_n hx hb dX2_wayOf_86 rfl (lv_at hl 2 rfl) ?_
              exact ret () Z dX2_wayOf_87 rfl rfl
            · refine lv_iconst (v := nI 0) hx hb dX2_wayOf_33 (by decide) ?_
              refine lv_istore (lv' := [(4, .int (nI 0)), (0, .ref q), (1, .int (nI o)), (2, .int (nI (sm (wfs tp (plc o)) f))), (3, .int (nI f))]) hx hb dX2_wayOf_34 hl (by decide) rfl (fun ls hl => ?_)
              have L36 : ∀ (n36 t : Nat), 4 + 1 ≤ t + n36 → t ≤ 4 → ∀ (H : Heap) (locs : List Loc), Wd D A s ([oR q qt qp, aN cA qt 16 tp, aN cA qp 4 (plc o)]) H locs → ∀ (ls : Array Slot), lv_has ls 5 [(0, .ref q), (1, .int (nI o)), (2, .int (nI (sm (wfs tp (plc o)) f + sm (wft tp (plc o) f) t))), (3, .int (nI f)), (4, .int (nI t))] → W p l e rm_k_X2_wayOf s m args below meth c H locs 0 0 Q (F0 m 36 ls []) := by
                intro n36
                induction n36 with
                | zero => exact fun t h1 h2 => absurd h1 (by omega)
                | succ n36 ih36 =>
                  intro t hn36 hi36  H locs Z ls hl
                  refine lv_iload hx hb dX2_wayOf_36 (lv_at hl 4 rfl) ?_
                  refine lv_iconst (v := nI 4) hx hb dX2_wayOf_38 (by decide) ?_
                  refine n_icmp_ge (tgt := 80) hx hb dX2_wayOf_39 (by decide) (by omega) (by omega) (fun c39 => ?_) (fun c39 => ?_)
                  · obtain rfl : 4 = t := by omega
                    refine lv_iinc (v := nI (f + 1)) (lv' := [(3, .int (nI (f + 1))), (0, .ref q), (1, .int (nI o)), (2, .int (nI (sm (wfs tp (plc o)) f + sm (wft tp (plc o) f) 4))), (4, .int (nI 4))]) hx hb dX2_wayOf_80 hl (k := 3) rfl (n_inc _ _ (by decide)) (by decide) rfl (fun ls hl => ?_)
                    refine lv_goto (tgt := 28) hx hb dX2_wayOf_83 (by decide) ?_
                    exact ih28 (f + 1) (by omega) (by omega)   _ _ Z ls (lv_sub hl [1, 2, 3, 0] rfl)
                  · refine lv_iload_n hx hb dX2_wayOf_42 rfl (lv_at hl 2 rfl) ?_
                    refine lv_aload_n hx hb dX2_wayOf_43 rfl (lv_at hl 0 rfl) ?_
                    refine gF_X2_9 E Z dX2_wayOf_44 0 rfl rfl ?_
                    refine lv_iconst (v := nI 4) hx hb dX2_wayOf_47 (by decide) ?_
                    refine lv_iload_n hx hb dX2_wayOf_48 rfl (lv_at hl 3 rfl) ?_
                    refine n_imul hx hb dX2_wayOf_49 ?_
                    refine lv_iload hx hb dX2_wayOf_50 (lv_at hl 4 rfl) ?_
                    refine n_iadd hx hb dX2_wayOf_52 ?_
                    refine r_ald E Z dX2_wayOf_53 1 rfl (by omega) (by decide) ?_
                    refine lv_aload_n hx hb dX2_wayOf_54 rfl (lv_at hl 0 rfl) ?_
                    refine gF_X2_15 E Z dX2_wayOf_55 0 rfl rfl ?_
                    refine lv_iload_n hx hb dX2_wayOf_58 rfl (lv_at hl 3 rfl) ?_
                    refine r_ald E Z dX2_wayOf_59 2 rfl (by omega) (by decide) ?_
                    refine lv_aload_n hx hb dX2_wayOf_60 rfl (lv_at hl 0 rfl) ?_
                    refine gF_X2_15 E Z dX2_wayOf_61 0 rfl rfl ?_
                    refine lv_iload hx hb dX2_wayOf_64 (lv_at hl 4 rfl) ?_
                    refine r_ald E Z dX2_wayOf_66 2 rfl (by omega) (by decide) ?_
                    refine lv_isub hx hb dX2_wayOf_67 ?_
                    refine n_abs E hl.1 mML_X2_53 dX2_wayOf_68 (Nat.le_of_ble_eq_true rfl) (Nat.le_of_ble_eq_true rfl) ⟨Nat.zero_le _, Nat.zero_le _⟩ ?_
                    have hp1 := plc_lt o f
                    have hp2 := plc_lt o t
                    refine r_top (y := nI (dist (plc o f) (plc o t))) (nI_abs (by omega) (by omega)) ?_
                    refine n_imul hx hb dX2_wayOf_71 ?_
                    refine n_iadd hx hb dX2_wayOf_72 ?_
                    refine r_top (y := nI (sm (wfs tp (plc o)) f + sm (wft tp (plc o) f) (t + 1))) (congrArg nI (Nat.add_assoc _ _ _)) ?_
                    refine lv_istore_n (lv' := [(2, .int (nI (sm (wfs tp (plc o)) f + sm (wft tp (plc o) f) (t + 1)))), (0, .ref q), (1, .int (nI o)), (3, .int (nI f)), (4, .int (nI t))]) hx hb dX2_wayOf_73 rfl hl (by decide) rfl (fun ls hl => ?_)
                    refine lv_iinc (v := nI (t + 1)) (lv' := [(4, .int (nI (t + 1))), (2, .int (nI (sm (wfs tp (plc o)) f + sm (wft tp (plc o) f) (t + 1)))), (0, .ref q), (1, .int (nI o)), (3, .int (nI f))]) hx hb dX2_wayOf_74 hl (k := 4) rfl (n_inc _ _ (by decide)) (by decide) rfl (fun ls hl => ?_)
                    refine lv_goto (tgt := 36) hx hb dX2_wayOf_77 (by decide) ?_
                    exact ih36 (t + 1) (by omega) (by omega)   _ _ Z ls (lv_sub hl [2, 3, 1, 4, 0] rfl)
              exact L36 (4 + 1) 0 (by omega) (by omega)   _ _ Z ls (lv_sub hl [1, 2, 3, 4, 0] rfl)
        exact L28 (4 + 1) 0 (by omega) (by omega)   _ _ Z ls (lv_sub hl [2, 3, 1, 0] rfl)
      · refine lv_aload_n hx hb dX2_wayOf_7 rfl (lv_at hl 0 rfl) ?_
        refine gF_X2_15 E Z dX2_wayOf_8 0 rfl rfl ?_
        refine lv_iload_n hx hb dX2_wayOf_11 rfl (lv_at hl 1 rfl) ?_
        refine lv_iload_n hx hb dX2_wayOf_12 rfl (lv_at hl 2 rfl) ?_
        refine c_Si (As := [.int (nI o), .int (nI i)]) (rest := [.ref qp]) (w2 := fun _ => [oR q qt qp, aN cA qt 16 tp, aN cA qp 4 (plo o pl i)]) E Z (k_X2_cellAt l D cA o i (by first | assumption | omega) (by first | assumption | omega)) ws_X2_18 ⟨rfl, rfl, Nat.le_of_ble_eq_true rfl, Nat.le_of_ble_eq_true rfl⟩ [] rfl rfl (fun _ => rfl) (fun _ => rfl) rfl hl.1 rfl (Nat.le_of_ble_eq_true rfl) dX2_wayOf_13 ⟨Nat.zero_le _, Nat.zero_le _⟩ (fun r13 _ H locs hp13 Z => ?_)
        subst hp13
        refine lv_iload_n hx hb dX2_wayOf_16 rfl (lv_at hl 2 rfl) ?_
        refine r_ast (w1 := [oR q qt qp, aN cA qt 16 tp, aN cA qp 4 (up (plo o pl i) (cat o i) i)]) E Z dX2_wayOf_17 2 rfl (cat_lt _ _) (by decide) rfl (fun H locs Z => ?_)
        refine lv_iinc (v := nI (i + 1)) (lv' := [(2, .int (nI (i + 1))), (0, .ref q), (1, .int (nI o))]) hx hb dX2_wayOf_18 hl (k := 2) rfl (n_inc _ _ (by decide)) (by decide) rfl (fun ls hl => ?_)
        refine lv_goto (tgt := 2) hx hb dX2_wayOf_21 (by decide) ?_
        exact ih2 (i + 1) (by omega) (by omega)   _ _ Z ls (lv_sub hl [1, 2, 0] rfl)
  exact L2 (4 + 1) 0 (by omega) (by omega)   _ _ Z ls (lv_sub hl [1, 2, 0] rfl)
abbrev rm_k_X2_bestOrder : Room := { frames := 2, cells := 0, slots := 0, locals := 45 }
set_option maxHeartbeats 4000000 in
set_option maxRecDepth 100000 in
theorem k_X2_bestOrder (l : Launch) (D : va_G) (cA : ClassId) (q : Nat) (qt : Nat) (qp : Nat) (tp : Nat → Nat) (pl : Nat → Nat) (hB : ∀ o, sm (wfs tp (plc o)) 4 < 2 ^ 30) : Cti l yX2_bestOrder cX2_bestOrder 5 (some .int) rm_k_X2_bestOrder D cA [.ref q] ([oR q qt qp, aN cA qt 16 tp, aN cA qp 4 pl]) (fun (r : Int32) (_ : Nat → Nat) => r = nI (bo tp 256).1) (fun u => [oR q qt qp, aN cA qt 16 tp, aN cA qp 4 u]) := by
  refine st_i (by decide) (Nat.le_of_ble_eq_true rfl) ?_
  intro p e s m args below meth c A Q E ret Z ls hl
  have hx := E.1.1
  have hb := E.1.2.1
  have hl : lv_has ls 5 [(0, .ref q)] := hl
  refine lv_iconst (v := nI 0) hx hb dX2_bestOrder_0 (by decide) ?_
  refine lv_istore_n (lv' := [(1, .int (nI 0)), (0, .ref q)]) hx hb dX2_bestOrder_1 rfl hl (by decide) rfl (fun ls hl => ?_)
  refine lv_ldc (v := 1073741824) hx hb E.1.2.2.2.1 (E.1.2.2.2.2 _ mK_X2_58) dX2_bestOrder_2 ?_
  refine r_top (y := nI 1073741824) (by decide) ?_
  refine lv_istore_n (lv' := [(2, .int (nI 1073741824)), (1, .int (nI 0)), (0, .ref q)]) hx hb dX2_bestOrder_4 rfl hl (by decide) rfl (fun ls hl => ?_)
  refine lv_iconst (v := nI 0) hx hb dX2_bestOrder_5 (by decide) ?_
  refine lv_istore_n (lv' := [(3, .int (nI 0)), (2, .int (nI 1073741824)), (1, .int (nI 0)), (0, .ref q)]) hx hb dX2_bestOrder_6 rfl hl (by decide) rfl (fun ls hl => ?_)
  have L7 : ∀ (n7 o : Nat), 256 + 1 ≤ o + n7 → o ≤ 256 → ∀ (pl : Nat → Nat), ∀ (H : Heap) (locs : List Loc), Wd D A s ([oR q qt qp, aN cA qt 16 tp, aN cA qp 4 pl]) H locs → ∀ (ls : Array Slot), lv_has ls 5 [(0, .ref q), (1, .int (nI ((bo tp o).1))), (2, .int (nI ((bo tp o).2))), (3, .int (nI o))] → W p l e rm_k_X2_bestOrder s m args below meth c H locs 0 0 Q (F0 m 7 ls []) := by
    intro n7
    induction n7 with
    | zero => exact fun o h1 h2 => absurd h1 (by omega)
    | succ n7 ih7 =>
      intro o hn7 hi7 pl  H locs Z ls hl
      refine lv_iload_n hx hb dX2_bestOrder_7 rfl (lv_at hl 3 rfl) ?_
      refine lv_sipush (v := nI 256) hx hb dX2_bestOrder_8 (by decide) ?_
      refine n_icmp_ge (tgt := 45) hx hb dX2_bestOrder_11 (by decide) (by omega) (by omega) (fun c11 => ?_) (fun c11 => ?_)
      · obtain rfl : 256 = o := by omega
        refine lv_iload_n hx hb dX2_bestOrder_45 rfl (lv_at hl 1 rfl) ?_
        exact ret pl Z dX2_bestOrder_46 rfl rfl
      · refine lv_iload_n hx hb dX2_bestOrder_14 rfl (lv_at hl 3 rfl) ?_
        refine c_Si (As := [.int (nI o)]) (rest := []) (w2 := fun _ => [oR q qt qp, aN cA qt 16 tp, aN cA qp 4 pl]) E Z (k_X2_hasEachOnce l D cA o (by first | assumption | omega)) ws_X2_59 ⟨rfl, rfl, Nat.le_of_ble_eq_true rfl, Nat.le_of_ble_eq_true rfl⟩ [] rfl rfl (fun _ => rfl) (fun _ => rfl) rfl hl.1 rfl (Nat.le_of_ble_eq_true rfl) dX2_bestOrder_15 ⟨Nat.zero_le _, Nat.zero_le _⟩ (fun r15 _ H locs hp15 Z => ?_)
        subst hp15
        refine b_if_eq (tgt := 39) hx hb dX2_bestOrder_18 (by decide) (fun c18 => ?_) (fun c18 => ?_)
        · replace hl : lv_has ls 5 [(0, .ref q), (1, .int (nI ((bo tp (o + 1)).1))), (2, .int (nI ((bo tp o).2))), (3, .int (nI o))] := by rw [show bo tp (o + 1) = bo tp o from if_neg (fun h => c18 h.1)]; exact hl
          replace hl : lv_has ls 5 [(0, .ref q), (1, .int (nI ((bo tp (o + 1)).1))), (2, .int (nI ((bo tp (o + 1)).2))), (3, .int (nI o))] := by rw [show bo tp (o + 1) = bo tp o from if_neg (fun h => c18 h.1)] at hl ⊢; exact hl
          refine lv_iinc (v := nI (o + 1)) (lv' := [(3, .int (nI (o + 1))), (0, .ref q), (1, .int (nI ((bo tp (o + 1)).1))), (2, .int (nI ((bo tp (o + 1)).2)))]) hx hb dX2_bestOrder_39 hl (k := 3) rfl (n_inc _ _ (by decide)) (by decide) rfl (fun ls hl => ?_)
          refine lv_goto (tgt := 7) hx hb dX2_bestOrder_42 (by decide) ?_
          exact ih7 (o + 1) (by omega) (by omega) _  _ _ Z ls (lv_sub hl [1, 2, 3, 0] rfl)
        · refine lv_aload_n hx hb dX2_bestOrder_21 rfl (lv_at hl 0 rfl) ?_
          refine lv_iload_n hx hb dX2_bestOrder_22 rfl (lv_at hl 3 rfl) ?_
          refine c_Vi (As := [.int (nI o)]) (rest := []) (w2 := fun _ => [oR q qt qp, aN cA qt 16 tp, aN cA qp 4 (plc o)]) E Z (k_X2_wayOf l D cA q qt qp tp pl o (by first | assumption | omega) (by first | assumption | omega)) wv_X2_63 ⟨rfl, rfl, Nat.le_of_ble_eq_true rfl, Nat.le_of_ble_eq_true rfl⟩ [0, 1, 2] rfl rfl rfl rfl (q0 := 0) rfl (fun _ => rfl) (fun _ => rfl) rfl hl.1 rfl (Nat.le_of_ble_eq_true rfl) dX2_bestOrder_23 ⟨Nat.zero_le _, Nat.zero_le _⟩ (fun r23 _ H locs hp23 Z => ?_)
          subst hp23
          refine lv_istore (lv' := [(4, .int (nI (sm (wfs tp (plc o)) 4))), (0, .ref q), (1, .int (nI ((bo tp o).1))), (2, .int (nI ((bo tp o).2))), (3, .int (nI o))]) hx hb dX2_bestOrder_26 hl (by decide) rfl (fun ls hl => ?_)
          have h1 := hB o
          have h2 := bo_le tp o
          refine lv_iload hx hb dX2_bestOrder_28 (lv_at hl 0 rfl) ?_
          refine lv_iload_n hx hb dX2_bestOrder_30 rfl (lv_at hl 3 rfl) ?_
          refine n_icmp_ge (tgt := 39) hx hb dX2_bestOrder_31 (by decide) (by omega) (by omega) (fun c31 => ?_) (fun c31 => ?_)
          · replace hl : lv_has ls 5 [(4, .int (nI (sm (wfs tp (plc o)) 4))), (0, .ref q), (1, .int (nI ((bo tp (o + 1)).1))), (2, .int (nI ((bo tp o).2))), (3, .int (nI o))] := by rw [show bo tp (o + 1) = bo tp o from if_neg (fun h => Nat.not_lt.mpr c31 h.2)]; exact hl
            replace hl : lv_has ls 5 [(4, .int (nI (sm (wfs tp (plc o)) 4))), (0, .ref q), (1, .int (nI ((bo tp (o + 1)).1))), (2, .int (nI ((bo tp (o + 1)).2))), (3, .int (nI o))] := by rw [show bo tp (o + 1) = bo tp o from if_neg (fun h => Nat.not_lt.mpr c31 h.2)] at hl ⊢; exact hl
            refine lv_iinc (v := nI (o + 1)) (lv' := [(3, .int (nI (o + 1))), (4, .int (nI (sm (wfs tp (plc o)) 4))), (0, .ref q), (1, .int (nI ((bo tp (o + 1)).1))), (2, .int (nI ((bo tp (o + 1)).2)))]) hx hb dX2_bestOrder_39 hl (k := 4) rfl (n_inc _ _ (by decide)) (by decide) rfl (fun ls hl => ?_)
            refine lv_goto (tgt := 7) hx hb dX2_bestOrder_42 (by decide) ?_
            exact ih7 (o + 1) (by omega) (by omega) _  _ _ Z ls (lv_sub hl [2, 3, 4, 0] rfl)
          · refine lv_iload hx hb dX2_bestOrder_34 (lv_at hl 0 rfl) ?_
            refine lv_istore_n (lv' := [(2, .int (nI (sm (wfs tp (plc o)) 4))), (4, .int (nI (sm (wfs tp (plc o)) 4))), (0, .ref q), (1, .int (nI ((bo tp o).1))), (3, .int (nI o))]) hx hb dX2_bestOrder_36 rfl hl (by decide) rfl (fun ls hl => ?_)
            refine lv_iload_n hx hb dX2_bestOrder_37 rfl (lv_at hl 4 rfl) ?_
            refine lv_istore_n (lv' := [(1, .int (nI o)), (2, .int (nI (sm (wfs tp (plc o)) 4))), (4, .int (nI (sm (wfs tp (plc o)) 4))), (0, .ref q), (3, .int (nI o))]) hx hb dX2_bestOrder_38 rfl hl (by decide) rfl (fun ls hl => ?_)
            replace hl : lv_has ls 5 [(1, .int (nI ((bo tp (o + 1)).1))), (2, .int (nI (sm (wfs tp (plc o)) 4))), (4, .int (nI (sm (wfs tp (plc o)) 4))), (0, .ref q), (3, .int (nI o))] := by rw [show bo tp (o + 1) = (o, sm (wfs tp (plc o)) 4) from if_pos ⟨c18, c31⟩]; exact hl
            replace hl : lv_has ls 5 [(1, .int (nI ((bo tp (o + 1)).1))), (2, .int (nI ((bo tp (o + 1)).2))), (4, .int (nI (sm (wfs tp (plc o)) 4))), (0, .ref q), (3, .int (nI o))] := by rw [show bo tp (o + 1) = (o, sm (wfs tp (plc o)) 4) from if_pos ⟨c18, c31⟩] at hl ⊢; exact hl
            refine lv_iinc (v := nI (o + 1)) (lv' := [(3, .int (nI (o + 1))), (1, .int (nI ((bo tp (o + 1)).1))), (2, .int (nI ((bo tp (o + 1)).2))), (4, .int (nI (sm (wfs tp (plc o)) 4))), (0, .ref q)]) hx hb dX2_bestOrder_39 hl (k := 4) rfl (n_inc _ _ (by decide)) (by decide) rfl (fun ls hl => ?_)
            refine lv_goto (tgt := 7) hx hb dX2_bestOrder_42 (by decide) ?_
            exact ih7 (o + 1) (by omega) (by omega) _  _ _ Z ls (lv_sub hl [4, 1, 2, 0] rfl)
  exact L7 (256 + 1) 0 (by omega) (by omega) _  _ _ Z ls (lv_sub hl [3, 2, 1, 0] rfl)
end
section
/-! the tree of likeness -/
def tcm (P : Nat) (sets : Nat → Nat) (ch : Nat) (hp : Nat → Nat) (a b : Nat) (t : TS) : TS := if t.2.2.1 * nI (eith P sets ch a b) < nI (sm (bop sets ch a b) P) * t.2.2.2 then (hp a, hp b, nI (sm (bop sets ch a b) P), nI (eith P sets ch a b)) else t
def tb (P : Nat) (sets : Nat → Nat) (ch : Nat) (hp : Nat → Nat) (f g a : Nat) (t : TS) : Nat → TS
  | 0 => t
  | b + 1 => if hp a = f ∧ hp b = g then tcm P sets ch hp a b (tb P sets ch hp f g a t b) else tb P sets ch hp f g a t b
def ta (P : Nat) (sets : Nat → Nat) (ch : Nat) (hp : Nat → Nat) (f g M : Nat) (t : TS) : Nat → TS
  | 0 => t
  | a + 1 => tb P sets ch hp f g a (ta P sets ch hp f g M t a) M
/-- the class looks at names of heaps alone -/
def tso (P : Nat) (sets : Nat → Nat) (ch : Nat) (hp : Nat → Nat) (M : Nat) (t : TS) (f : Nat) : Nat → TS
  | 0 => t
  | o + 1 => if f < o ∧ hp f = f ∧ hp o = o then ta P sets ch hp f o M (tso P sets ch hp M t f o) M else tso P sets ch hp M t f o
def tsf (P : Nat) (sets : Nat → Nat) (ch : Nat) (hp : Nat → Nat) (M : Nat) (t : TS) : Nat → TS
  | 0 => t
  | f + 1 => tso P sets ch hp M (tsf P sets ch hp M t f) f M
def spj (P : Nat) (sets : Nat → Nat) (ch : Nat) (hp : Nat → Nat) (M : Nat) (t : TS) : TS := tsf P sets ch hp M (t.1, t.2.1, (-1), nI 1) M
def un (fi se : Nat) (hp : Nat → Nat) : Nat → Nat → Nat
  | 0 => hp
  | i + 1 => up (un fi se hp i) i (if un fi se hp i i = se then fi else un fi se hp i i)
def hin (hp : Nat → Nat) : Nat → Nat → Nat
  | 0 => hp
  | i + 1 => up (hin hp i) i i
def gj (P : Nat) (sets : Nat → Nat) (ch M : Nat) (hp : Nat → Nat) (t : TS) : Nat → (Nat → Nat) × TS
  | 0 => (hp, t)
  | k + 1 => (un (spj P sets ch (gj P sets ch M hp t k).1 M (gj P sets ch M hp t k).2).1 (spj P sets ch (gj P sets ch M hp t k).1 M (gj P sets ch M hp t k).2).2.1 (gj P sets ch M hp t k).1 M, spj P sets ch (gj P sets ch M hp t k).1 M (gj P sets ch M hp t k).2)
def tok (t : TS) : Prop := t.1 < 8 ∧ t.2.1 < 8
theorem up_self {α : Type} (g : Nat → α) (k : Nat) : up g k (g k) = g := by
  funext j
  unfold up
  by_cases h : j = k
  · rw [if_pos h, h]
  · rw [if_neg h]
theorem tso_lo (P : Nat) (sets : Nat → Nat) (ch : Nat) (hp : Nat → Nat) (M : Nat) (t : TS) (f : Nat) : ∀ o, o ≤ f + 1 → tso P sets ch hp M t f o = t := by
  intro o
  induction o with
  | zero => intro _; rfl
  | succ o ih =>
    intro h
    rw [show tso P sets ch hp M t f (o + 1) = tso P sets ch hp M t f o from if_neg (fun q => by omega)]
    exact ih (by omega)
section Tok
variable {P : Nat} {sets : Nat → Nat} {ch : Nat} {hp : Nat → Nat} (hh : ∀ j, hp j < 8)
theorem tcm_ok (a b : Nat) {t : TS} (h : tok t) (hh : ∀ j, hp j < 8) : tok (tcm P sets ch hp a b t) := by
  unfold tcm
  split
  · exact ⟨hh a, hh b⟩
  · exact h
theorem tb_ok (f g a : Nat) {t : TS} (h : tok t) (hh : ∀ j, hp j < 8) : ∀ b, tok (tb P sets ch hp f g a t b) := by
  intro b
  induction b with
  | zero => exact h
  | succ b ih =>
    show tok (if _ then _ else _)
    split
    · exact tcm_ok a b ih hh
    · exact ih
theorem ta_ok (f g M : Nat) {t : TS} (h : tok t) (hh : ∀ j, hp j < 8) : ∀ a, tok (ta P sets ch hp f g M t a) := by
  intro a
  induction a with
  | zero => exact h
  | succ a ih => exact tb_ok f g a ih hh M
theorem tso_ok (M f : Nat) {t : TS} (h : tok t) (hh : ∀ j, hp j < 8) : ∀ o, tok (tso P sets ch hp M t f o) := by
  intro o
  induction o with
  | zero => exact h
  | succ o ih =>
    show tok (if _ then _ else _)
    split
    · exact ta_ok f o M ih hh M
    · exact ih
theorem tsf_ok (M : Nat) {t : TS} (h : tok t) (hh : ∀ j, hp j < 8) : ∀ f, tok (tsf P sets ch hp M t f) := by
  intro f
  induction f with
  | zero => exact h
  | succ f ih => exact tso_ok M f ih hh M
theorem spj_ok (M : Nat) {t : TS} (h : tok t) (hh : ∀ j, hp j < 8) : tok (spj P sets ch hp M t) := tsf_ok (t := (t.1, t.2.1, (-1), nI 1)) M h hh M
theorem un_lt {fi se : Nat} (hf : fi < 8) (hh : ∀ j, hp j < 8) : ∀ i j, un fi se hp i j < 8 := by
  intro i
  induction i with
  | zero => exact hh
  | succ i ih =>
    intro j
    show up (un fi se hp i) i _ j < 8
    unfold up
    split
    · split
      · exact hf
      · exact ih i
    · exact ih j
theorem hin_lt (hh : ∀ j, hp j < 8) : ∀ i, i ≤ 8 → ∀ j, hin hp i j < 8 := by
  intro i
  induction i with
  | zero => intro _; exact hh
  | succ i ih =>
    intro h j
    show up (hin hp i) i i j < 8
    unfold up
    split
    · omega
    · exact ih (by omega) j
theorem gj_ok (M : Nat) {t : TS} (h : tok t) (hh : ∀ j, hp j < 8) : ∀ k, (∀ j, (gj P sets ch M hp t k).1 j < 8) ∧ tok (gj P sets ch M hp t k).2 := by
  intro k
  induction k with
  | zero => exact ⟨hh, h⟩
  | succ k ih =>
    have h1 := spj_ok (P := P) (sets := sets) (ch := ch) M ih.2 ih.1
    exact ⟨un_lt h1.1 ih.1 M, h1⟩
end Tok
def tel (t : TS) (w : Nat) : Int32 := if w = 0 then nI t.1 else if w = 1 then nI t.2.1 else if w = 2 then t.2.2.1 else t.2.2.2
end
section
abbrev rm_k_X3_compareMachines : Room := { frames := 2, cells := 0, slots := 0, locals := 47 }
set_option maxHeartbeats 4000000 in
set_option maxRecDepth 100000 in
theorem k_X3_compareMachines (l : Launch) (D : va_G) (cA : ClassId) (q : Nat) (qh : Nat) (mc : Nat) (t : TS) (hp : Nat → Nat) (pq : Nat) (ps : Nat) (pa : Nat) (size : Nat) (ch : Nat) (sets : Nat → Nat) (a : Nat) (b : Nat) (hP : size ≤ 8) (hch : ch < 256) (hs : ∀ j, sets j < 128) (ha : a < 7) (hb0 : b < 7) : Ctv l yX3_compareMachines cX3_compareMachines 6 none rm_k_X3_compareMachines D cA [.ref q, .ref pq, .int (nI a), .int (nI b)] ([oT q qh mc t, aN cA qh 7 hp, oP pq ps pa size ch, aN cA ps 16 sets]) (fun (_ : Unit) => True) (fun _ => [oT q qh mc (tcm size sets ch hp a b t), aN cA qh 7 hp, oP pq ps pa size ch, aN cA ps 16 sets]) := by
  refine st_v (by decide) (Nat.le_of_ble_eq_true rfl) ?_
  intro p e s m args below meth c A Q E ret Z ls hl
  have hx := E.1.1
  have hb := E.1.2.1
  have hl : lv_has ls 6 [(0, .ref q), (1, .ref pq), (2, .int (nI a)), (3, .int (nI b))] := hl
  refine lv_aload_n hx hb dX3_compareMachines_0 rfl (lv_at hl 1 rfl) ?_
  refine lv_iload_n hx hb dX3_compareMachines_1 rfl (lv_at hl 2 rfl) ?_
  refine lv_iload_n hx hb dX3_compareMachines_2 rfl (lv_at hl 3 rfl) ?_
  refine c_Vi (As := [.int (nI a), .int (nI b)]) (rest := []) (w2 := fun _ => [oT q qh mc t, aN cA qh 7 hp, oP pq ps pa size ch, aN cA ps 16 sets]) E Z (k_X1_withBoth l D cA pq ps pa size ch sets a b (by first | assumption | omega) (by first | assumption | omega) (by first | assumption | omega) (by first | assumption | omega) (by first | assumption | omega)) wv_X3_45 ⟨rfl, rfl, Nat.le_of_ble_eq_true rfl, Nat.le_of_ble_eq_true rfl⟩ [2, 3] rfl rfl rfl rfl (q0 := 0) rfl (fun _ => rfl) (fun _ => rfl) rfl hl.1 rfl (Nat.le_of_ble_eq_true rfl) dX3_compareMachines_3 ⟨Nat.zero_le _, Nat.zero_le _⟩ (fun r3 _ H locs hp3 Z => ?_)
  subst hp3
  refine lv_istore (lv' := [(4, .int (nI (sm (bop sets ch a b) size))), (0, .ref q), (1, .ref pq), (2, .int (nI a)), (3, .int (nI b))]) hx hb dX3_compareMachines_6 hl (by decide) rfl (fun ls hl => ?_)
  refine lv_aload_n hx hb dX3_compareMachines_8 rfl (lv_at hl 2 rfl) ?_
  refine lv_iload_n hx hb dX3_compareMachines_9 rfl (lv_at hl 3 rfl) ?_
  refine lv_iload_n hx hb dX3_compareMachines_10 rfl (lv_at hl 4 rfl) ?_
  refine c_Vi (As := [.int (nI a), .int (nI b)]) (rest := []) (w2 := fun _ => [oT q qh mc t, aN cA qh 7 hp, oP pq ps pa size ch, aN cA ps 16 sets]) E Z (k_X1_withEither l D cA pq ps pa size ch sets a b (by first | assumption | omega) (by first | assumption | omega) (by first | assumption | omega) (by first | assumption | omega) (by first | assumption | omega)) wv_X3_51 ⟨rfl, rfl, Nat.le_of_ble_eq_true rfl, Nat.le_of_ble_eq_true rfl⟩ [2, 3] rfl rfl rfl rfl (q0 := 0) rfl (fun _ => rfl) (fun _ => rfl) rfl hl.1 rfl (Nat.le_of_ble_eq_true rfl) dX3_compareMachines_11 ⟨Nat.zero_le _, Nat.zero_le _⟩ (fun r11 _ H locs hp11 Z => ?_)
  subst hp11
  refine lv_istore (lv' := [(5, .int (nI (eith size sets ch a b))), (4, .int (nI (sm (bop sets ch a b) size))), (0, .ref q), (1, .ref pq), (2, .int (nI a)), (3, .int (nI b))]) hx hb dX3_compareMachines_14 hl (by decide) rfl (fun ls hl => ?_)
  refine lv_iload hx hb dX3_compareMachines_16 (lv_at hl 1 rfl) ?_
  refine lv_aload_n hx hb dX3_compareMachines_18 rfl (lv_at hl 2 rfl) ?_
  refine gF_X3_35 E Z dX3_compareMachines_19 0 rfl rfl ?_
  refine lv_imul hx hb dX3_compareMachines_22 ?_
  refine lv_aload_n hx hb dX3_compareMachines_23 rfl (lv_at hl 2 rfl) ?_
  refine gF_X3_32 E Z dX3_compareMachines_24 0 rfl rfl ?_
  refine lv_iload hx hb dX3_compareMachines_27 (lv_at hl 0 rfl) ?_
  refine lv_imul hx hb dX3_compareMachines_29 ?_
  refine lv_icmp_le (tgt := 65) hx hb dX3_compareMachines_30 (by decide) (fun c30 => ?_) (fun c30 => ?_)
  · replace Z : Wd D A s ([oT q qh mc (tcm size sets ch hp a b t), aN cA qh 7 hp, oP pq ps pa size ch, aN cA ps 16 sets]) _ _ := Z.to (by rw [show tcm size sets ch hp a b t = t from if_neg (Int32.not_lt.mpr c30)])
    exact ret () Z dX3_compareMachines_65 rfl trivial
  · refine lv_aload_n hx hb dX3_compareMachines_33 rfl (lv_at hl 2 rfl) ?_
    refine lv_aload_n hx hb dX3_compareMachines_34 rfl (lv_at hl 2 rfl) ?_
    refine gF_X3_9 E Z dX3_compareMachines_35 0 rfl rfl ?_
    refine lv_iload_n hx hb dX3_compareMachines_38 rfl (lv_at hl 4 rfl) ?_
    refine r_ald E Z dX3_compareMachines_39 1 rfl (by omega) (by decide) ?_
    refine pF_X3_26 (w1 := [oT q qh mc (hp a, t.2.1, t.2.2.1, t.2.2.2), aN cA qh 7 hp, oP pq ps pa size ch, aN cA ps 16 sets]) E Z dX3_compareMachines_40 0 rfl (Nat.le_of_ble_eq_true rfl) rfl (fun H locs Z => ?_)
    refine lv_aload_n hx hb dX3_compareMachines_43 rfl (lv_at hl 2 rfl) ?_
    refine lv_aload_n hx hb dX3_compareMachines_44 rfl (lv_at hl 2 rfl) ?_
    refine gF_X3_9 E Z dX3_compareMachines_45 0 rfl rfl ?_
    refine lv_iload_n hx hb dX3_compareMachines_48 rfl (lv_at hl 5 rfl) ?_
    refine r_ald E Z dX3_compareMachines_49 1 rfl (by omega) (by decide) ?_
    refine pF_X3_29 (w1 := [oT q qh mc ((hp a, t.2.1, t.2.2.1, t.2.2.2).1, hp b, (hp a, t.2.1, t.2.2.1, t.2.2.2).2.2.1, (hp a, t.2.1, t.2.2.1, t.2.2.2).2.2.2), aN cA qh 7 hp, oP pq ps pa size ch, aN cA ps 16 sets]) E Z dX3_compareMachines_50 0 rfl (Nat.le_of_ble_eq_true rfl) rfl (fun H locs Z => ?_)
    refine lv_aload_n hx hb dX3_compareMachines_53 rfl (lv_at hl 2 rfl) ?_
    refine lv_iload hx hb dX3_compareMachines_54 (lv_at hl 1 rfl) ?_
    refine pF_X3_32 (w1 := [oT q qh mc (((hp a, t.2.1, t.2.2.1, t.2.2.2).1, hp b, (hp a, t.2.1, t.2.2.1, t.2.2.2).2.2.1, (hp a, t.2.1, t.2.2.1, t.2.2.2).2.2.2).1, ((hp a, t.2.1, t.2.2.1, t.2.2.2).1, hp b, (hp a, t.2.1, t.2.2.1, t.2.2.2).2.2.1, (hp a, t.2.1, t.2.2.1, t.2.2.2).2.2.2).2.1, nI (sm (bop sets ch a b) size), ((hp a, t.2.1, t.2.2.1, t.2.2.2).1, hp b, (hp a, t.2.1, t.2.2.1, t.2.2.2).2.2.1, (hp a, t.2.1, t.2.2.1, t.2.2.2).2.2.2).2.2.2), aN cA qh 7 hp, oP pq ps pa size ch, aN cA ps 16 sets]) E Z dX3_compareMachines_56 0 rfl (Nat.le_of_ble_eq_true rfl) rfl (fun H locs Z => ?_)
    refine lv_aload_n hx hb dX3_compareMachines_59 rfl (lv_at hl 2 rfl) ?_
    refine lv_iload hx hb dX3_compareMachines_60 (lv_at hl 0 rfl) ?_
    refine pF_X3_35 (w1 := [oT q qh mc ((((hp a, t.2.1, t.2.2.1, t.2.2.2).1, hp b, (hp a, t.2.1, t.2.2.1, t.2.2.2).2.2.1, (hp a, t.2.1, t.2.2.1, t.2.2.2).2.2.2).1, ((hp a, t.2.1, t.2.2.1, t.2.2.2).1, hp b, (hp a, t.2.1, t.2.2.1, t.2.2.2).2.2.1, (hp a, t.2.1, t.2.2.1, t.2.2.2).2.2.2).2.1, nI (sm (bop sets ch a b) size), ((hp a, t.2.1, t.2.2.1, t.2.2.2).1, hp b, (hp a, t.2.1, t.2.2.1, t.2.2.2).2.2.1, (hp a, t.2.1, t.2.2.1, t.2.2.2).2.2.2).2.2.2).1, (((hp a, t.2.1, t.2.2.1, t.2.2.2).1, hp b, (hp a, t.2.1, t.2.2.1, t.2.2.2).2.2.1, (hp a, t.2.1, t.2.2.1, t.2.2.2).2.2.2).1, ((hp a, t.2.1, t.2.2.1, t.2.2.2).1, hp b, (hp a, t.2.1, t.2.2.1, t.2.2.2).2.2.1, (hp a, t.2.1, t.2.2.1, t.2.2.2).2.2.2).2.1, nI (sm (bop sets ch a b) size), ((hp a, t.2.1, t.2.2.1, t.2.2.2).1, hp b, (hp a, t.2.1, t.2.2.1, t.2.2.2).2.2.1, (hp a, t.2.1, t.2.2.1, t.2.2.2).2.2.2).2.2.2).2.1, (((hp a, t.2.1, t.2.2.1, t.2.2.2).1, hp b, (hp a, t.2.1, t.2.2.1, t.2.2.2).2.2.1, (hp a, t.2.1, t.2.2.1, t.2.2.2).2.2.2).1, ((hp a, t.2.1, t.2.2.1, t.2.2.2).1, hp b, (hp a, t.2.1, t.2.2.1, t.2.2.2).2.2.1, (hp a, t.2.1, t.2.2.1, t.2.2.2).2.2.2).2.1, nI (sm (bop sets ch a b) size), ((hp a, t.2.1, t.2.2.1, t.2.2.2).1, hp b, (hp a, t.2.1, t.2.2.1, t.2.2.2).2.2.1, (hp a, t.2.1, t.2.2.1, t.2.2.2).2.2.2).2.2.2).2.2.1, nI (eith size sets ch a b)), aN cA qh 7 hp, oP pq ps pa size ch, aN cA ps 16 sets]) E Z dX3_compareMachines_62 0 rfl (Nat.le_of_ble_eq_true rfl) rfl (fun H locs Z => ?_)
    replace Z : Wd D A s ([oT q qh mc (tcm size sets ch hp a b t), aN cA qh 7 hp, oP pq ps pa size ch, aN cA ps 16 sets]) _ _ := Z.to (by rw [show tcm size sets ch hp a b t = (hp a, hp b, nI (sm (bop sets ch a b) size), nI (eith size sets ch a b)) from if_pos (Int32.not_le.mp c30)])
    exact ret () Z dX3_compareMachines_65 rfl trivial
abbrev rm_k_X3_compareHeaps : Room := { frames := 3, cells := 0, slots := 0, locals := 72 }
set_option maxHeartbeats 4000000 in
set_option maxRecDepth 100000 in
theorem k_X3_compareHeaps (l : Launch) (D : va_G) (cA : ClassId) (q : Nat) (qh : Nat) (mc : Nat) (t : TS) (hp : Nat → Nat) (pq : Nat) (ps : Nat) (pa : Nat) (size : Nat) (ch : Nat) (sets : Nat → Nat) (f : Nat) (g : Nat) (hP : size ≤ 8) (hch : ch < 256) (hs : ∀ j, sets j < 128) (hh : ∀ j, hp j < 8) (h7 : mc ≤ 7) (hf : f < 8) (hg : g < 8) : Ctv l yX3_compareHeaps cX3_compareHeaps 6 none rm_k_X3_compareHeaps D cA [.ref q, .ref pq, .int (nI f), .int (nI g)] ([oT q qh mc t, aN cA qh 7 hp, oP pq ps pa size ch, aN cA ps 16 sets]) (fun (_ : Unit) => True) (fun _ => [oT q qh mc (ta size sets ch hp f g mc t mc), aN cA qh 7 hp, oP pq ps pa size ch, aN cA ps 16 sets]) := by
  refine st_v (by decide) (Nat.le_of_ble_eq_true rfl) ?_
  intro p e s m args below meth c A Q E ret Z ls hl
  have hx := E.1.1
  have hb := E.1.2.1
  have hl : lv_has ls 6 [(0, .ref q), (1, .ref pq), (2, .int (nI f)), (3, .int (nI g))] := hl
  refine lv_iconst (v := nI 0) hx hb dX3_compareHeaps_0 (by decide) ?_
  refine lv_istore (lv' := [(4, .int (nI 0)), (0, .ref q), (1, .ref pq), (2, .int (nI f)), (3, .int (nI g))]) hx hb dX3_compareHeaps_1 hl (by decide) rfl (fun ls hl => ?_)
  have L3 : ∀ (n3 a : Nat), mc + 1 ≤ a + n3 → a ≤ mc → ∀ (H : Heap) (locs : List Loc), Wd D A s ([oT q qh mc (ta size sets ch hp f g mc t a), aN cA qh 7 hp, oP pq ps pa size ch, aN cA ps 16 sets]) H locs → ∀ (ls : Array Slot), lv_has ls 6 [(0, .ref q), (1, .ref pq), (2, .int (nI f)), (3, .int (nI g)), (4, .int (nI a))] → W p l e rm_k_X3_compareHeaps s m args below meth c H locs 0 0 Q (F0 m 3 ls []) := by
    intro n3
    induction n3 with
    | zero => exact fun a h1 h2 => absurd h1 (by omega)
    | succ n3 ih3 =>
      intro a hn3 hi3  H locs Z ls hl
      refine lv_iload hx hb dX3_compareHeaps_3 (lv_at hl 4 rfl) ?_
      refine lv_aload_n hx hb dX3_compareHeaps_5 rfl (lv_at hl 0 rfl) ?_
      refine gF_X3_15 E Z dX3_compareHeaps_6 0 rfl rfl ?_
      refine n_icmp_ge (tgt := 67) hx hb dX3_compareHeaps_9 (by decide) (by omega) (by omega) (fun c9 => ?_) (fun c9 => ?_)
      · obtain rfl : mc = a := by omega
        exact ret () Z dX3_compareHeaps_67 rfl trivial
      · refine lv_iconst (v := nI 0) hx hb dX3_compareHeaps_12 (by decide) ?_
        refine lv_istore (lv' := [(5, .int (nI 0)), (0, .ref q), (1, .ref pq), (2, .int (nI f)), (3, .int (nI g)), (4, .int (nI a))]) hx hb dX3_compareHeaps_13 hl (by decide) rfl (fun ls hl => ?_)
        have L15 : ∀ (n15 b : Nat), mc + 1 ≤ b + n15 → b ≤ mc → ∀ (H : Heap) (locs : List Loc), Wd D A s ([oT q qh mc (tb size sets ch hp f g a (ta size sets ch hp f g mc t a) b), aN cA qh 7 hp, oP pq ps pa size ch, aN cA ps 16 sets]) H locs → ∀ (ls : Array Slot), lv_has ls 6 [(0, .ref q), (1, .ref pq), (2, .int (nI f)), (3, .int (nI g)), (4, .int (nI a)), (5, .int (nI b))] → W p l e rm_k_X3_compareHeaps s m args below meth c H locs 0 0 Q (F0 m 15 ls []) := by
          intro n15
          induction n15 with
          | zero => exact fun b h1 h2 => absurd h1 (by omega)
          | succ n15 ih15 =>
            intro b hn15 hi15  H locs Z ls hl
            refine lv_iload hx hb dX3_compareHeaps_15 (lv_at hl 5 rfl) ?_
            refine lv_aload_n hx hb dX3_compareHeaps_17 rfl (lv_at hl 0 rfl) ?_
            refine gF_X3_15 E Z dX3_compareHeaps_18 0 rfl rfl ?_
            refine n_icmp_ge (tgt := 61) hx hb dX3_compareHeaps_21 (by decide) (by omega) (by omega) (fun c21 => ?_) (fun c21 => ?_)
            · obtain rfl : mc = b := by omega
              refine lv_iinc (v := nI (a + 1)) (lv' := [(4, .int (nI (a + 1))), (0, .ref q), (1, .ref pq), (2, .int (nI f)), (3, .int (nI g)), (5, .int (nI mc))]) hx hb dX3_compareHeaps_61 hl (k := 4) rfl (n_inc _ _ (by decide)) (by decide) rfl (fun ls hl => ?_)
              refine lv_goto (tgt := 3) hx hb dX3_compareHeaps_64 (by decide) ?_
              exact ih3 (a + 1) (by omega) (by omega)   _ _ Z ls (lv_sub hl [1, 2, 3, 4, 0] rfl)
            · refine lv_aload_n hx hb dX3_compareHeaps_24 rfl (lv_at hl 0 rfl) ?_
              refine gF_X3_9 E Z dX3_compareHeaps_25 0 rfl rfl ?_
              refine lv_iload hx hb dX3_compareHeaps_28 (lv_at hl 4 rfl) ?_
              refine r_ald E Z dX3_compareHeaps_30 1 rfl (by omega) (by decide) ?_
              have hha := hh a
              refine lv_iload_n hx hb dX3_compareHeaps_31 rfl (lv_at hl 2 rfl) ?_
              refine n_icmp_ne (tgt := 55) hx hb dX3_compareHeaps_32 (by decide) (by omega) (by omega) (fun c32 => ?_) (fun c32 => ?_)
              · replace Z : Wd D A s ([oT q qh mc (tb size sets ch hp f g a (ta size sets ch hp f g mc t a) (b + 1)), aN cA qh 7 hp, oP pq ps pa size ch, aN cA ps 16 sets]) _ _ := Z.to (by rw [show tb size sets ch hp f g a (ta size sets ch hp f g mc t a) (b + 1) = tb size sets ch hp f g a (ta size sets ch hp f g mc t a) b from if_neg (fun h => c32 h.1)])
                refine lv_iinc (v := nI (b + 1)) (lv' := [(5, .int (nI (b + 1))), (0, .ref q), (1, .ref pq), (2, .int (nI f)), (3, .int (nI g)), (4, .int (nI a))]) hx hb dX3_compareHeaps_55 hl (k := 5) rfl (n_inc _ _ (by decide)) (by decide) rfl (fun ls hl => ?_)
                refine lv_goto (tgt := 15) hx hb dX3_compareHeaps_58 (by decide) ?_
                exact ih15 (b + 1) (by omega) (by omega)   _ _ Z ls (lv_sub hl [1, 2, 3, 4, 5, 0] rfl)
              · refine lv_aload_n hx hb dX3_compareHeaps_35 rfl (lv_at hl 0 rfl) ?_
                refine gF_X3_9 E Z dX3_compareHeaps_36 0 rfl rfl ?_
                refine lv_iload hx hb dX3_compareHeaps_39 (lv_at hl 5 rfl) ?_
                refine r_ald E Z dX3_compareHeaps_41 1 rfl (by omega) (by decide) ?_
                have hhb := hh b
                refine lv_iload_n hx hb dX3_compareHeaps_42 rfl (lv_at hl 3 rfl) ?_
                refine n_icmp_ne (tgt := 55) hx hb dX3_compareHeaps_43 (by decide) (by omega) (by omega) (fun c43 => ?_) (fun c43 => ?_)
                · replace Z : Wd D A s ([oT q qh mc (tb size sets ch hp f g a (ta size sets ch hp f g mc t a) (b + 1)), aN cA qh 7 hp, oP pq ps pa size ch, aN cA ps 16 sets]) _ _ := Z.to (by rw [show tb size sets ch hp f g a (ta size sets ch hp f g mc t a) (b + 1) = tb size sets ch hp f g a (ta size sets ch hp f g mc t a) b from if_neg (fun h => c43 h.2)])
                  refine lv_iinc (v := nI (b + 1)) (lv' := [(5, .int (nI (b + 1))), (0, .ref q), (1, .ref pq), (2, .int (nI f)), (3, .int (nI g)), (4, .int (nI a))]) hx hb dX3_compareHeaps_55 hl (k := 5) rfl (n_inc _ _ (by decide)) (by decide) rfl (fun ls hl => ?_)
                  refine lv_goto (tgt := 15) hx hb dX3_compareHeaps_58 (by decide) ?_
                  exact ih15 (b + 1) (by omega) (by omega)   _ _ Z ls (lv_sub hl [1, 2, 3, 4, 5, 0] rfl)
                · refine lv_aload_n hx hb dX3_compareHeaps_46 rfl (lv_at hl 0 rfl) ?_
                  refine lv_aload_n hx hb dX3_compareHeaps_47 rfl (lv_at hl 1 rfl) ?_
                  refine lv_iload hx hb dX3_compareHeaps_48 (lv_at hl 4 rfl) ?_
                  refine lv_iload hx hb dX3_compareHeaps_50 (lv_at hl 5 rfl) ?_
                  refine c_Vv (As := [.ref pq, .int (nI a), .int (nI b)]) (rest := []) (w2 := fun _ => [oT q qh mc (tcm size sets ch hp a b (tb size sets ch hp f g a (ta size sets ch hp f g mc t a) b)), aN cA qh 7 hp, oP pq ps pa size ch, aN cA ps 16 sets]) E Z (k_X3_compareMachines l D cA q qh mc (tb size sets ch hp f g a (ta size sets ch hp f g mc t a) b) hp pq ps pa size ch sets a b (by first | assumption | omega) (by first | assumption | omega) (by first | assumption | omega) (by first | assumption | omega) (by first | assumption | omega)) wv_X3_42 ⟨rfl, rfl, Nat.le_of_ble_eq_true rfl, Nat.le_of_ble_eq_true rfl⟩ [0, 1, 2, 3] rfl rfl rfl rfl (q0 := 0) rfl (fun _ => rfl) (fun _ => rfl) rfl hl.1 rfl (Nat.le_of_ble_eq_true rfl) dX3_compareHeaps_52 ⟨Nat.zero_le _, Nat.zero_le _⟩ (fun _ H locs hp52 Z => ?_)
                  replace Z : Wd D A s ([oT q qh mc (tb size sets ch hp f g a (ta size sets ch hp f g mc t a) (b + 1)), aN cA qh 7 hp, oP pq ps pa size ch, aN cA ps 16 sets]) _ _ := Z.to (by rw [show tb size sets ch hp f g a (ta size sets ch hp f g mc t a) (b + 1) = tcm size sets ch hp a b (tb size sets ch hp f g a (ta size sets ch hp f g mc t a) b) from if_pos ⟨c32, c43⟩])
                  refine lv_iinc (v := nI (b + 1)) (lv' := [(5, .int (nI (b + 1))), (0, .ref q), (1, .ref pq), (2, .int (nI f)), (3, .int (nI g)), (4, .int (nI a))]) hx hb dX3_compareHeaps_55 hl (k := 5) rfl (n_inc _ _ (by decide)) (by decide) rfl (fun ls hl => ?_)
                  refine lv_goto (tgt := 15) hx hb dX3_compareHeaps_58 (by decide) ?_
                  exact ih15 (b + 1) (by omega) (by omega)   _ _ Z ls (lv_sub hl [1, 2, 3, 4, 5, 0] rfl)
        exact L15 (mc + 1) 0 (by omega) (by omega)   _ _ Z ls (lv_sub hl [1, 2, 3, 4, 5, 0] rfl)
  exact L3 (mc + 1) 0 (by omega) (by omega)   _ _ Z ls (lv_sub hl [1, 2, 3, 4, 0] rfl)
abbrev rm_k_X3_seekPair : Room := { frames := 4, cells := 0, slots := 0, locals := 97 }
set_option maxHeartbeats 4000000 in
set_option maxRecDepth 100000 in
theorem k_X3_seekPair (l : Launch) (D : va_G) (cA : ClassId) (q : Nat) (qh : Nat) (mc : Nat) (t : TS) (hp : Nat → Nat) (pq : Nat) (ps : Nat) (pa : Nat) (size : Nat) (ch : Nat) (sets : Nat → Nat) (hP : size ≤ 8) (hch : ch < 256) (hs : ∀ j, sets j < 128) (hh : ∀ j, hp j < 8) (h7 : mc ≤ 7) : Ctv l yX3_seekPair cX3_seekPair 4 none rm_k_X3_seekPair D cA [.ref q, .ref pq] ([oT q qh mc t, aN cA qh 7 hp, oP pq ps pa size ch, aN cA ps 16 sets]) (fun (_ : Unit) => True) (fun _ => [oT q qh mc (spj size sets ch hp mc t), aN cA qh 7 hp, oP pq ps pa size ch, aN cA ps 16 sets]) := by
  refine st_v (by decide) (Nat.le_of_ble_eq_true rfl) ?_
  intro p e s m args below meth c A Q E ret Z ls hl
  have hx := E.1.1
  have hb := E.1.2.1
  have hl : lv_has ls 4 [(0, .ref q), (1, .ref pq)] := hl
  refine lv_aload_n hx hb dX3_seekPair_0 rfl (lv_at hl 0 rfl) ?_
  refine lv_iconst (v := (-1)) hx hb dX3_seekPair_1 (by decide) ?_
  refine pF_X3_32 (w1 := [oT q qh mc (t.1, t.2.1, (-1), t.2.2.2), aN cA qh 7 hp, oP pq ps pa size ch, aN cA ps 16 sets]) E Z dX3_seekPair_2 0 rfl (Nat.le_of_ble_eq_true rfl) rfl (fun H locs Z => ?_)
  refine lv_aload_n hx hb dX3_seekPair_5 rfl (lv_at hl 0 rfl) ?_
  refine lv_iconst (v := nI 1) hx hb dX3_seekPair_6 (by decide) ?_
  refine pF_X3_35 (w1 := [oT q qh mc ((t.1, t.2.1, (-1), t.2.2.2).1, (t.1, t.2.1, (-1), t.2.2.2).2.1, (t.1, t.2.1, (-1), t.2.2.2).2.2.1, nI 1), aN cA qh 7 hp, oP pq ps pa size ch, aN cA ps 16 sets]) E Z dX3_seekPair_7 0 rfl (Nat.le_of_ble_eq_true rfl) rfl (fun H locs Z => ?_)
  refine lv_iconst (v := nI 0) hx hb dX3_seekPair_10 (by decide) ?_
  refine lv_istore_n (lv' := [(2, .int (nI 0)), (0, .ref q), (1, .ref pq)]) hx hb dX3_seekPair_11 rfl hl (by decide) rfl (fun ls hl => ?_)
  have L12 : ∀ (n12 f : Nat), mc + 1 ≤ f + n12 → f ≤ mc → ∀ (H : Heap) (locs : List Loc), Wd D A s ([oT q qh mc (tsf size sets ch hp mc (t.1, t.2.1, (-1), nI 1) f), aN cA qh 7 hp, oP pq ps pa size ch, aN cA ps 16 sets]) H locs → ∀ (ls : Array Slot), lv_has ls 4 [(0, .ref q), (1, .ref pq), (2, .int (nI f))] → W p l e rm_k_X3_seekPair s m args below meth c H locs 0 0 Q (F0 m 12 ls []) := by
    intro n12
    induction n12 with
    | zero => exact fun f h1 h2 => absurd h1 (by omega)
    | succ n12 ih12 =>
      intro f hn12 hi12  H locs Z ls hl
      refine lv_iload_n hx hb dX3_seekPair_12 rfl (lv_at hl 2 rfl) ?_
      refine lv_aload_n hx hb dX3_seekPair_13 rfl (lv_at hl 0 rfl) ?_
      refine gF_X3_15 E Z dX3_seekPair_14 0 rfl rfl ?_
      refine n_icmp_ge (tgt := 71) hx hb dX3_seekPair_17 (by decide) (by omega) (by omega) (fun c17 => ?_) (fun c17 => ?_)
      · obtain rfl : mc = f := by omega
        exact ret () Z dX3_seekPair_71 rfl trivial
      · refine lv_iload_n hx hb dX3_seekPair_20 rfl (lv_at hl 2 rfl) ?_
        refine lv_iconst (v := nI 1) hx hb dX3_seekPair_21 (by decide) ?_
        refine n_iadd hx hb dX3_seekPair_22 ?_
        refine lv_istore_n (lv' := [(3, .int (nI (f + 1))), (0, .ref q), (1, .ref pq), (2, .int (nI f))]) hx hb dX3_seekPair_23 rfl hl (by decide) rfl (fun ls hl => ?_)
        have L24 : ∀ (n24 o : Nat), mc + 1 ≤ o + n24 → o ≤ mc → (f < o) → ∀ (H : Heap) (locs : List Loc), Wd D A s ([oT q qh mc (tso size sets ch hp mc (tsf size sets ch hp mc (t.1, t.2.1, (-1), nI 1) f) f o), aN cA qh 7 hp, oP pq ps pa size ch, aN cA ps 16 sets]) H locs → ∀ (ls : Array Slot), lv_has ls 4 [(0, .ref q), (1, .ref pq), (2, .int (nI f)), (3, .int (nI o))] → W p l e rm_k_X3_seekPair s m args below meth c H locs 0 0 Q (F0 m 24 ls []) := by
          intro n24
          induction n24 with
          | zero => exact fun o h1 h2 => absurd h1 (by omega)
          | succ n24 ih24 =>
            intro o hn24 hi24 hfo H locs Z ls hl
            refine lv_iload_n hx hb dX3_seekPair_24 rfl (lv_at hl 3 rfl) ?_
            refine lv_aload_n hx hb dX3_seekPair_25 rfl (lv_at hl 0 rfl) ?_
            refine gF_X3_15 E Z dX3_seekPair_26 0 rfl rfl ?_
            refine n_icmp_ge (tgt := 65) hx hb dX3_seekPair_29 (by decide) (by omega) (by omega) (fun c29 => ?_) (fun c29 => ?_)
            · obtain rfl : mc = o := by omega
              refine lv_iinc (v := nI (f + 1)) (lv' := [(2, .int (nI (f + 1))), (0, .ref q), (1, .ref pq), (3, .int (nI mc))]) hx hb dX3_seekPair_65 hl (k := 2) rfl (n_inc _ _ (by decide)) (by decide) rfl (fun ls hl => ?_)
              refine lv_goto (tgt := 12) hx hb dX3_seekPair_68 (by decide) ?_
              exact ih12 (f + 1) (by omega) (by omega)   _ _ Z ls (lv_sub hl [1, 2, 0] rfl)
            · refine lv_aload_n hx hb dX3_seekPair_32 rfl (lv_at hl 0 rfl) ?_
              refine gF_X3_9 E Z dX3_seekPair_33 0 rfl rfl ?_
              refine lv_iload_n hx hb dX3_seekPair_36 rfl (lv_at hl 2 rfl) ?_
              refine r_ald E Z dX3_seekPair_37 1 rfl (by omega) (by decide) ?_
              have hhf := hh f
              refine lv_iload_n hx hb dX3_seekPair_38 rfl (lv_at hl 2 rfl) ?_
              refine n_icmp_ne (tgt := 59) hx hb dX3_seekPair_39 (by decide) (by omega) (by omega) (fun c39 => ?_) (fun c39 => ?_)
              · replace Z : Wd D A s ([oT q qh mc (tso size sets ch hp mc (tsf size sets ch hp mc (t.1, t.2.1, (-1), nI 1) f) f (o + 1)), aN cA qh 7 hp, oP pq ps pa size ch, aN cA ps 16 sets]) _ _ := Z.to (by rw [show tso size sets ch hp mc (tsf size sets ch hp mc (t.1, t.2.1, (-1), nI 1) f) f (o + 1) = tso size sets ch hp mc (tsf size sets ch hp mc (t.1, t.2.1, (-1), nI 1) f) f o from if_neg (fun h => c39 h.2.1)])
                refine lv_iinc (v := nI (o + 1)) (lv' := [(3, .int (nI (o + 1))), (0, .ref q), (1, .ref pq), (2, .int (nI f))]) hx hb dX3_seekPair_59 hl (k := 3) rfl (n_inc _ _ (by decide)) (by decide) rfl (fun ls hl => ?_)
                refine lv_goto (tgt := 24) hx hb dX3_seekPair_62 (by decide) ?_
                exact ih24 (o + 1) (by omega) (by omega)  (by first | assumption | omega) _ _ Z ls (lv_sub hl [1, 2, 3, 0] rfl)
              · refine lv_aload_n hx hb dX3_seekPair_42 rfl (lv_at hl 0 rfl) ?_
                refine gF_X3_9 E Z dX3_seekPair_43 0 rfl rfl ?_
                refine lv_iload_n hx hb dX3_seekPair_46 rfl (lv_at hl 3 rfl) ?_
                refine r_ald E Z dX3_seekPair_47 1 rfl (by omega) (by decide) ?_
                have hho := hh o
                refine lv_iload_n hx hb dX3_seekPair_48 rfl (lv_at hl 3 rfl) ?_
                refine n_icmp_ne (tgt := 59) hx hb dX3_seekPair_49 (by decide) (by omega) (by omega) (fun c49 => ?_) (fun c49 => ?_)
                · replace Z : Wd D A s ([oT q qh mc (tso size sets ch hp mc (tsf size sets ch hp mc (t.1, t.2.1, (-1), nI 1) f) f (o + 1)), aN cA qh 7 hp, oP pq ps pa size ch, aN cA ps 16 sets]) _ _ := Z.to (by rw [show tso size sets ch hp mc (tsf size sets ch hp mc (t.1, t.2.1, (-1), nI 1) f) f (o + 1) = tso size sets ch hp mc (tsf size sets ch hp mc (t.1, t.2.1, (-1), nI 1) f) f o from if_neg (fun h => c49 h.2.2)])
                  refine lv_iinc (v := nI (o + 1)) (lv' := [(3, .int (nI (o + 1))), (0, .ref q), (1, .ref pq), (2, .int (nI f))]) hx hb dX3_seekPair_59 hl (k := 3) rfl (n_inc _ _ (by decide)) (by decide) rfl (fun ls hl => ?_)
                  refine lv_goto (tgt := 24) hx hb dX3_seekPair_62 (by decide) ?_
                  exact ih24 (o + 1) (by omega) (by omega)  (by first | assumption | omega) _ _ Z ls (lv_sub hl [1, 2, 3, 0] rfl)
                · refine lv_aload_n hx hb dX3_seekPair_52 rfl (lv_at hl 0 rfl) ?_
                  refine lv_aload_n hx hb dX3_seekPair_53 rfl (lv_at hl 1 rfl) ?_
                  refine lv_iload_n hx hb dX3_seekPair_54 rfl (lv_at hl 2 rfl) ?_
                  refine lv_iload_n hx hb dX3_seekPair_55 rfl (lv_at hl 3 rfl) ?_
                  refine c_Vv (As := [.ref pq, .int (nI f), .int (nI o)]) (rest := []) (w2 := fun _ => [oT q qh mc (ta size sets ch hp f o mc (tso size sets ch hp mc (tsf size sets ch hp mc (t.1, t.2.1, (-1), nI 1) f) f o) mc), aN cA qh 7 hp, oP pq ps pa size ch, aN cA ps 16 sets]) E Z (k_X3_compareHeaps l D cA q qh mc (tso size sets ch hp mc (tsf size sets ch hp mc (t.1, t.2.1, (-1), nI 1) f) f o) hp pq ps pa size ch sets f o (by first | assumption | omega) (by first | assumption | omega) (by first | assumption | omega) (by first | assumption | omega) (by first | assumption | omega) (by first | assumption | omega) (by first | assumption | omega)) wv_X3_38 ⟨rfl, rfl, Nat.le_of_ble_eq_true rfl, Nat.le_of_ble_eq_true rfl⟩ [0, 1, 2, 3] rfl rfl rfl rfl (q0 := 0) rfl (fun _ => rfl) (fun _ => rfl) rfl hl.1 rfl (Nat.le_of_ble_eq_true rfl) dX3_seekPair_56 ⟨Nat.zero_le _, Nat.zero_le _⟩ (fun _ H locs hp56 Z => ?_)
                  replace Z : Wd D A s ([oT q qh mc (tso size sets ch hp mc (tsf size sets ch hp mc (t.1, t.2.1, (-1), nI 1) f) f (o + 1)), aN cA qh 7 hp, oP pq ps pa size ch, aN cA ps 16 sets]) _ _ := Z.to (by rw [show tso size sets ch hp mc (tsf size sets ch hp mc (t.1, t.2.1, (-1), nI 1) f) f (o + 1) = ta size sets ch hp f o mc (tso size sets ch hp mc (tsf size sets ch hp mc (t.1, t.2.1, (-1), nI 1) f) f o) mc from if_pos ⟨hfo, c39, c49⟩])
                  refine lv_iinc (v := nI (o + 1)) (lv' := [(3, .int (nI (o + 1))), (0, .ref q), (1, .ref pq), (2, .int (nI f))]) hx hb dX3_seekPair_59 hl (k := 3) rfl (n_inc _ _ (by decide)) (by decide) rfl (fun ls hl => ?_)
                  refine lv_goto (tgt := 24) hx hb dX3_seekPair_62 (by decide) ?_
                  exact ih24 (o + 1) (by omega) (by omega)  (by first | assumption | omega) _ _ Z ls (lv_sub hl [1, 2, 3, 0] rfl)
        exact L24 (mc + 1) (f + 1) (by omega) (by omega)  (by first | assumption | omega) _ _ (Z.to (by rw [tso_lo size sets ch hp mc (tsf size sets ch hp mc (t.1, t.2.1, (-1), nI 1) f) f (f + 1) (Nat.le_refl _)])) ls (lv_sub hl [1, 2, 3, 0] rfl)
  exact L12 (mc + 1) 0 (by omega) (by omega)   _ _ Z ls (lv_sub hl [1, 2, 0] rfl)
abbrev rm_k_X3_unite : Room := { frames := 0, cells := 0, slots := 0, locals := 0 }
set_option maxHeartbeats 4000000 in
set_option maxRecDepth 100000 in
theorem k_X3_unite (l : Launch) (D : va_G) (cA : ClassId) (q : Nat) (qh : Nat) (mc : Nat) (t : TS) (hp : Nat → Nat) (hh : ∀ j, hp j < 8) (h7 : mc ≤ 7) (ht : tok t) : Ctv l yX3_unite cX3_unite 2 none rm_k_X3_unite D cA [.ref q] ([oT q qh mc t, aN cA qh 7 hp]) (fun (_ : Unit) => True) (fun _ => [oT q qh mc t, aN cA qh 7 (un t.1 t.2.1 hp mc)]) := by
  refine st_v (by decide) (Nat.le_of_ble_eq_true rfl) ?_
  intro p e s m args below meth c A Q E ret Z ls hl
  have hx := E.1.1
  have hb := E.1.2.1
  have hl : lv_has ls 2 [(0, .ref q)] := hl
  refine lv_iconst (v := nI 0) hx hb dX3_unite_0 (by decide) ?_
  refine lv_istore_n (lv' := [(1, .int (nI 0)), (0, .ref q)]) hx hb dX3_unite_1 rfl hl (by decide) rfl (fun ls hl => ?_)
  have L2 : ∀ (n2 i : Nat), mc + 1 ≤ i + n2 → i ≤ mc → ∀ (H : Heap) (locs : List Loc), Wd D A s ([oT q qh mc t, aN cA qh 7 (un t.1 t.2.1 hp i)]) H locs → ∀ (ls : Array Slot), lv_has ls 2 [(0, .ref q), (1, .int (nI i))] → W p l e rm_k_X3_unite s m args below meth c H locs 0 0 Q (F0 m 2 ls []) := by
    intro n2
    induction n2 with
    | zero => exact fun i h1 h2 => absurd h1 (by omega)
    | succ n2 ih2 =>
      intro i hn2 hi2  H locs Z ls hl
      refine lv_iload_n hx hb dX3_unite_2 rfl (lv_at hl 1 rfl) ?_
      refine lv_aload_n hx hb dX3_unite_3 rfl (lv_at hl 0 rfl) ?_
      refine gF_X3_15 E Z dX3_unite_4 0 rfl rfl ?_
      refine n_icmp_ge (tgt := 39) hx hb dX3_unite_7 (by decide) (by omega) (by omega) (fun c7 => ?_) (fun c7 => ?_)
      · obtain rfl : mc = i := by omega
        exact ret () Z dX3_unite_39 rfl trivial
      · refine lv_aload_n hx hb dX3_unite_10 rfl (lv_at hl 0 rfl) ?_
        refine gF_X3_9 E Z dX3_unite_11 0 rfl rfl ?_
        refine lv_iload_n hx hb dX3_unite_14 rfl (lv_at hl 1 rfl) ?_
        refine r_ald E Z dX3_unite_15 1 rfl (by omega) (by decide) ?_
        refine lv_aload_n hx hb dX3_unite_16 rfl (lv_at hl 0 rfl) ?_
        refine gF_X3_29 E Z dX3_unite_17 0 rfl rfl ?_
        have hu := un_lt (se := t.2.1) ht.1 hh i i
        have ht2 := ht.2
        refine n_icmp_ne (tgt := 33) hx hb dX3_unite_20 (by decide) (by omega) (by omega) (fun c20 => ?_) (fun c20 => ?_)
        · replace Z : Wd D A s ([oT q qh mc t, aN cA qh 7 (un t.1 t.2.1 hp (i + 1))]) _ _ := Z.to (by rw [show un t.1 t.2.1 hp (i + 1) = un t.1 t.2.1 hp i from (congrArg (up (un t.1 t.2.1 hp i) i) (if_neg c20)).trans (up_self _ _)])
          refine lv_iinc (v := nI (i + 1)) (lv' := [(1, .int (nI (i + 1))), (0, .ref q)]) hx hb dX3_unite_33 hl (k := 1) rfl (n_inc _ _ (by decide)) (by decide) rfl (fun ls hl => ?_)
          refine lv_goto (tgt := 2) hx hb dX3_unite_36 (by decide) ?_
          exact ih2 (i + 1) (by omega) (by omega)   _ _ Z ls (lv_sub hl [1, 0] rfl)
        · refine lv_aload_n hx hb dX3_unite_23 rfl (lv_at hl 0 rfl) ?_
          refine gF_X3_9 E Z dX3_unite_24 0 rfl rfl ?_
          refine lv_iload_n hx hb dX3_unite_27 rfl (lv_at hl 1 rfl) ?_
          refine lv_aload_n hx hb dX3_unite_28 rfl (lv_at hl 0 rfl) ?_
          refine gF_X3_26 E Z dX3_unite_29 0 rfl rfl ?_
          refine r_ast (w1 := [oT q qh mc t, aN cA qh 7 (up (un t.1 t.2.1 hp i) i t.1)]) E Z dX3_unite_32 1 rfl (by omega) (by decide) rfl (fun H locs Z => ?_)
          replace Z : Wd D A s ([oT q qh mc t, aN cA qh 7 (un t.1 t.2.1 hp (i + 1))]) _ _ := Z.to (by rw [show un t.1 t.2.1 hp (i + 1) = up (un t.1 t.2.1 hp i) i t.1 from congrArg (up (un t.1 t.2.1 hp i) i) (if_pos c20)])
          refine lv_iinc (v := nI (i + 1)) (lv' := [(1, .int (nI (i + 1))), (0, .ref q)]) hx hb dX3_unite_33 hl (k := 1) rfl (n_inc _ _ (by decide)) (by decide) rfl (fun ls hl => ?_)
          refine lv_goto (tgt := 2) hx hb dX3_unite_36 (by decide) ?_
          exact ih2 (i + 1) (by omega) (by omega)   _ _ Z ls (lv_sub hl [1, 0] rfl)
  exact L2 (mc + 1) 0 (by omega) (by omega)   _ _ Z ls (lv_sub hl [1, 0] rfl)
abbrev rm_k_X3_grow : Room := { frames := 5, cells := 0, slots := 0, locals := 120 }
set_option maxHeartbeats 4000000 in
set_option maxRecDepth 100000 in
theorem k_X3_grow (l : Launch) (D : va_G) (cA : ClassId) (q : Nat) (qh : Nat) (mc : Nat) (t : TS) (hp : Nat → Nat) (pq : Nat) (ps : Nat) (pa : Nat) (size : Nat) (ch : Nat) (sets : Nat → Nat) (M : Nat) (jn : Nat) (hP : size ≤ 8) (hch : ch < 256) (hs : ∀ j, sets j < 128) (hh : ∀ j, hp j < 8) (h7 : M ≤ 7) (ht : tok t) (hj : jn < 8) : Ctv l yX3_grow cX3_grow 5 none rm_k_X3_grow D cA [.ref q, .ref pq, .int (nI M), .int (nI jn)] ([oT q qh mc t, aN cA qh 7 hp, oP pq ps pa size ch, aN cA ps 16 sets]) (fun (_ : Unit) => True) (fun _ => [oT q qh M ((gj size sets ch M (hin hp M) t jn).2), aN cA qh 7 ((gj size sets ch M (hin hp M) t jn).1), oP pq ps pa size ch, aN cA ps 16 sets]) := by
  refine st_v (by decide) (Nat.le_of_ble_eq_true rfl) ?_
  intro p e s m args below meth c A Q E ret Z ls hl
  have hx := E.1.1
  have hb := E.1.2.1
  have hl : lv_has ls 5 [(0, .ref q), (1, .ref pq), (2, .int (nI M)), (3, .int (nI jn))] := hl
  refine lv_aload_n hx hb dX3_grow_0 rfl (lv_at hl 0 rfl) ?_
  refine lv_iload_n hx hb dX3_grow_1 rfl (lv_at hl 2 rfl) ?_
  refine pF_X3_15 (w1 := [oT q qh M t, aN cA qh 7 hp, oP pq ps pa size ch, aN cA ps 16 sets]) E Z dX3_grow_2 0 rfl (Nat.le_of_ble_eq_true rfl) rfl (fun H locs Z => ?_)
  refine lv_iconst (v := nI 0) hx hb dX3_grow_5 (by decide) ?_
  refine lv_istore (lv' := [(4, .int (nI 0)), (0, .ref q), (1, .ref pq), (2, .int (nI M)), (3, .int (nI jn))]) hx hb dX3_grow_6 hl (by decide) rfl (fun ls hl => ?_)
  have L8 : ∀ (n8 i : Nat), M + 1 ≤ i + n8 → i ≤ M → ∀ (H : Heap) (locs : List Loc), Wd D A s ([oT q qh M t, aN cA qh 7 (hin hp i), oP pq ps pa size ch, aN cA ps 16 sets]) H locs → ∀ (ls : Array Slot), lv_has ls 5 [(0, .ref q), (1, .ref pq), (2, .int (nI M)), (3, .int (nI jn)), (4, .int (nI i))] → W p l e rm_k_X3_grow s m args below meth c H locs 0 0 Q (F0 m 8 ls []) := by
    intro n8
    induction n8 with
    | zero => exact fun i h1 h2 => absurd h1 (by omega)
    | succ n8 ih8 =>
      intro i hn8 hi8  H locs Z ls hl
      refine lv_iload hx hb dX3_grow_8 (lv_at hl 4 rfl) ?_
      refine lv_aload_n hx hb dX3_grow_10 rfl (lv_at hl 0 rfl) ?_
      refine gF_X3_15 E Z dX3_grow_11 0 rfl rfl ?_
      refine n_icmp_ge (tgt := 32) hx hb dX3_grow_14 (by decide) (by omega) (by omega) (fun c14 => ?_) (fun c14 => ?_)
      · obtain rfl : M = i := by omega
        refine lv_iconst (v := nI 0) hx hb dX3_grow_32 (by decide) ?_
        refine lv_istore (lv' := [(4, .int (nI 0)), (0, .ref q), (1, .ref pq), (2, .int (nI M)), (3, .int (nI jn))]) hx hb dX3_grow_33 hl (by decide) rfl (fun ls hl => ?_)
        have L35 : ∀ (n35 k : Nat), jn + 1 ≤ k + n35 → k ≤ jn → ∀ (H : Heap) (locs : List Loc), Wd D A s ([oT q qh M ((gj size sets ch M (hin hp M) t k).2), aN cA qh 7 ((gj size sets ch M (hin hp M) t k).1), oP pq ps pa size ch, aN cA ps 16 sets]) H locs → ∀ (ls : Array Slot), lv_has ls 5 [(0, .ref q), (1, .ref pq), (2, .int (nI M)), (3, .int (nI jn)), (4, .int (nI k))] → W p l e rm_k_X3_grow s m args below meth c H locs 0 0 Q (F0 m 35 ls []) := by
          intro n35
          induction n35 with
          | zero => exact fun k h1 h2 => absurd h1 (by omega)
          | succ n35 ih35 =>
            intro k hn35 hi35  H locs Z ls hl
            have hgj := gj_ok (P := size) (sets := sets) (ch := ch) M ht (hin_lt hh M (by omega)) k
            refine lv_iload hx hb dX3_grow_35 (lv_at hl 4 rfl) ?_
            refine lv_iload_n hx hb dX3_grow_37 rfl (lv_at hl 3 rfl) ?_
            refine n_icmp_ge (tgt := 56) hx hb dX3_grow_38 (by decide) (by omega) (by omega) (fun c38 => ?_) (fun c38 => ?_)
            · obtain rfl : jn = k := by omega
              exact ret () Z dX3_grow_56 rfl trivial
            · refine lv_aload_n hx hb dX3_grow_41 rfl (lv_at hl 0 rfl) ?_
              refine lv_aload_n hx hb dX3_grow_42 rfl (lv_at hl 1 rfl) ?_
              refine c_Vv (As := [.ref pq]) (rest := []) (w2 := fun _ => [oT q qh M (spj size sets ch ((gj size sets ch M (hin hp M) t k).1) M ((gj size sets ch M (hin hp M) t k).2)), aN cA qh 7 ((gj size sets ch M (hin hp M) t k).1), oP pq ps pa size ch, aN cA ps 16 sets]) E Z (k_X3_seekPair l D cA q qh M ((gj size sets ch M (hin hp M) t k).2) ((gj size sets ch M (hin hp M) t k).1) pq ps pa size ch sets (by first | assumption | omega) (by first | assumption | omega) (by first | assumption | omega) hgj.1 (by first | assumption | omega)) wv_X3_19 ⟨rfl, rfl, Nat.le_of_ble_eq_true rfl, Nat.le_of_ble_eq_true rfl⟩ [0, 1, 2, 3] rfl rfl rfl rfl (q0 := 0) rfl (fun _ => rfl) (fun _ => rfl) rfl hl.1 rfl (Nat.le_of_ble_eq_true rfl) dX3_grow_43 ⟨Nat.zero_le _, Nat.zero_le _⟩ (fun _ H locs hp43 Z => ?_)
              refine lv_aload_n hx hb dX3_grow_46 rfl (lv_at hl 0 rfl) ?_
              refine c_Vv (As := []) (rest := []) (w2 := fun _ => [oT q qh M (spj size sets ch ((gj size sets ch M (hin hp M) t k).1) M ((gj size sets ch M (hin hp M) t k).2)), aN cA qh 7 (un (spj size sets ch ((gj size sets ch M (hin hp M) t k).1) M ((gj size sets ch M (hin hp M) t k).2)).1 (spj size sets ch ((gj size sets ch M (hin hp M) t k).1) M ((gj size sets ch M (hin hp M) t k).2)).2.1 ((gj size sets ch M (hin hp M) t k).1) M), oP pq ps pa size ch, aN cA ps 16 sets]) E Z (k_X3_unite l D cA q qh M (spj size sets ch ((gj size sets ch M (hin hp M) t k).1) M ((gj size sets ch M (hin hp M) t k).2)) ((gj size sets ch M (hin hp M) t k).1) hgj.1 (by first | assumption | omega) (spj_ok M hgj.2 hgj.1)) wv_X3_23 ⟨rfl, rfl, Nat.le_of_ble_eq_true rfl, Nat.le_of_ble_eq_true rfl⟩ [0, 1] rfl rfl rfl rfl (q0 := 0) rfl (fun _ => rfl) (fun _ => rfl) rfl hl.1 rfl (Nat.le_of_ble_eq_true rfl) dX3_grow_47 ⟨Nat.zero_le _, Nat.zero_le _⟩ (fun _ H locs hp47 Z => ?_)
              refine lv_iinc (v := nI (k + 1)) (lv' := [(4, .int (nI (k + 1))), (0, .ref q), (1, .ref pq), (2, .int (nI M)), (3, .int (nI jn))]) hx hb dX3_grow_50 hl (k := 4) rfl (n_inc _ _ (by decide)) (by decide) rfl (fun ls hl => ?_)
              refine lv_goto (tgt := 35) hx hb dX3_grow_53 (by decide) ?_
              exact ih35 (k + 1) (by omega) (by omega)   _ _ Z ls (lv_sub hl [1, 2, 3, 4, 0] rfl)
        exact L35 (jn + 1) 0 (by omega) (by omega)   _ _ Z ls (lv_sub hl [1, 2, 3, 4, 0] rfl)
      · refine lv_aload_n hx hb dX3_grow_17 rfl (lv_at hl 0 rfl) ?_
        refine gF_X3_9 E Z dX3_grow_18 0 rfl rfl ?_
        refine lv_iload hx hb dX3_grow_21 (lv_at hl 4 rfl) ?_
        refine lv_iload hx hb dX3_grow_23 (lv_at hl 4 rfl) ?_
        refine r_ast (w1 := [oT q qh M t, aN cA qh 7 (up (hin hp i) i i), oP pq ps pa size ch, aN cA ps 16 sets]) E Z dX3_grow_25 1 rfl (by omega) (by decide) rfl (fun H locs Z => ?_)
        refine lv_iinc (v := nI (i + 1)) (lv' := [(4, .int (nI (i + 1))), (0, .ref q), (1, .ref pq), (2, .int (nI M)), (3, .int (nI jn))]) hx hb dX3_grow_26 hl (k := 4) rfl (n_inc _ _ (by decide)) (by decide) rfl (fun ls hl => ?_)
        refine lv_goto (tgt := 8) hx hb dX3_grow_29 (by decide) ?_
        exact ih8 (i + 1) (by omega) (by omega)   _ _ Z ls (lv_sub hl [1, 2, 3, 4, 0] rfl)
  exact L8 (M + 1) 0 (by omega) (by omega)   _ _ Z ls (lv_sub hl [1, 2, 3, 4, 0] rfl)
abbrev rm_k_X3_tell : Room := { frames := 0, cells := 0, slots := 0, locals := 0 }
set_option maxHeartbeats 4000000 in
set_option maxRecDepth 100000 in
theorem k_X3_tell (l : Launch) (D : va_G) (cA : ClassId) (q : Nat) (qh : Nat) (mc : Nat) (t : TS) (w : Nat) (hw : w < 4) : Cti l yX3_tell cX3_tell 2 (some .int) rm_k_X3_tell D cA [.ref q, .int (nI w)] ([oT q qh mc t]) (fun (r : Int32) (_ : Unit) => r = (tel t w)) (fun _ => [oT q qh mc t]) := by
  refine st_i (by decide) (Nat.le_of_ble_eq_true rfl) ?_
  intro p e s m args below meth c A Q E ret Z ls hl
  have hx := E.1.1
  have hb := E.1.2.1
  have hl : lv_has ls 2 [(0, .ref q), (1, .int (nI w))] := hl
  refine lv_iload_n hx hb dX3_tell_0 rfl (lv_at hl 1 rfl) ?_
  rcases tsw (nI w) 3 (by decide) with ⟨jS, hjS, eS⟩ | oS
  · obtain rfl | rfl | rfl : jS = 0 ∨ jS = 1 ∨ jS = 2 := by omega
    · refine r_top (y := nI 0) eS ?_
      refine lv_tableIn (tgt := 28) hx hb dX3_tell_1 (by decide) (by decide) rfl (by decide) ?_
      have ew : w = 0 := (nI_eq (by omega) (by decide)).mp eS
      refine lv_aload_n hx hb dX3_tell_28 rfl (lv_at hl 0 rfl) ?_
      refine gF_X3_26 E Z dX3_tell_29 0 rfl rfl ?_
      exact ret () Z dX3_tell_32 rfl (by subst ew; rfl)
    · refine r_top (y := nI 1) eS ?_
      refine lv_tableIn (tgt := 33) hx hb dX3_tell_1 (by decide) (by decide) rfl (by decide) ?_
      have ew : w = 1 := (nI_eq (by omega) (by decide)).mp eS
      refine lv_aload_n hx hb dX3_tell_33 rfl (lv_at hl 0 rfl) ?_
      refine gF_X3_29 E Z dX3_tell_34 0 rfl rfl ?_
      exact ret () Z dX3_tell_37 rfl (by subst ew; rfl)
    · refine r_top (y := nI 2) eS ?_
      refine lv_tableIn (tgt := 38) hx hb dX3_tell_1 (by decide) (by decide) rfl (by decide) ?_
      have ew : w = 2 := (nI_eq (by omega) (by decide)).mp eS
      refine lv_aload_n hx hb dX3_tell_38 rfl (lv_at hl 0 rfl) ?_
      refine gF_X3_32 E Z dX3_tell_39 0 rfl rfl ?_
      exact ret () Z dX3_tell_42 rfl (by subst ew; rfl)
  · refine lv_tableOut (tgt := 43) hx hb dX3_tell_1 oS (by decide) ?_
    have ew : w = 3 := by rw [nI_toInt (by omega)] at oS; omega
    refine lv_aload_n hx hb dX3_tell_43 rfl (lv_at hl 0 rfl) ?_
    refine gF_X3_35 E Z dX3_tell_44 0 rfl rfl ?_
    exact ret () Z dX3_tell_47 rfl (by subst ew; rfl)
end
section
/-! years -/
def mn1 (f : Nat → Nat) : Nat → Nat
  | 0 => f 0
  | i + 1 => min (mn1 f i) (f (i + 1))
def lts (f : Nat → Nat) : Nat → Nat
  | 0 => 1073741824
  | i + 1 => min (lts f i) (f i)
def cmv (co sh : Nat → Nat) (cg k j : Nat) : Nat := co j + cg * sm (mv1 (sh j) (sh k)) 7
def cyf (wt sw sh : Nat → Nat) (cg : Nat) : Nat → Nat → Nat
  | 0 => fun k => wt 0 * sw k
  | y + 1 => fun k => mn1 (cmv (cyf wt sw sh cg y) sh cg k) 3 + wt (y + 1) * sw k
def upTo (f : Nat → Nat) (f0 : Nat → Nat) : Nat → Nat → Nat
  | 0 => f0
  | i + 1 => up (upTo f f0 i) i (f i)
theorem upTo_at (f f0 : Nat → Nat) : ∀ n j, j < n → upTo f f0 n j = f j := by
  intro n
  induction n with
  | zero => intro j h; omega
  | succ n ih =>
    intro j h
    by_cases e : j = n
    · subst e; exact up_s _ _ _
    · exact (up_n _ _ e).trans (ih j (by omega))
theorem lts_le (f : Nat → Nat) : ∀ i, lts f i ≤ 1073741824 := by
  intro i
  induction i with
  | zero => exact Nat.le_refl _
  | succ i ih => exact Nat.le_trans (Nat.min_le_left _ _) ih
theorem lts_mn {f : Nat → Nat} (h : ∀ j, f j ≤ 1073741824) : lts f 4 = mn1 f 3 := by
  show min (min (min (min 1073741824 (f 0)) (f 1)) (f 2)) (f 3) = min (min (min (f 0) (f 1)) (f 2)) (f 3)
  rw [Nat.min_eq_right (h 0)]
theorem mv1_le (a b m : Nat) : mv1 a b m ≤ 1 := by unfold mv1; split <;> omega
theorem mvs_le (a b : Nat) : sm (mv1 a b) 7 ≤ 7 := Nat.le_trans (sm_bd (fun m _ => mv1_le a b m)) (by decide)
theorem mn1_le (f : Nat → Nat) : ∀ i, mn1 f i ≤ f 0 := by
  intro i
  induction i with
  | zero => exact Nat.le_refl _
  | succ i ih => exact Nat.le_trans (Nat.min_le_left _ _) ih
theorem cmv_le {co sh : Nat → Nat} {cg B : Nat} (hc : ∀ j, co j ≤ B) (hg : cg ≤ 50) (k j : Nat) : cmv co sh cg k j ≤ B + 350 := by
  have h1 := hc j
  have h2 : cg * sm (mv1 (sh j) (sh k)) 7 ≤ 50 * 7 := Nat.mul_le_mul hg (mvs_le _ _)
  unfold cmv; omega
theorem cyf_le {wt sw sh : Nat → Nat} {cg : Nat} (hw : ∀ j, wt j < 10) (hs : ∀ j, sw j < 5000) (hg : cg ≤ 50) : ∀ y k, cyf wt sw sh cg y k ≤ (y + 1) * 46000 := by
  intro y
  induction y with
  | zero =>
    intro k
    have h : wt 0 * sw k ≤ 9 * 5000 := Nat.mul_le_mul (Nat.le_of_lt_succ (hw 0)) (Nat.le_of_lt (hs k))
    show wt 0 * sw k ≤ (0 + 1) * 46000
    omega
  | succ y ih =>
    intro k
    have h : wt (y + 1) * sw k ≤ 9 * 5000 := Nat.mul_le_mul (Nat.le_of_lt_succ (hw (y + 1))) (Nat.le_of_lt (hs k))
    have h1 := mn1_le (cmv (cyf wt sw sh cg y) sh cg k) 3
    have h2 := cmv_le (sh := sh) (B := (y + 1) * 46000) ih hg k 0
    show mn1 (cmv (cyf wt sw sh cg y) sh cg k) 3 + wt (y + 1) * sw k ≤ (y + 1 + 1) * 46000
    omega
end
section
abbrev rm_k_X4_howMany : Room := { frames := 0, cells := 0, slots := 0, locals := 0 }
set_option maxHeartbeats 4000000 in
set_option maxRecDepth 100000 in
theorem k_X4_howMany (l : Launch) (D : va_G) (cA : ClassId) (q : Nat) (qw : Nat) (qc : Nat) (qn : Nat) (size : Nat) (mv : Nat)  : Cti l yX4_howMany cX4_howMany 1 (some .int) rm_k_X4_howMany D cA [.ref q] ([oY q qw qc qn size mv]) (fun (r : Int32) (_ : Unit) => r = nI size) (fun _ => [oY q qw qc qn size mv]) := by
  refine st_i (by decide) (Nat.le_of_ble_eq_true rfl) ?_
  intro p e s m args below meth c A Q E ret Z ls hl
  have hx := E.1.1
  have hb := E.1.2.1
  have hl : lv_has ls 1 [(0, .ref q)] := hl
  refine lv_aload_n hx hb dX4_howMany_0 rfl (lv_at hl 0 rfl) ?_
  refine gF_X4_25 E Z dX4_howMany_1 0 rfl rfl ?_
  exact ret () Z dX4_howMany_4 rfl rfl
abbrev rm_k_X4_append : Room := { frames := 0, cells := 0, slots := 0, locals := 0 }
set_option maxHeartbeats 4000000 in
set_option maxRecDepth 100000 in
theorem k_X4_append (l : Launch) (D : va_G) (cA : ClassId) (q : Nat) (qw : Nat) (qc : Nat) (qn : Nat) (size : Nat) (mv : Nat) (wt : Nat → Nat) (w : Nat) (hz : size < 6) : Ctv l yX4_append cX4_append 2 none rm_k_X4_append D cA [.ref q, .int (nI w)] ([oY q qw qc qn size mv, aN cA qw 6 wt]) (fun (_ : Unit) => True) (fun _ => [oY q qw qc qn (size + 1) mv, aN cA qw 6 (up wt size w)]) := by
  refine st_v (by decide) (Nat.le_of_ble_eq_true rfl) ?_
  intro p e s m args below meth c A Q E ret Z ls hl
  have hx := E.1.1
  have hb := E.1.2.1
  have hl : lv_has ls 2 [(0, .ref q), (1, .int (nI w))] := hl
  refine lv_aload_n hx hb dX4_append_0 rfl (lv_at hl 0 rfl) ?_
  refine gF_X4_25 E Z dX4_append_1 0 rfl rfl ?_
  refine lv_bipush (v := nI 6) hx hb dX4_append_4 (by decide) ?_
  refine n_icmp_ge (tgt := 29) hx hb dX4_append_6 (by decide) (by omega) (by omega) (fun c6 => ?_) (fun c6 => ?_)
  · exact absurd c6 (by omega)
  · refine lv_aload_n hx hb dX4_append_9 rfl (lv_at hl 0 rfl) ?_
    refine gF_X4_9 E Z dX4_append_10 0 rfl rfl ?_
    refine lv_aload_n hx hb dX4_append_13 rfl (lv_at hl 0 rfl) ?_
    refine gF_X4_25 E Z dX4_append_14 0 rfl rfl ?_
    refine lv_iload_n hx hb dX4_append_17 rfl (lv_at hl 1 rfl) ?_
    refine r_ast (w1 := [oY q qw qc qn size mv, aN cA qw 6 (up wt size w)]) E Z dX4_append_18 1 rfl (by omega) (by decide) rfl (fun H locs Z => ?_)
    refine lv_aload_n hx hb dX4_append_19 rfl (lv_at hl 0 rfl) ?_
    refine lv_dup hx hb dX4_append_20 rfl ?_
    refine gF_X4_25 E Z dX4_append_21 0 rfl rfl ?_
    refine lv_iconst (v := nI 1) hx hb dX4_append_24 (by decide) ?_
    refine n_iadd hx hb dX4_append_25 ?_
    refine pF_X4_25 (w1 := [oY q qw qc qn (size + 1) mv, aN cA qw 6 (up wt size w)]) E Z dX4_append_26 0 rfl (Nat.le_of_ble_eq_true rfl) rfl (fun H locs Z => ?_)
    exact ret () Z dX4_append_29 rfl trivial
abbrev rm_k_X4_costOfMove : Room := { frames := 0, cells := 0, slots := 0, locals := 0 }
set_option maxHeartbeats 4000000 in
set_option maxRecDepth 100000 in
theorem k_X4_costOfMove (l : Launch) (D : va_G) (cA : ClassId) (q : Nat) (qw : Nat) (qc : Nat) (qn : Nat) (size : Nat) (mv : Nat)  : Cti l yX4_costOfMove cX4_costOfMove 1 (some .int) rm_k_X4_costOfMove D cA [.ref q] ([oY q qw qc qn size mv]) (fun (r : Int32) (_ : Unit) => r = nI mv) (fun _ => [oY q qw qc qn size mv]) := by
  refine st_i (by decide) (Nat.le_of_ble_eq_true rfl) ?_
  intro p e s m args below meth c A Q E ret Z ls hl
  have hx := E.1.1
  have hb := E.1.2.1
  have hl : lv_has ls 1 [(0, .ref q)] := hl
  refine lv_aload_n hx hb dX4_costOfMove_0 rfl (lv_at hl 0 rfl) ?_
  refine gF_X4_21 E Z dX4_costOfMove_1 0 rfl rfl ?_
  exact ret () Z dX4_costOfMove_4 rfl rfl
abbrev rm_k_X4_putCostOfMove : Room := { frames := 0, cells := 0, slots := 0, locals := 0 }
set_option maxHeartbeats 4000000 in
set_option maxRecDepth 100000 in
theorem k_X4_putCostOfMove (l : Launch) (D : va_G) (cA : ClassId) (q : Nat) (qw : Nat) (qc : Nat) (qn : Nat) (size : Nat) (mv : Nat) (v : Nat)  : Ctv l yX4_putCostOfMove cX4_putCostOfMove 2 none rm_k_X4_putCostOfMove D cA [.ref q, .int (nI v)] ([oY q qw qc qn size mv]) (fun (_ : Unit) => True) (fun _ => [oY q qw qc qn size v]) := by
  refine st_v (by decide) (Nat.le_of_ble_eq_true rfl) ?_
  intro p e s m args below meth c A Q E ret Z ls hl
  have hx := E.1.1
  have hb := E.1.2.1
  have hl : lv_has ls 2 [(0, .ref q), (1, .int (nI v))] := hl
  refine lv_aload_n hx hb dX4_putCostOfMove_0 rfl (lv_at hl 0 rfl) ?_
  refine lv_iload_n hx hb dX4_putCostOfMove_1 rfl (lv_at hl 1 rfl) ?_
  refine pF_X4_21 (w1 := [oY q qw qc qn size v]) E Z dX4_putCostOfMove_2 0 rfl (Nat.le_of_ble_eq_true rfl) rfl (fun H locs Z => ?_)
  exact ret () Z dX4_putCostOfMove_5 rfl trivial
abbrev rm_k_X4_leastTo : Room := { frames := 1, cells := 0, slots := 0, locals := 23 }
set_option maxHeartbeats 4000000 in
set_option maxRecDepth 100000 in
theorem k_X4_leastTo (l : Launch) (D : va_G) (cA : ClassId) (q : Nat) (qw : Nat) (qc : Nat) (qn : Nat) (size : Nat) (mv : Nat) (co : Nat → Nat) (qsh : Nat) (sh : Nat → Nat) (k : Nat) (hk : k < 4) (hco : ∀ j, co j ≤ 1000000) (hmv : mv ≤ 50) (hsh : ∀ j, sh j < 2 ^ 31) : Cti l yX4_leastTo cX4_leastTo 6 (some .int) rm_k_X4_leastTo D cA [.ref q, .int (nI k), .ref qsh] ([oY q qw qc qn size mv, aN cA qc 4 co, aN cA qsh 4 sh]) (fun (r : Int32) (_ : Unit) => r = nI (mn1 (cmv co sh mv k) 3)) (fun _ => [oY q qw qc qn size mv, aN cA qc 4 co, aN cA qsh 4 sh]) := by
  refine st_i (by decide) (Nat.le_of_ble_eq_true rfl) ?_
  intro p e s m args below meth c A Q E ret Z ls hl
  have hx := E.1.1
  have hb := E.1.2.1
  have hl : lv_has ls 6 [(0, .ref q), (1, .int (nI k)), (2, .ref qsh)] := hl
  refine lv_ldc (v := 1073741824) hx hb E.1.2.2.2.1 (E.1.2.2.2.2 _ mK_X4_44) dX4_leastTo_0 ?_
  refine r_top (y := nI 1073741824) (by decide) ?_
  refine lv_istore_n (lv' := [(3, .int (nI 1073741824)), (0, .ref q), (1, .int (nI k)), (2, .ref qsh)]) hx hb dX4_leastTo_2 rfl hl (by decide) rfl (fun ls hl => ?_)
  refine lv_iconst (v := nI 0) hx hb dX4_leastTo_3 (by decide) ?_
  refine lv_istore (lv' := [(4, .int (nI 0)), (3, .int (nI 1073741824)), (0, .ref q), (1, .int (nI k)), (2, .ref qsh)]) hx hb dX4_leastTo_4 hl (by decide) rfl (fun ls hl => ?_)
  have L6 : ∀ (n6 j : Nat), 4 + 1 ≤ j + n6 → j ≤ 4 → ∀ (H : Heap) (locs : List Loc), Wd D A s ([oY q qw qc qn size mv, aN cA qc 4 co, aN cA qsh 4 sh]) H locs → ∀ (ls : Array Slot), lv_has ls 6 [(0, .ref q), (1, .int (nI k)), (2, .ref qsh), (3, .int (nI (lts (cmv co sh mv k) j))), (4, .int (nI j))] → W p l e rm_k_X4_leastTo s m args below meth c H locs 0 0 Q (F0 m 6 ls []) := by
    intro n6
    induction n6 with
    | zero => exact fun j h1 h2 => absurd h1 (by omega)
    | succ n6 ih6 =>
      intro j hn6 hi6  H locs Z ls hl
      refine lv_iload hx hb dX4_leastTo_6 (lv_at hl 4 rfl) ?_
      refine lv_iconst (v := nI 4) hx hb dX4_leastTo_8 (by decide) ?_
      refine n_icmp_ge (tgt := 50) hx hb dX4_leastTo_9 (by decide) (by omega) (by omega) (fun c9 => ?_) (fun c9 => ?_)
      · obtain rfl : 4 = j := by omega
        refine lv_iload_n hx hb dX4_leastTo_50 rfl (lv_at hl 3 rfl) ?_
        exact ret () Z dX4_leastTo_51 rfl (congrArg nI (lts_mn (fun j => Nat.le_trans (cmv_le hco hmv k j) (by decide))))
      · refine lv_aload_n hx hb dX4_leastTo_12 rfl (lv_at hl 2 rfl) ?_
        refine lv_iload hx hb dX4_leastTo_13 (lv_at hl 4 rfl) ?_
        refine r_ald E Z dX4_leastTo_15 2 rfl (by omega) (by decide) ?_
        refine lv_aload_n hx hb dX4_leastTo_16 rfl (lv_at hl 2 rfl) ?_
        refine lv_iload_n hx hb dX4_leastTo_17 rfl (lv_at hl 1 rfl) ?_
        refine r_ald E Z dX4_leastTo_18 2 rfl (by omega) (by decide) ?_
        refine c_Si (As := [.int (nI (sh j)), .int (nI (sh k))]) (rest := []) (w2 := fun _ => [oY q qw qc qn size mv, aN cA qc 4 co, aN cA qsh 4 sh]) E Z (k_X0_moved l D cA (sh j) (sh k) (hsh _) (hsh _)) ws_X4_45 ⟨rfl, rfl, Nat.le_of_ble_eq_true rfl, Nat.le_of_ble_eq_true rfl⟩ [] rfl rfl (fun _ => rfl) (fun _ => rfl) rfl hl.1 rfl (Nat.le_of_ble_eq_true rfl) dX4_leastTo_19 ⟨Nat.zero_le _, Nat.zero_le _⟩ (fun r19 _ H locs hp19 Z => ?_)
        subst hp19
        refine lv_istore (lv' := [(5, .int (nI (sm (mv1 (sh j) (sh k)) 7))), (0, .ref q), (1, .int (nI k)), (2, .ref qsh), (3, .int (nI (lts (cmv co sh mv k) j))), (4, .int (nI j))]) hx hb dX4_leastTo_22 hl (by decide) rfl (fun ls hl => ?_)
        refine lv_iload_n hx hb dX4_leastTo_24 rfl (lv_at hl 4 rfl) ?_
        refine lv_aload_n hx hb dX4_leastTo_25 rfl (lv_at hl 1 rfl) ?_
        refine gF_X4_15 E Z dX4_leastTo_26 0 rfl rfl ?_
        refine lv_iload hx hb dX4_leastTo_29 (lv_at hl 5 rfl) ?_
        refine r_ald E Z dX4_leastTo_31 1 rfl (by omega) (by decide) ?_
        refine lv_aload_n hx hb dX4_leastTo_32 rfl (lv_at hl 1 rfl) ?_
        refine gF_X4_21 E Z dX4_leastTo_33 0 rfl rfl ?_
        refine lv_iload hx hb dX4_leastTo_36 (lv_at hl 0 rfl) ?_
        refine n_imul hx hb dX4_leastTo_38 ?_
        refine n_iadd hx hb dX4_leastTo_39 ?_
        have h1 := lts_le (cmv co sh mv k) j
        have h2 := cmv_le (sh := sh) (cg := mv) hco hmv k j
        refine r_top (y := nI (cmv co sh mv k j)) rfl ?_
        refine n_min E hl.1 mML_X4_38 dX4_leastTo_40 (Nat.le_of_ble_eq_true rfl) (Nat.le_of_ble_eq_true rfl) ⟨Nat.zero_le _, Nat.zero_le _⟩ (by omega) (by omega) ?_
        refine lv_istore_n (lv' := [(3, .int (nI (min (lts (cmv co sh mv k) j) (cmv co sh mv k j)))), (5, .int (nI (sm (mv1 (sh j) (sh k)) 7))), (0, .ref q), (1, .int (nI k)), (2, .ref qsh), (4, .int (nI j))]) hx hb dX4_leastTo_43 rfl hl (by decide) rfl (fun ls hl => ?_)
        refine lv_iinc (v := nI (j + 1)) (lv' := [(4, .int (nI (j + 1))), (3, .int (nI (min (lts (cmv co sh mv k) j) (cmv co sh mv k j)))), (5, .int (nI (sm (mv1 (sh j) (sh k)) 7))), (0, .ref q), (1, .int (nI k)), (2, .ref qsh)]) hx hb dX4_leastTo_44 hl (k := 5) rfl (n_inc _ _ (by decide)) (by decide) rfl (fun ls hl => ?_)
        refine lv_goto (tgt := 6) hx hb dX4_leastTo_47 (by decide) ?_
        exact ih6 (j + 1) (by omega) (by omega)   _ _ Z ls (lv_sub hl [3, 4, 5, 1, 0] rfl)
  exact L6 (4 + 1) 0 (by omega) (by omega)   _ _ Z ls (lv_sub hl [2, 3, 4, 1, 0] rfl)
abbrev rm_k_X4_cheapest : Room := { frames := 2, cells := 0, slots := 0, locals := 60 }
set_option maxHeartbeats 4000000 in
set_option maxRecDepth 100000 in
theorem k_X4_cheapest (l : Launch) (D : va_G) (cA : ClassId) (q : Nat) (qw : Nat) (qc : Nat) (qn : Nat) (size : Nat) (mv : Nat) (wt : Nat → Nat) (co : Nat → Nat) (nc : Nat → Nat) (qsh : Nat) (sh : Nat → Nat) (qsw : Nat) (sw : Nat → Nat) (hz : 1 ≤ size) (hz6 : size ≤ 6) (hwt : ∀ j, wt j < 10) (hsw : ∀ j, sw j < 5000) (hmv : mv ≤ 50) (hsh : ∀ j, sh j < 2 ^ 31) : Cti l yX4_cheapest cX4_cheapest 5 (some .int) rm_k_X4_cheapest D cA [.ref q, .ref qsh, .ref qsw] ([oY q qw qc qn size mv, aN cA qw 6 wt, aN cA qc 4 co, aN cA qn 4 nc, aN cA qsh 4 sh, aN cA qsw 4 sw]) (fun (r : Int32) (_ : (Nat → Nat) × (Nat → Nat)) => r = nI (mn1 (cyf wt sw sh mv (size - 1)) 3)) (fun u => [oY q qw qc qn size mv, aN cA qw 6 wt, aN cA qc 4 u.1, aN cA qn 4 u.2, aN cA qsh 4 sh, aN cA qsw 4 sw]) := by
  refine st_i (by decide) (Nat.le_of_ble_eq_true rfl) ?_
  intro p e s m args below meth c A Q E ret Z ls hl
  have hx := E.1.1
  have hb := E.1.2.1
  have hl : lv_has ls 5 [(0, .ref q), (1, .ref qsh), (2, .ref qsw)] := hl
  refine lv_iconst (v := nI 0) hx hb dX4_cheapest_0 (by decide) ?_
  refine lv_istore_n (lv' := [(3, .int (nI 0)), (0, .ref q), (1, .ref qsh), (2, .ref qsw)]) hx hb dX4_cheapest_1 rfl hl (by decide) rfl (fun ls hl => ?_)
  have L2 : ∀ (n2 i : Nat), 4 + 1 ≤ i + n2 → i ≤ 4 → ∀ (H : Heap) (locs : List Loc), Wd D A s ([oY q qw qc qn size mv, aN cA qw 6 wt, aN cA qc 4 (upTo (fun z => wt 0 * sw z) co i), aN cA qn 4 nc, aN cA qsh 4 sh, aN cA qsw 4 sw]) H locs → ∀ (ls : Array Slot), lv_has ls 5 [(0, .ref q), (1, .ref qsh), (2, .ref qsw), (3, .int (nI i))] → W p l e rm_k_X4_cheapest s m args below meth c H locs 0 0 Q (F0 m 2 ls []) := by
    intro n2
    induction n2 with
    | zero => exact fun i h1 h2 => absurd h1 (by omega)
    | succ n2 ih2 =>
      intro i hn2 hi2  H locs Z ls hl
      refine lv_iload_n hx hb dX4_cheapest_2 rfl (lv_at hl 3 rfl) ?_
      refine lv_iconst (v := nI 4) hx hb dX4_cheapest_3 (by decide) ?_
      refine n_icmp_ge (tgt := 29) hx hb dX4_cheapest_4 (by decide) (by omega) (by omega) (fun c4 => ?_) (fun c4 => ?_)
      · obtain rfl : 4 = i := by omega
        replace Z : Wd D A s ([oY q qw qc qn size mv, aN cA qw 6 wt, aN cA qc 4 (cyf wt sw sh mv 0), aN cA qn 4 nc, aN cA qsh 4 sh, aN cA qsw 4 sw]) _ _ := Z.norm 2 rfl (fun j hj => congrArg nI (upTo_at _ _ 4 j hj)) rfl
        refine lv_iconst (v := nI 1) hx hb dX4_cheapest_29 (by decide) ?_
        refine lv_istore_n (lv' := [(3, .int (nI 1)), (0, .ref q), (1, .ref qsh), (2, .ref qsw)]) hx hb dX4_cheapest_30 rfl hl (by decide) rfl (fun ls hl => ?_)
        have L31 : ∀ (n31 i : Nat), size - 1 + 1 ≤ i + n31 → i ≤ size - 1 → ∀ (nc : Nat → Nat), ∀ (H : Heap) (locs : List Loc), Wd D A s ([oY q qw qc qn size mv, aN cA qw 6 wt, aN cA qc 4 (cyf wt sw sh mv i), aN cA qn 4 nc, aN cA qsh 4 sh, aN cA qsw 4 sw]) H locs → ∀ (ls : Array Slot), lv_has ls 5 [(0, .ref q), (1, .ref qsh), (2, .ref qsw), (3, .int (nI (i + 1)))] → W p l e rm_k_X4_cheapest s m args below meth c H locs 0 0 Q (F0 m 31 ls []) := by
          intro n31
          induction n31 with
          | zero => exact fun i h1 h2 => absurd h1 (by omega)
          | succ n31 ih31 =>
            intro i hn31 hi31 nc  H locs Z ls hl
            have hcy : ∀ j, cyf wt sw sh mv i j ≤ 1000000 := fun j => Nat.le_trans (cyf_le hwt hsw hmv i j) (by omega)
            refine lv_iload_n hx hb dX4_cheapest_31 rfl (lv_at hl 3 rfl) ?_
            refine lv_aload_n hx hb dX4_cheapest_32 rfl (lv_at hl 0 rfl) ?_
            refine gF_X4_25 E Z dX4_cheapest_33 0 rfl rfl ?_
            refine n_icmp_ge (tgt := 100) hx hb dX4_cheapest_36 (by decide) (by omega) (by omega) (fun c36 => ?_) (fun c36 => ?_)
            · obtain rfl : size - 1 = i := by omega
              have hcl : ∀ j, cyf wt sw sh mv (size - 1) j ≤ 1000000 := fun j => Nat.le_trans (cyf_le hwt hsw hmv _ j) (by omega)
              refine lv_aload_n hx hb dX4_cheapest_100 rfl (lv_at hl 0 rfl) ?_
              refine gF_X4_15 E Z dX4_cheapest_101 0 rfl rfl ?_
              refine lv_iconst (v := nI 0) hx hb dX4_cheapest_104 (by decide) ?_
              refine r_ald E Z dX4_cheapest_105 2 rfl (by omega) (by decide) ?_
              refine lv_istore_n (lv' := [(3, .int (nI ((cyf wt sw sh mv (size - 1)) 0))), (0, .ref q), (1, .ref qsh), (2, .ref qsw)]) hx hb dX4_cheapest_106 rfl hl (by decide) rfl (fun ls hl => ?_)
              refine lv_iconst (v := nI 1) hx hb dX4_cheapest_107 (by decide) ?_
              refine lv_istore (lv' := [(4, .int (nI 1)), (3, .int (nI ((cyf wt sw sh mv (size - 1)) 0))), (0, .ref q), (1, .ref qsh), (2, .ref qsw)]) hx hb dX4_cheapest_108 hl (by decide) rfl (fun ls hl => ?_)
              have L110 : ∀ (n110 i : Nat), 3 + 1 ≤ i + n110 → i ≤ 3 → ∀ (H : Heap) (locs : List Loc), Wd D A s ([oY q qw qc qn size mv, aN cA qw 6 wt, aN cA qc 4 (cyf wt sw sh mv (size - 1)), aN cA qn 4 nc, aN cA qsh 4 sh, aN cA qsw 4 sw]) H locs → ∀ (ls : Array Slot), lv_has ls 5 [(0, .ref q), (1, .ref qsh), (2, .ref qsw), (3, .int (nI (mn1 (cyf wt sw sh mv (size - 1)) i))), (4, .int (nI (i + 1)))] → W p l e rm_k_X4_cheapest s m args below meth c H locs 0 0 Q (F0 m 110 ls []) := by
                intro n110
                induction n110 with
                | zero => exact fun i h1 h2 => absurd h1 (by omega)
                | succ n110 ih110 =>
                  intro i hn110 hi110  H locs Z ls hl
                  refine lv_iload hx hb dX4_cheapest_110 (lv_at hl 4 rfl) ?_
                  refine lv_iconst (v := nI 4) hx hb dX4_cheapest_112 (by decide) ?_
                  refine n_icmp_ge (tgt := 134) hx hb dX4_cheapest_113 (by decide) (by omega) (by omega) (fun c113 => ?_) (fun c113 => ?_)
                  · obtain rfl : 3 = i := by omega
                    refine lv_iload_n hx hb dX4_cheapest_134 rfl (lv_at hl 3 rfl) ?_
                    exact ret (_, _) Z dX4_cheapest_135 rfl rfl
                  · refine lv_iload_n hx hb dX4_cheapest_116 rfl (lv_at hl 3 rfl) ?_
                    refine lv_aload_n hx hb dX4_cheapest_117 rfl (lv_at hl 0 rfl) ?_
                    refine gF_X4_15 E Z dX4_cheapest_118 0 rfl rfl ?_
                    refine lv_iload hx hb dX4_cheapest_121 (lv_at hl 4 rfl) ?_
                    refine r_ald E Z dX4_cheapest_123 2 rfl (by omega) (by decide) ?_
                    have h1 := mn1_le (cyf wt sw sh mv (size - 1)) i
                    have h2 := hcl 0
                    have h3 := hcl (i + 1)
                    refine n_min E hl.1 mML_X4_38 dX4_cheapest_124 (Nat.le_of_ble_eq_true rfl) (Nat.le_of_ble_eq_true rfl) ⟨Nat.zero_le _, Nat.zero_le _⟩ (by omega) (by omega) ?_
                    refine lv_istore_n (lv' := [(3, .int (nI (min (mn1 (cyf wt sw sh mv (size - 1)) i) ((cyf wt sw sh mv (size - 1)) (i + 1))))), (0, .ref q), (1, .ref qsh), (2, .ref qsw), (4, .int (nI (i + 1)))]) hx hb dX4_cheapest_127 rfl hl (by decide) rfl (fun ls hl => ?_)
                    refine lv_iinc (v := nI (i + 1 + 1)) (lv' := [(4, .int (nI (i + 1 + 1))), (3, .int (nI (min (mn1 (cyf wt sw sh mv (size - 1)) i) ((cyf wt sw sh mv (size - 1)) (i + 1))))), (0, .ref q), (1, .ref qsh), (2, .ref qsw)]) hx hb dX4_cheapest_128 hl (k := 4) rfl (n_inc _ _ (by decide)) (by decide) rfl (fun ls hl => ?_)
                    refine lv_goto (tgt := 110) hx hb dX4_cheapest_131 (by decide) ?_
                    exact ih110 (i + 1) (by omega) (by omega)   _ _ Z ls (lv_sub hl [2, 3, 4, 1, 0] rfl)
              exact L110 (3 + 1) 0 (by omega) (by omega)   _ _ Z ls (lv_sub hl [2, 3, 4, 1, 0] rfl)
            · refine lv_iconst (v := nI 0) hx hb dX4_cheapest_39 (by decide) ?_
              refine lv_istore (lv' := [(4, .int (nI 0)), (0, .ref q), (1, .ref qsh), (2, .ref qsw), (3, .int (nI (i + 1)))]) hx hb dX4_cheapest_40 hl (by decide) rfl (fun ls hl => ?_)
              have L42 : ∀ (n42 k : Nat), 4 + 1 ≤ k + n42 → k ≤ 4 → ∀ (H : Heap) (locs : List Loc), Wd D A s ([oY q qw qc qn size mv, aN cA qw 6 wt, aN cA qc 4 (cyf wt sw sh mv i), aN cA qn 4 (upTo (fun z => mn1 (cmv (cyf wt sw sh mv i) sh mv z) 3 + wt (i + 1) * sw z) nc k), aN cA qsh 4 sh, aN cA qsw 4 sw]) H locs → ∀ (ls : Array Slot), lv_has ls 5 [(0, .ref q), (1, .ref qsh), (2, .ref qsw), (3, .int (nI (i + 1))), (4, .int (nI k))] → W p l e rm_k_X4_cheapest s m args below meth c H locs 0 0 Q (F0 m 42 ls []) := by
                intro n42
                induction n42 with
                | zero => exact fun k h1 h2 => absurd h1 (by omega)
                | succ n42 ih42 =>
                  intro k hn42 hi42  H locs Z ls hl
                  refine lv_iload hx hb dX4_cheapest_42 (lv_at hl 4 rfl) ?_
                  refine lv_iconst (v := nI 4) hx hb dX4_cheapest_44 (by decide) ?_
                  refine n_icmp_ge (tgt := 80) hx hb dX4_cheapest_45 (by decide) (by omega) (by omega) (fun c45 => ?_) (fun c45 => ?_)
                  · obtain rfl : 4 = k := by omega
                    refine lv_aload_n hx hb dX4_cheapest_80 rfl (lv_at hl 0 rfl) ?_
                    refine gF_X4_18 E Z dX4_cheapest_81 0 rfl rfl ?_
                    refine lv_iconst (v := nI 0) hx hb dX4_cheapest_84 (by decide) ?_
                    refine lv_aload_n hx hb dX4_cheapest_85 rfl (lv_at hl 0 rfl) ?_
                    refine gF_X4_15 E Z dX4_cheapest_86 0 rfl rfl ?_
                    refine lv_iconst (v := nI 0) hx hb dX4_cheapest_89 (by decide) ?_
                    refine lv_iconst (v := nI 4) hx hb dX4_cheapest_90 (by decide) ?_
                    refine c_copy4 (w1 := [oY q qw qc qn size mv, aN cA qw 6 wt, aN cA qc 4 (cyf wt sw sh mv (i + 1)), aN cA qn 4 (upTo (fun z => mn1 (cmv (cyf wt sw sh mv i) sh mv z) 3 + wt (i + 1) * sw z) nc 4), aN cA qsh 4 sh, aN cA qsw 4 sw]) E Z hl.1 mM_X4_32 dX4_cheapest_91 3 2 rfl rfl (fun j hj => congrArg nI (upTo_at _ _ 4 j hj)) rfl (Nat.le_of_ble_eq_true rfl) (Nat.le_of_ble_eq_true rfl) (fun H locs Z => ?_)
                    refine lv_iinc (v := nI (i + 1 + 1)) (lv' := [(3, .int (nI (i + 1 + 1))), (0, .ref q), (1, .ref qsh), (2, .ref qsw), (4, .int (nI 4))]) hx hb dX4_cheapest_94 hl (k := 3) rfl (n_inc _ _ (by decide)) (by decide) rfl (fun ls hl => ?_)
                    refine lv_goto (tgt := 31) hx hb dX4_cheapest_97 (by decide) ?_
                    exact ih31 (i + 1) (by omega) (by omega) _  _ _ Z ls (lv_sub hl [1, 2, 3, 0] rfl)
                  · refine lv_aload_n hx hb dX4_cheapest_48 rfl (lv_at hl 0 rfl) ?_
                    refine gF_X4_18 E Z dX4_cheapest_49 0 rfl rfl ?_
                    refine lv_iload hx hb dX4_cheapest_52 (lv_at hl 4 rfl) ?_
                    refine lv_aload_n hx hb dX4_cheapest_54 rfl (lv_at hl 0 rfl) ?_
                    refine lv_iload hx hb dX4_cheapest_55 (lv_at hl 4 rfl) ?_
                    refine lv_aload_n hx hb dX4_cheapest_57 rfl (lv_at hl 1 rfl) ?_
                    refine c_Vi (As := [.int (nI k), .ref qsh]) (rest := [.int (nI k), .ref qn]) (w2 := fun _ => [oY q qw qc qn size mv, aN cA qw 6 wt, aN cA qc 4 (cyf wt sw sh mv i), aN cA qn 4 (upTo (fun z => mn1 (cmv (cyf wt sw sh mv i) sh mv z) 3 + wt (i + 1) * sw z) nc k), aN cA qsh 4 sh, aN cA qsw 4 sw]) E Z (k_X4_leastTo l D cA q qw qc qn size mv (cyf wt sw sh mv i) qsh sh k (by first | assumption | omega) hcy (by first | assumption | omega) (by first | assumption | omega)) wv_X4_28 ⟨rfl, rfl, Nat.le_of_ble_eq_true rfl, Nat.le_of_ble_eq_true rfl⟩ [0, 2, 4] rfl rfl rfl rfl (q0 := 0) rfl (fun _ => rfl) (fun _ => rfl) rfl hl.1 rfl (Nat.le_of_ble_eq_true rfl) dX4_cheapest_58 ⟨Nat.zero_le _, Nat.zero_le _⟩ (fun r58 _ H locs hp58 Z => ?_)
                    subst hp58
                    refine lv_aload_n hx hb dX4_cheapest_61 rfl (lv_at hl 0 rfl) ?_
                    refine gF_X4_9 E Z dX4_cheapest_62 0 rfl rfl ?_
                    refine lv_iload_n hx hb dX4_cheapest_65 rfl (lv_at hl 3 rfl) ?_
                    refine r_ald E Z dX4_cheapest_66 1 rfl (by omega) (by decide) ?_
                    refine lv_aload_n hx hb dX4_cheapest_67 rfl (lv_at hl 2 rfl) ?_
                    refine lv_iload hx hb dX4_cheapest_68 (lv_at hl 4 rfl) ?_
                    refine r_ald E Z dX4_cheapest_70 5 rfl (by omega) (by decide) ?_
                    refine n_imul hx hb dX4_cheapest_71 ?_
                    refine n_iadd hx hb dX4_cheapest_72 ?_
                    refine r_ast (w1 := [oY q qw qc qn size mv, aN cA qw 6 wt, aN cA qc 4 (cyf wt sw sh mv i), aN cA qn 4 (up (upTo (fun z => mn1 (cmv (cyf wt sw sh mv i) sh mv z) 3 + wt (i + 1) * sw z) nc k) k (mn1 (cmv (cyf wt sw sh mv i) sh mv k) 3 + ((wt (i + 1)) * (sw k)))), aN cA qsh 4 sh, aN cA qsw 4 sw]) E Z dX4_cheapest_73 3 rfl (by omega) (by decide) rfl (fun H locs Z => ?_)
                    refine lv_iinc (v := nI (k + 1)) (lv' := [(4, .int (nI (k + 1))), (0, .ref q), (1, .ref qsh), (2, .ref qsw), (3, .int (nI (i + 1)))]) hx hb dX4_cheapest_74 hl (k := 4) rfl (n_inc _ _ (by decide)) (by decide) rfl (fun ls hl => ?_)
                    refine lv_goto (tgt := 42) hx hb dX4_cheapest_77 (by decide) ?_
                    exact ih42 (k + 1) (by omega) (by omega)   _ _ Z ls (lv_sub hl [1, 2, 3, 4, 0] rfl)
              exact L42 (4 + 1) 0 (by omega) (by omega)   _ _ Z ls (lv_sub hl [1, 2, 3, 4, 0] rfl)
        exact L31 ((size - 1) + 1) 0 (by omega) (by omega) _  _ _ Z ls (lv_sub hl [1, 2, 3, 0] rfl)
      · refine lv_aload_n hx hb dX4_cheapest_7 rfl (lv_at hl 0 rfl) ?_
        refine gF_X4_15 E Z dX4_cheapest_8 0 rfl rfl ?_
        refine lv_iload_n hx hb dX4_cheapest_11 rfl (lv_at hl 3 rfl) ?_
        refine lv_aload_n hx hb dX4_cheapest_12 rfl (lv_at hl 0 rfl) ?_
        refine gF_X4_9 E Z dX4_cheapest_13 0 rfl rfl ?_
        refine lv_iconst (v := nI 0) hx hb dX4_cheapest_16 (by decide) ?_
        refine r_ald E Z dX4_cheapest_17 1 rfl (by omega) (by decide) ?_
        refine lv_aload_n hx hb dX4_cheapest_18 rfl (lv_at hl 2 rfl) ?_
        refine lv_iload_n hx hb dX4_cheapest_19 rfl (lv_at hl 3 rfl) ?_
        refine r_ald E Z dX4_cheapest_20 5 rfl (by omega) (by decide) ?_
        refine n_imul hx hb dX4_cheapest_21 ?_
        refine r_ast (w1 := [oY q qw qc qn size mv, aN cA qw 6 wt, aN cA qc 4 (up (upTo (fun z => wt 0 * sw z) co i) i ((wt 0) * (sw i))), aN cA qn 4 nc, aN cA qsh 4 sh, aN cA qsw 4 sw]) E Z dX4_cheapest_22 2 rfl (by omega) (by decide) rfl (fun H locs Z => ?_)
        refine lv_iinc (v := nI (i + 1)) (lv' := [(3, .int (nI (i + 1))), (0, .ref q), (1, .ref qsh), (2, .ref qsw)]) hx hb dX4_cheapest_23 hl (k := 3) rfl (n_inc _ _ (by decide)) (by decide) rfl (fun ls hl => ?_)
        refine lv_goto (tgt := 2) hx hb dX4_cheapest_26 (by decide) ?_
        exact ih2 (i + 1) (by omega) (by omega)   _ _ Z ls (lv_sub hl [1, 2, 3, 0] rfl)
  exact L2 (4 + 1) 0 (by omega) (by omega)   _ _ Z ls (lv_sub hl [1, 2, 3, 0] rfl)
end

/-! one list of words for all methods: the good ones of the tables; each word's place there -/
def UW : List Cond := lw_tbl.filter goodWord
theorem UW_good : ∀ w ∈ UW, (w.onTables && w.keeps) = true ∨ ∃ ty, w = .arrayClass ty := fun w h => good_of_word (List.mem_filter.mp h).2
theorem UW_tbl : ∀ w ∈ UW, w ∈ lw_tbl := fun w h => (List.mem_filter.mp h).1
theorem mS_X5_begin : Cond.selects RX5 yX5_begin yX5_begin ∈ UW := List.mem_filter.mpr ⟨List.mem_of_getElem? (i := 0) (by decide +kernel), by decide +kernel⟩
theorem mS_X5_isPart : Cond.selects RX5 yX5_isPart yX5_isPart ∈ UW := List.mem_filter.mpr ⟨List.mem_of_getElem? (i := 1) (by decide +kernel), by decide +kernel⟩
theorem mS_X5_isMachine : Cond.selects RX5 yX5_isMachine yX5_isMachine ∈ UW := List.mem_filter.mpr ⟨List.mem_of_getElem? (i := 2) (by decide +kernel), by decide +kernel⟩
theorem mS_X5_groupings : Cond.selects RX5 yX5_groupings yX5_groupings ∈ UW := List.mem_filter.mpr ⟨List.mem_of_getElem? (i := 3) (by decide +kernel), by decide +kernel⟩
theorem mS_X1_setBy : Cond.selects RX1 yX1_setBy yX1_setBy ∈ UW := List.mem_filter.mpr ⟨List.mem_of_getElem? (i := 4) (by decide +kernel), by decide +kernel⟩
theorem mS_X5_lossOf : Cond.selects RX5 yX5_lossOf yX5_lossOf ∈ UW := List.mem_filter.mpr ⟨List.mem_of_getElem? (i := 5) (by decide +kernel), by decide +kernel⟩
theorem mS_X5_seekGrouping : Cond.selects RX5 yX5_seekGrouping yX5_seekGrouping ∈ UW := List.mem_filter.mpr ⟨List.mem_of_getElem? (i := 6) (by decide +kernel), by decide +kernel⟩
theorem mS_X3_seekPair : Cond.selects RX3 yX3_seekPair yX3_seekPair ∈ UW := List.mem_filter.mpr ⟨List.mem_of_getElem? (i := 7) (by decide +kernel), by decide +kernel⟩
theorem mS_X3_compareHeaps : Cond.selects RX3 yX3_compareHeaps yX3_compareHeaps ∈ UW := List.mem_filter.mpr ⟨List.mem_of_getElem? (i := 8) (by decide +kernel), by decide +kernel⟩
theorem mS_X3_compareMachines : Cond.selects RX3 yX3_compareMachines yX3_compareMachines ∈ UW := List.mem_filter.mpr ⟨List.mem_of_getElem? (i := 9) (by decide +kernel), by decide +kernel⟩
theorem mS_X3_unite : Cond.selects RX3 yX3_unite yX3_unite ∈ UW := List.mem_filter.mpr ⟨List.mem_of_getElem? (i := 10) (by decide +kernel), by decide +kernel⟩
theorem mS_X5_bestChoice : Cond.selects RX5 yX5_bestChoice yX5_bestChoice ∈ UW := List.mem_filter.mpr ⟨List.mem_of_getElem? (i := 11) (by decide +kernel), by decide +kernel⟩
theorem mS_X5_isRight : Cond.selects RX5 yX5_isRight yX5_isRight ∈ UW := List.mem_filter.mpr ⟨List.mem_of_getElem? (i := 12) (by decide +kernel), by decide +kernel⟩
theorem mS_X5_offerCopies : Cond.selects RX5 yX5_offerCopies yX5_offerCopies ∈ UW := List.mem_filter.mpr ⟨List.mem_of_getElem? (i := 13) (by decide +kernel), by decide +kernel⟩
theorem mS_X5_offerCopy : Cond.selects RX5 yX5_offerCopy yX5_offerCopy ∈ UW := List.mem_filter.mpr ⟨List.mem_of_getElem? (i := 14) (by decide +kernel), by decide +kernel⟩
theorem mS_X4_leastTo : Cond.selects RX4 yX4_leastTo yX4_leastTo ∈ UW := List.mem_filter.mpr ⟨List.mem_of_getElem? (i := 15) (by decide +kernel), by decide +kernel⟩
theorem mS_X6_begins : Cond.selects RX6 yX6_begins yX6_begins ∈ UW := List.mem_filter.mpr ⟨List.mem_of_getElem? (i := 16) (by decide +kernel), by decide +kernel⟩
theorem mS_X6_isPart : Cond.selects RX6 yX6_isPart yX6_isPart ∈ UW := List.mem_filter.mpr ⟨List.mem_of_getElem? (i := 17) (by decide +kernel), by decide +kernel⟩
theorem mS_X6_isMachine : Cond.selects RX6 yX6_isMachine yX6_isMachine ∈ UW := List.mem_filter.mpr ⟨List.mem_of_getElem? (i := 18) (by decide +kernel), by decide +kernel⟩
theorem mS_X6_setOf : Cond.selects RX6 yX6_setOf yX6_setOf ∈ UW := List.mem_filter.mpr ⟨List.mem_of_getElem? (i := 19) (by decide +kernel), by decide +kernel⟩
theorem mS_X6_homeOf : Cond.selects RX6 yX6_homeOf yX6_homeOf ∈ UW := List.mem_filter.mpr ⟨List.mem_of_getElem? (i := 20) (by decide +kernel), by decide +kernel⟩
theorem mS_X6_inCell : Cond.selects RX6 yX6_inCell yX6_inCell ∈ UW := List.mem_filter.mpr ⟨List.mem_of_getElem? (i := 21) (by decide +kernel), by decide +kernel⟩
theorem mS_X6_wandersOf : Cond.selects RX6 yX6_wandersOf yX6_wandersOf ∈ UW := List.mem_filter.mpr ⟨List.mem_of_getElem? (i := 22) (by decide +kernel), by decide +kernel⟩
theorem mS_X6_idleOf : Cond.selects RX6 yX6_idleOf yX6_idleOf ∈ UW := List.mem_filter.mpr ⟨List.mem_of_getElem? (i := 23) (by decide +kernel), by decide +kernel⟩
theorem mS_X6_lossOf : Cond.selects RX6 yX6_lossOf yX6_lossOf ∈ UW := List.mem_filter.mpr ⟨List.mem_of_getElem? (i := 24) (by decide +kernel), by decide +kernel⟩
theorem mS_X6_isPlain : Cond.selects RX6 yX6_isPlain yX6_isPlain ∈ UW := List.mem_filter.mpr ⟨List.mem_of_getElem? (i := 25) (by decide +kernel), by decide +kernel⟩
theorem mS_X6_isWithin : Cond.selects RX6 yX6_isWithin yX6_isWithin ∈ UW := List.mem_filter.mpr ⟨List.mem_of_getElem? (i := 26) (by decide +kernel), by decide +kernel⟩
theorem mS_X6_bothOf : Cond.selects RX6 yX6_bothOf yX6_bothOf ∈ UW := List.mem_filter.mpr ⟨List.mem_of_getElem? (i := 27) (by decide +kernel), by decide +kernel⟩
theorem mS_X6_eitherOf : Cond.selects RX6 yX6_eitherOf yX6_eitherOf ∈ UW := List.mem_filter.mpr ⟨List.mem_of_getElem? (i := 28) (by decide +kernel), by decide +kernel⟩
theorem mS_X6_joins : Cond.selects RX6 yX6_joins yX6_joins ∈ UW := List.mem_filter.mpr ⟨List.mem_of_getElem? (i := 29) (by decide +kernel), by decide +kernel⟩
theorem mS_X6_bits : Cond.selects RX6 yX6_bits yX6_bits ∈ UW := List.mem_filter.mpr ⟨List.mem_of_getElem? (i := 30) (by decide +kernel), by decide +kernel⟩
theorem mS_X6_loadOf : Cond.selects RX6 yX6_loadOf yX6_loadOf ∈ UW := List.mem_filter.mpr ⟨List.mem_of_getElem? (i := 31) (by decide +kernel), by decide +kernel⟩
theorem mS_X6_copyOf : Cond.selects RX6 yX6_copyOf yX6_copyOf ∈ UW := List.mem_filter.mpr ⟨List.mem_of_getElem? (i := 32) (by decide +kernel), by decide +kernel⟩
theorem mS_X6_lays : Cond.selects RX6 yX6_lays yX6_lays ∈ UW := List.mem_filter.mpr ⟨List.mem_of_getElem? (i := 33) (by decide +kernel), by decide +kernel⟩
theorem mS_X6_wayOf : Cond.selects RX6 yX6_wayOf yX6_wayOf ∈ UW := List.mem_filter.mpr ⟨List.mem_of_getElem? (i := 34) (by decide +kernel), by decide +kernel⟩
theorem mS_X6_movedOf : Cond.selects RX6 yX6_movedOf yX6_movedOf ∈ UW := List.mem_filter.mpr ⟨List.mem_of_getElem? (i := 35) (by decide +kernel), by decide +kernel⟩
theorem mN_L : Cond.initialized RL ∈ UW := List.mem_filter.mpr ⟨List.mem_of_getElem? (i := 36) (by decide +kernel), by decide +kernel⟩
theorem mN_X5 : Cond.initialized RX5 ∈ UW := List.mem_filter.mpr ⟨List.mem_of_getElem? (i := 37) (by decide +kernel), by decide +kernel⟩
theorem mN_X1 : Cond.initialized RX1 ∈ UW := List.mem_filter.mpr ⟨List.mem_of_getElem? (i := 38) (by decide +kernel), by decide +kernel⟩
theorem mN_X0 : Cond.initialized RX0 ∈ UW := List.mem_filter.mpr ⟨List.mem_of_getElem? (i := 39) (by decide +kernel), by decide +kernel⟩
theorem mN_X3 : Cond.initialized RX3 ∈ UW := List.mem_filter.mpr ⟨List.mem_of_getElem? (i := 40) (by decide +kernel), by decide +kernel⟩
theorem mN_X2 : Cond.initialized RX2 ∈ UW := List.mem_filter.mpr ⟨List.mem_of_getElem? (i := 41) (by decide +kernel), by decide +kernel⟩
theorem mN_X4 : Cond.initialized RX4 ∈ UW := List.mem_filter.mpr ⟨List.mem_of_getElem? (i := 42) (by decide +kernel), by decide +kernel⟩
theorem mN_J7 : Cond.initialized RJ7 ∈ UW := List.mem_filter.mpr ⟨List.mem_of_getElem? (i := 43) (by decide +kernel), by decide +kernel⟩
theorem mN_X6 : Cond.initialized RX6 ∈ UW := List.mem_filter.mpr ⟨List.mem_of_getElem? (i := 44) (by decide +kernel), by decide +kernel⟩
theorem mN_J6 : Cond.initialized RJ6 ∈ UW := List.mem_filter.mpr ⟨List.mem_of_getElem? (i := 45) (by decide +kernel), by decide +kernel⟩
theorem mN_J9 : Cond.initialized RJ9 ∈ UW := List.mem_filter.mpr ⟨List.mem_of_getElem? (i := 46) (by decide +kernel), by decide +kernel⟩
theorem mN_J10 : Cond.initialized RJ10 ∈ UW := List.mem_filter.mpr ⟨List.mem_of_getElem? (i := 47) (by decide +kernel), by decide +kernel⟩
theorem mL_L_7 : Cond.classLink RL 7 RX5 ∈ UW := List.mem_filter.mpr ⟨List.mem_of_getElem? (i := 48) (by decide +kernel), by decide +kernel⟩
theorem mO_X5 : Cond.instantiable RX5 15 ∈ UW := List.mem_filter.mpr ⟨List.mem_of_getElem? (i := 49) (by decide +kernel), by decide +kernel⟩
theorem mM_L_9 : Cond.methodLink RL 9 yX5_init ∈ UW := List.mem_filter.mpr ⟨List.mem_of_getElem? (i := 50) (by decide +kernel), by decide +kernel⟩
theorem mI_X5_init : Cond.instanceMethod yX5_init ∈ UW := List.mem_filter.mpr ⟨List.mem_of_getElem? (i := 51) (by decide +kernel), by decide +kernel⟩
theorem mC_X5_init : Cond.code yX5_init cX5_init 1 none ∈ UW := List.mem_filter.mpr ⟨List.mem_of_getElem? (i := 52) (by decide +kernel), by decide +kernel⟩
theorem mM_X5_1 : Cond.methodLink RX5 1 objectInit ∈ UW := List.mem_filter.mpr ⟨List.mem_of_getElem? (i := 53) (by decide +kernel), by decide +kernel⟩
theorem mI_objInit : Cond.instanceMethod objectInit ∈ UW := List.mem_filter.mpr ⟨List.mem_of_getElem? (i := 54) (by decide +kernel), by decide +kernel⟩
theorem mC_objInit : Cond.code objectInit object_method_1_code 1 none ∈ UW := List.mem_filter.mpr ⟨List.mem_of_getElem? (i := 55) (by decide +kernel), by decide +kernel⟩
theorem mL_X5_7 : Cond.classLink RX5 7 RX1 ∈ UW := List.mem_filter.mpr ⟨List.mem_of_getElem? (i := 56) (by decide +kernel), by decide +kernel⟩
theorem mO_X1 : Cond.instantiable RX1 4 ∈ UW := List.mem_filter.mpr ⟨List.mem_of_getElem? (i := 57) (by decide +kernel), by decide +kernel⟩
theorem mMN_X5_9 : Cond.methodLinkNest RX5 9 yX1_init RX5 ∈ lw_tbl := List.mem_of_getElem? (i := 58) (by decide +kernel)
theorem mI_X1_init : Cond.instanceMethod yX1_init ∈ UW := List.mem_filter.mpr ⟨List.mem_of_getElem? (i := 59) (by decide +kernel), by decide +kernel⟩
theorem mC_X1_init : Cond.code yX1_init cX1_init 1 none ∈ UW := List.mem_filter.mpr ⟨List.mem_of_getElem? (i := 60) (by decide +kernel), by decide +kernel⟩
theorem mM_X1_3 : Cond.methodLink RX1 3 objectInit ∈ UW := List.mem_filter.mpr ⟨List.mem_of_getElem? (i := 61) (by decide +kernel), by decide +kernel⟩
theorem mF_X1_9 : Cond.fieldLink RX1 9 "PartCells$Parts" "sets" "[I" ∈ UW := List.mem_filter.mpr ⟨List.mem_of_getElem? (i := 62) (by decide +kernel), by decide +kernel⟩
theorem mF_X1_15 : Cond.fieldLink RX1 15 "PartCells$Parts" "amounts" "[I" ∈ UW := List.mem_filter.mpr ⟨List.mem_of_getElem? (i := 63) (by decide +kernel), by decide +kernel⟩
theorem mF_X1_18 : Cond.fieldLink RX1 18 "PartCells$Parts" "size" "I" ∈ UW := List.mem_filter.mpr ⟨List.mem_of_getElem? (i := 64) (by decide +kernel), by decide +kernel⟩
theorem mF_X1_22 : Cond.fieldLink RX1 22 "PartCells$Parts" "choice" "I" ∈ UW := List.mem_filter.mpr ⟨List.mem_of_getElem? (i := 65) (by decide +kernel), by decide +kernel⟩
theorem mY_X1_sets : Cond.laysFinal RX1 "PartCells$Parts" "sets" "[I" ∈ UW := List.mem_filter.mpr ⟨List.mem_of_getElem? (i := 66) (by decide +kernel), by decide +kernel⟩
theorem mY_X1_amounts : Cond.laysFinal RX1 "PartCells$Parts" "amounts" "[I" ∈ UW := List.mem_filter.mpr ⟨List.mem_of_getElem? (i := 68) (by decide +kernel), by decide +kernel⟩
theorem mY_X1_size : Cond.lays RX1 "PartCells$Parts" "size" "I" ∈ UW := List.mem_filter.mpr ⟨List.mem_of_getElem? (i := 70) (by decide +kernel), by decide +kernel⟩
theorem mY_X1_choice : Cond.lays RX1 "PartCells$Parts" "choice" "I" ∈ UW := List.mem_filter.mpr ⟨List.mem_of_getElem? (i := 72) (by decide +kernel), by decide +kernel⟩
theorem mA_int : Cond.arrayClass .int ∈ UW := List.mem_filter.mpr ⟨List.mem_of_getElem? (i := 75) (by decide +kernel), by decide +kernel⟩
theorem mL_X5_16 : Cond.classLink RX5 16 RX0 ∈ UW := List.mem_filter.mpr ⟨List.mem_of_getElem? (i := 76) (by decide +kernel), by decide +kernel⟩
theorem mO_X0 : Cond.instantiable RX0 3 ∈ UW := List.mem_filter.mpr ⟨List.mem_of_getElem? (i := 77) (by decide +kernel), by decide +kernel⟩
theorem mMN_X5_18 : Cond.methodLinkNest RX5 18 yX0_init RX5 ∈ lw_tbl := List.mem_of_getElem? (i := 78) (by decide +kernel)
theorem mI_X0_init : Cond.instanceMethod yX0_init ∈ UW := List.mem_filter.mpr ⟨List.mem_of_getElem? (i := 79) (by decide +kernel), by decide +kernel⟩
theorem mC_X0_init : Cond.code yX0_init cX0_init 1 none ∈ UW := List.mem_filter.mpr ⟨List.mem_of_getElem? (i := 80) (by decide +kernel), by decide +kernel⟩
theorem mM_X0_3 : Cond.methodLink RX0 3 objectInit ∈ UW := List.mem_filter.mpr ⟨List.mem_of_getElem? (i := 81) (by decide +kernel), by decide +kernel⟩
theorem mF_X0_9 : Cond.fieldLink RX0 9 "PartCells$Grouping" "members" "[I" ∈ UW := List.mem_filter.mpr ⟨List.mem_of_getElem? (i := 82) (by decide +kernel), by decide +kernel⟩
theorem mF_X0_19 : Cond.fieldLink RX0 19 "PartCells$Grouping" "machineCount" "I" ∈ UW := List.mem_filter.mpr ⟨List.mem_of_getElem? (i := 83) (by decide +kernel), by decide +kernel⟩
theorem mF_X0_15 : Cond.fieldLink RX0 15 "PartCells$Grouping" "number" "I" ∈ UW := List.mem_filter.mpr ⟨List.mem_of_getElem? (i := 84) (by decide +kernel), by decide +kernel⟩
theorem mY_X0_members : Cond.laysFinal RX0 "PartCells$Grouping" "members" "[I" ∈ UW := List.mem_filter.mpr ⟨List.mem_of_getElem? (i := 85) (by decide +kernel), by decide +kernel⟩
theorem mY_X0_machineCount : Cond.lays RX0 "PartCells$Grouping" "machineCount" "I" ∈ UW := List.mem_filter.mpr ⟨List.mem_of_getElem? (i := 87) (by decide +kernel), by decide +kernel⟩
theorem mY_X0_number : Cond.lays RX0 "PartCells$Grouping" "number" "I" ∈ UW := List.mem_filter.mpr ⟨List.mem_of_getElem? (i := 89) (by decide +kernel), by decide +kernel⟩
theorem mL_X5_26 : Cond.classLink RX5 26 RX3 ∈ UW := List.mem_filter.mpr ⟨List.mem_of_getElem? (i := 92) (by decide +kernel), by decide +kernel⟩
theorem mO_X3 : Cond.instantiable RX3 6 ∈ UW := List.mem_filter.mpr ⟨List.mem_of_getElem? (i := 93) (by decide +kernel), by decide +kernel⟩
theorem mMN_X5_28 : Cond.methodLinkNest RX5 28 yX3_init RX5 ∈ lw_tbl := List.mem_of_getElem? (i := 94) (by decide +kernel)
theorem mI_X3_init : Cond.instanceMethod yX3_init ∈ UW := List.mem_filter.mpr ⟨List.mem_of_getElem? (i := 95) (by decide +kernel), by decide +kernel⟩
theorem mC_X3_init : Cond.code yX3_init cX3_init 1 none ∈ UW := List.mem_filter.mpr ⟨List.mem_of_getElem? (i := 96) (by decide +kernel), by decide +kernel⟩
theorem mM_X3_3 : Cond.methodLink RX3 3 objectInit ∈ UW := List.mem_filter.mpr ⟨List.mem_of_getElem? (i := 97) (by decide +kernel), by decide +kernel⟩
theorem mF_X3_9 : Cond.fieldLink RX3 9 "PartCells$Tree" "heapOf" "[I" ∈ UW := List.mem_filter.mpr ⟨List.mem_of_getElem? (i := 98) (by decide +kernel), by decide +kernel⟩
theorem mF_X3_15 : Cond.fieldLink RX3 15 "PartCells$Tree" "machineCount" "I" ∈ UW := List.mem_filter.mpr ⟨List.mem_of_getElem? (i := 99) (by decide +kernel), by decide +kernel⟩
theorem mF_X3_26 : Cond.fieldLink RX3 26 "PartCells$Tree" "first" "I" ∈ UW := List.mem_filter.mpr ⟨List.mem_of_getElem? (i := 100) (by decide +kernel), by decide +kernel⟩
theorem mF_X3_29 : Cond.fieldLink RX3 29 "PartCells$Tree" "second" "I" ∈ UW := List.mem_filter.mpr ⟨List.mem_of_getElem? (i := 101) (by decide +kernel), by decide +kernel⟩
theorem mF_X3_32 : Cond.fieldLink RX3 32 "PartCells$Tree" "upper" "I" ∈ UW := List.mem_filter.mpr ⟨List.mem_of_getElem? (i := 102) (by decide +kernel), by decide +kernel⟩
theorem mF_X3_35 : Cond.fieldLink RX3 35 "PartCells$Tree" "lower" "I" ∈ UW := List.mem_filter.mpr ⟨List.mem_of_getElem? (i := 103) (by decide +kernel), by decide +kernel⟩
theorem mY_X3_heapOf : Cond.laysFinal RX3 "PartCells$Tree" "heapOf" "[I" ∈ UW := List.mem_filter.mpr ⟨List.mem_of_getElem? (i := 104) (by decide +kernel), by decide +kernel⟩
theorem mY_X3_machineCount : Cond.lays RX3 "PartCells$Tree" "machineCount" "I" ∈ UW := List.mem_filter.mpr ⟨List.mem_of_getElem? (i := 106) (by decide +kernel), by decide +kernel⟩
theorem mY_X3_first : Cond.lays RX3 "PartCells$Tree" "first" "I" ∈ UW := List.mem_filter.mpr ⟨List.mem_of_getElem? (i := 108) (by decide +kernel), by decide +kernel⟩
theorem mY_X3_second : Cond.lays RX3 "PartCells$Tree" "second" "I" ∈ UW := List.mem_filter.mpr ⟨List.mem_of_getElem? (i := 110) (by decide +kernel), by decide +kernel⟩
theorem mY_X3_upper : Cond.lays RX3 "PartCells$Tree" "upper" "I" ∈ UW := List.mem_filter.mpr ⟨List.mem_of_getElem? (i := 112) (by decide +kernel), by decide +kernel⟩
theorem mY_X3_lower : Cond.lays RX3 "PartCells$Tree" "lower" "I" ∈ UW := List.mem_filter.mpr ⟨List.mem_of_getElem? (i := 114) (by decide +kernel), by decide +kernel⟩
theorem mL_X5_33 : Cond.classLink RX5 33 RX2 ∈ UW := List.mem_filter.mpr ⟨List.mem_of_getElem? (i := 117) (by decide +kernel), by decide +kernel⟩
theorem mO_X2 : Cond.instantiable RX2 2 ∈ UW := List.mem_filter.mpr ⟨List.mem_of_getElem? (i := 118) (by decide +kernel), by decide +kernel⟩
theorem mMN_X5_35 : Cond.methodLinkNest RX5 35 yX2_init RX5 ∈ lw_tbl := List.mem_of_getElem? (i := 119) (by decide +kernel)
theorem mI_X2_init : Cond.instanceMethod yX2_init ∈ UW := List.mem_filter.mpr ⟨List.mem_of_getElem? (i := 120) (by decide +kernel), by decide +kernel⟩
theorem mC_X2_init : Cond.code yX2_init cX2_init 1 none ∈ UW := List.mem_filter.mpr ⟨List.mem_of_getElem? (i := 121) (by decide +kernel), by decide +kernel⟩
theorem mM_X2_3 : Cond.methodLink RX2 3 objectInit ∈ UW := List.mem_filter.mpr ⟨List.mem_of_getElem? (i := 122) (by decide +kernel), by decide +kernel⟩
theorem mF_X2_9 : Cond.fieldLink RX2 9 "PartCells$Row" "trips" "[I" ∈ UW := List.mem_filter.mpr ⟨List.mem_of_getElem? (i := 123) (by decide +kernel), by decide +kernel⟩
theorem mF_X2_15 : Cond.fieldLink RX2 15 "PartCells$Row" "placeOf" "[I" ∈ UW := List.mem_filter.mpr ⟨List.mem_of_getElem? (i := 124) (by decide +kernel), by decide +kernel⟩
theorem mY_X2_trips : Cond.laysFinal RX2 "PartCells$Row" "trips" "[I" ∈ UW := List.mem_filter.mpr ⟨List.mem_of_getElem? (i := 125) (by decide +kernel), by decide +kernel⟩
theorem mY_X2_placeOf : Cond.laysFinal RX2 "PartCells$Row" "placeOf" "[I" ∈ UW := List.mem_filter.mpr ⟨List.mem_of_getElem? (i := 127) (by decide +kernel), by decide +kernel⟩
theorem mL_X5_40 : Cond.classLink RX5 40 RX4 ∈ UW := List.mem_filter.mpr ⟨List.mem_of_getElem? (i := 130) (by decide +kernel), by decide +kernel⟩
theorem mO_X4 : Cond.instantiable RX4 5 ∈ UW := List.mem_filter.mpr ⟨List.mem_of_getElem? (i := 131) (by decide +kernel), by decide +kernel⟩
theorem mMN_X5_42 : Cond.methodLinkNest RX5 42 yX4_init RX5 ∈ lw_tbl := List.mem_of_getElem? (i := 132) (by decide +kernel)
theorem mI_X4_init : Cond.instanceMethod yX4_init ∈ UW := List.mem_filter.mpr ⟨List.mem_of_getElem? (i := 133) (by decide +kernel), by decide +kernel⟩
theorem mC_X4_init : Cond.code yX4_init cX4_init 1 none ∈ UW := List.mem_filter.mpr ⟨List.mem_of_getElem? (i := 134) (by decide +kernel), by decide +kernel⟩
theorem mM_X4_3 : Cond.methodLink RX4 3 objectInit ∈ UW := List.mem_filter.mpr ⟨List.mem_of_getElem? (i := 135) (by decide +kernel), by decide +kernel⟩
theorem mF_X4_9 : Cond.fieldLink RX4 9 "PartCells$Years" "weights" "[I" ∈ UW := List.mem_filter.mpr ⟨List.mem_of_getElem? (i := 136) (by decide +kernel), by decide +kernel⟩
theorem mF_X4_15 : Cond.fieldLink RX4 15 "PartCells$Years" "costs" "[I" ∈ UW := List.mem_filter.mpr ⟨List.mem_of_getElem? (i := 137) (by decide +kernel), by decide +kernel⟩
theorem mF_X4_18 : Cond.fieldLink RX4 18 "PartCells$Years" "nextCosts" "[I" ∈ UW := List.mem_filter.mpr ⟨List.mem_of_getElem? (i := 138) (by decide +kernel), by decide +kernel⟩
theorem mF_X4_25 : Cond.fieldLink RX4 25 "PartCells$Years" "size" "I" ∈ UW := List.mem_filter.mpr ⟨List.mem_of_getElem? (i := 139) (by decide +kernel), by decide +kernel⟩
theorem mF_X4_21 : Cond.fieldLink RX4 21 "PartCells$Years" "moveCost" "I" ∈ UW := List.mem_filter.mpr ⟨List.mem_of_getElem? (i := 140) (by decide +kernel), by decide +kernel⟩
theorem mY_X4_weights : Cond.laysFinal RX4 "PartCells$Years" "weights" "[I" ∈ UW := List.mem_filter.mpr ⟨List.mem_of_getElem? (i := 141) (by decide +kernel), by decide +kernel⟩
theorem mY_X4_costs : Cond.laysFinal RX4 "PartCells$Years" "costs" "[I" ∈ UW := List.mem_filter.mpr ⟨List.mem_of_getElem? (i := 143) (by decide +kernel), by decide +kernel⟩
theorem mY_X4_nextCosts : Cond.laysFinal RX4 "PartCells$Years" "nextCosts" "[I" ∈ UW := List.mem_filter.mpr ⟨List.mem_of_getElem? (i := 145) (by decide +kernel), by decide +kernel⟩
theorem mY_X4_size : Cond.lays RX4 "PartCells$Years" "size" "I" ∈ UW := List.mem_filter.mpr ⟨List.mem_of_getElem? (i := 147) (by decide +kernel), by decide +kernel⟩
theorem mY_X4_moveCost : Cond.lays RX4 "PartCells$Years" "moveCost" "I" ∈ UW := List.mem_filter.mpr ⟨List.mem_of_getElem? (i := 149) (by decide +kernel), by decide +kernel⟩
theorem mM_X5_63 : Cond.methodLink RX5 63 yX5_begin ∈ UW := List.mem_filter.mpr ⟨List.mem_of_getElem? (i := 152) (by decide +kernel), by decide +kernel⟩
theorem mI_X5_begin : Cond.instanceMethod yX5_begin ∈ UW := List.mem_filter.mpr ⟨List.mem_of_getElem? (i := 154) (by decide +kernel), by decide +kernel⟩
theorem mC_X5_begin : Cond.code yX5_begin cX5_begin 3 none ∈ UW := List.mem_filter.mpr ⟨List.mem_of_getElem? (i := 155) (by decide +kernel), by decide +kernel⟩
theorem mM_X5_238 : Cond.methodLink RX5 238 yX1_begin ∈ UW := List.mem_filter.mpr ⟨List.mem_of_getElem? (i := 156) (by decide +kernel), by decide +kernel⟩
theorem mI_X1_begin : Cond.instanceMethod yX1_begin ∈ UW := List.mem_filter.mpr ⟨List.mem_of_getElem? (i := 157) (by decide +kernel), by decide +kernel⟩
theorem mS_X1_begin : Cond.selects RX1 yX1_begin yX1_begin ∈ UW := List.mem_filter.mpr ⟨List.mem_of_getElem? (i := 158) (by decide +kernel), by decide +kernel⟩
theorem mC_X1_begin : Cond.code yX1_begin cX1_begin 2 none ∈ UW := List.mem_filter.mpr ⟨List.mem_of_getElem? (i := 159) (by decide +kernel), by decide +kernel⟩
theorem mM_X1_25 : Cond.methodLink RX1 25 yJ7_fill_53178 ∈ UW := List.mem_filter.mpr ⟨List.mem_of_getElem? (i := 160) (by decide +kernel), by decide +kernel⟩
theorem mT_J7_fill_53178 : Cond.static yJ7_fill_53178 ∈ UW := List.mem_filter.mpr ⟨List.mem_of_getElem? (i := 161) (by decide +kernel), by decide +kernel⟩
theorem mC_J7_fill_53178 : Cond.code yJ7_fill_53178 cJ7_fill_53178 4 none ∈ UW := List.mem_filter.mpr ⟨List.mem_of_getElem? (i := 162) (by decide +kernel), by decide +kernel⟩
theorem mM_X5_119 : Cond.methodLink RX5 119 yX0_become ∈ UW := List.mem_filter.mpr ⟨List.mem_of_getElem? (i := 163) (by decide +kernel), by decide +kernel⟩
theorem mI_X0_become : Cond.instanceMethod yX0_become ∈ UW := List.mem_filter.mpr ⟨List.mem_of_getElem? (i := 164) (by decide +kernel), by decide +kernel⟩
theorem mS_X0_become : Cond.selects RX0 yX0_become yX0_become ∈ UW := List.mem_filter.mpr ⟨List.mem_of_getElem? (i := 165) (by decide +kernel), by decide +kernel⟩
theorem mC_X0_become : Cond.code yX0_become cX0_become 4 none ∈ UW := List.mem_filter.mpr ⟨List.mem_of_getElem? (i := 166) (by decide +kernel), by decide +kernel⟩
theorem mM_X0_22 : Cond.methodLink RX0 22 yJ7_fill_53178 ∈ UW := List.mem_filter.mpr ⟨List.mem_of_getElem? (i := 167) (by decide +kernel), by decide +kernel⟩
theorem mM_X0_28 : Cond.methodLink RX0 28 yX0_cellOf ∈ UW := List.mem_filter.mpr ⟨List.mem_of_getElem? (i := 168) (by decide +kernel), by decide +kernel⟩
theorem mI_X0_cellOf : Cond.instanceMethod yX0_cellOf ∈ UW := List.mem_filter.mpr ⟨List.mem_of_getElem? (i := 169) (by decide +kernel), by decide +kernel⟩
theorem mS_X0_cellOf : Cond.selects RX0 yX0_cellOf yX0_cellOf ∈ UW := List.mem_filter.mpr ⟨List.mem_of_getElem? (i := 170) (by decide +kernel), by decide +kernel⟩
theorem mC_X0_cellOf : Cond.code yX0_cellOf cX0_cellOf 2 (some .int) ∈ UW := List.mem_filter.mpr ⟨List.mem_of_getElem? (i := 171) (by decide +kernel), by decide +kernel⟩
theorem mM_X5_191 : Cond.methodLink RX5 191 yJ7_fill_53178 ∈ UW := List.mem_filter.mpr ⟨List.mem_of_getElem? (i := 172) (by decide +kernel), by decide +kernel⟩
theorem mF_X5_10 : Cond.fieldLink RX5 10 "PartCells" "parts" "LPartCells$Parts;" ∈ UW := List.mem_filter.mpr ⟨List.mem_of_getElem? (i := 173) (by decide +kernel), by decide +kernel⟩
theorem mF_X5_19 : Cond.fieldLink RX5 19 "PartCells" "atHand" "LPartCells$Grouping;" ∈ UW := List.mem_filter.mpr ⟨List.mem_of_getElem? (i := 174) (by decide +kernel), by decide +kernel⟩
theorem mF_X5_23 : Cond.fieldLink RX5 23 "PartCells" "trial" "LPartCells$Grouping;" ∈ UW := List.mem_filter.mpr ⟨List.mem_of_getElem? (i := 175) (by decide +kernel), by decide +kernel⟩
theorem mF_X5_29 : Cond.fieldLink RX5 29 "PartCells" "tree" "LPartCells$Tree;" ∈ UW := List.mem_filter.mpr ⟨List.mem_of_getElem? (i := 176) (by decide +kernel), by decide +kernel⟩
theorem mF_X5_36 : Cond.fieldLink RX5 36 "PartCells" "row" "LPartCells$Row;" ∈ UW := List.mem_filter.mpr ⟨List.mem_of_getElem? (i := 177) (by decide +kernel), by decide +kernel⟩
theorem mF_X5_43 : Cond.fieldLink RX5 43 "PartCells" "years" "LPartCells$Years;" ∈ UW := List.mem_filter.mpr ⟨List.mem_of_getElem? (i := 178) (by decide +kernel), by decide +kernel⟩
theorem mF_X5_47 : Cond.fieldLink RX5 47 "PartCells" "borne" "[I" ∈ UW := List.mem_filter.mpr ⟨List.mem_of_getElem? (i := 179) (by decide +kernel), by decide +kernel⟩
theorem mF_X5_51 : Cond.fieldLink RX5 51 "PartCells" "prices" "[I" ∈ UW := List.mem_filter.mpr ⟨List.mem_of_getElem? (i := 180) (by decide +kernel), by decide +kernel⟩
theorem mF_X5_54 : Cond.fieldLink RX5 54 "PartCells" "shelves" "[I" ∈ UW := List.mem_filter.mpr ⟨List.mem_of_getElem? (i := 181) (by decide +kernel), by decide +kernel⟩
theorem mF_X5_57 : Cond.fieldLink RX5 57 "PartCells" "shelfWander" "[I" ∈ UW := List.mem_filter.mpr ⟨List.mem_of_getElem? (i := 182) (by decide +kernel), by decide +kernel⟩
theorem mF_X5_60 : Cond.fieldLink RX5 60 "PartCells" "savedBy" "[I" ∈ UW := List.mem_filter.mpr ⟨List.mem_of_getElem? (i := 183) (by decide +kernel), by decide +kernel⟩
theorem mF_X5_71 : Cond.fieldLink RX5 71 "PartCells" "machines" "I" ∈ UW := List.mem_filter.mpr ⟨List.mem_of_getElem? (i := 184) (by decide +kernel), by decide +kernel⟩
theorem mF_X5_151 : Cond.fieldLink RX5 151 "PartCells" "bestNumber" "I" ∈ UW := List.mem_filter.mpr ⟨List.mem_of_getElem? (i := 185) (by decide +kernel), by decide +kernel⟩
theorem mF_X5_154 : Cond.fieldLink RX5 154 "PartCells" "bestLoss" "I" ∈ UW := List.mem_filter.mpr ⟨List.mem_of_getElem? (i := 186) (by decide +kernel), by decide +kernel⟩
theorem mF_X5_137 : Cond.fieldLink RX5 137 "PartCells" "traced" "J" ∈ UW := List.mem_filter.mpr ⟨List.mem_of_getElem? (i := 187) (by decide +kernel), by decide +kernel⟩
theorem mY_X5_parts : Cond.laysFinal RX5 "PartCells" "parts" "LPartCells$Parts;" ∈ UW := List.mem_filter.mpr ⟨List.mem_of_getElem? (i := 188) (by decide +kernel), by decide +kernel⟩
theorem mY_X5_atHand : Cond.laysFinal RX5 "PartCells" "atHand" "LPartCells$Grouping;" ∈ UW := List.mem_filter.mpr ⟨List.mem_of_getElem? (i := 190) (by decide +kernel), by decide +kernel⟩
theorem mY_X5_trial : Cond.laysFinal RX5 "PartCells" "trial" "LPartCells$Grouping;" ∈ UW := List.mem_filter.mpr ⟨List.mem_of_getElem? (i := 192) (by decide +kernel), by decide +kernel⟩
theorem mY_X5_tree : Cond.laysFinal RX5 "PartCells" "tree" "LPartCells$Tree;" ∈ UW := List.mem_filter.mpr ⟨List.mem_of_getElem? (i := 194) (by decide +kernel), by decide +kernel⟩
theorem mY_X5_row : Cond.laysFinal RX5 "PartCells" "row" "LPartCells$Row;" ∈ UW := List.mem_filter.mpr ⟨List.mem_of_getElem? (i := 196) (by decide +kernel), by decide +kernel⟩
theorem mY_X5_years : Cond.laysFinal RX5 "PartCells" "years" "LPartCells$Years;" ∈ UW := List.mem_filter.mpr ⟨List.mem_of_getElem? (i := 198) (by decide +kernel), by decide +kernel⟩
theorem mY_X5_borne : Cond.laysFinal RX5 "PartCells" "borne" "[I" ∈ UW := List.mem_filter.mpr ⟨List.mem_of_getElem? (i := 200) (by decide +kernel), by decide +kernel⟩
theorem mY_X5_prices : Cond.laysFinal RX5 "PartCells" "prices" "[I" ∈ UW := List.mem_filter.mpr ⟨List.mem_of_getElem? (i := 202) (by decide +kernel), by decide +kernel⟩
theorem mY_X5_shelves : Cond.laysFinal RX5 "PartCells" "shelves" "[I" ∈ UW := List.mem_filter.mpr ⟨List.mem_of_getElem? (i := 204) (by decide +kernel), by decide +kernel⟩
theorem mY_X5_shelfWander : Cond.laysFinal RX5 "PartCells" "shelfWander" "[I" ∈ UW := List.mem_filter.mpr ⟨List.mem_of_getElem? (i := 206) (by decide +kernel), by decide +kernel⟩
theorem mY_X5_savedBy : Cond.laysFinal RX5 "PartCells" "savedBy" "[I" ∈ UW := List.mem_filter.mpr ⟨List.mem_of_getElem? (i := 208) (by decide +kernel), by decide +kernel⟩
theorem mY_X5_machines : Cond.lays RX5 "PartCells" "machines" "I" ∈ UW := List.mem_filter.mpr ⟨List.mem_of_getElem? (i := 210) (by decide +kernel), by decide +kernel⟩
theorem mY_X5_bestNumber : Cond.lays RX5 "PartCells" "bestNumber" "I" ∈ UW := List.mem_filter.mpr ⟨List.mem_of_getElem? (i := 212) (by decide +kernel), by decide +kernel⟩
theorem mY_X5_bestLoss : Cond.lays RX5 "PartCells" "bestLoss" "I" ∈ UW := List.mem_filter.mpr ⟨List.mem_of_getElem? (i := 214) (by decide +kernel), by decide +kernel⟩
theorem mY_X5_traced : Cond.lays RX5 "PartCells" "traced" "J" ∈ UW := List.mem_filter.mpr ⟨List.mem_of_getElem? (i := 216) (by decide +kernel), by decide +kernel⟩
theorem mM_L_13 : Cond.methodLink RL 13 yX5_works ∈ UW := List.mem_filter.mpr ⟨List.mem_of_getElem? (i := 219) (by decide +kernel), by decide +kernel⟩
theorem mI_X5_works : Cond.instanceMethod yX5_works ∈ UW := List.mem_filter.mpr ⟨List.mem_of_getElem? (i := 220) (by decide +kernel), by decide +kernel⟩
theorem mS_X5_works : Cond.selects RX5 yX5_works yX5_works ∈ UW := List.mem_filter.mpr ⟨List.mem_of_getElem? (i := 221) (by decide +kernel), by decide +kernel⟩
theorem mC_X5_works : Cond.code yX5_works cX5_works 4 (some .int) ∈ UW := List.mem_filter.mpr ⟨List.mem_of_getElem? (i := 222) (by decide +kernel), by decide +kernel⟩
theorem mM_X5_67 : Cond.methodLink RX5 67 yX5_isWithin ∈ UW := List.mem_filter.mpr ⟨List.mem_of_getElem? (i := 223) (by decide +kernel), by decide +kernel⟩
theorem mT_X5_isWithin : Cond.static yX5_isWithin ∈ UW := List.mem_filter.mpr ⟨List.mem_of_getElem? (i := 224) (by decide +kernel), by decide +kernel⟩
theorem mC_X5_isWithin : Cond.code yX5_isWithin cX5_isWithin 3 (some .boolean) ∈ UW := List.mem_filter.mpr ⟨List.mem_of_getElem? (i := 225) (by decide +kernel), by decide +kernel⟩
theorem mM_L_18 : Cond.methodLink RL 18 yX5_route ∈ UW := List.mem_filter.mpr ⟨List.mem_of_getElem? (i := 226) (by decide +kernel), by decide +kernel⟩
theorem mI_X5_route : Cond.instanceMethod yX5_route ∈ UW := List.mem_filter.mpr ⟨List.mem_of_getElem? (i := 227) (by decide +kernel), by decide +kernel⟩
theorem mS_X5_route : Cond.selects RX5 yX5_route yX5_route ∈ UW := List.mem_filter.mpr ⟨List.mem_of_getElem? (i := 228) (by decide +kernel), by decide +kernel⟩
theorem mC_X5_route : Cond.code yX5_route cX5_route 5 (some .int) ∈ UW := List.mem_filter.mpr ⟨List.mem_of_getElem? (i := 229) (by decide +kernel), by decide +kernel⟩
theorem mM_X5_75 : Cond.methodLink RX5 75 yX5_isPart ∈ UW := List.mem_filter.mpr ⟨List.mem_of_getElem? (i := 230) (by decide +kernel), by decide +kernel⟩
theorem mI_X5_isPart : Cond.instanceMethod yX5_isPart ∈ UW := List.mem_filter.mpr ⟨List.mem_of_getElem? (i := 232) (by decide +kernel), by decide +kernel⟩
theorem mC_X5_isPart : Cond.code yX5_isPart cX5_isPart 2 (some .boolean) ∈ UW := List.mem_filter.mpr ⟨List.mem_of_getElem? (i := 233) (by decide +kernel), by decide +kernel⟩
theorem mM_X5_237 : Cond.methodLink RX5 237 yX1_howMany ∈ UW := List.mem_filter.mpr ⟨List.mem_of_getElem? (i := 234) (by decide +kernel), by decide +kernel⟩
theorem mI_X1_howMany : Cond.instanceMethod yX1_howMany ∈ UW := List.mem_filter.mpr ⟨List.mem_of_getElem? (i := 235) (by decide +kernel), by decide +kernel⟩
theorem mS_X1_howMany : Cond.selects RX1 yX1_howMany yX1_howMany ∈ UW := List.mem_filter.mpr ⟨List.mem_of_getElem? (i := 236) (by decide +kernel), by decide +kernel⟩
theorem mC_X1_howMany : Cond.code yX1_howMany cX1_howMany 1 (some .int) ∈ UW := List.mem_filter.mpr ⟨List.mem_of_getElem? (i := 237) (by decide +kernel), by decide +kernel⟩
theorem mM_X5_79 : Cond.methodLink RX5 79 yX1_routeSet ∈ UW := List.mem_filter.mpr ⟨List.mem_of_getElem? (i := 238) (by decide +kernel), by decide +kernel⟩
theorem mI_X1_routeSet : Cond.instanceMethod yX1_routeSet ∈ UW := List.mem_filter.mpr ⟨List.mem_of_getElem? (i := 239) (by decide +kernel), by decide +kernel⟩
theorem mS_X1_routeSet : Cond.selects RX1 yX1_routeSet yX1_routeSet ∈ UW := List.mem_filter.mpr ⟨List.mem_of_getElem? (i := 240) (by decide +kernel), by decide +kernel⟩
theorem mC_X1_routeSet : Cond.code yX1_routeSet cX1_routeSet 3 (some .int) ∈ UW := List.mem_filter.mpr ⟨List.mem_of_getElem? (i := 241) (by decide +kernel), by decide +kernel⟩
theorem mM_X5_83 : Cond.methodLink RX5 83 yX1_putRouteSet ∈ UW := List.mem_filter.mpr ⟨List.mem_of_getElem? (i := 242) (by decide +kernel), by decide +kernel⟩
theorem mI_X1_putRouteSet : Cond.instanceMethod yX1_putRouteSet ∈ UW := List.mem_filter.mpr ⟨List.mem_of_getElem? (i := 243) (by decide +kernel), by decide +kernel⟩
theorem mS_X1_putRouteSet : Cond.selects RX1 yX1_putRouteSet yX1_putRouteSet ∈ UW := List.mem_filter.mpr ⟨List.mem_of_getElem? (i := 244) (by decide +kernel), by decide +kernel⟩
theorem mC_X1_putRouteSet : Cond.code yX1_putRouteSet cX1_putRouteSet 4 none ∈ UW := List.mem_filter.mpr ⟨List.mem_of_getElem? (i := 245) (by decide +kernel), by decide +kernel⟩
theorem mM_L_23 : Cond.methodLink RL 23 yX5_goes ∈ UW := List.mem_filter.mpr ⟨List.mem_of_getElem? (i := 246) (by decide +kernel), by decide +kernel⟩
theorem mI_X5_goes : Cond.instanceMethod yX5_goes ∈ UW := List.mem_filter.mpr ⟨List.mem_of_getElem? (i := 247) (by decide +kernel), by decide +kernel⟩
theorem mS_X5_goes : Cond.selects RX5 yX5_goes yX5_goes ∈ UW := List.mem_filter.mpr ⟨List.mem_of_getElem? (i := 248) (by decide +kernel), by decide +kernel⟩
theorem mC_X5_goes : Cond.code yX5_goes cX5_goes 4 (some .int) ∈ UW := List.mem_filter.mpr ⟨List.mem_of_getElem? (i := 249) (by decide +kernel), by decide +kernel⟩
theorem mM_X5_87 : Cond.methodLink RX5 87 yX1_chosenBy ∈ UW := List.mem_filter.mpr ⟨List.mem_of_getElem? (i := 250) (by decide +kernel), by decide +kernel⟩
theorem mI_X1_chosenBy : Cond.instanceMethod yX1_chosenBy ∈ UW := List.mem_filter.mpr ⟨List.mem_of_getElem? (i := 251) (by decide +kernel), by decide +kernel⟩
theorem mS_X1_chosenBy : Cond.selects RX1 yX1_chosenBy yX1_chosenBy ∈ UW := List.mem_filter.mpr ⟨List.mem_of_getElem? (i := 252) (by decide +kernel), by decide +kernel⟩
theorem mC_X1_chosenBy : Cond.code yX1_chosenBy cX1_chosenBy 2 (some .int) ∈ UW := List.mem_filter.mpr ⟨List.mem_of_getElem? (i := 253) (by decide +kernel), by decide +kernel⟩
theorem mM_X5_91 : Cond.methodLink RX5 91 yX1_choose ∈ UW := List.mem_filter.mpr ⟨List.mem_of_getElem? (i := 254) (by decide +kernel), by decide +kernel⟩
theorem mI_X1_choose : Cond.instanceMethod yX1_choose ∈ UW := List.mem_filter.mpr ⟨List.mem_of_getElem? (i := 255) (by decide +kernel), by decide +kernel⟩
theorem mS_X1_choose : Cond.selects RX1 yX1_choose yX1_choose ∈ UW := List.mem_filter.mpr ⟨List.mem_of_getElem? (i := 256) (by decide +kernel), by decide +kernel⟩
theorem mC_X1_choose : Cond.code yX1_choose cX1_choose 3 none ∈ UW := List.mem_filter.mpr ⟨List.mem_of_getElem? (i := 257) (by decide +kernel), by decide +kernel⟩
theorem mM_L_27 : Cond.methodLink RL 27 yX5_pieces ∈ UW := List.mem_filter.mpr ⟨List.mem_of_getElem? (i := 258) (by decide +kernel), by decide +kernel⟩
theorem mI_X5_pieces : Cond.instanceMethod yX5_pieces ∈ UW := List.mem_filter.mpr ⟨List.mem_of_getElem? (i := 259) (by decide +kernel), by decide +kernel⟩
theorem mS_X5_pieces : Cond.selects RX5 yX5_pieces yX5_pieces ∈ UW := List.mem_filter.mpr ⟨List.mem_of_getElem? (i := 260) (by decide +kernel), by decide +kernel⟩
theorem mC_X5_pieces : Cond.code yX5_pieces cX5_pieces 4 (some .int) ∈ UW := List.mem_filter.mpr ⟨List.mem_of_getElem? (i := 261) (by decide +kernel), by decide +kernel⟩
theorem mM_X5_94 : Cond.methodLink RX5 94 yX1_piecesOf ∈ UW := List.mem_filter.mpr ⟨List.mem_of_getElem? (i := 262) (by decide +kernel), by decide +kernel⟩
theorem mI_X1_piecesOf : Cond.instanceMethod yX1_piecesOf ∈ UW := List.mem_filter.mpr ⟨List.mem_of_getElem? (i := 263) (by decide +kernel), by decide +kernel⟩
theorem mS_X1_piecesOf : Cond.selects RX1 yX1_piecesOf yX1_piecesOf ∈ UW := List.mem_filter.mpr ⟨List.mem_of_getElem? (i := 264) (by decide +kernel), by decide +kernel⟩
theorem mC_X1_piecesOf : Cond.code yX1_piecesOf cX1_piecesOf 2 (some .int) ∈ UW := List.mem_filter.mpr ⟨List.mem_of_getElem? (i := 265) (by decide +kernel), by decide +kernel⟩
theorem mM_X5_97 : Cond.methodLink RX5 97 yX1_putPieces ∈ UW := List.mem_filter.mpr ⟨List.mem_of_getElem? (i := 266) (by decide +kernel), by decide +kernel⟩
theorem mI_X1_putPieces : Cond.instanceMethod yX1_putPieces ∈ UW := List.mem_filter.mpr ⟨List.mem_of_getElem? (i := 267) (by decide +kernel), by decide +kernel⟩
theorem mS_X1_putPieces : Cond.selects RX1 yX1_putPieces yX1_putPieces ∈ UW := List.mem_filter.mpr ⟨List.mem_of_getElem? (i := 268) (by decide +kernel), by decide +kernel⟩
theorem mC_X1_putPieces : Cond.code yX1_putPieces cX1_putPieces 3 none ∈ UW := List.mem_filter.mpr ⟨List.mem_of_getElem? (i := 269) (by decide +kernel), by decide +kernel⟩
theorem mM_L_31 : Cond.methodLink RL 31 yX5_cell ∈ UW := List.mem_filter.mpr ⟨List.mem_of_getElem? (i := 270) (by decide +kernel), by decide +kernel⟩
theorem mI_X5_cell : Cond.instanceMethod yX5_cell ∈ UW := List.mem_filter.mpr ⟨List.mem_of_getElem? (i := 271) (by decide +kernel), by decide +kernel⟩
theorem mS_X5_cell : Cond.selects RX5 yX5_cell yX5_cell ∈ UW := List.mem_filter.mpr ⟨List.mem_of_getElem? (i := 272) (by decide +kernel), by decide +kernel⟩
theorem mC_X5_cell : Cond.code yX5_cell cX5_cell 4 (some .int) ∈ UW := List.mem_filter.mpr ⟨List.mem_of_getElem? (i := 273) (by decide +kernel), by decide +kernel⟩
theorem mM_X5_100 : Cond.methodLink RX5 100 yX5_isMachine ∈ UW := List.mem_filter.mpr ⟨List.mem_of_getElem? (i := 274) (by decide +kernel), by decide +kernel⟩
theorem mI_X5_isMachine : Cond.instanceMethod yX5_isMachine ∈ UW := List.mem_filter.mpr ⟨List.mem_of_getElem? (i := 276) (by decide +kernel), by decide +kernel⟩
theorem mC_X5_isMachine : Cond.code yX5_isMachine cX5_isMachine 2 (some .boolean) ∈ UW := List.mem_filter.mpr ⟨List.mem_of_getElem? (i := 277) (by decide +kernel), by decide +kernel⟩
theorem mM_X5_103 : Cond.methodLink RX5 103 yX5_isCell ∈ UW := List.mem_filter.mpr ⟨List.mem_of_getElem? (i := 278) (by decide +kernel), by decide +kernel⟩
theorem mT_X5_isCell : Cond.static yX5_isCell ∈ UW := List.mem_filter.mpr ⟨List.mem_of_getElem? (i := 279) (by decide +kernel), by decide +kernel⟩
theorem mC_X5_isCell : Cond.code yX5_isCell cX5_isCell 1 (some .boolean) ∈ UW := List.mem_filter.mpr ⟨List.mem_of_getElem? (i := 280) (by decide +kernel), by decide +kernel⟩
theorem mM_X5_106 : Cond.methodLink RX5 106 yX0_cellOf ∈ UW := List.mem_filter.mpr ⟨List.mem_of_getElem? (i := 281) (by decide +kernel), by decide +kernel⟩
theorem mM_X5_109 : Cond.methodLink RX5 109 yX0_put ∈ UW := List.mem_filter.mpr ⟨List.mem_of_getElem? (i := 282) (by decide +kernel), by decide +kernel⟩
theorem mI_X0_put : Cond.instanceMethod yX0_put ∈ UW := List.mem_filter.mpr ⟨List.mem_of_getElem? (i := 283) (by decide +kernel), by decide +kernel⟩
theorem mS_X0_put : Cond.selects RX0 yX0_put yX0_put ∈ UW := List.mem_filter.mpr ⟨List.mem_of_getElem? (i := 284) (by decide +kernel), by decide +kernel⟩
theorem mC_X0_put : Cond.code yX0_put cX0_put 4 none ∈ UW := List.mem_filter.mpr ⟨List.mem_of_getElem? (i := 285) (by decide +kernel), by decide +kernel⟩
theorem mM_X0_32 : Cond.methodLink RX0 32 yX0_become ∈ UW := List.mem_filter.mpr ⟨List.mem_of_getElem? (i := 286) (by decide +kernel), by decide +kernel⟩
theorem mM_L_35 : Cond.methodLink RL 35 yX5_group ∈ UW := List.mem_filter.mpr ⟨List.mem_of_getElem? (i := 287) (by decide +kernel), by decide +kernel⟩
theorem mI_X5_group : Cond.instanceMethod yX5_group ∈ UW := List.mem_filter.mpr ⟨List.mem_of_getElem? (i := 288) (by decide +kernel), by decide +kernel⟩
theorem mS_X5_group : Cond.selects RX5 yX5_group yX5_group ∈ UW := List.mem_filter.mpr ⟨List.mem_of_getElem? (i := 289) (by decide +kernel), by decide +kernel⟩
theorem mC_X5_group : Cond.code yX5_group cX5_group 3 (some .int) ∈ UW := List.mem_filter.mpr ⟨List.mem_of_getElem? (i := 290) (by decide +kernel), by decide +kernel⟩
theorem mM_X5_112 : Cond.methodLink RX5 112 yX5_groupings ∈ UW := List.mem_filter.mpr ⟨List.mem_of_getElem? (i := 291) (by decide +kernel), by decide +kernel⟩
theorem mI_X5_groupings : Cond.instanceMethod yX5_groupings ∈ UW := List.mem_filter.mpr ⟨List.mem_of_getElem? (i := 293) (by decide +kernel), by decide +kernel⟩
theorem mC_X5_groupings : Cond.code yX5_groupings cX5_groupings 1 (some .int) ∈ UW := List.mem_filter.mpr ⟨List.mem_of_getElem? (i := 294) (by decide +kernel), by decide +kernel⟩
theorem mM_X5_116 : Cond.methodLink RX5 116 yX0_numbered ∈ UW := List.mem_filter.mpr ⟨List.mem_of_getElem? (i := 295) (by decide +kernel), by decide +kernel⟩
theorem mI_X0_numbered : Cond.instanceMethod yX0_numbered ∈ UW := List.mem_filter.mpr ⟨List.mem_of_getElem? (i := 296) (by decide +kernel), by decide +kernel⟩
theorem mS_X0_numbered : Cond.selects RX0 yX0_numbered yX0_numbered ∈ UW := List.mem_filter.mpr ⟨List.mem_of_getElem? (i := 297) (by decide +kernel), by decide +kernel⟩
theorem mC_X0_numbered : Cond.code yX0_numbered cX0_numbered 1 (some .int) ∈ UW := List.mem_filter.mpr ⟨List.mem_of_getElem? (i := 298) (by decide +kernel), by decide +kernel⟩
theorem mM_L_40 : Cond.methodLink RL 40 yX5_about ∈ UW := List.mem_filter.mpr ⟨List.mem_of_getElem? (i := 299) (by decide +kernel), by decide +kernel⟩
theorem mI_X5_about : Cond.instanceMethod yX5_about ∈ UW := List.mem_filter.mpr ⟨List.mem_of_getElem? (i := 300) (by decide +kernel), by decide +kernel⟩
theorem mS_X5_about : Cond.selects RX5 yX5_about yX5_about ∈ UW := List.mem_filter.mpr ⟨List.mem_of_getElem? (i := 301) (by decide +kernel), by decide +kernel⟩
theorem mC_X5_about : Cond.code yX5_about cX5_about 4 (some .int) ∈ UW := List.mem_filter.mpr ⟨List.mem_of_getElem? (i := 302) (by decide +kernel), by decide +kernel⟩
theorem mM_X5_122 : Cond.methodLink RX5 122 yX1_setOf ∈ UW := List.mem_filter.mpr ⟨List.mem_of_getElem? (i := 303) (by decide +kernel), by decide +kernel⟩
theorem mI_X1_setOf : Cond.instanceMethod yX1_setOf ∈ UW := List.mem_filter.mpr ⟨List.mem_of_getElem? (i := 304) (by decide +kernel), by decide +kernel⟩
theorem mS_X1_setOf : Cond.selects RX1 yX1_setOf yX1_setOf ∈ UW := List.mem_filter.mpr ⟨List.mem_of_getElem? (i := 305) (by decide +kernel), by decide +kernel⟩
theorem mC_X1_setOf : Cond.code yX1_setOf cX1_setOf 2 (some .int) ∈ UW := List.mem_filter.mpr ⟨List.mem_of_getElem? (i := 306) (by decide +kernel), by decide +kernel⟩
theorem mM_X1_31 : Cond.methodLink RX1 31 yX1_setBy ∈ UW := List.mem_filter.mpr ⟨List.mem_of_getElem? (i := 307) (by decide +kernel), by decide +kernel⟩
theorem mI_X1_setBy : Cond.instanceMethod yX1_setBy ∈ UW := List.mem_filter.mpr ⟨List.mem_of_getElem? (i := 309) (by decide +kernel), by decide +kernel⟩
theorem mC_X1_setBy : Cond.code yX1_setBy cX1_setBy 3 (some .int) ∈ UW := List.mem_filter.mpr ⟨List.mem_of_getElem? (i := 310) (by decide +kernel), by decide +kernel⟩
theorem mM_X5_125 : Cond.methodLink RX5 125 yX0_homeOf ∈ UW := List.mem_filter.mpr ⟨List.mem_of_getElem? (i := 311) (by decide +kernel), by decide +kernel⟩
theorem mI_X0_homeOf : Cond.instanceMethod yX0_homeOf ∈ UW := List.mem_filter.mpr ⟨List.mem_of_getElem? (i := 312) (by decide +kernel), by decide +kernel⟩
theorem mS_X0_homeOf : Cond.selects RX0 yX0_homeOf yX0_homeOf ∈ UW := List.mem_filter.mpr ⟨List.mem_of_getElem? (i := 313) (by decide +kernel), by decide +kernel⟩
theorem mC_X0_homeOf : Cond.code yX0_homeOf cX0_homeOf 6 (some .int) ∈ UW := List.mem_filter.mpr ⟨List.mem_of_getElem? (i := 314) (by decide +kernel), by decide +kernel⟩
theorem mM_X0_36 : Cond.methodLink RX0 36 yJ6_bitCount_0f7a4 ∈ UW := List.mem_filter.mpr ⟨List.mem_of_getElem? (i := 315) (by decide +kernel), by decide +kernel⟩
theorem mT_J6_bitCount_0f7a4 : Cond.static yJ6_bitCount_0f7a4 ∈ UW := List.mem_filter.mpr ⟨List.mem_of_getElem? (i := 316) (by decide +kernel), by decide +kernel⟩
theorem mC_J6_bitCount_0f7a4 : Cond.code yJ6_bitCount_0f7a4 cJ6_bitCount_0f7a4 1 (some .int) ∈ UW := List.mem_filter.mpr ⟨List.mem_of_getElem? (i := 317) (by decide +kernel), by decide +kernel⟩
theorem mK_J6_265 : Cond.constant RJ6 265 (1431655765) ∈ UW := List.mem_filter.mpr ⟨List.mem_of_getElem? (i := 318) (by decide +kernel), by decide +kernel⟩
theorem mK_J6_266 : Cond.constant RJ6 266 (858993459) ∈ UW := List.mem_filter.mpr ⟨List.mem_of_getElem? (i := 319) (by decide +kernel), by decide +kernel⟩
theorem mK_J6_267 : Cond.constant RJ6 267 (252645135) ∈ UW := List.mem_filter.mpr ⟨List.mem_of_getElem? (i := 320) (by decide +kernel), by decide +kernel⟩
theorem mM_X5_128 : Cond.methodLink RX5 128 yX0_wandersOf ∈ UW := List.mem_filter.mpr ⟨List.mem_of_getElem? (i := 321) (by decide +kernel), by decide +kernel⟩
theorem mI_X0_wandersOf : Cond.instanceMethod yX0_wandersOf ∈ UW := List.mem_filter.mpr ⟨List.mem_of_getElem? (i := 322) (by decide +kernel), by decide +kernel⟩
theorem mS_X0_wandersOf : Cond.selects RX0 yX0_wandersOf yX0_wandersOf ∈ UW := List.mem_filter.mpr ⟨List.mem_of_getElem? (i := 323) (by decide +kernel), by decide +kernel⟩
theorem mC_X0_wandersOf : Cond.code yX0_wandersOf cX0_wandersOf 2 (some .int) ∈ UW := List.mem_filter.mpr ⟨List.mem_of_getElem? (i := 324) (by decide +kernel), by decide +kernel⟩
theorem mM_X0_41 : Cond.methodLink RX0 41 yX0_homeOf ∈ UW := List.mem_filter.mpr ⟨List.mem_of_getElem? (i := 325) (by decide +kernel), by decide +kernel⟩
theorem mM_X5_131 : Cond.methodLink RX5 131 yX0_idleOf ∈ UW := List.mem_filter.mpr ⟨List.mem_of_getElem? (i := 326) (by decide +kernel), by decide +kernel⟩
theorem mI_X0_idleOf : Cond.instanceMethod yX0_idleOf ∈ UW := List.mem_filter.mpr ⟨List.mem_of_getElem? (i := 327) (by decide +kernel), by decide +kernel⟩
theorem mS_X0_idleOf : Cond.selects RX0 yX0_idleOf yX0_idleOf ∈ UW := List.mem_filter.mpr ⟨List.mem_of_getElem? (i := 328) (by decide +kernel), by decide +kernel⟩
theorem mC_X0_idleOf : Cond.code yX0_idleOf cX0_idleOf 2 (some .int) ∈ UW := List.mem_filter.mpr ⟨List.mem_of_getElem? (i := 329) (by decide +kernel), by decide +kernel⟩
theorem mM_L_44 : Cond.methodLink RL 44 yX5_loss ∈ UW := List.mem_filter.mpr ⟨List.mem_of_getElem? (i := 330) (by decide +kernel), by decide +kernel⟩
theorem mI_X5_loss : Cond.instanceMethod yX5_loss ∈ UW := List.mem_filter.mpr ⟨List.mem_of_getElem? (i := 331) (by decide +kernel), by decide +kernel⟩
theorem mS_X5_loss : Cond.selects RX5 yX5_loss yX5_loss ∈ UW := List.mem_filter.mpr ⟨List.mem_of_getElem? (i := 332) (by decide +kernel), by decide +kernel⟩
theorem mC_X5_loss : Cond.code yX5_loss cX5_loss 2 (some .int) ∈ UW := List.mem_filter.mpr ⟨List.mem_of_getElem? (i := 333) (by decide +kernel), by decide +kernel⟩
theorem mM_X5_134 : Cond.methodLink RX5 134 yX5_isKind ∈ UW := List.mem_filter.mpr ⟨List.mem_of_getElem? (i := 334) (by decide +kernel), by decide +kernel⟩
theorem mT_X5_isKind : Cond.static yX5_isKind ∈ UW := List.mem_filter.mpr ⟨List.mem_of_getElem? (i := 335) (by decide +kernel), by decide +kernel⟩
theorem mC_X5_isKind : Cond.code yX5_isKind cX5_isKind 1 (some .boolean) ∈ UW := List.mem_filter.mpr ⟨List.mem_of_getElem? (i := 336) (by decide +kernel), by decide +kernel⟩
theorem mF_X5_141 : Cond.fieldLink RX5 141 "PartCells" "TRACE_OF_KIND" "[I" ∈ UW := List.mem_filter.mpr ⟨List.mem_of_getElem? (i := 337) (by decide +kernel), by decide +kernel⟩
theorem mYS_X5_TRACE_OF_KIND : Cond.laysStatic RX5 "TRACE_OF_KIND" "[I" ∈ lw_tbl := List.mem_of_getElem? (i := 338) (by decide +kernel)
theorem mM_X5_144 : Cond.methodLink RX5 144 yX5_lossOf ∈ UW := List.mem_filter.mpr ⟨List.mem_of_getElem? (i := 339) (by decide +kernel), by decide +kernel⟩
theorem mI_X5_lossOf : Cond.instanceMethod yX5_lossOf ∈ UW := List.mem_filter.mpr ⟨List.mem_of_getElem? (i := 341) (by decide +kernel), by decide +kernel⟩
theorem mC_X5_lossOf : Cond.code yX5_lossOf cX5_lossOf 4 (some .int) ∈ UW := List.mem_filter.mpr ⟨List.mem_of_getElem? (i := 342) (by decide +kernel), by decide +kernel⟩
theorem mM_X5_174 : Cond.methodLink RX5 174 yX1_chosen ∈ UW := List.mem_filter.mpr ⟨List.mem_of_getElem? (i := 343) (by decide +kernel), by decide +kernel⟩
theorem mI_X1_chosen : Cond.instanceMethod yX1_chosen ∈ UW := List.mem_filter.mpr ⟨List.mem_of_getElem? (i := 344) (by decide +kernel), by decide +kernel⟩
theorem mS_X1_chosen : Cond.selects RX1 yX1_chosen yX1_chosen ∈ UW := List.mem_filter.mpr ⟨List.mem_of_getElem? (i := 345) (by decide +kernel), by decide +kernel⟩
theorem mC_X1_chosen : Cond.code yX1_chosen cX1_chosen 1 (some .int) ∈ UW := List.mem_filter.mpr ⟨List.mem_of_getElem? (i := 346) (by decide +kernel), by decide +kernel⟩
theorem mM_X5_183 : Cond.methodLink RX5 183 yX1_wanderBy ∈ UW := List.mem_filter.mpr ⟨List.mem_of_getElem? (i := 347) (by decide +kernel), by decide +kernel⟩
theorem mI_X1_wanderBy : Cond.instanceMethod yX1_wanderBy ∈ UW := List.mem_filter.mpr ⟨List.mem_of_getElem? (i := 348) (by decide +kernel), by decide +kernel⟩
theorem mS_X1_wanderBy : Cond.selects RX1 yX1_wanderBy yX1_wanderBy ∈ UW := List.mem_filter.mpr ⟨List.mem_of_getElem? (i := 349) (by decide +kernel), by decide +kernel⟩
theorem mC_X1_wanderBy : Cond.code yX1_wanderBy cX1_wanderBy 5 (some .int) ∈ UW := List.mem_filter.mpr ⟨List.mem_of_getElem? (i := 350) (by decide +kernel), by decide +kernel⟩
theorem mM_X1_35 : Cond.methodLink RX1 35 yX0_wandersOf ∈ UW := List.mem_filter.mpr ⟨List.mem_of_getElem? (i := 351) (by decide +kernel), by decide +kernel⟩
theorem mM_X5_240 : Cond.methodLink RX5 240 yX1_idleOf ∈ UW := List.mem_filter.mpr ⟨List.mem_of_getElem? (i := 352) (by decide +kernel), by decide +kernel⟩
theorem mI_X1_idleOf : Cond.instanceMethod yX1_idleOf ∈ UW := List.mem_filter.mpr ⟨List.mem_of_getElem? (i := 353) (by decide +kernel), by decide +kernel⟩
theorem mS_X1_idleOf : Cond.selects RX1 yX1_idleOf yX1_idleOf ∈ UW := List.mem_filter.mpr ⟨List.mem_of_getElem? (i := 354) (by decide +kernel), by decide +kernel⟩
theorem mC_X1_idleOf : Cond.code yX1_idleOf cX1_idleOf 4 (some .int) ∈ UW := List.mem_filter.mpr ⟨List.mem_of_getElem? (i := 355) (by decide +kernel), by decide +kernel⟩
theorem mM_X1_41 : Cond.methodLink RX1 41 yX1_setOf ∈ UW := List.mem_filter.mpr ⟨List.mem_of_getElem? (i := 356) (by decide +kernel), by decide +kernel⟩
theorem mM_X1_44 : Cond.methodLink RX1 44 yX0_idleOf ∈ UW := List.mem_filter.mpr ⟨List.mem_of_getElem? (i := 357) (by decide +kernel), by decide +kernel⟩
theorem mM_X5_243 : Cond.methodLink RX5 243 yX0_squares ∈ UW := List.mem_filter.mpr ⟨List.mem_of_getElem? (i := 358) (by decide +kernel), by decide +kernel⟩
theorem mI_X0_squares : Cond.instanceMethod yX0_squares ∈ UW := List.mem_filter.mpr ⟨List.mem_of_getElem? (i := 359) (by decide +kernel), by decide +kernel⟩
theorem mS_X0_squares : Cond.selects RX0 yX0_squares yX0_squares ∈ UW := List.mem_filter.mpr ⟨List.mem_of_getElem? (i := 360) (by decide +kernel), by decide +kernel⟩
theorem mC_X0_squares : Cond.code yX0_squares cX0_squares 4 (some .int) ∈ UW := List.mem_filter.mpr ⟨List.mem_of_getElem? (i := 361) (by decide +kernel), by decide +kernel⟩
theorem mM_L_48 : Cond.methodLink RL 48 yX5_best ∈ UW := List.mem_filter.mpr ⟨List.mem_of_getElem? (i := 362) (by decide +kernel), by decide +kernel⟩
theorem mI_X5_best : Cond.instanceMethod yX5_best ∈ UW := List.mem_filter.mpr ⟨List.mem_of_getElem? (i := 363) (by decide +kernel), by decide +kernel⟩
theorem mS_X5_best : Cond.selects RX5 yX5_best yX5_best ∈ UW := List.mem_filter.mpr ⟨List.mem_of_getElem? (i := 364) (by decide +kernel), by decide +kernel⟩
theorem mC_X5_best : Cond.code yX5_best cX5_best 4 (some .int) ∈ UW := List.mem_filter.mpr ⟨List.mem_of_getElem? (i := 365) (by decide +kernel), by decide +kernel⟩
theorem mM_X5_148 : Cond.methodLink RX5 148 yX5_seekGrouping ∈ UW := List.mem_filter.mpr ⟨List.mem_of_getElem? (i := 366) (by decide +kernel), by decide +kernel⟩
theorem mI_X5_seekGrouping : Cond.instanceMethod yX5_seekGrouping ∈ UW := List.mem_filter.mpr ⟨List.mem_of_getElem? (i := 368) (by decide +kernel), by decide +kernel⟩
theorem mC_X5_seekGrouping : Cond.code yX5_seekGrouping cX5_seekGrouping 6 none ∈ UW := List.mem_filter.mpr ⟨List.mem_of_getElem? (i := 369) (by decide +kernel), by decide +kernel⟩
theorem mK_X5_246 : Cond.constant RX5 246 (1073741824) ∈ UW := List.mem_filter.mpr ⟨List.mem_of_getElem? (i := 370) (by decide +kernel), by decide +kernel⟩
theorem mM_X5_157 : Cond.methodLink RX5 157 yX0_isPlain ∈ UW := List.mem_filter.mpr ⟨List.mem_of_getElem? (i := 371) (by decide +kernel), by decide +kernel⟩
theorem mT_X0_isPlain : Cond.static yX0_isPlain ∈ UW := List.mem_filter.mpr ⟨List.mem_of_getElem? (i := 372) (by decide +kernel), by decide +kernel⟩
theorem mC_X0_isPlain : Cond.code yX0_isPlain cX0_isPlain 5 (some .boolean) ∈ UW := List.mem_filter.mpr ⟨List.mem_of_getElem? (i := 373) (by decide +kernel), by decide +kernel⟩
theorem mM_X5_247 : Cond.methodLink RX5 247 yX0_largest ∈ UW := List.mem_filter.mpr ⟨List.mem_of_getElem? (i := 374) (by decide +kernel), by decide +kernel⟩
theorem mI_X0_largest : Cond.instanceMethod yX0_largest ∈ UW := List.mem_filter.mpr ⟨List.mem_of_getElem? (i := 375) (by decide +kernel), by decide +kernel⟩
theorem mS_X0_largest : Cond.selects RX0 yX0_largest yX0_largest ∈ UW := List.mem_filter.mpr ⟨List.mem_of_getElem? (i := 376) (by decide +kernel), by decide +kernel⟩
theorem mC_X0_largest : Cond.code yX0_largest cX0_largest 3 (some .int) ∈ UW := List.mem_filter.mpr ⟨List.mem_of_getElem? (i := 377) (by decide +kernel), by decide +kernel⟩
theorem mML_X0_44 : Cond.methodLink RX0 44 Lib.Math.max.name ∈ UW := List.mem_filter.mpr ⟨List.mem_of_getElem? (i := 378) (by decide +kernel), by decide +kernel⟩
theorem mM_X0_44 : Cond.methodLink RX0 44 yJ9_max_7cf53 ∈ UW := List.mem_filter.mpr ⟨List.mem_of_getElem? (i := 378) (by decide +kernel), by decide +kernel⟩
theorem mTL_max : Cond.static Lib.Math.max.name ∈ UW := List.mem_filter.mpr ⟨List.mem_of_getElem? (i := 379) (by decide +kernel), by decide +kernel⟩
theorem mT_J9_max_7cf53 : Cond.static yJ9_max_7cf53 ∈ UW := List.mem_filter.mpr ⟨List.mem_of_getElem? (i := 379) (by decide +kernel), by decide +kernel⟩
theorem mCL_max : Cond.code Lib.Math.max.name Lib.Math.max.code 2 (some .int) ∈ UW := List.mem_filter.mpr ⟨List.mem_of_getElem? (i := 380) (by decide +kernel), by decide +kernel⟩
theorem mC_J9_max_7cf53 : Cond.code yJ9_max_7cf53 cJ9_max_7cf53 2 (some .int) ∈ UW := List.mem_filter.mpr ⟨List.mem_of_getElem? (i := 380) (by decide +kernel), by decide +kernel⟩
theorem mM_L_52 : Cond.methodLink RL 52 yX5_plain ∈ UW := List.mem_filter.mpr ⟨List.mem_of_getElem? (i := 381) (by decide +kernel), by decide +kernel⟩
theorem mI_X5_plain : Cond.instanceMethod yX5_plain ∈ UW := List.mem_filter.mpr ⟨List.mem_of_getElem? (i := 382) (by decide +kernel), by decide +kernel⟩
theorem mS_X5_plain : Cond.selects RX5 yX5_plain yX5_plain ∈ UW := List.mem_filter.mpr ⟨List.mem_of_getElem? (i := 383) (by decide +kernel), by decide +kernel⟩
theorem mC_X5_plain : Cond.code yX5_plain cX5_plain 1 (some .int) ∈ UW := List.mem_filter.mpr ⟨List.mem_of_getElem? (i := 384) (by decide +kernel), by decide +kernel⟩
theorem mM_L_57 : Cond.methodLink RL 57 yX5_like ∈ UW := List.mem_filter.mpr ⟨List.mem_of_getElem? (i := 385) (by decide +kernel), by decide +kernel⟩
theorem mI_X5_like : Cond.instanceMethod yX5_like ∈ UW := List.mem_filter.mpr ⟨List.mem_of_getElem? (i := 386) (by decide +kernel), by decide +kernel⟩
theorem mS_X5_like : Cond.selects RX5 yX5_like yX5_like ∈ UW := List.mem_filter.mpr ⟨List.mem_of_getElem? (i := 387) (by decide +kernel), by decide +kernel⟩
theorem mC_X5_like : Cond.code yX5_like cX5_like 4 (some .int) ∈ UW := List.mem_filter.mpr ⟨List.mem_of_getElem? (i := 388) (by decide +kernel), by decide +kernel⟩
theorem mM_X5_161 : Cond.methodLink RX5 161 yX1_withBoth ∈ UW := List.mem_filter.mpr ⟨List.mem_of_getElem? (i := 389) (by decide +kernel), by decide +kernel⟩
theorem mI_X1_withBoth : Cond.instanceMethod yX1_withBoth ∈ UW := List.mem_filter.mpr ⟨List.mem_of_getElem? (i := 390) (by decide +kernel), by decide +kernel⟩
theorem mS_X1_withBoth : Cond.selects RX1 yX1_withBoth yX1_withBoth ∈ UW := List.mem_filter.mpr ⟨List.mem_of_getElem? (i := 391) (by decide +kernel), by decide +kernel⟩
theorem mC_X1_withBoth : Cond.code yX1_withBoth cX1_withBoth 6 (some .int) ∈ UW := List.mem_filter.mpr ⟨List.mem_of_getElem? (i := 392) (by decide +kernel), by decide +kernel⟩
theorem mM_X1_47 : Cond.methodLink RX1 47 yX1_hasMachine ∈ UW := List.mem_filter.mpr ⟨List.mem_of_getElem? (i := 393) (by decide +kernel), by decide +kernel⟩
theorem mT_X1_hasMachine : Cond.static yX1_hasMachine ∈ UW := List.mem_filter.mpr ⟨List.mem_of_getElem? (i := 394) (by decide +kernel), by decide +kernel⟩
theorem mC_X1_hasMachine : Cond.code yX1_hasMachine cX1_hasMachine 2 (some .boolean) ∈ UW := List.mem_filter.mpr ⟨List.mem_of_getElem? (i := 395) (by decide +kernel), by decide +kernel⟩
theorem mM_X5_164 : Cond.methodLink RX5 164 yX1_withEither ∈ UW := List.mem_filter.mpr ⟨List.mem_of_getElem? (i := 396) (by decide +kernel), by decide +kernel⟩
theorem mI_X1_withEither : Cond.instanceMethod yX1_withEither ∈ UW := List.mem_filter.mpr ⟨List.mem_of_getElem? (i := 397) (by decide +kernel), by decide +kernel⟩
theorem mS_X1_withEither : Cond.selects RX1 yX1_withEither yX1_withEither ∈ UW := List.mem_filter.mpr ⟨List.mem_of_getElem? (i := 398) (by decide +kernel), by decide +kernel⟩
theorem mC_X1_withEither : Cond.code yX1_withEither cX1_withEither 6 (some .int) ∈ UW := List.mem_filter.mpr ⟨List.mem_of_getElem? (i := 399) (by decide +kernel), by decide +kernel⟩
theorem mML_X1_51 : Cond.methodLink RX1 51 Lib.Math.max.name ∈ UW := List.mem_filter.mpr ⟨List.mem_of_getElem? (i := 400) (by decide +kernel), by decide +kernel⟩
theorem mM_X1_51 : Cond.methodLink RX1 51 yJ9_max_7cf53 ∈ UW := List.mem_filter.mpr ⟨List.mem_of_getElem? (i := 400) (by decide +kernel), by decide +kernel⟩
theorem mM_L_61 : Cond.methodLink RL 61 yX5_join ∈ UW := List.mem_filter.mpr ⟨List.mem_of_getElem? (i := 401) (by decide +kernel), by decide +kernel⟩
theorem mI_X5_join : Cond.instanceMethod yX5_join ∈ UW := List.mem_filter.mpr ⟨List.mem_of_getElem? (i := 402) (by decide +kernel), by decide +kernel⟩
theorem mS_X5_join : Cond.selects RX5 yX5_join yX5_join ∈ UW := List.mem_filter.mpr ⟨List.mem_of_getElem? (i := 403) (by decide +kernel), by decide +kernel⟩
theorem mC_X5_join : Cond.code yX5_join cX5_join 3 (some .int) ∈ UW := List.mem_filter.mpr ⟨List.mem_of_getElem? (i := 404) (by decide +kernel), by decide +kernel⟩
theorem mM_X5_167 : Cond.methodLink RX5 167 yX3_grow ∈ UW := List.mem_filter.mpr ⟨List.mem_of_getElem? (i := 405) (by decide +kernel), by decide +kernel⟩
theorem mI_X3_grow : Cond.instanceMethod yX3_grow ∈ UW := List.mem_filter.mpr ⟨List.mem_of_getElem? (i := 406) (by decide +kernel), by decide +kernel⟩
theorem mS_X3_grow : Cond.selects RX3 yX3_grow yX3_grow ∈ UW := List.mem_filter.mpr ⟨List.mem_of_getElem? (i := 407) (by decide +kernel), by decide +kernel⟩
theorem mC_X3_grow : Cond.code yX3_grow cX3_grow 5 none ∈ UW := List.mem_filter.mpr ⟨List.mem_of_getElem? (i := 408) (by decide +kernel), by decide +kernel⟩
theorem mM_X3_19 : Cond.methodLink RX3 19 yX3_seekPair ∈ UW := List.mem_filter.mpr ⟨List.mem_of_getElem? (i := 409) (by decide +kernel), by decide +kernel⟩
theorem mI_X3_seekPair : Cond.instanceMethod yX3_seekPair ∈ UW := List.mem_filter.mpr ⟨List.mem_of_getElem? (i := 411) (by decide +kernel), by decide +kernel⟩
theorem mC_X3_seekPair : Cond.code yX3_seekPair cX3_seekPair 4 none ∈ UW := List.mem_filter.mpr ⟨List.mem_of_getElem? (i := 412) (by decide +kernel), by decide +kernel⟩
theorem mM_X3_38 : Cond.methodLink RX3 38 yX3_compareHeaps ∈ UW := List.mem_filter.mpr ⟨List.mem_of_getElem? (i := 413) (by decide +kernel), by decide +kernel⟩
theorem mI_X3_compareHeaps : Cond.instanceMethod yX3_compareHeaps ∈ UW := List.mem_filter.mpr ⟨List.mem_of_getElem? (i := 415) (by decide +kernel), by decide +kernel⟩
theorem mC_X3_compareHeaps : Cond.code yX3_compareHeaps cX3_compareHeaps 6 none ∈ UW := List.mem_filter.mpr ⟨List.mem_of_getElem? (i := 416) (by decide +kernel), by decide +kernel⟩
theorem mM_X3_42 : Cond.methodLink RX3 42 yX3_compareMachines ∈ UW := List.mem_filter.mpr ⟨List.mem_of_getElem? (i := 417) (by decide +kernel), by decide +kernel⟩
theorem mI_X3_compareMachines : Cond.instanceMethod yX3_compareMachines ∈ UW := List.mem_filter.mpr ⟨List.mem_of_getElem? (i := 419) (by decide +kernel), by decide +kernel⟩
theorem mC_X3_compareMachines : Cond.code yX3_compareMachines cX3_compareMachines 6 none ∈ UW := List.mem_filter.mpr ⟨List.mem_of_getElem? (i := 420) (by decide +kernel), by decide +kernel⟩
theorem mM_X3_45 : Cond.methodLink RX3 45 yX1_withBoth ∈ UW := List.mem_filter.mpr ⟨List.mem_of_getElem? (i := 421) (by decide +kernel), by decide +kernel⟩
theorem mM_X3_51 : Cond.methodLink RX3 51 yX1_withEither ∈ UW := List.mem_filter.mpr ⟨List.mem_of_getElem? (i := 422) (by decide +kernel), by decide +kernel⟩
theorem mM_X3_23 : Cond.methodLink RX3 23 yX3_unite ∈ UW := List.mem_filter.mpr ⟨List.mem_of_getElem? (i := 423) (by decide +kernel), by decide +kernel⟩
theorem mI_X3_unite : Cond.instanceMethod yX3_unite ∈ UW := List.mem_filter.mpr ⟨List.mem_of_getElem? (i := 425) (by decide +kernel), by decide +kernel⟩
theorem mC_X3_unite : Cond.code yX3_unite cX3_unite 2 none ∈ UW := List.mem_filter.mpr ⟨List.mem_of_getElem? (i := 426) (by decide +kernel), by decide +kernel⟩
theorem mM_X5_171 : Cond.methodLink RX5 171 yX3_tell ∈ UW := List.mem_filter.mpr ⟨List.mem_of_getElem? (i := 427) (by decide +kernel), by decide +kernel⟩
theorem mI_X3_tell : Cond.instanceMethod yX3_tell ∈ UW := List.mem_filter.mpr ⟨List.mem_of_getElem? (i := 428) (by decide +kernel), by decide +kernel⟩
theorem mS_X3_tell : Cond.selects RX3 yX3_tell yX3_tell ∈ UW := List.mem_filter.mpr ⟨List.mem_of_getElem? (i := 429) (by decide +kernel), by decide +kernel⟩
theorem mC_X3_tell : Cond.code yX3_tell cX3_tell 2 (some .int) ∈ UW := List.mem_filter.mpr ⟨List.mem_of_getElem? (i := 430) (by decide +kernel), by decide +kernel⟩
theorem mM_L_65 : Cond.methodLink RL 65 yX5_bears ∈ UW := List.mem_filter.mpr ⟨List.mem_of_getElem? (i := 431) (by decide +kernel), by decide +kernel⟩
theorem mI_X5_bears : Cond.instanceMethod yX5_bears ∈ UW := List.mem_filter.mpr ⟨List.mem_of_getElem? (i := 432) (by decide +kernel), by decide +kernel⟩
theorem mS_X5_bears : Cond.selects RX5 yX5_bears yX5_bears ∈ UW := List.mem_filter.mpr ⟨List.mem_of_getElem? (i := 433) (by decide +kernel), by decide +kernel⟩
theorem mC_X5_bears : Cond.code yX5_bears cX5_bears 4 (some .int) ∈ UW := List.mem_filter.mpr ⟨List.mem_of_getElem? (i := 434) (by decide +kernel), by decide +kernel⟩
theorem mM_L_69 : Cond.methodLink RL 69 yX5_load ∈ UW := List.mem_filter.mpr ⟨List.mem_of_getElem? (i := 435) (by decide +kernel), by decide +kernel⟩
theorem mI_X5_load : Cond.instanceMethod yX5_load ∈ UW := List.mem_filter.mpr ⟨List.mem_of_getElem? (i := 436) (by decide +kernel), by decide +kernel⟩
theorem mS_X5_load : Cond.selects RX5 yX5_load yX5_load ∈ UW := List.mem_filter.mpr ⟨List.mem_of_getElem? (i := 437) (by decide +kernel), by decide +kernel⟩
theorem mC_X5_load : Cond.code yX5_load cX5_load 2 (some .int) ∈ UW := List.mem_filter.mpr ⟨List.mem_of_getElem? (i := 438) (by decide +kernel), by decide +kernel⟩
theorem mM_X5_177 : Cond.methodLink RX5 177 yX1_loadBy ∈ UW := List.mem_filter.mpr ⟨List.mem_of_getElem? (i := 439) (by decide +kernel), by decide +kernel⟩
theorem mI_X1_loadBy : Cond.instanceMethod yX1_loadBy ∈ UW := List.mem_filter.mpr ⟨List.mem_of_getElem? (i := 440) (by decide +kernel), by decide +kernel⟩
theorem mS_X1_loadBy : Cond.selects RX1 yX1_loadBy yX1_loadBy ∈ UW := List.mem_filter.mpr ⟨List.mem_of_getElem? (i := 441) (by decide +kernel), by decide +kernel⟩
theorem mC_X1_loadBy : Cond.code yX1_loadBy cX1_loadBy 5 (some .int) ∈ UW := List.mem_filter.mpr ⟨List.mem_of_getElem? (i := 442) (by decide +kernel), by decide +kernel⟩
theorem mM_L_73 : Cond.methodLink RL 73 yX5_routes ∈ UW := List.mem_filter.mpr ⟨List.mem_of_getElem? (i := 443) (by decide +kernel), by decide +kernel⟩
theorem mI_X5_routes : Cond.instanceMethod yX5_routes ∈ UW := List.mem_filter.mpr ⟨List.mem_of_getElem? (i := 444) (by decide +kernel), by decide +kernel⟩
theorem mS_X5_routes : Cond.selects RX5 yX5_routes yX5_routes ∈ UW := List.mem_filter.mpr ⟨List.mem_of_getElem? (i := 445) (by decide +kernel), by decide +kernel⟩
theorem mC_X5_routes : Cond.code yX5_routes cX5_routes 3 (some .int) ∈ UW := List.mem_filter.mpr ⟨List.mem_of_getElem? (i := 446) (by decide +kernel), by decide +kernel⟩
theorem mM_X5_180 : Cond.methodLink RX5 180 yX5_bestChoice ∈ UW := List.mem_filter.mpr ⟨List.mem_of_getElem? (i := 447) (by decide +kernel), by decide +kernel⟩
theorem mI_X5_bestChoice : Cond.instanceMethod yX5_bestChoice ∈ UW := List.mem_filter.mpr ⟨List.mem_of_getElem? (i := 449) (by decide +kernel), by decide +kernel⟩
theorem mC_X5_bestChoice : Cond.code yX5_bestChoice cX5_bestChoice 6 (some .int) ∈ UW := List.mem_filter.mpr ⟨List.mem_of_getElem? (i := 450) (by decide +kernel), by decide +kernel⟩
theorem mM_X5_250 : Cond.methodLink RX5 250 yX5_isRight ∈ UW := List.mem_filter.mpr ⟨List.mem_of_getElem? (i := 451) (by decide +kernel), by decide +kernel⟩
theorem mI_X5_isRight : Cond.instanceMethod yX5_isRight ∈ UW := List.mem_filter.mpr ⟨List.mem_of_getElem? (i := 453) (by decide +kernel), by decide +kernel⟩
theorem mC_X5_isRight : Cond.code yX5_isRight cX5_isRight 3 (some .boolean) ∈ UW := List.mem_filter.mpr ⟨List.mem_of_getElem? (i := 454) (by decide +kernel), by decide +kernel⟩
theorem mM_L_77 : Cond.methodLink RL 77 yX5_price ∈ UW := List.mem_filter.mpr ⟨List.mem_of_getElem? (i := 455) (by decide +kernel), by decide +kernel⟩
theorem mI_X5_price : Cond.instanceMethod yX5_price ∈ UW := List.mem_filter.mpr ⟨List.mem_of_getElem? (i := 456) (by decide +kernel), by decide +kernel⟩
theorem mS_X5_price : Cond.selects RX5 yX5_price yX5_price ∈ UW := List.mem_filter.mpr ⟨List.mem_of_getElem? (i := 457) (by decide +kernel), by decide +kernel⟩
theorem mC_X5_price : Cond.code yX5_price cX5_price 4 (some .int) ∈ UW := List.mem_filter.mpr ⟨List.mem_of_getElem? (i := 458) (by decide +kernel), by decide +kernel⟩
theorem mM_L_81 : Cond.methodLink RL 81 yX5_copy ∈ UW := List.mem_filter.mpr ⟨List.mem_of_getElem? (i := 459) (by decide +kernel), by decide +kernel⟩
theorem mI_X5_copy : Cond.instanceMethod yX5_copy ∈ UW := List.mem_filter.mpr ⟨List.mem_of_getElem? (i := 460) (by decide +kernel), by decide +kernel⟩
theorem mS_X5_copy : Cond.selects RX5 yX5_copy yX5_copy ∈ UW := List.mem_filter.mpr ⟨List.mem_of_getElem? (i := 461) (by decide +kernel), by decide +kernel⟩
theorem mC_X5_copy : Cond.code yX5_copy cX5_copy 3 (some .int) ∈ UW := List.mem_filter.mpr ⟨List.mem_of_getElem? (i := 462) (by decide +kernel), by decide +kernel⟩
theorem mM_X5_187 : Cond.methodLink RX5 187 yX1_keptHome ∈ UW := List.mem_filter.mpr ⟨List.mem_of_getElem? (i := 463) (by decide +kernel), by decide +kernel⟩
theorem mI_X1_keptHome : Cond.instanceMethod yX1_keptHome ∈ UW := List.mem_filter.mpr ⟨List.mem_of_getElem? (i := 464) (by decide +kernel), by decide +kernel⟩
theorem mS_X1_keptHome : Cond.selects RX1 yX1_keptHome yX1_keptHome ∈ UW := List.mem_filter.mpr ⟨List.mem_of_getElem? (i := 465) (by decide +kernel), by decide +kernel⟩
theorem mC_X1_keptHome : Cond.code yX1_keptHome cX1_keptHome 7 (some .int) ∈ UW := List.mem_filter.mpr ⟨List.mem_of_getElem? (i := 466) (by decide +kernel), by decide +kernel⟩
theorem mM_X1_56 : Cond.methodLink RX1 56 yX0_homeOf ∈ UW := List.mem_filter.mpr ⟨List.mem_of_getElem? (i := 467) (by decide +kernel), by decide +kernel⟩
theorem mM_L_85 : Cond.methodLink RL 85 yX5_saved ∈ UW := List.mem_filter.mpr ⟨List.mem_of_getElem? (i := 468) (by decide +kernel), by decide +kernel⟩
theorem mI_X5_saved : Cond.instanceMethod yX5_saved ∈ UW := List.mem_filter.mpr ⟨List.mem_of_getElem? (i := 469) (by decide +kernel), by decide +kernel⟩
theorem mS_X5_saved : Cond.selects RX5 yX5_saved yX5_saved ∈ UW := List.mem_filter.mpr ⟨List.mem_of_getElem? (i := 470) (by decide +kernel), by decide +kernel⟩
theorem mC_X5_saved : Cond.code yX5_saved cX5_saved 3 (some .int) ∈ UW := List.mem_filter.mpr ⟨List.mem_of_getElem? (i := 471) (by decide +kernel), by decide +kernel⟩
theorem mM_X5_197 : Cond.methodLink RX5 197 yX5_offerCopies ∈ UW := List.mem_filter.mpr ⟨List.mem_of_getElem? (i := 472) (by decide +kernel), by decide +kernel⟩
theorem mI_X5_offerCopies : Cond.instanceMethod yX5_offerCopies ∈ UW := List.mem_filter.mpr ⟨List.mem_of_getElem? (i := 474) (by decide +kernel), by decide +kernel⟩
theorem mC_X5_offerCopies : Cond.code yX5_offerCopies cX5_offerCopies 4 none ∈ UW := List.mem_filter.mpr ⟨List.mem_of_getElem? (i := 475) (by decide +kernel), by decide +kernel⟩
theorem mM_X5_253 : Cond.methodLink RX5 253 yX5_offerCopy ∈ UW := List.mem_filter.mpr ⟨List.mem_of_getElem? (i := 476) (by decide +kernel), by decide +kernel⟩
theorem mI_X5_offerCopy : Cond.instanceMethod yX5_offerCopy ∈ UW := List.mem_filter.mpr ⟨List.mem_of_getElem? (i := 478) (by decide +kernel), by decide +kernel⟩
theorem mC_X5_offerCopy : Cond.code yX5_offerCopy cX5_offerCopy 5 none ∈ UW := List.mem_filter.mpr ⟨List.mem_of_getElem? (i := 479) (by decide +kernel), by decide +kernel⟩
theorem mML_X5_256 : Cond.methodLink RX5 256 Lib.Math.max.name ∈ UW := List.mem_filter.mpr ⟨List.mem_of_getElem? (i := 480) (by decide +kernel), by decide +kernel⟩
theorem mM_X5_256 : Cond.methodLink RX5 256 yJ9_max_7cf53 ∈ UW := List.mem_filter.mpr ⟨List.mem_of_getElem? (i := 480) (by decide +kernel), by decide +kernel⟩
theorem mM_L_89 : Cond.methodLink RL 89 yX5_way ∈ UW := List.mem_filter.mpr ⟨List.mem_of_getElem? (i := 481) (by decide +kernel), by decide +kernel⟩
theorem mI_X5_way : Cond.instanceMethod yX5_way ∈ UW := List.mem_filter.mpr ⟨List.mem_of_getElem? (i := 482) (by decide +kernel), by decide +kernel⟩
theorem mS_X5_way : Cond.selects RX5 yX5_way yX5_way ∈ UW := List.mem_filter.mpr ⟨List.mem_of_getElem? (i := 483) (by decide +kernel), by decide +kernel⟩
theorem mC_X5_way : Cond.code yX5_way cX5_way 6 (some .int) ∈ UW := List.mem_filter.mpr ⟨List.mem_of_getElem? (i := 484) (by decide +kernel), by decide +kernel⟩
theorem mM_X5_200 : Cond.methodLink RX5 200 yX2_orderOf ∈ UW := List.mem_filter.mpr ⟨List.mem_of_getElem? (i := 485) (by decide +kernel), by decide +kernel⟩
theorem mT_X2_orderOf : Cond.static yX2_orderOf ∈ UW := List.mem_filter.mpr ⟨List.mem_of_getElem? (i := 486) (by decide +kernel), by decide +kernel⟩
theorem mC_X2_orderOf : Cond.code yX2_orderOf cX2_orderOf 4 (some .int) ∈ UW := List.mem_filter.mpr ⟨List.mem_of_getElem? (i := 487) (by decide +kernel), by decide +kernel⟩
theorem mM_X5_204 : Cond.methodLink RX5 204 yX2_hasEachOnce ∈ UW := List.mem_filter.mpr ⟨List.mem_of_getElem? (i := 488) (by decide +kernel), by decide +kernel⟩
theorem mT_X2_hasEachOnce : Cond.static yX2_hasEachOnce ∈ UW := List.mem_filter.mpr ⟨List.mem_of_getElem? (i := 489) (by decide +kernel), by decide +kernel⟩
theorem mC_X2_hasEachOnce : Cond.code yX2_hasEachOnce cX2_hasEachOnce 3 (some .boolean) ∈ UW := List.mem_filter.mpr ⟨List.mem_of_getElem? (i := 490) (by decide +kernel), by decide +kernel⟩
theorem mM_X2_18 : Cond.methodLink RX2 18 yX2_cellAt ∈ UW := List.mem_filter.mpr ⟨List.mem_of_getElem? (i := 491) (by decide +kernel), by decide +kernel⟩
theorem mT_X2_cellAt : Cond.static yX2_cellAt ∈ UW := List.mem_filter.mpr ⟨List.mem_of_getElem? (i := 492) (by decide +kernel), by decide +kernel⟩
theorem mC_X2_cellAt : Cond.code yX2_cellAt cX2_cellAt 2 (some .int) ∈ UW := List.mem_filter.mpr ⟨List.mem_of_getElem? (i := 493) (by decide +kernel), by decide +kernel⟩
theorem mM_X5_207 : Cond.methodLink RX5 207 yX2_observe ∈ UW := List.mem_filter.mpr ⟨List.mem_of_getElem? (i := 494) (by decide +kernel), by decide +kernel⟩
theorem mI_X2_observe : Cond.instanceMethod yX2_observe ∈ UW := List.mem_filter.mpr ⟨List.mem_of_getElem? (i := 495) (by decide +kernel), by decide +kernel⟩
theorem mS_X2_observe : Cond.selects RX2 yX2_observe yX2_observe ∈ UW := List.mem_filter.mpr ⟨List.mem_of_getElem? (i := 496) (by decide +kernel), by decide +kernel⟩
theorem mC_X2_observe : Cond.code yX2_observe cX2_observe 8 none ∈ UW := List.mem_filter.mpr ⟨List.mem_of_getElem? (i := 497) (by decide +kernel), by decide +kernel⟩
theorem mM_X2_22 : Cond.methodLink RX2 22 yJ7_fill_53178 ∈ UW := List.mem_filter.mpr ⟨List.mem_of_getElem? (i := 498) (by decide +kernel), by decide +kernel⟩
theorem mM_X2_28 : Cond.methodLink RX2 28 yX1_howMany ∈ UW := List.mem_filter.mpr ⟨List.mem_of_getElem? (i := 499) (by decide +kernel), by decide +kernel⟩
theorem mM_X2_34 : Cond.methodLink RX2 34 yX1_setOf ∈ UW := List.mem_filter.mpr ⟨List.mem_of_getElem? (i := 500) (by decide +kernel), by decide +kernel⟩
theorem mM_X2_38 : Cond.methodLink RX2 38 yX0_homeOf ∈ UW := List.mem_filter.mpr ⟨List.mem_of_getElem? (i := 501) (by decide +kernel), by decide +kernel⟩
theorem mM_X2_43 : Cond.methodLink RX2 43 yX1_hasMachine ∈ UW := List.mem_filter.mpr ⟨List.mem_of_getElem? (i := 502) (by decide +kernel), by decide +kernel⟩
theorem mM_X2_47 : Cond.methodLink RX2 47 yX0_cellOf ∈ UW := List.mem_filter.mpr ⟨List.mem_of_getElem? (i := 503) (by decide +kernel), by decide +kernel⟩
theorem mM_X2_50 : Cond.methodLink RX2 50 yX1_piecesOf ∈ UW := List.mem_filter.mpr ⟨List.mem_of_getElem? (i := 504) (by decide +kernel), by decide +kernel⟩
theorem mM_X5_211 : Cond.methodLink RX5 211 yX2_wayOf ∈ UW := List.mem_filter.mpr ⟨List.mem_of_getElem? (i := 505) (by decide +kernel), by decide +kernel⟩
theorem mI_X2_wayOf : Cond.instanceMethod yX2_wayOf ∈ UW := List.mem_filter.mpr ⟨List.mem_of_getElem? (i := 506) (by decide +kernel), by decide +kernel⟩
theorem mS_X2_wayOf : Cond.selects RX2 yX2_wayOf yX2_wayOf ∈ UW := List.mem_filter.mpr ⟨List.mem_of_getElem? (i := 507) (by decide +kernel), by decide +kernel⟩
theorem mC_X2_wayOf : Cond.code yX2_wayOf cX2_wayOf 5 (some .int) ∈ UW := List.mem_filter.mpr ⟨List.mem_of_getElem? (i := 508) (by decide +kernel), by decide +kernel⟩
theorem mML_X2_53 : Cond.methodLink RX2 53 Lib.Math.abs.name ∈ UW := List.mem_filter.mpr ⟨List.mem_of_getElem? (i := 509) (by decide +kernel), by decide +kernel⟩
theorem mM_X2_53 : Cond.methodLink RX2 53 yJ9_abs_0f7a4 ∈ UW := List.mem_filter.mpr ⟨List.mem_of_getElem? (i := 509) (by decide +kernel), by decide +kernel⟩
theorem mTL_abs : Cond.static Lib.Math.abs.name ∈ UW := List.mem_filter.mpr ⟨List.mem_of_getElem? (i := 510) (by decide +kernel), by decide +kernel⟩
theorem mT_J9_abs_0f7a4 : Cond.static yJ9_abs_0f7a4 ∈ UW := List.mem_filter.mpr ⟨List.mem_of_getElem? (i := 510) (by decide +kernel), by decide +kernel⟩
theorem mCL_abs : Cond.code Lib.Math.abs.name Lib.Math.abs.code 1 (some .int) ∈ UW := List.mem_filter.mpr ⟨List.mem_of_getElem? (i := 511) (by decide +kernel), by decide +kernel⟩
theorem mC_J9_abs_0f7a4 : Cond.code yJ9_abs_0f7a4 cJ9_abs_0f7a4 1 (some .int) ∈ UW := List.mem_filter.mpr ⟨List.mem_of_getElem? (i := 511) (by decide +kernel), by decide +kernel⟩
theorem mM_L_94 : Cond.methodLink RL 94 yX5_floor ∈ UW := List.mem_filter.mpr ⟨List.mem_of_getElem? (i := 512) (by decide +kernel), by decide +kernel⟩
theorem mI_X5_floor : Cond.instanceMethod yX5_floor ∈ UW := List.mem_filter.mpr ⟨List.mem_of_getElem? (i := 513) (by decide +kernel), by decide +kernel⟩
theorem mS_X5_floor : Cond.selects RX5 yX5_floor yX5_floor ∈ UW := List.mem_filter.mpr ⟨List.mem_of_getElem? (i := 514) (by decide +kernel), by decide +kernel⟩
theorem mC_X5_floor : Cond.code yX5_floor cX5_floor 3 (some .int) ∈ UW := List.mem_filter.mpr ⟨List.mem_of_getElem? (i := 515) (by decide +kernel), by decide +kernel⟩
theorem mM_X5_214 : Cond.methodLink RX5 214 yX2_bestOrder ∈ UW := List.mem_filter.mpr ⟨List.mem_of_getElem? (i := 516) (by decide +kernel), by decide +kernel⟩
theorem mI_X2_bestOrder : Cond.instanceMethod yX2_bestOrder ∈ UW := List.mem_filter.mpr ⟨List.mem_of_getElem? (i := 517) (by decide +kernel), by decide +kernel⟩
theorem mS_X2_bestOrder : Cond.selects RX2 yX2_bestOrder yX2_bestOrder ∈ UW := List.mem_filter.mpr ⟨List.mem_of_getElem? (i := 518) (by decide +kernel), by decide +kernel⟩
theorem mC_X2_bestOrder : Cond.code yX2_bestOrder cX2_bestOrder 5 (some .int) ∈ UW := List.mem_filter.mpr ⟨List.mem_of_getElem? (i := 519) (by decide +kernel), by decide +kernel⟩
theorem mK_X2_58 : Cond.constant RX2 58 (1073741824) ∈ UW := List.mem_filter.mpr ⟨List.mem_of_getElem? (i := 520) (by decide +kernel), by decide +kernel⟩
theorem mM_X2_59 : Cond.methodLink RX2 59 yX2_hasEachOnce ∈ UW := List.mem_filter.mpr ⟨List.mem_of_getElem? (i := 521) (by decide +kernel), by decide +kernel⟩
theorem mM_X2_63 : Cond.methodLink RX2 63 yX2_wayOf ∈ UW := List.mem_filter.mpr ⟨List.mem_of_getElem? (i := 522) (by decide +kernel), by decide +kernel⟩
theorem mM_X5_217 : Cond.methodLink RX5 217 yX2_cellAt ∈ UW := List.mem_filter.mpr ⟨List.mem_of_getElem? (i := 523) (by decide +kernel), by decide +kernel⟩
theorem mM_L_98 : Cond.methodLink RL 98 yX5_keep ∈ UW := List.mem_filter.mpr ⟨List.mem_of_getElem? (i := 524) (by decide +kernel), by decide +kernel⟩
theorem mI_X5_keep : Cond.instanceMethod yX5_keep ∈ UW := List.mem_filter.mpr ⟨List.mem_of_getElem? (i := 525) (by decide +kernel), by decide +kernel⟩
theorem mS_X5_keep : Cond.selects RX5 yX5_keep yX5_keep ∈ UW := List.mem_filter.mpr ⟨List.mem_of_getElem? (i := 526) (by decide +kernel), by decide +kernel⟩
theorem mC_X5_keep : Cond.code yX5_keep cX5_keep 2 (some .int) ∈ UW := List.mem_filter.mpr ⟨List.mem_of_getElem? (i := 527) (by decide +kernel), by decide +kernel⟩
theorem mM_L_102 : Cond.methodLink RL 102 yX5_year ∈ UW := List.mem_filter.mpr ⟨List.mem_of_getElem? (i := 528) (by decide +kernel), by decide +kernel⟩
theorem mI_X5_year : Cond.instanceMethod yX5_year ∈ UW := List.mem_filter.mpr ⟨List.mem_of_getElem? (i := 529) (by decide +kernel), by decide +kernel⟩
theorem mS_X5_year : Cond.selects RX5 yX5_year yX5_year ∈ UW := List.mem_filter.mpr ⟨List.mem_of_getElem? (i := 530) (by decide +kernel), by decide +kernel⟩
theorem mC_X5_year : Cond.code yX5_year cX5_year 2 (some .int) ∈ UW := List.mem_filter.mpr ⟨List.mem_of_getElem? (i := 531) (by decide +kernel), by decide +kernel⟩
theorem mM_X5_220 : Cond.methodLink RX5 220 yX4_howMany ∈ UW := List.mem_filter.mpr ⟨List.mem_of_getElem? (i := 532) (by decide +kernel), by decide +kernel⟩
theorem mI_X4_howMany : Cond.instanceMethod yX4_howMany ∈ UW := List.mem_filter.mpr ⟨List.mem_of_getElem? (i := 533) (by decide +kernel), by decide +kernel⟩
theorem mS_X4_howMany : Cond.selects RX4 yX4_howMany yX4_howMany ∈ UW := List.mem_filter.mpr ⟨List.mem_of_getElem? (i := 534) (by decide +kernel), by decide +kernel⟩
theorem mC_X4_howMany : Cond.code yX4_howMany cX4_howMany 1 (some .int) ∈ UW := List.mem_filter.mpr ⟨List.mem_of_getElem? (i := 535) (by decide +kernel), by decide +kernel⟩
theorem mM_X5_223 : Cond.methodLink RX5 223 yX4_append ∈ UW := List.mem_filter.mpr ⟨List.mem_of_getElem? (i := 536) (by decide +kernel), by decide +kernel⟩
theorem mI_X4_append : Cond.instanceMethod yX4_append ∈ UW := List.mem_filter.mpr ⟨List.mem_of_getElem? (i := 537) (by decide +kernel), by decide +kernel⟩
theorem mS_X4_append : Cond.selects RX4 yX4_append yX4_append ∈ UW := List.mem_filter.mpr ⟨List.mem_of_getElem? (i := 538) (by decide +kernel), by decide +kernel⟩
theorem mC_X4_append : Cond.code yX4_append cX4_append 2 none ∈ UW := List.mem_filter.mpr ⟨List.mem_of_getElem? (i := 539) (by decide +kernel), by decide +kernel⟩
theorem mM_L_106 : Cond.methodLink RL 106 yX5_change ∈ UW := List.mem_filter.mpr ⟨List.mem_of_getElem? (i := 540) (by decide +kernel), by decide +kernel⟩
theorem mI_X5_change : Cond.instanceMethod yX5_change ∈ UW := List.mem_filter.mpr ⟨List.mem_of_getElem? (i := 541) (by decide +kernel), by decide +kernel⟩
theorem mS_X5_change : Cond.selects RX5 yX5_change yX5_change ∈ UW := List.mem_filter.mpr ⟨List.mem_of_getElem? (i := 542) (by decide +kernel), by decide +kernel⟩
theorem mC_X5_change : Cond.code yX5_change cX5_change 3 (some .int) ∈ UW := List.mem_filter.mpr ⟨List.mem_of_getElem? (i := 543) (by decide +kernel), by decide +kernel⟩
theorem mM_X5_227 : Cond.methodLink RX5 227 yX4_costOfMove ∈ UW := List.mem_filter.mpr ⟨List.mem_of_getElem? (i := 544) (by decide +kernel), by decide +kernel⟩
theorem mI_X4_costOfMove : Cond.instanceMethod yX4_costOfMove ∈ UW := List.mem_filter.mpr ⟨List.mem_of_getElem? (i := 545) (by decide +kernel), by decide +kernel⟩
theorem mS_X4_costOfMove : Cond.selects RX4 yX4_costOfMove yX4_costOfMove ∈ UW := List.mem_filter.mpr ⟨List.mem_of_getElem? (i := 546) (by decide +kernel), by decide +kernel⟩
theorem mC_X4_costOfMove : Cond.code yX4_costOfMove cX4_costOfMove 1 (some .int) ∈ UW := List.mem_filter.mpr ⟨List.mem_of_getElem? (i := 547) (by decide +kernel), by decide +kernel⟩
theorem mM_X5_230 : Cond.methodLink RX5 230 yX4_putCostOfMove ∈ UW := List.mem_filter.mpr ⟨List.mem_of_getElem? (i := 548) (by decide +kernel), by decide +kernel⟩
theorem mI_X4_putCostOfMove : Cond.instanceMethod yX4_putCostOfMove ∈ UW := List.mem_filter.mpr ⟨List.mem_of_getElem? (i := 549) (by decide +kernel), by decide +kernel⟩
theorem mS_X4_putCostOfMove : Cond.selects RX4 yX4_putCostOfMove yX4_putCostOfMove ∈ UW := List.mem_filter.mpr ⟨List.mem_of_getElem? (i := 550) (by decide +kernel), by decide +kernel⟩
theorem mC_X4_putCostOfMove : Cond.code yX4_putCostOfMove cX4_putCostOfMove 2 none ∈ UW := List.mem_filter.mpr ⟨List.mem_of_getElem? (i := 551) (by decide +kernel), by decide +kernel⟩
theorem mM_L_110 : Cond.methodLink RL 110 yX5_plan ∈ UW := List.mem_filter.mpr ⟨List.mem_of_getElem? (i := 552) (by decide +kernel), by decide +kernel⟩
theorem mI_X5_plan : Cond.instanceMethod yX5_plan ∈ UW := List.mem_filter.mpr ⟨List.mem_of_getElem? (i := 553) (by decide +kernel), by decide +kernel⟩
theorem mS_X5_plan : Cond.selects RX5 yX5_plan yX5_plan ∈ UW := List.mem_filter.mpr ⟨List.mem_of_getElem? (i := 554) (by decide +kernel), by decide +kernel⟩
theorem mC_X5_plan : Cond.code yX5_plan cX5_plan 2 (some .int) ∈ UW := List.mem_filter.mpr ⟨List.mem_of_getElem? (i := 555) (by decide +kernel), by decide +kernel⟩
theorem mM_X5_233 : Cond.methodLink RX5 233 yX4_cheapest ∈ UW := List.mem_filter.mpr ⟨List.mem_of_getElem? (i := 556) (by decide +kernel), by decide +kernel⟩
theorem mI_X4_cheapest : Cond.instanceMethod yX4_cheapest ∈ UW := List.mem_filter.mpr ⟨List.mem_of_getElem? (i := 557) (by decide +kernel), by decide +kernel⟩
theorem mS_X4_cheapest : Cond.selects RX4 yX4_cheapest yX4_cheapest ∈ UW := List.mem_filter.mpr ⟨List.mem_of_getElem? (i := 558) (by decide +kernel), by decide +kernel⟩
theorem mC_X4_cheapest : Cond.code yX4_cheapest cX4_cheapest 5 (some .int) ∈ UW := List.mem_filter.mpr ⟨List.mem_of_getElem? (i := 559) (by decide +kernel), by decide +kernel⟩
theorem mM_X4_28 : Cond.methodLink RX4 28 yX4_leastTo ∈ UW := List.mem_filter.mpr ⟨List.mem_of_getElem? (i := 560) (by decide +kernel), by decide +kernel⟩
theorem mI_X4_leastTo : Cond.instanceMethod yX4_leastTo ∈ UW := List.mem_filter.mpr ⟨List.mem_of_getElem? (i := 562) (by decide +kernel), by decide +kernel⟩
theorem mC_X4_leastTo : Cond.code yX4_leastTo cX4_leastTo 6 (some .int) ∈ UW := List.mem_filter.mpr ⟨List.mem_of_getElem? (i := 563) (by decide +kernel), by decide +kernel⟩
theorem mK_X4_44 : Cond.constant RX4 44 (1073741824) ∈ UW := List.mem_filter.mpr ⟨List.mem_of_getElem? (i := 564) (by decide +kernel), by decide +kernel⟩
theorem mM_X4_45 : Cond.methodLink RX4 45 yX0_moved ∈ UW := List.mem_filter.mpr ⟨List.mem_of_getElem? (i := 565) (by decide +kernel), by decide +kernel⟩
theorem mT_X0_moved : Cond.static yX0_moved ∈ UW := List.mem_filter.mpr ⟨List.mem_of_getElem? (i := 566) (by decide +kernel), by decide +kernel⟩
theorem mC_X0_moved : Cond.code yX0_moved cX0_moved 4 (some .int) ∈ UW := List.mem_filter.mpr ⟨List.mem_of_getElem? (i := 567) (by decide +kernel), by decide +kernel⟩
theorem mML_X4_38 : Cond.methodLink RX4 38 Lib.Math.min.name ∈ UW := List.mem_filter.mpr ⟨List.mem_of_getElem? (i := 568) (by decide +kernel), by decide +kernel⟩
theorem mM_X4_38 : Cond.methodLink RX4 38 yJ9_min_7cf53 ∈ UW := List.mem_filter.mpr ⟨List.mem_of_getElem? (i := 568) (by decide +kernel), by decide +kernel⟩
theorem mTL_min : Cond.static Lib.Math.min.name ∈ UW := List.mem_filter.mpr ⟨List.mem_of_getElem? (i := 569) (by decide +kernel), by decide +kernel⟩
theorem mT_J9_min_7cf53 : Cond.static yJ9_min_7cf53 ∈ UW := List.mem_filter.mpr ⟨List.mem_of_getElem? (i := 569) (by decide +kernel), by decide +kernel⟩
theorem mCL_min : Cond.code Lib.Math.min.name Lib.Math.min.code 2 (some .int) ∈ UW := List.mem_filter.mpr ⟨List.mem_of_getElem? (i := 570) (by decide +kernel), by decide +kernel⟩
theorem mC_J9_min_7cf53 : Cond.code yJ9_min_7cf53 cJ9_min_7cf53 2 (some .int) ∈ UW := List.mem_filter.mpr ⟨List.mem_of_getElem? (i := 570) (by decide +kernel), by decide +kernel⟩
theorem mM_X4_32 : Cond.methodLink RX4 32 ⟨"java/lang/System", "arraycopy", "(Ljava/lang/Object;ILjava/lang/Object;II)V"⟩ ∈ UW := List.mem_filter.mpr ⟨List.mem_of_getElem? (i := 571) (by decide +kernel), by decide +kernel⟩
theorem mT_java_lang_System_arraycopy : Cond.static ⟨"java/lang/System", "arraycopy", "(Ljava/lang/Object;ILjava/lang/Object;II)V"⟩ ∈ UW := List.mem_filter.mpr ⟨List.mem_of_getElem? (i := 572) (by decide +kernel), by decide +kernel⟩
theorem mNat_arraycopy : Cond.native arraycopyName ∈ UW := List.mem_filter.mpr ⟨List.mem_of_getElem? (i := 573) (by decide +kernel), by decide +kernel⟩
theorem mM_L_114 : Cond.methodLink RL 114 yX5_count ∈ UW := List.mem_filter.mpr ⟨List.mem_of_getElem? (i := 574) (by decide +kernel), by decide +kernel⟩
theorem mI_X5_count : Cond.instanceMethod yX5_count ∈ UW := List.mem_filter.mpr ⟨List.mem_of_getElem? (i := 575) (by decide +kernel), by decide +kernel⟩
theorem mS_X5_count : Cond.selects RX5 yX5_count yX5_count ∈ UW := List.mem_filter.mpr ⟨List.mem_of_getElem? (i := 576) (by decide +kernel), by decide +kernel⟩
theorem mC_X5_count : Cond.code yX5_count cX5_count 2 (some .int) ∈ UW := List.mem_filter.mpr ⟨List.mem_of_getElem? (i := 577) (by decide +kernel), by decide +kernel⟩
theorem mM_L_118 : Cond.methodLink RL 118 yX5_trace ∈ UW := List.mem_filter.mpr ⟨List.mem_of_getElem? (i := 578) (by decide +kernel), by decide +kernel⟩
theorem mI_X5_trace : Cond.instanceMethod yX5_trace ∈ UW := List.mem_filter.mpr ⟨List.mem_of_getElem? (i := 579) (by decide +kernel), by decide +kernel⟩
theorem mS_X5_trace : Cond.selects RX5 yX5_trace yX5_trace ∈ UW := List.mem_filter.mpr ⟨List.mem_of_getElem? (i := 580) (by decide +kernel), by decide +kernel⟩
theorem mC_X5_trace : Cond.code yX5_trace cX5_trace 1 (some .long) ∈ UW := List.mem_filter.mpr ⟨List.mem_of_getElem? (i := 581) (by decide +kernel), by decide +kernel⟩
theorem mL_L_10 : Cond.classLink RL 10 RX6 ∈ UW := List.mem_filter.mpr ⟨List.mem_of_getElem? (i := 582) (by decide +kernel), by decide +kernel⟩
theorem mO_X6 : Cond.instantiable RX6 21 ∈ UW := List.mem_filter.mpr ⟨List.mem_of_getElem? (i := 583) (by decide +kernel), by decide +kernel⟩
theorem mM_L_12 : Cond.methodLink RL 12 yX6_init ∈ UW := List.mem_filter.mpr ⟨List.mem_of_getElem? (i := 584) (by decide +kernel), by decide +kernel⟩
theorem mI_X6_init : Cond.instanceMethod yX6_init ∈ UW := List.mem_filter.mpr ⟨List.mem_of_getElem? (i := 585) (by decide +kernel), by decide +kernel⟩
theorem mC_X6_init : Cond.code yX6_init cX6_init 1 none ∈ UW := List.mem_filter.mpr ⟨List.mem_of_getElem? (i := 586) (by decide +kernel), by decide +kernel⟩
theorem mM_X6_1 : Cond.methodLink RX6 1 objectInit ∈ UW := List.mem_filter.mpr ⟨List.mem_of_getElem? (i := 587) (by decide +kernel), by decide +kernel⟩
theorem mM_X6_62 : Cond.methodLink RX6 62 yX6_begins ∈ UW := List.mem_filter.mpr ⟨List.mem_of_getElem? (i := 588) (by decide +kernel), by decide +kernel⟩
theorem mI_X6_begins : Cond.instanceMethod yX6_begins ∈ UW := List.mem_filter.mpr ⟨List.mem_of_getElem? (i := 590) (by decide +kernel), by decide +kernel⟩
theorem mC_X6_begins : Cond.code yX6_begins cX6_begins 4 none ∈ UW := List.mem_filter.mpr ⟨List.mem_of_getElem? (i := 591) (by decide +kernel), by decide +kernel⟩
theorem mF_X6_66 : Cond.fieldLink RX6 66 "PartCellsModel" "thrown" "I" ∈ UW := List.mem_filter.mpr ⟨List.mem_of_getElem? (i := 592) (by decide +kernel), by decide +kernel⟩
theorem mF_X6_107 : Cond.fieldLink RX6 107 "PartCellsModel" "trace" "J" ∈ UW := List.mem_filter.mpr ⟨List.mem_of_getElem? (i := 593) (by decide +kernel), by decide +kernel⟩
theorem mF_X6_7 : Cond.fieldLink RX6 7 "PartCellsModel" "machines" "I" ∈ UW := List.mem_filter.mpr ⟨List.mem_of_getElem? (i := 594) (by decide +kernel), by decide +kernel⟩
theorem mF_X6_13 : Cond.fieldLink RX6 13 "PartCellsModel" "parts" "I" ∈ UW := List.mem_filter.mpr ⟨List.mem_of_getElem? (i := 595) (by decide +kernel), by decide +kernel⟩
theorem mF_X6_16 : Cond.fieldLink RX6 16 "PartCellsModel" "route" "[I" ∈ UW := List.mem_filter.mpr ⟨List.mem_of_getElem? (i := 596) (by decide +kernel), by decide +kernel⟩
theorem mF_X6_20 : Cond.fieldLink RX6 20 "PartCellsModel" "which" "[I" ∈ UW := List.mem_filter.mpr ⟨List.mem_of_getElem? (i := 597) (by decide +kernel), by decide +kernel⟩
theorem mF_X6_23 : Cond.fieldLink RX6 23 "PartCellsModel" "pieces" "[I" ∈ UW := List.mem_filter.mpr ⟨List.mem_of_getElem? (i := 598) (by decide +kernel), by decide +kernel⟩
theorem mF_X6_26 : Cond.fieldLink RX6 26 "PartCellsModel" "bears" "[I" ∈ UW := List.mem_filter.mpr ⟨List.mem_of_getElem? (i := 599) (by decide +kernel), by decide +kernel⟩
theorem mF_X6_29 : Cond.fieldLink RX6 29 "PartCellsModel" "price" "[I" ∈ UW := List.mem_filter.mpr ⟨List.mem_of_getElem? (i := 600) (by decide +kernel), by decide +kernel⟩
theorem mF_X6_69 : Cond.fieldLink RX6 69 "PartCellsModel" "number" "I" ∈ UW := List.mem_filter.mpr ⟨List.mem_of_getElem? (i := 601) (by decide +kernel), by decide +kernel⟩
theorem mF_X6_32 : Cond.fieldLink RX6 32 "PartCellsModel" "shelf" "[I" ∈ UW := List.mem_filter.mpr ⟨List.mem_of_getElem? (i := 602) (by decide +kernel), by decide +kernel⟩
theorem mF_X6_151 : Cond.fieldLink RX6 151 "PartCellsModel" "years" "I" ∈ UW := List.mem_filter.mpr ⟨List.mem_of_getElem? (i := 603) (by decide +kernel), by decide +kernel⟩
theorem mF_X6_35 : Cond.fieldLink RX6 35 "PartCellsModel" "weight" "[I" ∈ UW := List.mem_filter.mpr ⟨List.mem_of_getElem? (i := 604) (by decide +kernel), by decide +kernel⟩
theorem mF_X6_38 : Cond.fieldLink RX6 38 "PartCellsModel" "change" "I" ∈ UW := List.mem_filter.mpr ⟨List.mem_of_getElem? (i := 605) (by decide +kernel), by decide +kernel⟩
theorem mF_X6_41 : Cond.fieldLink RX6 41 "PartCellsModel" "heap" "[I" ∈ UW := List.mem_filter.mpr ⟨List.mem_of_getElem? (i := 606) (by decide +kernel), by decide +kernel⟩
theorem mF_X6_44 : Cond.fieldLink RX6 44 "PartCellsModel" "told" "[I" ∈ UW := List.mem_filter.mpr ⟨List.mem_of_getElem? (i := 607) (by decide +kernel), by decide +kernel⟩
theorem mF_X6_47 : Cond.fieldLink RX6 47 "PartCellsModel" "most" "[I" ∈ UW := List.mem_filter.mpr ⟨List.mem_of_getElem? (i := 608) (by decide +kernel), by decide +kernel⟩
theorem mF_X6_50 : Cond.fieldLink RX6 50 "PartCellsModel" "place" "[I" ∈ UW := List.mem_filter.mpr ⟨List.mem_of_getElem? (i := 609) (by decide +kernel), by decide +kernel⟩
theorem mF_X6_53 : Cond.fieldLink RX6 53 "PartCellsModel" "best" "[I" ∈ UW := List.mem_filter.mpr ⟨List.mem_of_getElem? (i := 610) (by decide +kernel), by decide +kernel⟩
theorem mF_X6_56 : Cond.fieldLink RX6 56 "PartCellsModel" "cost" "[I" ∈ UW := List.mem_filter.mpr ⟨List.mem_of_getElem? (i := 611) (by decide +kernel), by decide +kernel⟩
theorem mF_X6_59 : Cond.fieldLink RX6 59 "PartCellsModel" "next" "[I" ∈ UW := List.mem_filter.mpr ⟨List.mem_of_getElem? (i := 612) (by decide +kernel), by decide +kernel⟩
theorem mY_X6_thrown : Cond.lays RX6 "PartCellsModel" "thrown" "I" ∈ UW := List.mem_filter.mpr ⟨List.mem_of_getElem? (i := 613) (by decide +kernel), by decide +kernel⟩
theorem mY_X6_trace : Cond.lays RX6 "PartCellsModel" "trace" "J" ∈ UW := List.mem_filter.mpr ⟨List.mem_of_getElem? (i := 615) (by decide +kernel), by decide +kernel⟩
theorem mY_X6_machines : Cond.lays RX6 "PartCellsModel" "machines" "I" ∈ UW := List.mem_filter.mpr ⟨List.mem_of_getElem? (i := 617) (by decide +kernel), by decide +kernel⟩
theorem mY_X6_parts : Cond.lays RX6 "PartCellsModel" "parts" "I" ∈ UW := List.mem_filter.mpr ⟨List.mem_of_getElem? (i := 619) (by decide +kernel), by decide +kernel⟩
theorem mY_X6_route : Cond.laysFinal RX6 "PartCellsModel" "route" "[I" ∈ UW := List.mem_filter.mpr ⟨List.mem_of_getElem? (i := 621) (by decide +kernel), by decide +kernel⟩
theorem mY_X6_which : Cond.laysFinal RX6 "PartCellsModel" "which" "[I" ∈ UW := List.mem_filter.mpr ⟨List.mem_of_getElem? (i := 623) (by decide +kernel), by decide +kernel⟩
theorem mY_X6_pieces : Cond.laysFinal RX6 "PartCellsModel" "pieces" "[I" ∈ UW := List.mem_filter.mpr ⟨List.mem_of_getElem? (i := 625) (by decide +kernel), by decide +kernel⟩
theorem mY_X6_bears : Cond.laysFinal RX6 "PartCellsModel" "bears" "[I" ∈ UW := List.mem_filter.mpr ⟨List.mem_of_getElem? (i := 627) (by decide +kernel), by decide +kernel⟩
theorem mY_X6_price : Cond.laysFinal RX6 "PartCellsModel" "price" "[I" ∈ UW := List.mem_filter.mpr ⟨List.mem_of_getElem? (i := 629) (by decide +kernel), by decide +kernel⟩
theorem mY_X6_number : Cond.lays RX6 "PartCellsModel" "number" "I" ∈ UW := List.mem_filter.mpr ⟨List.mem_of_getElem? (i := 631) (by decide +kernel), by decide +kernel⟩
theorem mY_X6_shelf : Cond.laysFinal RX6 "PartCellsModel" "shelf" "[I" ∈ UW := List.mem_filter.mpr ⟨List.mem_of_getElem? (i := 633) (by decide +kernel), by decide +kernel⟩
theorem mY_X6_years : Cond.lays RX6 "PartCellsModel" "years" "I" ∈ UW := List.mem_filter.mpr ⟨List.mem_of_getElem? (i := 635) (by decide +kernel), by decide +kernel⟩
theorem mY_X6_weight : Cond.laysFinal RX6 "PartCellsModel" "weight" "[I" ∈ UW := List.mem_filter.mpr ⟨List.mem_of_getElem? (i := 637) (by decide +kernel), by decide +kernel⟩
theorem mY_X6_change : Cond.lays RX6 "PartCellsModel" "change" "I" ∈ UW := List.mem_filter.mpr ⟨List.mem_of_getElem? (i := 639) (by decide +kernel), by decide +kernel⟩
theorem mY_X6_heap : Cond.laysFinal RX6 "PartCellsModel" "heap" "[I" ∈ UW := List.mem_filter.mpr ⟨List.mem_of_getElem? (i := 641) (by decide +kernel), by decide +kernel⟩
theorem mY_X6_told : Cond.laysFinal RX6 "PartCellsModel" "told" "[I" ∈ UW := List.mem_filter.mpr ⟨List.mem_of_getElem? (i := 643) (by decide +kernel), by decide +kernel⟩
theorem mY_X6_most : Cond.laysFinal RX6 "PartCellsModel" "most" "[I" ∈ UW := List.mem_filter.mpr ⟨List.mem_of_getElem? (i := 645) (by decide +kernel), by decide +kernel⟩
theorem mY_X6_place : Cond.laysFinal RX6 "PartCellsModel" "place" "[I" ∈ UW := List.mem_filter.mpr ⟨List.mem_of_getElem? (i := 647) (by decide +kernel), by decide +kernel⟩
theorem mY_X6_best : Cond.laysFinal RX6 "PartCellsModel" "best" "[I" ∈ UW := List.mem_filter.mpr ⟨List.mem_of_getElem? (i := 649) (by decide +kernel), by decide +kernel⟩
theorem mY_X6_cost : Cond.laysFinal RX6 "PartCellsModel" "cost" "[I" ∈ UW := List.mem_filter.mpr ⟨List.mem_of_getElem? (i := 651) (by decide +kernel), by decide +kernel⟩
theorem mY_X6_next : Cond.laysFinal RX6 "PartCellsModel" "next" "[I" ∈ UW := List.mem_filter.mpr ⟨List.mem_of_getElem? (i := 653) (by decide +kernel), by decide +kernel⟩
theorem mM_L_17 : Cond.methodLink RL 17 yX6_works ∈ UW := List.mem_filter.mpr ⟨List.mem_of_getElem? (i := 656) (by decide +kernel), by decide +kernel⟩
theorem mI_X6_works : Cond.instanceMethod yX6_works ∈ UW := List.mem_filter.mpr ⟨List.mem_of_getElem? (i := 657) (by decide +kernel), by decide +kernel⟩
theorem mS_X6_works : Cond.selects RX6 yX6_works yX6_works ∈ UW := List.mem_filter.mpr ⟨List.mem_of_getElem? (i := 658) (by decide +kernel), by decide +kernel⟩
theorem mC_X6_works : Cond.code yX6_works cX6_works 4 (some .int) ∈ UW := List.mem_filter.mpr ⟨List.mem_of_getElem? (i := 659) (by decide +kernel), by decide +kernel⟩
theorem mM_X6_72 : Cond.methodLink RX6 72 yX6_in ∈ UW := List.mem_filter.mpr ⟨List.mem_of_getElem? (i := 660) (by decide +kernel), by decide +kernel⟩
theorem mT_X6_in : Cond.static yX6_in ∈ UW := List.mem_filter.mpr ⟨List.mem_of_getElem? (i := 661) (by decide +kernel), by decide +kernel⟩
theorem mC_X6_in : Cond.code yX6_in cX6_in 3 (some .boolean) ∈ UW := List.mem_filter.mpr ⟨List.mem_of_getElem? (i := 662) (by decide +kernel), by decide +kernel⟩
theorem mM_L_22 : Cond.methodLink RL 22 yX6_route ∈ UW := List.mem_filter.mpr ⟨List.mem_of_getElem? (i := 663) (by decide +kernel), by decide +kernel⟩
theorem mI_X6_route : Cond.instanceMethod yX6_route ∈ UW := List.mem_filter.mpr ⟨List.mem_of_getElem? (i := 664) (by decide +kernel), by decide +kernel⟩
theorem mS_X6_route : Cond.selects RX6 yX6_route yX6_route ∈ UW := List.mem_filter.mpr ⟨List.mem_of_getElem? (i := 665) (by decide +kernel), by decide +kernel⟩
theorem mC_X6_route : Cond.code yX6_route cX6_route 5 (some .int) ∈ UW := List.mem_filter.mpr ⟨List.mem_of_getElem? (i := 666) (by decide +kernel), by decide +kernel⟩
theorem mM_X6_76 : Cond.methodLink RX6 76 yX6_isPart ∈ UW := List.mem_filter.mpr ⟨List.mem_of_getElem? (i := 667) (by decide +kernel), by decide +kernel⟩
theorem mI_X6_isPart : Cond.instanceMethod yX6_isPart ∈ UW := List.mem_filter.mpr ⟨List.mem_of_getElem? (i := 669) (by decide +kernel), by decide +kernel⟩
theorem mC_X6_isPart : Cond.code yX6_isPart cX6_isPart 2 (some .boolean) ∈ UW := List.mem_filter.mpr ⟨List.mem_of_getElem? (i := 670) (by decide +kernel), by decide +kernel⟩
theorem mM_L_26 : Cond.methodLink RL 26 yX6_goes ∈ UW := List.mem_filter.mpr ⟨List.mem_of_getElem? (i := 671) (by decide +kernel), by decide +kernel⟩
theorem mI_X6_goes : Cond.instanceMethod yX6_goes ∈ UW := List.mem_filter.mpr ⟨List.mem_of_getElem? (i := 672) (by decide +kernel), by decide +kernel⟩
theorem mS_X6_goes : Cond.selects RX6 yX6_goes yX6_goes ∈ UW := List.mem_filter.mpr ⟨List.mem_of_getElem? (i := 673) (by decide +kernel), by decide +kernel⟩
theorem mC_X6_goes : Cond.code yX6_goes cX6_goes 4 (some .int) ∈ UW := List.mem_filter.mpr ⟨List.mem_of_getElem? (i := 674) (by decide +kernel), by decide +kernel⟩
theorem mM_L_30 : Cond.methodLink RL 30 yX6_pieces ∈ UW := List.mem_filter.mpr ⟨List.mem_of_getElem? (i := 675) (by decide +kernel), by decide +kernel⟩
theorem mI_X6_pieces : Cond.instanceMethod yX6_pieces ∈ UW := List.mem_filter.mpr ⟨List.mem_of_getElem? (i := 676) (by decide +kernel), by decide +kernel⟩
theorem mS_X6_pieces : Cond.selects RX6 yX6_pieces yX6_pieces ∈ UW := List.mem_filter.mpr ⟨List.mem_of_getElem? (i := 677) (by decide +kernel), by decide +kernel⟩
theorem mC_X6_pieces : Cond.code yX6_pieces cX6_pieces 4 (some .int) ∈ UW := List.mem_filter.mpr ⟨List.mem_of_getElem? (i := 678) (by decide +kernel), by decide +kernel⟩
theorem mM_L_34 : Cond.methodLink RL 34 yX6_cell ∈ UW := List.mem_filter.mpr ⟨List.mem_of_getElem? (i := 679) (by decide +kernel), by decide +kernel⟩
theorem mI_X6_cell : Cond.instanceMethod yX6_cell ∈ UW := List.mem_filter.mpr ⟨List.mem_of_getElem? (i := 680) (by decide +kernel), by decide +kernel⟩
theorem mS_X6_cell : Cond.selects RX6 yX6_cell yX6_cell ∈ UW := List.mem_filter.mpr ⟨List.mem_of_getElem? (i := 681) (by decide +kernel), by decide +kernel⟩
theorem mC_X6_cell : Cond.code yX6_cell cX6_cell 4 (some .int) ∈ UW := List.mem_filter.mpr ⟨List.mem_of_getElem? (i := 682) (by decide +kernel), by decide +kernel⟩
theorem mM_X6_80 : Cond.methodLink RX6 80 yX6_isMachine ∈ UW := List.mem_filter.mpr ⟨List.mem_of_getElem? (i := 683) (by decide +kernel), by decide +kernel⟩
theorem mI_X6_isMachine : Cond.instanceMethod yX6_isMachine ∈ UW := List.mem_filter.mpr ⟨List.mem_of_getElem? (i := 685) (by decide +kernel), by decide +kernel⟩
theorem mC_X6_isMachine : Cond.code yX6_isMachine cX6_isMachine 2 (some .boolean) ∈ UW := List.mem_filter.mpr ⟨List.mem_of_getElem? (i := 686) (by decide +kernel), by decide +kernel⟩
theorem mM_X6_83 : Cond.methodLink RX6 83 yX6_cellOf ∈ UW := List.mem_filter.mpr ⟨List.mem_of_getElem? (i := 687) (by decide +kernel), by decide +kernel⟩
theorem mT_X6_cellOf : Cond.static yX6_cellOf ∈ UW := List.mem_filter.mpr ⟨List.mem_of_getElem? (i := 688) (by decide +kernel), by decide +kernel⟩
theorem mC_X6_cellOf : Cond.code yX6_cellOf cX6_cellOf 2 (some .int) ∈ UW := List.mem_filter.mpr ⟨List.mem_of_getElem? (i := 689) (by decide +kernel), by decide +kernel⟩
theorem mM_X6_87 : Cond.methodLink RX6 87 yX6_power ∈ UW := List.mem_filter.mpr ⟨List.mem_of_getElem? (i := 690) (by decide +kernel), by decide +kernel⟩
theorem mT_X6_power : Cond.static yX6_power ∈ UW := List.mem_filter.mpr ⟨List.mem_of_getElem? (i := 691) (by decide +kernel), by decide +kernel⟩
theorem mC_X6_power : Cond.code yX6_power cX6_power 1 (some .int) ∈ UW := List.mem_filter.mpr ⟨List.mem_of_getElem? (i := 692) (by decide +kernel), by decide +kernel⟩
theorem mM_L_39 : Cond.methodLink RL 39 yX6_group ∈ UW := List.mem_filter.mpr ⟨List.mem_of_getElem? (i := 693) (by decide +kernel), by decide +kernel⟩
theorem mI_X6_group : Cond.instanceMethod yX6_group ∈ UW := List.mem_filter.mpr ⟨List.mem_of_getElem? (i := 694) (by decide +kernel), by decide +kernel⟩
theorem mS_X6_group : Cond.selects RX6 yX6_group yX6_group ∈ UW := List.mem_filter.mpr ⟨List.mem_of_getElem? (i := 695) (by decide +kernel), by decide +kernel⟩
theorem mC_X6_group : Cond.code yX6_group cX6_group 3 (some .int) ∈ UW := List.mem_filter.mpr ⟨List.mem_of_getElem? (i := 696) (by decide +kernel), by decide +kernel⟩
theorem mM_L_43 : Cond.methodLink RL 43 yX6_about ∈ UW := List.mem_filter.mpr ⟨List.mem_of_getElem? (i := 697) (by decide +kernel), by decide +kernel⟩
theorem mI_X6_about : Cond.instanceMethod yX6_about ∈ UW := List.mem_filter.mpr ⟨List.mem_of_getElem? (i := 698) (by decide +kernel), by decide +kernel⟩
theorem mS_X6_about : Cond.selects RX6 yX6_about yX6_about ∈ UW := List.mem_filter.mpr ⟨List.mem_of_getElem? (i := 699) (by decide +kernel), by decide +kernel⟩
theorem mC_X6_about : Cond.code yX6_about cX6_about 3 (some .int) ∈ UW := List.mem_filter.mpr ⟨List.mem_of_getElem? (i := 700) (by decide +kernel), by decide +kernel⟩
theorem mM_X6_98 : Cond.methodLink RX6 98 yX6_setOf ∈ UW := List.mem_filter.mpr ⟨List.mem_of_getElem? (i := 701) (by decide +kernel), by decide +kernel⟩
theorem mI_X6_setOf : Cond.instanceMethod yX6_setOf ∈ UW := List.mem_filter.mpr ⟨List.mem_of_getElem? (i := 703) (by decide +kernel), by decide +kernel⟩
theorem mC_X6_setOf : Cond.code yX6_setOf cX6_setOf 2 (some .int) ∈ UW := List.mem_filter.mpr ⟨List.mem_of_getElem? (i := 704) (by decide +kernel), by decide +kernel⟩
theorem mM_X6_95 : Cond.methodLink RX6 95 yX6_homeOf ∈ UW := List.mem_filter.mpr ⟨List.mem_of_getElem? (i := 705) (by decide +kernel), by decide +kernel⟩
theorem mI_X6_homeOf : Cond.instanceMethod yX6_homeOf ∈ UW := List.mem_filter.mpr ⟨List.mem_of_getElem? (i := 707) (by decide +kernel), by decide +kernel⟩
theorem mC_X6_homeOf : Cond.code yX6_homeOf cX6_homeOf 5 (some .int) ∈ UW := List.mem_filter.mpr ⟨List.mem_of_getElem? (i := 708) (by decide +kernel), by decide +kernel⟩
theorem mM_X6_91 : Cond.methodLink RX6 91 yX6_inCell ∈ UW := List.mem_filter.mpr ⟨List.mem_of_getElem? (i := 709) (by decide +kernel), by decide +kernel⟩
theorem mI_X6_inCell : Cond.instanceMethod yX6_inCell ∈ UW := List.mem_filter.mpr ⟨List.mem_of_getElem? (i := 711) (by decide +kernel), by decide +kernel⟩
theorem mC_X6_inCell : Cond.code yX6_inCell cX6_inCell 6 (some .int) ∈ UW := List.mem_filter.mpr ⟨List.mem_of_getElem? (i := 712) (by decide +kernel), by decide +kernel⟩
theorem mM_X6_101 : Cond.methodLink RX6 101 yX6_wandersOf ∈ UW := List.mem_filter.mpr ⟨List.mem_of_getElem? (i := 713) (by decide +kernel), by decide +kernel⟩
theorem mI_X6_wandersOf : Cond.instanceMethod yX6_wandersOf ∈ UW := List.mem_filter.mpr ⟨List.mem_of_getElem? (i := 715) (by decide +kernel), by decide +kernel⟩
theorem mC_X6_wandersOf : Cond.code yX6_wandersOf cX6_wandersOf 6 (some .int) ∈ UW := List.mem_filter.mpr ⟨List.mem_of_getElem? (i := 716) (by decide +kernel), by decide +kernel⟩
theorem mM_X6_104 : Cond.methodLink RX6 104 yX6_idleOf ∈ UW := List.mem_filter.mpr ⟨List.mem_of_getElem? (i := 717) (by decide +kernel), by decide +kernel⟩
theorem mI_X6_idleOf : Cond.instanceMethod yX6_idleOf ∈ UW := List.mem_filter.mpr ⟨List.mem_of_getElem? (i := 719) (by decide +kernel), by decide +kernel⟩
theorem mC_X6_idleOf : Cond.code yX6_idleOf cX6_idleOf 3 (some .int) ∈ UW := List.mem_filter.mpr ⟨List.mem_of_getElem? (i := 720) (by decide +kernel), by decide +kernel⟩
theorem mM_L_47 : Cond.methodLink RL 47 yX6_loss ∈ UW := List.mem_filter.mpr ⟨List.mem_of_getElem? (i := 721) (by decide +kernel), by decide +kernel⟩
theorem mI_X6_loss : Cond.instanceMethod yX6_loss ∈ UW := List.mem_filter.mpr ⟨List.mem_of_getElem? (i := 722) (by decide +kernel), by decide +kernel⟩
theorem mS_X6_loss : Cond.selects RX6 yX6_loss yX6_loss ∈ UW := List.mem_filter.mpr ⟨List.mem_of_getElem? (i := 723) (by decide +kernel), by decide +kernel⟩
theorem mC_X6_loss : Cond.code yX6_loss cX6_loss 2 (some .int) ∈ UW := List.mem_filter.mpr ⟨List.mem_of_getElem? (i := 724) (by decide +kernel), by decide +kernel⟩
theorem mKL_X6_111 : Cond.constantLong RX6 111 (11) ∈ UW := List.mem_filter.mpr ⟨List.mem_of_getElem? (i := 725) (by decide +kernel), by decide +kernel⟩
theorem mKL_X6_113 : Cond.constantLong RX6 113 (111) ∈ UW := List.mem_filter.mpr ⟨List.mem_of_getElem? (i := 726) (by decide +kernel), by decide +kernel⟩
theorem mM_X6_115 : Cond.methodLink RX6 115 yX6_lossOf ∈ UW := List.mem_filter.mpr ⟨List.mem_of_getElem? (i := 727) (by decide +kernel), by decide +kernel⟩
theorem mI_X6_lossOf : Cond.instanceMethod yX6_lossOf ∈ UW := List.mem_filter.mpr ⟨List.mem_of_getElem? (i := 729) (by decide +kernel), by decide +kernel⟩
theorem mC_X6_lossOf : Cond.code yX6_lossOf cX6_lossOf 6 (some .int) ∈ UW := List.mem_filter.mpr ⟨List.mem_of_getElem? (i := 730) (by decide +kernel), by decide +kernel⟩
theorem mM_L_51 : Cond.methodLink RL 51 yX6_best ∈ UW := List.mem_filter.mpr ⟨List.mem_of_getElem? (i := 731) (by decide +kernel), by decide +kernel⟩
theorem mI_X6_best : Cond.instanceMethod yX6_best ∈ UW := List.mem_filter.mpr ⟨List.mem_of_getElem? (i := 732) (by decide +kernel), by decide +kernel⟩
theorem mS_X6_best : Cond.selects RX6 yX6_best yX6_best ∈ UW := List.mem_filter.mpr ⟨List.mem_of_getElem? (i := 733) (by decide +kernel), by decide +kernel⟩
theorem mC_X6_best : Cond.code yX6_best cX6_best 8 (some .int) ∈ UW := List.mem_filter.mpr ⟨List.mem_of_getElem? (i := 734) (by decide +kernel), by decide +kernel⟩
theorem mM_X6_118 : Cond.methodLink RX6 118 yX6_isPlain ∈ UW := List.mem_filter.mpr ⟨List.mem_of_getElem? (i := 735) (by decide +kernel), by decide +kernel⟩
theorem mI_X6_isPlain : Cond.instanceMethod yX6_isPlain ∈ UW := List.mem_filter.mpr ⟨List.mem_of_getElem? (i := 737) (by decide +kernel), by decide +kernel⟩
theorem mC_X6_isPlain : Cond.code yX6_isPlain cX6_isPlain 6 (some .boolean) ∈ UW := List.mem_filter.mpr ⟨List.mem_of_getElem? (i := 738) (by decide +kernel), by decide +kernel⟩
theorem mM_X6_121 : Cond.methodLink RX6 121 yX6_isWithin ∈ UW := List.mem_filter.mpr ⟨List.mem_of_getElem? (i := 739) (by decide +kernel), by decide +kernel⟩
theorem mI_X6_isWithin : Cond.instanceMethod yX6_isWithin ∈ UW := List.mem_filter.mpr ⟨List.mem_of_getElem? (i := 741) (by decide +kernel), by decide +kernel⟩
theorem mC_X6_isWithin : Cond.code yX6_isWithin cX6_isWithin 5 (some .boolean) ∈ UW := List.mem_filter.mpr ⟨List.mem_of_getElem? (i := 742) (by decide +kernel), by decide +kernel⟩
theorem mM_L_56 : Cond.methodLink RL 56 yX6_plain ∈ UW := List.mem_filter.mpr ⟨List.mem_of_getElem? (i := 743) (by decide +kernel), by decide +kernel⟩
theorem mI_X6_plain : Cond.instanceMethod yX6_plain ∈ UW := List.mem_filter.mpr ⟨List.mem_of_getElem? (i := 744) (by decide +kernel), by decide +kernel⟩
theorem mS_X6_plain : Cond.selects RX6 yX6_plain yX6_plain ∈ UW := List.mem_filter.mpr ⟨List.mem_of_getElem? (i := 745) (by decide +kernel), by decide +kernel⟩
theorem mC_X6_plain : Cond.code yX6_plain cX6_plain 1 (some .int) ∈ UW := List.mem_filter.mpr ⟨List.mem_of_getElem? (i := 746) (by decide +kernel), by decide +kernel⟩
theorem mM_L_60 : Cond.methodLink RL 60 yX6_like ∈ UW := List.mem_filter.mpr ⟨List.mem_of_getElem? (i := 747) (by decide +kernel), by decide +kernel⟩
theorem mI_X6_like : Cond.instanceMethod yX6_like ∈ UW := List.mem_filter.mpr ⟨List.mem_of_getElem? (i := 748) (by decide +kernel), by decide +kernel⟩
theorem mS_X6_like : Cond.selects RX6 yX6_like yX6_like ∈ UW := List.mem_filter.mpr ⟨List.mem_of_getElem? (i := 749) (by decide +kernel), by decide +kernel⟩
theorem mC_X6_like : Cond.code yX6_like cX6_like 4 (some .int) ∈ UW := List.mem_filter.mpr ⟨List.mem_of_getElem? (i := 750) (by decide +kernel), by decide +kernel⟩
theorem mM_X6_125 : Cond.methodLink RX6 125 yX6_bothOf ∈ UW := List.mem_filter.mpr ⟨List.mem_of_getElem? (i := 751) (by decide +kernel), by decide +kernel⟩
theorem mI_X6_bothOf : Cond.instanceMethod yX6_bothOf ∈ UW := List.mem_filter.mpr ⟨List.mem_of_getElem? (i := 753) (by decide +kernel), by decide +kernel⟩
theorem mC_X6_bothOf : Cond.code yX6_bothOf cX6_bothOf 5 (some .int) ∈ UW := List.mem_filter.mpr ⟨List.mem_of_getElem? (i := 754) (by decide +kernel), by decide +kernel⟩
theorem mM_X6_128 : Cond.methodLink RX6 128 yX6_eitherOf ∈ UW := List.mem_filter.mpr ⟨List.mem_of_getElem? (i := 755) (by decide +kernel), by decide +kernel⟩
theorem mI_X6_eitherOf : Cond.instanceMethod yX6_eitherOf ∈ UW := List.mem_filter.mpr ⟨List.mem_of_getElem? (i := 757) (by decide +kernel), by decide +kernel⟩
theorem mC_X6_eitherOf : Cond.code yX6_eitherOf cX6_eitherOf 5 (some .int) ∈ UW := List.mem_filter.mpr ⟨List.mem_of_getElem? (i := 758) (by decide +kernel), by decide +kernel⟩
theorem mM_L_64 : Cond.methodLink RL 64 yX6_join ∈ UW := List.mem_filter.mpr ⟨List.mem_of_getElem? (i := 759) (by decide +kernel), by decide +kernel⟩
theorem mI_X6_join : Cond.instanceMethod yX6_join ∈ UW := List.mem_filter.mpr ⟨List.mem_of_getElem? (i := 760) (by decide +kernel), by decide +kernel⟩
theorem mS_X6_join : Cond.selects RX6 yX6_join yX6_join ∈ UW := List.mem_filter.mpr ⟨List.mem_of_getElem? (i := 761) (by decide +kernel), by decide +kernel⟩
theorem mC_X6_join : Cond.code yX6_join cX6_join 5 (some .int) ∈ UW := List.mem_filter.mpr ⟨List.mem_of_getElem? (i := 762) (by decide +kernel), by decide +kernel⟩
theorem mM_X6_131 : Cond.methodLink RX6 131 yX6_joins ∈ UW := List.mem_filter.mpr ⟨List.mem_of_getElem? (i := 763) (by decide +kernel), by decide +kernel⟩
theorem mI_X6_joins : Cond.instanceMethod yX6_joins ∈ UW := List.mem_filter.mpr ⟨List.mem_of_getElem? (i := 765) (by decide +kernel), by decide +kernel⟩
theorem mC_X6_joins : Cond.code yX6_joins cX6_joins 5 none ∈ UW := List.mem_filter.mpr ⟨List.mem_of_getElem? (i := 766) (by decide +kernel), by decide +kernel⟩
theorem mM_L_68 : Cond.methodLink RL 68 yX6_bears ∈ UW := List.mem_filter.mpr ⟨List.mem_of_getElem? (i := 767) (by decide +kernel), by decide +kernel⟩
theorem mI_X6_bears : Cond.instanceMethod yX6_bears ∈ UW := List.mem_filter.mpr ⟨List.mem_of_getElem? (i := 768) (by decide +kernel), by decide +kernel⟩
theorem mS_X6_bears : Cond.selects RX6 yX6_bears yX6_bears ∈ UW := List.mem_filter.mpr ⟨List.mem_of_getElem? (i := 769) (by decide +kernel), by decide +kernel⟩
theorem mC_X6_bears : Cond.code yX6_bears cX6_bears 4 (some .int) ∈ UW := List.mem_filter.mpr ⟨List.mem_of_getElem? (i := 770) (by decide +kernel), by decide +kernel⟩
theorem mM_L_72 : Cond.methodLink RL 72 yX6_load ∈ UW := List.mem_filter.mpr ⟨List.mem_of_getElem? (i := 771) (by decide +kernel), by decide +kernel⟩
theorem mI_X6_load : Cond.instanceMethod yX6_load ∈ UW := List.mem_filter.mpr ⟨List.mem_of_getElem? (i := 772) (by decide +kernel), by decide +kernel⟩
theorem mS_X6_load : Cond.selects RX6 yX6_load yX6_load ∈ UW := List.mem_filter.mpr ⟨List.mem_of_getElem? (i := 773) (by decide +kernel), by decide +kernel⟩
theorem mC_X6_load : Cond.code yX6_load cX6_load 2 (some .int) ∈ UW := List.mem_filter.mpr ⟨List.mem_of_getElem? (i := 774) (by decide +kernel), by decide +kernel⟩
theorem mM_X6_134 : Cond.methodLink RX6 134 yX6_bits ∈ UW := List.mem_filter.mpr ⟨List.mem_of_getElem? (i := 775) (by decide +kernel), by decide +kernel⟩
theorem mI_X6_bits : Cond.instanceMethod yX6_bits ∈ UW := List.mem_filter.mpr ⟨List.mem_of_getElem? (i := 777) (by decide +kernel), by decide +kernel⟩
theorem mC_X6_bits : Cond.code yX6_bits cX6_bits 3 (some .int) ∈ UW := List.mem_filter.mpr ⟨List.mem_of_getElem? (i := 778) (by decide +kernel), by decide +kernel⟩
theorem mM_X6_138 : Cond.methodLink RX6 138 yX6_loadOf ∈ UW := List.mem_filter.mpr ⟨List.mem_of_getElem? (i := 779) (by decide +kernel), by decide +kernel⟩
theorem mI_X6_loadOf : Cond.instanceMethod yX6_loadOf ∈ UW := List.mem_filter.mpr ⟨List.mem_of_getElem? (i := 781) (by decide +kernel), by decide +kernel⟩
theorem mC_X6_loadOf : Cond.code yX6_loadOf cX6_loadOf 5 (some .int) ∈ UW := List.mem_filter.mpr ⟨List.mem_of_getElem? (i := 782) (by decide +kernel), by decide +kernel⟩
theorem mM_L_76 : Cond.methodLink RL 76 yX6_routes ∈ UW := List.mem_filter.mpr ⟨List.mem_of_getElem? (i := 783) (by decide +kernel), by decide +kernel⟩
theorem mI_X6_routes : Cond.instanceMethod yX6_routes ∈ UW := List.mem_filter.mpr ⟨List.mem_of_getElem? (i := 784) (by decide +kernel), by decide +kernel⟩
theorem mS_X6_routes : Cond.selects RX6 yX6_routes yX6_routes ∈ UW := List.mem_filter.mpr ⟨List.mem_of_getElem? (i := 785) (by decide +kernel), by decide +kernel⟩
theorem mC_X6_routes : Cond.code yX6_routes cX6_routes 8 (some .int) ∈ UW := List.mem_filter.mpr ⟨List.mem_of_getElem? (i := 786) (by decide +kernel), by decide +kernel⟩
theorem mM_L_80 : Cond.methodLink RL 80 yX6_price ∈ UW := List.mem_filter.mpr ⟨List.mem_of_getElem? (i := 787) (by decide +kernel), by decide +kernel⟩
theorem mI_X6_price : Cond.instanceMethod yX6_price ∈ UW := List.mem_filter.mpr ⟨List.mem_of_getElem? (i := 788) (by decide +kernel), by decide +kernel⟩
theorem mS_X6_price : Cond.selects RX6 yX6_price yX6_price ∈ UW := List.mem_filter.mpr ⟨List.mem_of_getElem? (i := 789) (by decide +kernel), by decide +kernel⟩
theorem mC_X6_price : Cond.code yX6_price cX6_price 4 (some .int) ∈ UW := List.mem_filter.mpr ⟨List.mem_of_getElem? (i := 790) (by decide +kernel), by decide +kernel⟩
theorem mM_L_84 : Cond.methodLink RL 84 yX6_copy ∈ UW := List.mem_filter.mpr ⟨List.mem_of_getElem? (i := 791) (by decide +kernel), by decide +kernel⟩
theorem mI_X6_copy : Cond.instanceMethod yX6_copy ∈ UW := List.mem_filter.mpr ⟨List.mem_of_getElem? (i := 792) (by decide +kernel), by decide +kernel⟩
theorem mS_X6_copy : Cond.selects RX6 yX6_copy yX6_copy ∈ UW := List.mem_filter.mpr ⟨List.mem_of_getElem? (i := 793) (by decide +kernel), by decide +kernel⟩
theorem mC_X6_copy : Cond.code yX6_copy cX6_copy 3 (some .int) ∈ UW := List.mem_filter.mpr ⟨List.mem_of_getElem? (i := 794) (by decide +kernel), by decide +kernel⟩
theorem mM_X6_141 : Cond.methodLink RX6 141 yX6_copyOf ∈ UW := List.mem_filter.mpr ⟨List.mem_of_getElem? (i := 795) (by decide +kernel), by decide +kernel⟩
theorem mI_X6_copyOf : Cond.instanceMethod yX6_copyOf ∈ UW := List.mem_filter.mpr ⟨List.mem_of_getElem? (i := 797) (by decide +kernel), by decide +kernel⟩
theorem mC_X6_copyOf : Cond.code yX6_copyOf cX6_copyOf 5 (some .int) ∈ UW := List.mem_filter.mpr ⟨List.mem_of_getElem? (i := 798) (by decide +kernel), by decide +kernel⟩
theorem mM_L_88 : Cond.methodLink RL 88 yX6_saved ∈ UW := List.mem_filter.mpr ⟨List.mem_of_getElem? (i := 799) (by decide +kernel), by decide +kernel⟩
theorem mI_X6_saved : Cond.instanceMethod yX6_saved ∈ UW := List.mem_filter.mpr ⟨List.mem_of_getElem? (i := 800) (by decide +kernel), by decide +kernel⟩
theorem mS_X6_saved : Cond.selects RX6 yX6_saved yX6_saved ∈ UW := List.mem_filter.mpr ⟨List.mem_of_getElem? (i := 801) (by decide +kernel), by decide +kernel⟩
theorem mC_X6_saved : Cond.code yX6_saved cX6_saved 6 (some .int) ∈ UW := List.mem_filter.mpr ⟨List.mem_of_getElem? (i := 802) (by decide +kernel), by decide +kernel⟩
theorem mM_L_93 : Cond.methodLink RL 93 yX6_way ∈ UW := List.mem_filter.mpr ⟨List.mem_of_getElem? (i := 803) (by decide +kernel), by decide +kernel⟩
theorem mI_X6_way : Cond.instanceMethod yX6_way ∈ UW := List.mem_filter.mpr ⟨List.mem_of_getElem? (i := 804) (by decide +kernel), by decide +kernel⟩
theorem mS_X6_way : Cond.selects RX6 yX6_way yX6_way ∈ UW := List.mem_filter.mpr ⟨List.mem_of_getElem? (i := 805) (by decide +kernel), by decide +kernel⟩
theorem mC_X6_way : Cond.code yX6_way cX6_way 5 (some .int) ∈ UW := List.mem_filter.mpr ⟨List.mem_of_getElem? (i := 806) (by decide +kernel), by decide +kernel⟩
theorem mM_X6_144 : Cond.methodLink RX6 144 yX6_lays ∈ UW := List.mem_filter.mpr ⟨List.mem_of_getElem? (i := 807) (by decide +kernel), by decide +kernel⟩
theorem mI_X6_lays : Cond.instanceMethod yX6_lays ∈ UW := List.mem_filter.mpr ⟨List.mem_of_getElem? (i := 809) (by decide +kernel), by decide +kernel⟩
theorem mC_X6_lays : Cond.code yX6_lays cX6_lays 5 (some .boolean) ∈ UW := List.mem_filter.mpr ⟨List.mem_of_getElem? (i := 810) (by decide +kernel), by decide +kernel⟩
theorem mM_X6_148 : Cond.methodLink RX6 148 yX6_wayOf ∈ UW := List.mem_filter.mpr ⟨List.mem_of_getElem? (i := 811) (by decide +kernel), by decide +kernel⟩
theorem mI_X6_wayOf : Cond.instanceMethod yX6_wayOf ∈ UW := List.mem_filter.mpr ⟨List.mem_of_getElem? (i := 813) (by decide +kernel), by decide +kernel⟩
theorem mC_X6_wayOf : Cond.code yX6_wayOf cX6_wayOf 6 (some .int) ∈ UW := List.mem_filter.mpr ⟨List.mem_of_getElem? (i := 814) (by decide +kernel), by decide +kernel⟩
theorem mM_L_97 : Cond.methodLink RL 97 yX6_floor ∈ UW := List.mem_filter.mpr ⟨List.mem_of_getElem? (i := 815) (by decide +kernel), by decide +kernel⟩
theorem mI_X6_floor : Cond.instanceMethod yX6_floor ∈ UW := List.mem_filter.mpr ⟨List.mem_of_getElem? (i := 816) (by decide +kernel), by decide +kernel⟩
theorem mS_X6_floor : Cond.selects RX6 yX6_floor yX6_floor ∈ UW := List.mem_filter.mpr ⟨List.mem_of_getElem? (i := 817) (by decide +kernel), by decide +kernel⟩
theorem mC_X6_floor : Cond.code yX6_floor cX6_floor 4 (some .int) ∈ UW := List.mem_filter.mpr ⟨List.mem_of_getElem? (i := 818) (by decide +kernel), by decide +kernel⟩
theorem mM_L_101 : Cond.methodLink RL 101 yX6_keep ∈ UW := List.mem_filter.mpr ⟨List.mem_of_getElem? (i := 819) (by decide +kernel), by decide +kernel⟩
theorem mI_X6_keep : Cond.instanceMethod yX6_keep ∈ UW := List.mem_filter.mpr ⟨List.mem_of_getElem? (i := 820) (by decide +kernel), by decide +kernel⟩
theorem mS_X6_keep : Cond.selects RX6 yX6_keep yX6_keep ∈ UW := List.mem_filter.mpr ⟨List.mem_of_getElem? (i := 821) (by decide +kernel), by decide +kernel⟩
theorem mC_X6_keep : Cond.code yX6_keep cX6_keep 2 (some .int) ∈ UW := List.mem_filter.mpr ⟨List.mem_of_getElem? (i := 822) (by decide +kernel), by decide +kernel⟩
theorem mM_L_105 : Cond.methodLink RL 105 yX6_year ∈ UW := List.mem_filter.mpr ⟨List.mem_of_getElem? (i := 823) (by decide +kernel), by decide +kernel⟩
theorem mI_X6_year : Cond.instanceMethod yX6_year ∈ UW := List.mem_filter.mpr ⟨List.mem_of_getElem? (i := 824) (by decide +kernel), by decide +kernel⟩
theorem mS_X6_year : Cond.selects RX6 yX6_year yX6_year ∈ UW := List.mem_filter.mpr ⟨List.mem_of_getElem? (i := 825) (by decide +kernel), by decide +kernel⟩
theorem mC_X6_year : Cond.code yX6_year cX6_year 2 (some .int) ∈ UW := List.mem_filter.mpr ⟨List.mem_of_getElem? (i := 826) (by decide +kernel), by decide +kernel⟩
theorem mM_L_109 : Cond.methodLink RL 109 yX6_change ∈ UW := List.mem_filter.mpr ⟨List.mem_of_getElem? (i := 827) (by decide +kernel), by decide +kernel⟩
theorem mI_X6_change : Cond.instanceMethod yX6_change ∈ UW := List.mem_filter.mpr ⟨List.mem_of_getElem? (i := 828) (by decide +kernel), by decide +kernel⟩
theorem mS_X6_change : Cond.selects RX6 yX6_change yX6_change ∈ UW := List.mem_filter.mpr ⟨List.mem_of_getElem? (i := 829) (by decide +kernel), by decide +kernel⟩
theorem mC_X6_change : Cond.code yX6_change cX6_change 3 (some .int) ∈ UW := List.mem_filter.mpr ⟨List.mem_of_getElem? (i := 830) (by decide +kernel), by decide +kernel⟩
theorem mM_L_113 : Cond.methodLink RL 113 yX6_plan ∈ UW := List.mem_filter.mpr ⟨List.mem_of_getElem? (i := 831) (by decide +kernel), by decide +kernel⟩
theorem mI_X6_plan : Cond.instanceMethod yX6_plan ∈ UW := List.mem_filter.mpr ⟨List.mem_of_getElem? (i := 832) (by decide +kernel), by decide +kernel⟩
theorem mS_X6_plan : Cond.selects RX6 yX6_plan yX6_plan ∈ UW := List.mem_filter.mpr ⟨List.mem_of_getElem? (i := 833) (by decide +kernel), by decide +kernel⟩
theorem mC_X6_plan : Cond.code yX6_plan cX6_plan 5 (some .int) ∈ UW := List.mem_filter.mpr ⟨List.mem_of_getElem? (i := 834) (by decide +kernel), by decide +kernel⟩
theorem mM_X6_154 : Cond.methodLink RX6 154 yX6_movedOf ∈ UW := List.mem_filter.mpr ⟨List.mem_of_getElem? (i := 835) (by decide +kernel), by decide +kernel⟩
theorem mI_X6_movedOf : Cond.instanceMethod yX6_movedOf ∈ UW := List.mem_filter.mpr ⟨List.mem_of_getElem? (i := 837) (by decide +kernel), by decide +kernel⟩
theorem mC_X6_movedOf : Cond.code yX6_movedOf cX6_movedOf 5 (some .int) ∈ UW := List.mem_filter.mpr ⟨List.mem_of_getElem? (i := 838) (by decide +kernel), by decide +kernel⟩
theorem mM_L_117 : Cond.methodLink RL 117 yX6_count ∈ UW := List.mem_filter.mpr ⟨List.mem_of_getElem? (i := 839) (by decide +kernel), by decide +kernel⟩
theorem mI_X6_count : Cond.instanceMethod yX6_count ∈ UW := List.mem_filter.mpr ⟨List.mem_of_getElem? (i := 840) (by decide +kernel), by decide +kernel⟩
theorem mS_X6_count : Cond.selects RX6 yX6_count yX6_count ∈ UW := List.mem_filter.mpr ⟨List.mem_of_getElem? (i := 841) (by decide +kernel), by decide +kernel⟩
theorem mC_X6_count : Cond.code yX6_count cX6_count 2 (some .int) ∈ UW := List.mem_filter.mpr ⟨List.mem_of_getElem? (i := 842) (by decide +kernel), by decide +kernel⟩
theorem mM_L_122 : Cond.methodLink RL 122 yX6_trace ∈ UW := List.mem_filter.mpr ⟨List.mem_of_getElem? (i := 843) (by decide +kernel), by decide +kernel⟩
theorem mI_X6_trace : Cond.instanceMethod yX6_trace ∈ UW := List.mem_filter.mpr ⟨List.mem_of_getElem? (i := 844) (by decide +kernel), by decide +kernel⟩
theorem mS_X6_trace : Cond.selects RX6 yX6_trace yX6_trace ∈ UW := List.mem_filter.mpr ⟨List.mem_of_getElem? (i := 845) (by decide +kernel), by decide +kernel⟩
theorem mC_X6_trace : Cond.code yX6_trace cX6_trace 1 (some .long) ∈ UW := List.mem_filter.mpr ⟨List.mem_of_getElem? (i := 846) (by decide +kernel), by decide +kernel⟩
theorem inX0 : ∀ w ∈ u_ws RX0 TX0 3, w ∈ UW := by decide +kernel
theorem inX1 : ∀ w ∈ u_ws RX1 TX1 4, w ∈ UW := by decide +kernel
theorem inX2 : ∀ w ∈ u_ws RX2 TX2 2, w ∈ UW := by decide +kernel
theorem inX3 : ∀ w ∈ u_ws RX3 TX3 6, w ∈ UW := by decide +kernel
theorem inX4 : ∀ w ∈ u_ws RX4 TX4 5, w ∈ UW := by decide +kernel
theorem inX5 : ∀ w ∈ u_ws RX5 TX5 15, w ∈ UW := by decide +kernel
theorem inX6 : ∀ w ∈ u_ws RX6 TX6 21, w ∈ UW := by decide +kernel

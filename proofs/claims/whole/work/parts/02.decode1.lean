theorem dX5_way_36 : decode cX5_way 36 = .ok (.invokestatic 200, 3) := by decide +kernel
theorem dX5_way_39 : decode cX5_way 39 = .ok (.istore 5, 2) := by decide +kernel
theorem dX5_way_41 : decode cX5_way 41 = .ok (.iload 5, 2) := by decide +kernel
theorem dX5_way_43 : decode cX5_way 43 = .ok (.invokestatic 204, 3) := by decide +kernel
theorem dX5_way_46 : decode cX5_way 46 = .ok (.ifCond .ne 5, 3) := by decide +kernel
theorem dX5_way_49 : decode cX5_way 49 = .ok (.iconst (-1), 1) := by decide +kernel
theorem dX5_way_50 : decode cX5_way 50 = .ok (.ireturn, 1) := by decide +kernel
theorem dX5_way_51 : decode cX5_way 51 = .ok (.aload_n 0, 1) := by decide +kernel
theorem dX5_way_52 : decode cX5_way 52 = .ok (.getfield 36, 3) := by decide +kernel
theorem dX5_way_55 : decode cX5_way 55 = .ok (.aload_n 0, 1) := by decide +kernel
theorem dX5_way_56 : decode cX5_way 56 = .ok (.getfield 10, 3) := by decide +kernel
theorem dX5_way_59 : decode cX5_way 59 = .ok (.aload_n 0, 1) := by decide +kernel
theorem dX5_way_60 : decode cX5_way 60 = .ok (.getfield 19, 3) := by decide +kernel
theorem dX5_way_63 : decode cX5_way 63 = .ok (.aload_n 0, 1) := by decide +kernel
theorem dX5_way_64 : decode cX5_way 64 = .ok (.getfield 71, 3) := by decide +kernel
theorem dX5_way_67 : decode cX5_way 67 = .ok (.invokevirtual 207, 3) := by decide +kernel
theorem dX5_way_70 : decode cX5_way 70 = .ok (.aload_n 0, 1) := by decide +kernel
theorem dX5_way_71 : decode cX5_way 71 = .ok (.getfield 36, 3) := by decide +kernel
theorem dX5_way_74 : decode cX5_way 74 = .ok (.iload 5, 2) := by decide +kernel
theorem dX5_way_76 : decode cX5_way 76 = .ok (.invokevirtual 211, 3) := by decide +kernel
theorem dX5_way_79 : decode cX5_way 79 = .ok (.ireturn, 1) := by decide +kernel
theorem dX5_floor_0 : decode cX5_floor 0 = .ok (.iload_n 1, 1) := by decide +kernel
theorem dX5_floor_1 : decode cX5_floor 1 = .ok (.iconst 0, 1) := by decide +kernel
theorem dX5_floor_2 : decode cX5_floor 2 = .ok (.iconst 4, 1) := by decide +kernel
theorem dX5_floor_3 : decode cX5_floor 3 = .ok (.invokestatic 67, 3) := by decide +kernel
theorem dX5_floor_6 : decode cX5_floor 6 = .ok (.ifCond .ne 5, 3) := by decide +kernel
theorem dX5_floor_9 : decode cX5_floor 9 = .ok (.iconst (-1), 1) := by decide +kernel
theorem dX5_floor_10 : decode cX5_floor 10 = .ok (.ireturn, 1) := by decide +kernel
theorem dX5_floor_11 : decode cX5_floor 11 = .ok (.aload_n 0, 1) := by decide +kernel
theorem dX5_floor_12 : decode cX5_floor 12 = .ok (.getfield 36, 3) := by decide +kernel
theorem dX5_floor_15 : decode cX5_floor 15 = .ok (.aload_n 0, 1) := by decide +kernel
theorem dX5_floor_16 : decode cX5_floor 16 = .ok (.getfield 10, 3) := by decide +kernel
theorem dX5_floor_19 : decode cX5_floor 19 = .ok (.aload_n 0, 1) := by decide +kernel
theorem dX5_floor_20 : decode cX5_floor 20 = .ok (.getfield 19, 3) := by decide +kernel
theorem dX5_floor_23 : decode cX5_floor 23 = .ok (.aload_n 0, 1) := by decide +kernel
theorem dX5_floor_24 : decode cX5_floor 24 = .ok (.getfield 71, 3) := by decide +kernel
theorem dX5_floor_27 : decode cX5_floor 27 = .ok (.invokevirtual 207, 3) := by decide +kernel
theorem dX5_floor_30 : decode cX5_floor 30 = .ok (.aload_n 0, 1) := by decide +kernel
theorem dX5_floor_31 : decode cX5_floor 31 = .ok (.getfield 36, 3) := by decide +kernel
theorem dX5_floor_34 : decode cX5_floor 34 = .ok (.invokevirtual 214, 3) := by decide +kernel
theorem dX5_floor_37 : decode cX5_floor 37 = .ok (.istore_n 2, 1) := by decide +kernel
theorem dX5_floor_38 : decode cX5_floor 38 = .ok (.iload_n 1, 1) := by decide +kernel
theorem dX5_floor_39 : decode cX5_floor 39 = .ok (.iconst 4, 1) := by decide +kernel
theorem dX5_floor_40 : decode cX5_floor 40 = .ok (.if_icmp .ne 14, 3) := by decide +kernel
theorem dX5_floor_43 : decode cX5_floor 43 = .ok (.aload_n 0, 1) := by decide +kernel
theorem dX5_floor_44 : decode cX5_floor 44 = .ok (.getfield 36, 3) := by decide +kernel
theorem dX5_floor_47 : decode cX5_floor 47 = .ok (.iload_n 2, 1) := by decide +kernel
theorem dX5_floor_48 : decode cX5_floor 48 = .ok (.invokevirtual 211, 3) := by decide +kernel
theorem dX5_floor_51 : decode cX5_floor 51 = .ok (.goto 8, 3) := by decide +kernel
theorem dX5_floor_54 : decode cX5_floor 54 = .ok (.iload_n 2, 1) := by decide +kernel
theorem dX5_floor_55 : decode cX5_floor 55 = .ok (.iload_n 1, 1) := by decide +kernel
theorem dX5_floor_56 : decode cX5_floor 56 = .ok (.invokestatic 217, 3) := by decide +kernel
theorem dX5_floor_59 : decode cX5_floor 59 = .ok (.ireturn, 1) := by decide +kernel
theorem dX5_keep_0 : decode cX5_keep 0 = .ok (.iload_n 1, 1) := by decide +kernel
theorem dX5_keep_1 : decode cX5_keep 1 = .ok (.iconst 0, 1) := by decide +kernel
theorem dX5_keep_2 : decode cX5_keep 2 = .ok (.iconst 3, 1) := by decide +kernel
theorem dX5_keep_3 : decode cX5_keep 3 = .ok (.invokestatic 67, 3) := by decide +kernel
theorem dX5_keep_6 : decode cX5_keep 6 = .ok (.ifCond .ne 5, 3) := by decide +kernel
theorem dX5_keep_9 : decode cX5_keep 9 = .ok (.iconst (-1), 1) := by decide +kernel
theorem dX5_keep_10 : decode cX5_keep 10 = .ok (.ireturn, 1) := by decide +kernel
theorem dX5_keep_11 : decode cX5_keep 11 = .ok (.aload_n 0, 1) := by decide +kernel
theorem dX5_keep_12 : decode cX5_keep 12 = .ok (.getfield 54, 3) := by decide +kernel
theorem dX5_keep_15 : decode cX5_keep 15 = .ok (.iload_n 1, 1) := by decide +kernel
theorem dX5_keep_16 : decode cX5_keep 16 = .ok (.aload_n 0, 1) := by decide +kernel
theorem dX5_keep_17 : decode cX5_keep 17 = .ok (.getfield 19, 3) := by decide +kernel
theorem dX5_keep_20 : decode cX5_keep 20 = .ok (.invokevirtual 116, 3) := by decide +kernel
theorem dX5_keep_23 : decode cX5_keep 23 = .ok (.iastore, 1) := by decide +kernel
theorem dX5_keep_24 : decode cX5_keep 24 = .ok (.aload_n 0, 1) := by decide +kernel
theorem dX5_keep_25 : decode cX5_keep 25 = .ok (.getfield 54, 3) := by decide +kernel
theorem dX5_keep_28 : decode cX5_keep 28 = .ok (.iload_n 1, 1) := by decide +kernel
theorem dX5_keep_29 : decode cX5_keep 29 = .ok (.iaload, 1) := by decide +kernel
theorem dX5_keep_30 : decode cX5_keep 30 = .ok (.ireturn, 1) := by decide +kernel
theorem dX5_year_0 : decode cX5_year 0 = .ok (.iload_n 1, 1) := by decide +kernel
theorem dX5_year_1 : decode cX5_year 1 = .ok (.iconst 0, 1) := by decide +kernel
theorem dX5_year_2 : decode cX5_year 2 = .ok (.bipush 9, 2) := by decide +kernel
theorem dX5_year_4 : decode cX5_year 4 = .ok (.invokestatic 67, 3) := by decide +kernel
theorem dX5_year_7 : decode cX5_year 7 = .ok (.ifCond .ne 5, 3) := by decide +kernel
theorem dX5_year_10 : decode cX5_year 10 = .ok (.iconst (-1), 1) := by decide +kernel
theorem dX5_year_11 : decode cX5_year 11 = .ok (.ireturn, 1) := by decide +kernel
theorem dX5_year_12 : decode cX5_year 12 = .ok (.aload_n 0, 1) := by decide +kernel
theorem dX5_year_13 : decode cX5_year 13 = .ok (.getfield 43, 3) := by decide +kernel
theorem dX5_year_16 : decode cX5_year 16 = .ok (.invokevirtual 220, 3) := by decide +kernel
theorem dX5_year_19 : decode cX5_year 19 = .ok (.bipush 6, 2) := by decide +kernel
theorem dX5_year_21 : decode cX5_year 21 = .ok (.if_icmp .lt 6, 3) := by decide +kernel
theorem dX5_year_24 : decode cX5_year 24 = .ok (.bipush (-3), 2) := by decide +kernel
theorem dX5_year_26 : decode cX5_year 26 = .ok (.ireturn, 1) := by decide +kernel
theorem dX5_year_27 : decode cX5_year 27 = .ok (.aload_n 0, 1) := by decide +kernel
theorem dX5_year_28 : decode cX5_year 28 = .ok (.getfield 43, 3) := by decide +kernel
theorem dX5_year_31 : decode cX5_year 31 = .ok (.iload_n 1, 1) := by decide +kernel
theorem dX5_year_32 : decode cX5_year 32 = .ok (.invokevirtual 223, 3) := by decide +kernel
theorem dX5_year_35 : decode cX5_year 35 = .ok (.aload_n 0, 1) := by decide +kernel
theorem dX5_year_36 : decode cX5_year 36 = .ok (.getfield 43, 3) := by decide +kernel
theorem dX5_year_39 : decode cX5_year 39 = .ok (.invokevirtual 220, 3) := by decide +kernel
theorem dX5_year_42 : decode cX5_year 42 = .ok (.ireturn, 1) := by decide +kernel
theorem dX5_change_0 : decode cX5_change 0 = .ok (.iload_n 1, 1) := by decide +kernel
theorem dX5_change_1 : decode cX5_change 1 = .ok (.iconst 0, 1) := by decide +kernel
theorem dX5_change_2 : decode cX5_change 2 = .ok (.bipush 50, 2) := by decide +kernel
theorem dX5_change_4 : decode cX5_change 4 = .ok (.invokestatic 67, 3) := by decide +kernel
theorem dX5_change_7 : decode cX5_change 7 = .ok (.ifCond .ne 5, 3) := by decide +kernel
theorem dX5_change_10 : decode cX5_change 10 = .ok (.iconst (-1), 1) := by decide +kernel
theorem dX5_change_11 : decode cX5_change 11 = .ok (.ireturn, 1) := by decide +kernel
theorem dX5_change_12 : decode cX5_change 12 = .ok (.aload_n 0, 1) := by decide +kernel
theorem dX5_change_13 : decode cX5_change 13 = .ok (.getfield 43, 3) := by decide +kernel
theorem dX5_change_16 : decode cX5_change 16 = .ok (.invokevirtual 227, 3) := by decide +kernel
theorem dX5_change_19 : decode cX5_change 19 = .ok (.istore_n 2, 1) := by decide +kernel
theorem dX5_change_20 : decode cX5_change 20 = .ok (.aload_n 0, 1) := by decide +kernel
theorem dX5_change_21 : decode cX5_change 21 = .ok (.getfield 43, 3) := by decide +kernel
theorem dX5_change_24 : decode cX5_change 24 = .ok (.iload_n 1, 1) := by decide +kernel
theorem dX5_change_25 : decode cX5_change 25 = .ok (.invokevirtual 230, 3) := by decide +kernel
theorem dX5_change_28 : decode cX5_change 28 = .ok (.iload_n 2, 1) := by decide +kernel
theorem dX5_change_29 : decode cX5_change 29 = .ok (.ireturn, 1) := by decide +kernel
theorem dX5_plan_0 : decode cX5_plan 0 = .ok (.aload_n 0, 1) := by decide +kernel
theorem dX5_plan_1 : decode cX5_plan 1 = .ok (.getfield 43, 3) := by decide +kernel
theorem dX5_plan_4 : decode cX5_plan 4 = .ok (.invokevirtual 220, 3) := by decide +kernel
theorem dX5_plan_7 : decode cX5_plan 7 = .ok (.ifCond .ne 6, 3) := by decide +kernel
theorem dX5_plan_10 : decode cX5_plan 10 = .ok (.bipush (-2), 2) := by decide +kernel
theorem dX5_plan_12 : decode cX5_plan 12 = .ok (.ireturn, 1) := by decide +kernel
theorem dX5_plan_13 : decode cX5_plan 13 = .ok (.iconst 0, 1) := by decide +kernel
theorem dX5_plan_14 : decode cX5_plan 14 = .ok (.istore_n 1, 1) := by decide +kernel
theorem dX5_plan_15 : decode cX5_plan 15 = .ok (.iload_n 1, 1) := by decide +kernel
theorem dX5_plan_16 : decode cX5_plan 16 = .ok (.iconst 4, 1) := by decide +kernel
theorem dX5_plan_17 : decode cX5_plan 17 = .ok (.if_icmp .ge 50, 3) := by decide +kernel
theorem dX5_plan_20 : decode cX5_plan 20 = .ok (.aload_n 0, 1) := by decide +kernel
theorem dX5_plan_21 : decode cX5_plan 21 = .ok (.getfield 23, 3) := by decide +kernel
theorem dX5_plan_24 : decode cX5_plan 24 = .ok (.aload_n 0, 1) := by decide +kernel
theorem dX5_plan_25 : decode cX5_plan 25 = .ok (.getfield 54, 3) := by decide +kernel
theorem dX5_plan_28 : decode cX5_plan 28 = .ok (.iload_n 1, 1) := by decide +kernel
theorem dX5_plan_29 : decode cX5_plan 29 = .ok (.iaload, 1) := by decide +kernel
theorem dX5_plan_30 : decode cX5_plan 30 = .ok (.aload_n 0, 1) := by decide +kernel
theorem dX5_plan_31 : decode cX5_plan 31 = .ok (.getfield 71, 3) := by decide +kernel
theorem dX5_plan_34 : decode cX5_plan 34 = .ok (.invokevirtual 119, 3) := by decide +kernel
theorem dX5_plan_37 : decode cX5_plan 37 = .ok (.aload_n 0, 1) := by decide +kernel
theorem dX5_plan_38 : decode cX5_plan 38 = .ok (.getfield 57, 3) := by decide +kernel
theorem dX5_plan_41 : decode cX5_plan 41 = .ok (.iload_n 1, 1) := by decide +kernel
theorem dX5_plan_42 : decode cX5_plan 42 = .ok (.aload_n 0, 1) := by decide +kernel
theorem dX5_plan_43 : decode cX5_plan 43 = .ok (.getfield 10, 3) := by decide +kernel
theorem dX5_plan_46 : decode cX5_plan 46 = .ok (.aload_n 0, 1) := by decide +kernel
theorem dX5_plan_47 : decode cX5_plan 47 = .ok (.getfield 10, 3) := by decide +kernel
theorem dX5_plan_50 : decode cX5_plan 50 = .ok (.invokevirtual 174, 3) := by decide +kernel
theorem dX5_plan_53 : decode cX5_plan 53 = .ok (.aload_n 0, 1) := by decide +kernel
theorem dX5_plan_54 : decode cX5_plan 54 = .ok (.getfield 23, 3) := by decide +kernel
theorem dX5_plan_57 : decode cX5_plan 57 = .ok (.invokevirtual 183, 3) := by decide +kernel
theorem dX5_plan_60 : decode cX5_plan 60 = .ok (.iastore, 1) := by decide +kernel
theorem dX5_plan_61 : decode cX5_plan 61 = .ok (.iinc 1 1, 3) := by decide +kernel
theorem dX5_plan_64 : decode cX5_plan 64 = .ok (.goto (-49), 3) := by decide +kernel
theorem dX5_plan_67 : decode cX5_plan 67 = .ok (.aload_n 0, 1) := by decide +kernel
theorem dX5_plan_68 : decode cX5_plan 68 = .ok (.getfield 43, 3) := by decide +kernel
theorem dX5_plan_71 : decode cX5_plan 71 = .ok (.aload_n 0, 1) := by decide +kernel
theorem dX5_plan_72 : decode cX5_plan 72 = .ok (.getfield 54, 3) := by decide +kernel
theorem dX5_plan_75 : decode cX5_plan 75 = .ok (.aload_n 0, 1) := by decide +kernel
theorem dX5_plan_76 : decode cX5_plan 76 = .ok (.getfield 57, 3) := by decide +kernel
theorem dX5_plan_79 : decode cX5_plan 79 = .ok (.invokevirtual 233, 3) := by decide +kernel
theorem dX5_plan_82 : decode cX5_plan 82 = .ok (.ireturn, 1) := by decide +kernel
theorem dX5_count_0 : decode cX5_count 0 = .ok (.iload_n 1, 1) := by decide +kernel
theorem dX5_count_1 : decode cX5_count 1 = .ok (.tableswitch 71 0 4 #[35, 40, 48, 56, 64], 35) := by decide +kernel
theorem dX5_count_36 : decode cX5_count 36 = .ok (.aload_n 0, 1) := by decide +kernel
theorem dX5_count_37 : decode cX5_count 37 = .ok (.getfield 71, 3) := by decide +kernel
theorem dX5_count_40 : decode cX5_count 40 = .ok (.ireturn, 1) := by decide +kernel
theorem dX5_count_41 : decode cX5_count 41 = .ok (.aload_n 0, 1) := by decide +kernel
theorem dX5_count_42 : decode cX5_count 42 = .ok (.getfield 10, 3) := by decide +kernel
theorem dX5_count_45 : decode cX5_count 45 = .ok (.invokevirtual 237, 3) := by decide +kernel
theorem dX5_count_48 : decode cX5_count 48 = .ok (.ireturn, 1) := by decide +kernel
theorem dX5_count_49 : decode cX5_count 49 = .ok (.aload_n 0, 1) := by decide +kernel
theorem dX5_count_50 : decode cX5_count 50 = .ok (.getfield 19, 3) := by decide +kernel
theorem dX5_count_53 : decode cX5_count 53 = .ok (.invokevirtual 116, 3) := by decide +kernel
theorem dX5_count_56 : decode cX5_count 56 = .ok (.ireturn, 1) := by decide +kernel
theorem dX5_count_57 : decode cX5_count 57 = .ok (.aload_n 0, 1) := by decide +kernel
theorem dX5_count_58 : decode cX5_count 58 = .ok (.getfield 43, 3) := by decide +kernel
theorem dX5_count_61 : decode cX5_count 61 = .ok (.invokevirtual 220, 3) := by decide +kernel
theorem dX5_count_64 : decode cX5_count 64 = .ok (.ireturn, 1) := by decide +kernel
theorem dX5_count_65 : decode cX5_count 65 = .ok (.aload_n 0, 1) := by decide +kernel
theorem dX5_count_66 : decode cX5_count 66 = .ok (.getfield 54, 3) := by decide +kernel
theorem dX5_count_69 : decode cX5_count 69 = .ok (.iconst 0, 1) := by decide +kernel
theorem dX5_count_70 : decode cX5_count 70 = .ok (.iaload, 1) := by decide +kernel
theorem dX5_count_71 : decode cX5_count 71 = .ok (.ireturn, 1) := by decide +kernel
theorem dX5_count_72 : decode cX5_count 72 = .ok (.iconst (-1), 1) := by decide +kernel
theorem dX5_count_73 : decode cX5_count 73 = .ok (.ireturn, 1) := by decide +kernel
theorem dX5_trace_0 : decode cX5_trace 0 = .ok (.aload_n 0, 1) := by decide +kernel
theorem dX5_trace_1 : decode cX5_trace 1 = .ok (.getfield 137, 3) := by decide +kernel
theorem dX5_trace_4 : decode cX5_trace 4 = .ok (.lreturn, 1) := by decide +kernel
theorem dX5_begin_0 : decode cX5_begin 0 = .ok (.aload_n 0, 1) := by decide +kernel
theorem dX5_begin_1 : decode cX5_begin 1 = .ok (.iload_n 1, 1) := by decide +kernel
theorem dX5_begin_2 : decode cX5_begin 2 = .ok (.putfield 71, 3) := by decide +kernel
theorem dX5_begin_5 : decode cX5_begin 5 = .ok (.aload_n 0, 1) := by decide +kernel
theorem dX5_begin_6 : decode cX5_begin 6 = .ok (.getfield 10, 3) := by decide +kernel
theorem dX5_begin_9 : decode cX5_begin 9 = .ok (.iload_n 2, 1) := by decide +kernel
theorem dX5_begin_10 : decode cX5_begin 10 = .ok (.invokevirtual 238, 3) := by decide +kernel
theorem dX5_begin_13 : decode cX5_begin 13 = .ok (.aload_n 0, 1) := by decide +kernel
theorem dX5_begin_14 : decode cX5_begin 14 = .ok (.getfield 19, 3) := by decide +kernel
theorem dX5_begin_17 : decode cX5_begin 17 = .ok (.iconst 0, 1) := by decide +kernel
theorem dX5_begin_18 : decode cX5_begin 18 = .ok (.iload_n 1, 1) := by decide +kernel
theorem dX5_begin_19 : decode cX5_begin 19 = .ok (.invokevirtual 119, 3) := by decide +kernel
theorem dX5_begin_22 : decode cX5_begin 22 = .ok (.aload_n 0, 1) := by decide +kernel
theorem dX5_begin_23 : decode cX5_begin 23 = .ok (.getfield 47, 3) := by decide +kernel
theorem dX5_begin_26 : decode cX5_begin 26 = .ok (.bipush 99, 2) := by decide +kernel
theorem dX5_begin_28 : decode cX5_begin 28 = .ok (.invokestatic 191, 3) := by decide +kernel
theorem dX5_begin_31 : decode cX5_begin 31 = .ok (.aload_n 0, 1) := by decide +kernel
theorem dX5_begin_32 : decode cX5_begin 32 = .ok (.getfield 51, 3) := by decide +kernel
theorem dX5_begin_35 : decode cX5_begin 35 = .ok (.bipush 10, 2) := by decide +kernel
theorem dX5_begin_37 : decode cX5_begin 37 = .ok (.invokestatic 191, 3) := by decide +kernel
theorem dX5_begin_40 : decode cX5_begin 40 = .ok (.aload_n 0, 1) := by decide +kernel
theorem dX5_begin_41 : decode cX5_begin 41 = .ok (.getfield 54, 3) := by decide +kernel
theorem dX5_begin_44 : decode cX5_begin 44 = .ok (.iconst 0, 1) := by decide +kernel
theorem dX5_begin_45 : decode cX5_begin 45 = .ok (.invokestatic 191, 3) := by decide +kernel
theorem dX5_begin_48 : decode cX5_begin 48 = .ok (.return_, 1) := by decide +kernel
theorem dX5_isWithin_0 : decode cX5_isWithin 0 = .ok (.iload_n 0, 1) := by decide +kernel
theorem dX5_isWithin_1 : decode cX5_isWithin 1 = .ok (.iload_n 1, 1) := by decide +kernel
theorem dX5_isWithin_2 : decode cX5_isWithin 2 = .ok (.if_icmp .lt 12, 3) := by decide +kernel
theorem dX5_isWithin_5 : decode cX5_isWithin 5 = .ok (.iload_n 0, 1) := by decide +kernel
theorem dX5_isWithin_6 : decode cX5_isWithin 6 = .ok (.iload_n 2, 1) := by decide +kernel
theorem dX5_isWithin_7 : decode cX5_isWithin 7 = .ok (.if_icmp .gt 7, 3) := by decide +kernel
theorem dX5_isWithin_10 : decode cX5_isWithin 10 = .ok (.iconst 1, 1) := by decide +kernel
theorem dX5_isWithin_11 : decode cX5_isWithin 11 = .ok (.goto 4, 3) := by decide +kernel
theorem dX5_isWithin_14 : decode cX5_isWithin 14 = .ok (.iconst 0, 1) := by decide +kernel
theorem dX5_isWithin_15 : decode cX5_isWithin 15 = .ok (.ireturn, 1) := by decide +kernel
theorem dX5_isMachine_0 : decode cX5_isMachine 0 = .ok (.iload_n 1, 1) := by decide +kernel
theorem dX5_isMachine_1 : decode cX5_isMachine 1 = .ok (.iconst 0, 1) := by decide +kernel
theorem dX5_isMachine_2 : decode cX5_isMachine 2 = .ok (.aload_n 0, 1) := by decide +kernel
theorem dX5_isMachine_3 : decode cX5_isMachine 3 = .ok (.getfield 71, 3) := by decide +kernel
theorem dX5_isMachine_6 : decode cX5_isMachine 6 = .ok (.iconst 1, 1) := by decide +kernel
theorem dX5_isMachine_7 : decode cX5_isMachine 7 = .ok (.isub, 1) := by decide +kernel
theorem dX5_isMachine_8 : decode cX5_isMachine 8 = .ok (.invokestatic 67, 3) := by decide +kernel
theorem dX5_isMachine_11 : decode cX5_isMachine 11 = .ok (.ireturn, 1) := by decide +kernel
theorem dX5_isPart_0 : decode cX5_isPart 0 = .ok (.iload_n 1, 1) := by decide +kernel
theorem dX5_isPart_1 : decode cX5_isPart 1 = .ok (.iconst 0, 1) := by decide +kernel
theorem dX5_isPart_2 : decode cX5_isPart 2 = .ok (.aload_n 0, 1) := by decide +kernel
theorem dX5_isPart_3 : decode cX5_isPart 3 = .ok (.getfield 10, 3) := by decide +kernel
theorem dX5_isPart_6 : decode cX5_isPart 6 = .ok (.invokevirtual 237, 3) := by decide +kernel
theorem dX5_isPart_9 : decode cX5_isPart 9 = .ok (.iconst 1, 1) := by decide +kernel
theorem dX5_isPart_10 : decode cX5_isPart 10 = .ok (.isub, 1) := by decide +kernel
theorem dX5_isPart_11 : decode cX5_isPart 11 = .ok (.invokestatic 67, 3) := by decide +kernel
theorem dX5_isPart_14 : decode cX5_isPart 14 = .ok (.ireturn, 1) := by decide +kernel
theorem dX5_isCell_0 : decode cX5_isCell 0 = .ok (.iload_n 0, 1) := by decide +kernel
theorem dX5_isCell_1 : decode cX5_isCell 1 = .ok (.iconst 0, 1) := by decide +kernel
theorem dX5_isCell_2 : decode cX5_isCell 2 = .ok (.iconst 3, 1) := by decide +kernel
theorem dX5_isCell_3 : decode cX5_isCell 3 = .ok (.invokestatic 67, 3) := by decide +kernel
theorem dX5_isCell_6 : decode cX5_isCell 6 = .ok (.ireturn, 1) := by decide +kernel
theorem dX5_isKind_0 : decode cX5_isKind 0 = .ok (.iload_n 0, 1) := by decide +kernel
theorem dX5_isKind_1 : decode cX5_isKind 1 = .ok (.iconst 0, 1) := by decide +kernel
theorem dX5_isKind_2 : decode cX5_isKind 2 = .ok (.iconst 2, 1) := by decide +kernel
theorem dX5_isKind_3 : decode cX5_isKind 3 = .ok (.invokestatic 67, 3) := by decide +kernel
theorem dX5_isKind_6 : decode cX5_isKind 6 = .ok (.ireturn, 1) := by decide +kernel
theorem dX5_groupings_0 : decode cX5_groupings 0 = .ok (.iconst 1, 1) := by decide +kernel
theorem dX5_groupings_1 : decode cX5_groupings 1 = .ok (.iconst 2, 1) := by decide +kernel
theorem dX5_groupings_2 : decode cX5_groupings 2 = .ok (.aload_n 0, 1) := by decide +kernel
theorem dX5_groupings_3 : decode cX5_groupings 3 = .ok (.getfield 71, 3) := by decide +kernel
theorem dX5_groupings_6 : decode cX5_groupings 6 = .ok (.imul, 1) := by decide +kernel
theorem dX5_groupings_7 : decode cX5_groupings 7 = .ok (.ishl, 1) := by decide +kernel
theorem dX5_groupings_8 : decode cX5_groupings 8 = .ok (.ireturn, 1) := by decide +kernel
theorem dX5_lossOf_0 : decode cX5_lossOf 0 = .ok (.aload_n 0, 1) := by decide +kernel
theorem dX5_lossOf_1 : decode cX5_lossOf 1 = .ok (.getfield 10, 3) := by decide +kernel
theorem dX5_lossOf_4 : decode cX5_lossOf 4 = .ok (.aload_n 0, 1) := by decide +kernel
theorem dX5_lossOf_5 : decode cX5_lossOf 5 = .ok (.getfield 10, 3) := by decide +kernel
theorem dX5_lossOf_8 : decode cX5_lossOf 8 = .ok (.invokevirtual 174, 3) := by decide +kernel
theorem dX5_lossOf_11 : decode cX5_lossOf 11 = .ok (.aload_n 1, 1) := by decide +kernel
theorem dX5_lossOf_12 : decode cX5_lossOf 12 = .ok (.invokevirtual 183, 3) := by decide +kernel
theorem dX5_lossOf_15 : decode cX5_lossOf 15 = .ok (.istore_n 3, 1) := by decide +kernel
theorem dX5_lossOf_16 : decode cX5_lossOf 16 = .ok (.iload_n 2, 1) := by decide +kernel
theorem dX5_lossOf_17 : decode cX5_lossOf 17 = .ok (.iconst 1, 1) := by decide +kernel
theorem dX5_lossOf_18 : decode cX5_lossOf 18 = .ok (.if_icmp .lt 14, 3) := by decide +kernel
theorem dX5_lossOf_21 : decode cX5_lossOf 21 = .ok (.iload_n 3, 1) := by decide +kernel
theorem dX5_lossOf_22 : decode cX5_lossOf 22 = .ok (.aload_n 0, 1) := by decide +kernel
theorem dX5_lossOf_23 : decode cX5_lossOf 23 = .ok (.getfield 10, 3) := by decide +kernel
theorem dX5_lossOf_26 : decode cX5_lossOf 26 = .ok (.aload_n 1, 1) := by decide +kernel
theorem dX5_lossOf_27 : decode cX5_lossOf 27 = .ok (.invokevirtual 240, 3) := by decide +kernel
theorem dX5_lossOf_30 : decode cX5_lossOf 30 = .ok (.iadd, 1) := by decide +kernel
theorem dX5_lossOf_31 : decode cX5_lossOf 31 = .ok (.istore_n 3, 1) := by decide +kernel
theorem dX5_lossOf_32 : decode cX5_lossOf 32 = .ok (.iload_n 2, 1) := by decide +kernel
theorem dX5_lossOf_33 : decode cX5_lossOf 33 = .ok (.iconst 2, 1) := by decide +kernel
theorem dX5_lossOf_34 : decode cX5_lossOf 34 = .ok (.if_icmp .lt 10, 3) := by decide +kernel
theorem dX5_lossOf_37 : decode cX5_lossOf 37 = .ok (.iload_n 3, 1) := by decide +kernel
theorem dX5_lossOf_38 : decode cX5_lossOf 38 = .ok (.aload_n 1, 1) := by decide +kernel
theorem dX5_lossOf_39 : decode cX5_lossOf 39 = .ok (.invokevirtual 243, 3) := by decide +kernel
theorem dX5_lossOf_42 : decode cX5_lossOf 42 = .ok (.iadd, 1) := by decide +kernel
theorem dX5_lossOf_43 : decode cX5_lossOf 43 = .ok (.istore_n 3, 1) := by decide +kernel
theorem dX5_lossOf_44 : decode cX5_lossOf 44 = .ok (.iload_n 3, 1) := by decide +kernel
theorem dX5_lossOf_45 : decode cX5_lossOf 45 = .ok (.ireturn, 1) := by decide +kernel
theorem dX5_seekGrouping_0 : decode cX5_seekGrouping 0 = .ok (.aload_n 0, 1) := by decide +kernel
theorem dX5_seekGrouping_1 : decode cX5_seekGrouping 1 = .ok (.iconst 0, 1) := by decide +kernel
theorem dX5_seekGrouping_2 : decode cX5_seekGrouping 2 = .ok (.putfield 151, 3) := by decide +kernel
theorem dX5_seekGrouping_5 : decode cX5_seekGrouping 5 = .ok (.aload_n 0, 1) := by decide +kernel
theorem dX5_seekGrouping_6 : decode cX5_seekGrouping 6 = .ok (.ldc 246, 2) := by decide +kernel
theorem dX5_seekGrouping_8 : decode cX5_seekGrouping 8 = .ok (.putfield 154, 3) := by decide +kernel
theorem dX5_seekGrouping_11 : decode cX5_seekGrouping 11 = .ok (.aload_n 0, 1) := by decide +kernel
theorem dX5_seekGrouping_12 : decode cX5_seekGrouping 12 = .ok (.invokevirtual 112, 3) := by decide +kernel
theorem dX5_seekGrouping_15 : decode cX5_seekGrouping 15 = .ok (.istore_n 3, 1) := by decide +kernel
theorem dX5_seekGrouping_16 : decode cX5_seekGrouping 16 = .ok (.iconst 0, 1) := by decide +kernel
theorem dX5_seekGrouping_17 : decode cX5_seekGrouping 17 = .ok (.istore 4, 2) := by decide +kernel
theorem dX5_seekGrouping_19 : decode cX5_seekGrouping 19 = .ok (.iload 4, 2) := by decide +kernel
theorem dX5_seekGrouping_21 : decode cX5_seekGrouping 21 = .ok (.iload_n 3, 1) := by decide +kernel
theorem dX5_seekGrouping_22 : decode cX5_seekGrouping 22 = .ok (.if_icmp .ge 83, 3) := by decide +kernel
theorem dX5_seekGrouping_25 : decode cX5_seekGrouping 25 = .ok (.iload 4, 2) := by decide +kernel
theorem dX5_seekGrouping_27 : decode cX5_seekGrouping 27 = .ok (.aload_n 0, 1) := by decide +kernel
theorem dX5_seekGrouping_28 : decode cX5_seekGrouping 28 = .ok (.getfield 71, 3) := by decide +kernel
theorem dX5_seekGrouping_31 : decode cX5_seekGrouping 31 = .ok (.invokestatic 157, 3) := by decide +kernel
theorem dX5_seekGrouping_34 : decode cX5_seekGrouping 34 = .ok (.ifCond .ne 6, 3) := by decide +kernel
theorem dX5_seekGrouping_37 : decode cX5_seekGrouping 37 = .ok (.goto 62, 3) := by decide +kernel
theorem dX5_seekGrouping_40 : decode cX5_seekGrouping 40 = .ok (.aload_n 0, 1) := by decide +kernel
theorem dX5_seekGrouping_41 : decode cX5_seekGrouping 41 = .ok (.getfield 23, 3) := by decide +kernel
theorem dX5_seekGrouping_44 : decode cX5_seekGrouping 44 = .ok (.iload 4, 2) := by decide +kernel
theorem dX5_seekGrouping_46 : decode cX5_seekGrouping 46 = .ok (.aload_n 0, 1) := by decide +kernel
theorem dX5_seekGrouping_47 : decode cX5_seekGrouping 47 = .ok (.getfield 71, 3) := by decide +kernel
theorem dX5_seekGrouping_50 : decode cX5_seekGrouping 50 = .ok (.invokevirtual 119, 3) := by decide +kernel
theorem dX5_seekGrouping_53 : decode cX5_seekGrouping 53 = .ok (.aload_n 0, 1) := by decide +kernel
theorem dX5_seekGrouping_54 : decode cX5_seekGrouping 54 = .ok (.getfield 23, 3) := by decide +kernel
theorem dX5_seekGrouping_57 : decode cX5_seekGrouping 57 = .ok (.invokevirtual 247, 3) := by decide +kernel
theorem dX5_seekGrouping_60 : decode cX5_seekGrouping 60 = .ok (.iload_n 2, 1) := by decide +kernel
theorem dX5_seekGrouping_61 : decode cX5_seekGrouping 61 = .ok (.if_icmp .le 6, 3) := by decide +kernel
theorem dX5_seekGrouping_64 : decode cX5_seekGrouping 64 = .ok (.goto 35, 3) := by decide +kernel
theorem dX5_seekGrouping_67 : decode cX5_seekGrouping 67 = .ok (.aload_n 0, 1) := by decide +kernel
theorem dX5_seekGrouping_68 : decode cX5_seekGrouping 68 = .ok (.aload_n 0, 1) := by decide +kernel
theorem dX5_seekGrouping_69 : decode cX5_seekGrouping 69 = .ok (.getfield 23, 3) := by decide +kernel
theorem dX5_seekGrouping_72 : decode cX5_seekGrouping 72 = .ok (.iload_n 1, 1) := by decide +kernel
theorem dX5_seekGrouping_73 : decode cX5_seekGrouping 73 = .ok (.invokevirtual 144, 3) := by decide +kernel
theorem dX5_seekGrouping_76 : decode cX5_seekGrouping 76 = .ok (.istore 5, 2) := by decide +kernel
theorem dX5_seekGrouping_78 : decode cX5_seekGrouping 78 = .ok (.iload 5, 2) := by decide +kernel
theorem dX5_seekGrouping_80 : decode cX5_seekGrouping 80 = .ok (.aload_n 0, 1) := by decide +kernel
theorem dX5_seekGrouping_81 : decode cX5_seekGrouping 81 = .ok (.getfield 154, 3) := by decide +kernel
theorem dX5_seekGrouping_84 : decode cX5_seekGrouping 84 = .ok (.if_icmp .ge 15, 3) := by decide +kernel
theorem dX5_seekGrouping_87 : decode cX5_seekGrouping 87 = .ok (.aload_n 0, 1) := by decide +kernel
theorem dX5_seekGrouping_88 : decode cX5_seekGrouping 88 = .ok (.iload 5, 2) := by decide +kernel
theorem dX5_seekGrouping_90 : decode cX5_seekGrouping 90 = .ok (.putfield 154, 3) := by decide +kernel
theorem dX5_seekGrouping_93 : decode cX5_seekGrouping 93 = .ok (.aload_n 0, 1) := by decide +kernel
theorem dX5_seekGrouping_94 : decode cX5_seekGrouping 94 = .ok (.iload 4, 2) := by decide +kernel
theorem dX5_seekGrouping_96 : decode cX5_seekGrouping 96 = .ok (.putfield 151, 3) := by decide +kernel
theorem dX5_seekGrouping_99 : decode cX5_seekGrouping 99 = .ok (.iinc 4 4, 3) := by decide +kernel
theorem dX5_seekGrouping_102 : decode cX5_seekGrouping 102 = .ok (.goto (-83), 3) := by decide +kernel
theorem dX5_seekGrouping_105 : decode cX5_seekGrouping 105 = .ok (.return_, 1) := by decide +kernel
theorem dX5_bestChoice_0 : decode cX5_bestChoice 0 = .ok (.bipush (-9), 2) := by decide +kernel
theorem dX5_bestChoice_2 : decode cX5_bestChoice 2 = .ok (.istore_n 1, 1) := by decide +kernel
theorem dX5_bestChoice_3 : decode cX5_bestChoice 3 = .ok (.ldc 246, 2) := by decide +kernel
theorem dX5_bestChoice_5 : decode cX5_bestChoice 5 = .ok (.istore_n 2, 1) := by decide +kernel
theorem dX5_bestChoice_6 : decode cX5_bestChoice 6 = .ok (.iconst 1, 1) := by decide +kernel
theorem dX5_bestChoice_7 : decode cX5_bestChoice 7 = .ok (.aload_n 0, 1) := by decide +kernel
theorem dX5_bestChoice_8 : decode cX5_bestChoice 8 = .ok (.getfield 10, 3) := by decide +kernel
theorem dX5_bestChoice_11 : decode cX5_bestChoice 11 = .ok (.invokevirtual 237, 3) := by decide +kernel
theorem dX5_bestChoice_14 : decode cX5_bestChoice 14 = .ok (.ishl, 1) := by decide +kernel
theorem dX5_bestChoice_15 : decode cX5_bestChoice 15 = .ok (.istore_n 3, 1) := by decide +kernel
theorem dX5_bestChoice_16 : decode cX5_bestChoice 16 = .ok (.iconst 0, 1) := by decide +kernel
theorem dX5_bestChoice_17 : decode cX5_bestChoice 17 = .ok (.istore 4, 2) := by decide +kernel
theorem dX5_bestChoice_19 : decode cX5_bestChoice 19 = .ok (.iload 4, 2) := by decide +kernel
theorem dX5_bestChoice_21 : decode cX5_bestChoice 21 = .ok (.iload_n 3, 1) := by decide +kernel
theorem dX5_bestChoice_22 : decode cX5_bestChoice 22 = .ok (.if_icmp .ge 45, 3) := by decide +kernel
theorem dX5_bestChoice_25 : decode cX5_bestChoice 25 = .ok (.aload_n 0, 1) := by decide +kernel
theorem dX5_bestChoice_26 : decode cX5_bestChoice 26 = .ok (.getfield 10, 3) := by decide +kernel
theorem dX5_bestChoice_29 : decode cX5_bestChoice 29 = .ok (.iload 4, 2) := by decide +kernel
theorem dX5_bestChoice_31 : decode cX5_bestChoice 31 = .ok (.aload_n 0, 1) := by decide +kernel
theorem dX5_bestChoice_32 : decode cX5_bestChoice 32 = .ok (.getfield 19, 3) := by decide +kernel
theorem dX5_bestChoice_35 : decode cX5_bestChoice 35 = .ok (.invokevirtual 183, 3) := by decide +kernel
theorem dX5_bestChoice_38 : decode cX5_bestChoice 38 = .ok (.istore 5, 2) := by decide +kernel
theorem dX5_bestChoice_40 : decode cX5_bestChoice 40 = .ok (.iload 5, 2) := by decide +kernel
theorem dX5_bestChoice_42 : decode cX5_bestChoice 42 = .ok (.iload_n 2, 1) := by decide +kernel
theorem dX5_bestChoice_43 : decode cX5_bestChoice 43 = .ok (.if_icmp .ge 18, 3) := by decide +kernel
theorem dX5_bestChoice_46 : decode cX5_bestChoice 46 = .ok (.aload_n 0, 1) := by decide +kernel
theorem dX5_bestChoice_47 : decode cX5_bestChoice 47 = .ok (.iload 4, 2) := by decide +kernel
theorem dX5_bestChoice_49 : decode cX5_bestChoice 49 = .ok (.invokevirtual 250, 3) := by decide +kernel
theorem dX5_bestChoice_52 : decode cX5_bestChoice 52 = .ok (.ifCond .eq 9, 3) := by decide +kernel
theorem dX5_bestChoice_55 : decode cX5_bestChoice 55 = .ok (.iload 5, 2) := by decide +kernel
theorem dX5_bestChoice_57 : decode cX5_bestChoice 57 = .ok (.istore_n 2, 1) := by decide +kernel
theorem dX5_bestChoice_58 : decode cX5_bestChoice 58 = .ok (.iload 4, 2) := by decide +kernel
theorem dX5_bestChoice_60 : decode cX5_bestChoice 60 = .ok (.istore_n 1, 1) := by decide +kernel
theorem dX5_bestChoice_61 : decode cX5_bestChoice 61 = .ok (.iinc 4 1, 3) := by decide +kernel
theorem dX5_bestChoice_64 : decode cX5_bestChoice 64 = .ok (.goto (-45), 3) := by decide +kernel
theorem dX5_bestChoice_67 : decode cX5_bestChoice 67 = .ok (.iload_n 1, 1) := by decide +kernel
theorem dX5_bestChoice_68 : decode cX5_bestChoice 68 = .ok (.ireturn, 1) := by decide +kernel
theorem dX5_isRight_0 : decode cX5_isRight 0 = .ok (.iconst 0, 1) := by decide +kernel
theorem dX5_isRight_1 : decode cX5_isRight 1 = .ok (.istore_n 2, 1) := by decide +kernel
theorem dX5_isRight_2 : decode cX5_isRight 2 = .ok (.iload_n 2, 1) := by decide +kernel
theorem dX5_isRight_3 : decode cX5_isRight 3 = .ok (.aload_n 0, 1) := by decide +kernel
theorem dX5_isRight_4 : decode cX5_isRight 4 = .ok (.getfield 71, 3) := by decide +kernel
theorem dX5_isRight_7 : decode cX5_isRight 7 = .ok (.if_icmp .ge 29, 3) := by decide +kernel
theorem dX5_isRight_10 : decode cX5_isRight 10 = .ok (.aload_n 0, 1) := by decide +kernel
theorem dX5_isRight_11 : decode cX5_isRight 11 = .ok (.getfield 10, 3) := by decide +kernel
theorem dX5_isRight_14 : decode cX5_isRight 14 = .ok (.iload_n 1, 1) := by decide +kernel
theorem dX5_isRight_15 : decode cX5_isRight 15 = .ok (.iload_n 2, 1) := by decide +kernel
theorem dX5_isRight_16 : decode cX5_isRight 16 = .ok (.invokevirtual 177, 3) := by decide +kernel
theorem dX5_isRight_19 : decode cX5_isRight 19 = .ok (.aload_n 0, 1) := by decide +kernel
theorem dX5_isRight_20 : decode cX5_isRight 20 = .ok (.getfield 47, 3) := by decide +kernel
theorem dX5_isRight_23 : decode cX5_isRight 23 = .ok (.iload_n 2, 1) := by decide +kernel
theorem dX5_isRight_24 : decode cX5_isRight 24 = .ok (.iaload, 1) := by decide +kernel
theorem dX5_isRight_25 : decode cX5_isRight 25 = .ok (.if_icmp .le 5, 3) := by decide +kernel
theorem dX5_isRight_28 : decode cX5_isRight 28 = .ok (.iconst 0, 1) := by decide +kernel
theorem dX5_isRight_29 : decode cX5_isRight 29 = .ok (.ireturn, 1) := by decide +kernel
theorem dX5_isRight_30 : decode cX5_isRight 30 = .ok (.iinc 2 1, 3) := by decide +kernel
theorem dX5_isRight_33 : decode cX5_isRight 33 = .ok (.goto (-31), 3) := by decide +kernel
theorem dX5_isRight_36 : decode cX5_isRight 36 = .ok (.iconst 1, 1) := by decide +kernel
theorem dX5_isRight_37 : decode cX5_isRight 37 = .ok (.ireturn, 1) := by decide +kernel
theorem dX5_offerCopies_0 : decode cX5_offerCopies 0 = .ok (.iconst 0, 1) := by decide +kernel
theorem dX5_offerCopies_1 : decode cX5_offerCopies 1 = .ok (.istore_n 3, 1) := by decide +kernel
theorem dX5_offerCopies_2 : decode cX5_offerCopies 2 = .ok (.iload_n 3, 1) := by decide +kernel
theorem dX5_offerCopies_3 : decode cX5_offerCopies 3 = .ok (.iconst 4, 1) := by decide +kernel
theorem dX5_offerCopies_4 : decode cX5_offerCopies 4 = .ok (.if_icmp .ge 45, 3) := by decide +kernel
theorem dX5_offerCopies_7 : decode cX5_offerCopies 7 = .ok (.iload_n 3, 1) := by decide +kernel
theorem dX5_offerCopies_8 : decode cX5_offerCopies 8 = .ok (.aload_n 0, 1) := by decide +kernel
theorem dX5_offerCopies_9 : decode cX5_offerCopies 9 = .ok (.getfield 19, 3) := by decide +kernel
theorem dX5_offerCopies_12 : decode cX5_offerCopies 12 = .ok (.iload_n 1, 1) := by decide +kernel
theorem dX5_offerCopies_13 : decode cX5_offerCopies 13 = .ok (.invokevirtual 106, 3) := by decide +kernel
theorem dX5_offerCopies_16 : decode cX5_offerCopies 16 = .ok (.if_icmp .eq 27, 3) := by decide +kernel
theorem dX5_offerCopies_19 : decode cX5_offerCopies 19 = .ok (.aload_n 0, 1) := by decide +kernel
theorem dX5_offerCopies_20 : decode cX5_offerCopies 20 = .ok (.aload_n 0, 1) := by decide +kernel
theorem dX5_offerCopies_21 : decode cX5_offerCopies 21 = .ok (.getfield 51, 3) := by decide +kernel
theorem dX5_offerCopies_24 : decode cX5_offerCopies 24 = .ok (.iload_n 1, 1) := by decide +kernel
theorem dX5_offerCopies_25 : decode cX5_offerCopies 25 = .ok (.iaload, 1) := by decide +kernel
theorem dX5_offerCopies_26 : decode cX5_offerCopies 26 = .ok (.aload_n 0, 1) := by decide +kernel
theorem dX5_offerCopies_27 : decode cX5_offerCopies 27 = .ok (.getfield 10, 3) := by decide +kernel
theorem dX5_offerCopies_30 : decode cX5_offerCopies 30 = .ok (.iload_n 1, 1) := by decide +kernel
theorem dX5_offerCopies_31 : decode cX5_offerCopies 31 = .ok (.iload_n 3, 1) := by decide +kernel
theorem dX5_offerCopies_32 : decode cX5_offerCopies 32 = .ok (.aload_n 0, 1) := by decide +kernel
theorem dX5_offerCopies_33 : decode cX5_offerCopies 33 = .ok (.getfield 19, 3) := by decide +kernel
theorem dX5_offerCopies_36 : decode cX5_offerCopies 36 = .ok (.invokevirtual 187, 3) := by decide +kernel
theorem dX5_offerCopies_39 : decode cX5_offerCopies 39 = .ok (.iload_n 2, 1) := by decide +kernel
theorem dX5_offerCopies_40 : decode cX5_offerCopies 40 = .ok (.invokevirtual 253, 3) := by decide +kernel
theorem dX5_offerCopies_43 : decode cX5_offerCopies 43 = .ok (.iinc 3 1, 3) := by decide +kernel
theorem dX5_offerCopies_46 : decode cX5_offerCopies 46 = .ok (.goto (-44), 3) := by decide +kernel
theorem dX5_offerCopies_49 : decode cX5_offerCopies 49 = .ok (.return_, 1) := by decide +kernel
theorem dX5_offerCopy_0 : decode cX5_offerCopy 0 = .ok (.iload_n 3, 1) := by decide +kernel
theorem dX5_offerCopy_1 : decode cX5_offerCopy 1 = .ok (.istore 4, 2) := by decide +kernel
theorem dX5_offerCopy_3 : decode cX5_offerCopy 3 = .ok (.iload 4, 2) := by decide +kernel
theorem dX5_offerCopy_5 : decode cX5_offerCopy 5 = .ok (.iload_n 1, 1) := by decide +kernel
theorem dX5_offerCopy_6 : decode cX5_offerCopy 6 = .ok (.if_icmp .lt 37, 3) := by decide +kernel
theorem dX5_offerCopy_9 : decode cX5_offerCopy 9 = .ok (.aload_n 0, 1) := by decide +kernel
theorem dX5_offerCopy_10 : decode cX5_offerCopy 10 = .ok (.getfield 60, 3) := by decide +kernel
theorem dX5_offerCopy_13 : decode cX5_offerCopy 13 = .ok (.iload 4, 2) := by decide +kernel
theorem dX5_offerCopy_15 : decode cX5_offerCopy 15 = .ok (.aload_n 0, 1) := by decide +kernel
theorem dX5_offerCopy_16 : decode cX5_offerCopy 16 = .ok (.getfield 60, 3) := by decide +kernel
theorem dX5_offerCopy_19 : decode cX5_offerCopy 19 = .ok (.iload 4, 2) := by decide +kernel
theorem dX5_offerCopy_21 : decode cX5_offerCopy 21 = .ok (.iaload, 1) := by decide +kernel
theorem dX5_offerCopy_22 : decode cX5_offerCopy 22 = .ok (.aload_n 0, 1) := by decide +kernel
theorem dX5_offerCopy_23 : decode cX5_offerCopy 23 = .ok (.getfield 60, 3) := by decide +kernel
theorem dX5_offerCopy_26 : decode cX5_offerCopy 26 = .ok (.iload 4, 2) := by decide +kernel
theorem dX5_offerCopy_28 : decode cX5_offerCopy 28 = .ok (.iload_n 1, 1) := by decide +kernel
theorem dX5_offerCopy_29 : decode cX5_offerCopy 29 = .ok (.isub, 1) := by decide +kernel
theorem dX5_offerCopy_30 : decode cX5_offerCopy 30 = .ok (.iaload, 1) := by decide +kernel
theorem dX5_offerCopy_31 : decode cX5_offerCopy 31 = .ok (.iload_n 2, 1) := by decide +kernel
theorem dX5_offerCopy_32 : decode cX5_offerCopy 32 = .ok (.iadd, 1) := by decide +kernel
theorem dX5_offerCopy_33 : decode cX5_offerCopy 33 = .ok (.invokestatic 256, 3) := by decide +kernel
theorem dX5_offerCopy_36 : decode cX5_offerCopy 36 = .ok (.iastore, 1) := by decide +kernel
theorem dX5_offerCopy_37 : decode cX5_offerCopy 37 = .ok (.iinc 4 (-1), 3) := by decide +kernel
theorem dX5_offerCopy_40 : decode cX5_offerCopy 40 = .ok (.goto (-37), 3) := by decide +kernel
theorem dX5_offerCopy_43 : decode cX5_offerCopy 43 = .ok (.return_, 1) := by decide +kernel
theorem dX6_init_0 : decode cX6_init 0 = .ok (.aload_n 0, 1) := by decide +kernel
theorem dX6_init_1 : decode cX6_init 1 = .ok (.invokespecial 1, 3) := by decide +kernel
theorem dX6_init_4 : decode cX6_init 4 = .ok (.aload_n 0, 1) := by decide +kernel
theorem dX6_init_5 : decode cX6_init 5 = .ok (.iconst 4, 1) := by decide +kernel
theorem dX6_init_6 : decode cX6_init 6 = .ok (.putfield 7, 3) := by decide +kernel
theorem dX6_init_9 : decode cX6_init 9 = .ok (.aload_n 0, 1) := by decide +kernel
theorem dX6_init_10 : decode cX6_init 10 = .ok (.iconst 4, 1) := by decide +kernel
theorem dX6_init_11 : decode cX6_init 11 = .ok (.putfield 13, 3) := by decide +kernel
theorem dX6_init_14 : decode cX6_init 14 = .ok (.aload_n 0, 1) := by decide +kernel
theorem dX6_init_15 : decode cX6_init 15 = .ok (.bipush 16, 2) := by decide +kernel
theorem dX6_init_17 : decode cX6_init 17 = .ok (.newarray .int, 2) := by decide +kernel
theorem dX6_init_19 : decode cX6_init 19 = .ok (.putfield 16, 3) := by decide +kernel
theorem dX6_init_22 : decode cX6_init 22 = .ok (.aload_n 0, 1) := by decide +kernel
theorem dX6_init_23 : decode cX6_init 23 = .ok (.bipush 8, 2) := by decide +kernel
theorem dX6_init_25 : decode cX6_init 25 = .ok (.newarray .int, 2) := by decide +kernel
theorem dX6_init_27 : decode cX6_init 27 = .ok (.putfield 20, 3) := by decide +kernel
theorem dX6_init_30 : decode cX6_init 30 = .ok (.aload_n 0, 1) := by decide +kernel
theorem dX6_init_31 : decode cX6_init 31 = .ok (.bipush 8, 2) := by decide +kernel
theorem dX6_init_33 : decode cX6_init 33 = .ok (.newarray .int, 2) := by decide +kernel
theorem dX6_init_35 : decode cX6_init 35 = .ok (.putfield 23, 3) := by decide +kernel
theorem dX6_init_38 : decode cX6_init 38 = .ok (.aload_n 0, 1) := by decide +kernel
theorem dX6_init_39 : decode cX6_init 39 = .ok (.bipush 7, 2) := by decide +kernel
theorem dX6_init_41 : decode cX6_init 41 = .ok (.newarray .int, 2) := by decide +kernel
theorem dX6_init_43 : decode cX6_init 43 = .ok (.putfield 26, 3) := by decide +kernel
theorem dX6_init_46 : decode cX6_init 46 = .ok (.aload_n 0, 1) := by decide +kernel
theorem dX6_init_47 : decode cX6_init 47 = .ok (.bipush 7, 2) := by decide +kernel
theorem dX6_init_49 : decode cX6_init 49 = .ok (.newarray .int, 2) := by decide +kernel
theorem dX6_init_51 : decode cX6_init 51 = .ok (.putfield 29, 3) := by decide +kernel
theorem dX6_init_54 : decode cX6_init 54 = .ok (.aload_n 0, 1) := by decide +kernel
theorem dX6_init_55 : decode cX6_init 55 = .ok (.iconst 4, 1) := by decide +kernel
theorem dX6_init_56 : decode cX6_init 56 = .ok (.newarray .int, 2) := by decide +kernel
theorem dX6_init_58 : decode cX6_init 58 = .ok (.putfield 32, 3) := by decide +kernel
theorem dX6_init_61 : decode cX6_init 61 = .ok (.aload_n 0, 1) := by decide +kernel
theorem dX6_init_62 : decode cX6_init 62 = .ok (.bipush 6, 2) := by decide +kernel
theorem dX6_init_64 : decode cX6_init 64 = .ok (.newarray .int, 2) := by decide +kernel
theorem dX6_init_66 : decode cX6_init 66 = .ok (.putfield 35, 3) := by decide +kernel
theorem dX6_init_69 : decode cX6_init 69 = .ok (.aload_n 0, 1) := by decide +kernel
theorem dX6_init_70 : decode cX6_init 70 = .ok (.iconst 5, 1) := by decide +kernel
theorem dX6_init_71 : decode cX6_init 71 = .ok (.putfield 38, 3) := by decide +kernel
theorem dX6_init_74 : decode cX6_init 74 = .ok (.aload_n 0, 1) := by decide +kernel
theorem dX6_init_75 : decode cX6_init 75 = .ok (.bipush 7, 2) := by decide +kernel
theorem dX6_init_77 : decode cX6_init 77 = .ok (.newarray .int, 2) := by decide +kernel
theorem dX6_init_79 : decode cX6_init 79 = .ok (.putfield 41, 3) := by decide +kernel
theorem dX6_init_82 : decode cX6_init 82 = .ok (.aload_n 0, 1) := by decide +kernel
theorem dX6_init_83 : decode cX6_init 83 = .ok (.iconst 4, 1) := by decide +kernel
theorem dX6_init_84 : decode cX6_init 84 = .ok (.newarray .int, 2) := by decide +kernel
theorem dX6_init_86 : decode cX6_init 86 = .ok (.putfield 44, 3) := by decide +kernel
theorem dX6_init_89 : decode cX6_init 89 = .ok (.aload_n 0, 1) := by decide +kernel
theorem dX6_init_90 : decode cX6_init 90 = .ok (.sipush 201, 3) := by decide +kernel
theorem dX6_init_93 : decode cX6_init 93 = .ok (.newarray .int, 2) := by decide +kernel
theorem dX6_init_95 : decode cX6_init 95 = .ok (.putfield 47, 3) := by decide +kernel
theorem dX6_init_98 : decode cX6_init 98 = .ok (.aload_n 0, 1) := by decide +kernel
theorem dX6_init_99 : decode cX6_init 99 = .ok (.iconst 4, 1) := by decide +kernel
theorem dX6_init_100 : decode cX6_init 100 = .ok (.newarray .int, 2) := by decide +kernel
theorem dX6_init_102 : decode cX6_init 102 = .ok (.putfield 50, 3) := by decide +kernel
theorem dX6_init_105 : decode cX6_init 105 = .ok (.aload_n 0, 1) := by decide +kernel
theorem dX6_init_106 : decode cX6_init 106 = .ok (.iconst 5, 1) := by decide +kernel
theorem dX6_init_107 : decode cX6_init 107 = .ok (.newarray .int, 2) := by decide +kernel
theorem dX6_init_109 : decode cX6_init 109 = .ok (.putfield 53, 3) := by decide +kernel
theorem dX6_init_112 : decode cX6_init 112 = .ok (.aload_n 0, 1) := by decide +kernel
theorem dX6_init_113 : decode cX6_init 113 = .ok (.iconst 4, 1) := by decide +kernel
theorem dX6_init_114 : decode cX6_init 114 = .ok (.newarray .int, 2) := by decide +kernel
theorem dX6_init_116 : decode cX6_init 116 = .ok (.putfield 56, 3) := by decide +kernel
theorem dX6_init_119 : decode cX6_init 119 = .ok (.aload_n 0, 1) := by decide +kernel
theorem dX6_init_120 : decode cX6_init 120 = .ok (.iconst 4, 1) := by decide +kernel
theorem dX6_init_121 : decode cX6_init 121 = .ok (.newarray .int, 2) := by decide +kernel
theorem dX6_init_123 : decode cX6_init 123 = .ok (.putfield 59, 3) := by decide +kernel
theorem dX6_init_126 : decode cX6_init 126 = .ok (.aload_n 0, 1) := by decide +kernel
theorem dX6_init_127 : decode cX6_init 127 = .ok (.iconst 4, 1) := by decide +kernel
theorem dX6_init_128 : decode cX6_init 128 = .ok (.iconst 4, 1) := by decide +kernel
theorem dX6_init_129 : decode cX6_init 129 = .ok (.invokevirtual 62, 3) := by decide +kernel
theorem dX6_init_132 : decode cX6_init 132 = .ok (.return_, 1) := by decide +kernel
theorem dX6_in_0 : decode cX6_in 0 = .ok (.iload_n 0, 1) := by decide +kernel
theorem dX6_in_1 : decode cX6_in 1 = .ok (.iload_n 1, 1) := by decide +kernel
theorem dX6_in_2 : decode cX6_in 2 = .ok (.if_icmp .lt 12, 3) := by decide +kernel
theorem dX6_in_5 : decode cX6_in 5 = .ok (.iload_n 0, 1) := by decide +kernel
theorem dX6_in_6 : decode cX6_in 6 = .ok (.iload_n 2, 1) := by decide +kernel
theorem dX6_in_7 : decode cX6_in 7 = .ok (.if_icmp .gt 7, 3) := by decide +kernel
theorem dX6_in_10 : decode cX6_in 10 = .ok (.iconst 1, 1) := by decide +kernel
theorem dX6_in_11 : decode cX6_in 11 = .ok (.goto 4, 3) := by decide +kernel
theorem dX6_in_14 : decode cX6_in 14 = .ok (.iconst 0, 1) := by decide +kernel
theorem dX6_in_15 : decode cX6_in 15 = .ok (.ireturn, 1) := by decide +kernel
theorem dX6_begins_0 : decode cX6_begins 0 = .ok (.aload_n 0, 1) := by decide +kernel
theorem dX6_begins_1 : decode cX6_begins 1 = .ok (.iload_n 1, 1) := by decide +kernel
theorem dX6_begins_2 : decode cX6_begins 2 = .ok (.putfield 7, 3) := by decide +kernel
theorem dX6_begins_5 : decode cX6_begins 5 = .ok (.aload_n 0, 1) := by decide +kernel
theorem dX6_begins_6 : decode cX6_begins 6 = .ok (.iload_n 2, 1) := by decide +kernel
theorem dX6_begins_7 : decode cX6_begins 7 = .ok (.putfield 13, 3) := by decide +kernel
theorem dX6_begins_10 : decode cX6_begins 10 = .ok (.aload_n 0, 1) := by decide +kernel
theorem dX6_begins_11 : decode cX6_begins 11 = .ok (.iconst 0, 1) := by decide +kernel
theorem dX6_begins_12 : decode cX6_begins 12 = .ok (.putfield 69, 3) := by decide +kernel
theorem dX6_begins_15 : decode cX6_begins 15 = .ok (.iconst 0, 1) := by decide +kernel
theorem dX6_begins_16 : decode cX6_begins 16 = .ok (.istore_n 3, 1) := by decide +kernel
theorem dX6_begins_17 : decode cX6_begins 17 = .ok (.iload_n 3, 1) := by decide +kernel
theorem dX6_begins_18 : decode cX6_begins 18 = .ok (.bipush 8, 2) := by decide +kernel
theorem dX6_begins_20 : decode cX6_begins 20 = .ok (.if_icmp .ge 43, 3) := by decide +kernel
theorem dX6_begins_23 : decode cX6_begins 23 = .ok (.aload_n 0, 1) := by decide +kernel
theorem dX6_begins_24 : decode cX6_begins 24 = .ok (.getfield 16, 3) := by decide +kernel
theorem dX6_begins_27 : decode cX6_begins 27 = .ok (.iconst 2, 1) := by decide +kernel
theorem dX6_begins_28 : decode cX6_begins 28 = .ok (.iload_n 3, 1) := by decide +kernel
theorem dX6_begins_29 : decode cX6_begins 29 = .ok (.imul, 1) := by decide +kernel
theorem dX6_begins_30 : decode cX6_begins 30 = .ok (.iconst 0, 1) := by decide +kernel
theorem dX6_begins_31 : decode cX6_begins 31 = .ok (.iastore, 1) := by decide +kernel
theorem dX6_begins_32 : decode cX6_begins 32 = .ok (.aload_n 0, 1) := by decide +kernel
theorem dX6_begins_33 : decode cX6_begins 33 = .ok (.getfield 16, 3) := by decide +kernel
theorem dX6_begins_36 : decode cX6_begins 36 = .ok (.iconst 2, 1) := by decide +kernel
theorem dX6_begins_37 : decode cX6_begins 37 = .ok (.iload_n 3, 1) := by decide +kernel
theorem dX6_begins_38 : decode cX6_begins 38 = .ok (.imul, 1) := by decide +kernel
theorem dX6_begins_39 : decode cX6_begins 39 = .ok (.iconst 1, 1) := by decide +kernel
theorem dX6_begins_40 : decode cX6_begins 40 = .ok (.iadd, 1) := by decide +kernel
theorem dX6_begins_41 : decode cX6_begins 41 = .ok (.iconst 0, 1) := by decide +kernel
theorem dX6_begins_42 : decode cX6_begins 42 = .ok (.iastore, 1) := by decide +kernel
theorem dX6_begins_43 : decode cX6_begins 43 = .ok (.aload_n 0, 1) := by decide +kernel
theorem dX6_begins_44 : decode cX6_begins 44 = .ok (.getfield 20, 3) := by decide +kernel
theorem dX6_begins_47 : decode cX6_begins 47 = .ok (.iload_n 3, 1) := by decide +kernel
theorem dX6_begins_48 : decode cX6_begins 48 = .ok (.iconst 0, 1) := by decide +kernel
theorem dX6_begins_49 : decode cX6_begins 49 = .ok (.iastore, 1) := by decide +kernel
theorem dX6_begins_50 : decode cX6_begins 50 = .ok (.aload_n 0, 1) := by decide +kernel
theorem dX6_begins_51 : decode cX6_begins 51 = .ok (.getfield 23, 3) := by decide +kernel
theorem dX6_begins_54 : decode cX6_begins 54 = .ok (.iload_n 3, 1) := by decide +kernel
theorem dX6_begins_55 : decode cX6_begins 55 = .ok (.iconst 1, 1) := by decide +kernel
theorem dX6_begins_56 : decode cX6_begins 56 = .ok (.iastore, 1) := by decide +kernel
theorem dX6_begins_57 : decode cX6_begins 57 = .ok (.iinc 3 1, 3) := by decide +kernel
theorem dX6_begins_60 : decode cX6_begins 60 = .ok (.goto (-43), 3) := by decide +kernel
theorem dX6_begins_63 : decode cX6_begins 63 = .ok (.iconst 0, 1) := by decide +kernel
theorem dX6_begins_64 : decode cX6_begins 64 = .ok (.istore_n 3, 1) := by decide +kernel
theorem dX6_begins_65 : decode cX6_begins 65 = .ok (.iload_n 3, 1) := by decide +kernel
theorem dX6_begins_66 : decode cX6_begins 66 = .ok (.bipush 7, 2) := by decide +kernel
theorem dX6_begins_68 : decode cX6_begins 68 = .ok (.if_icmp .ge 25, 3) := by decide +kernel
theorem dX6_begins_71 : decode cX6_begins 71 = .ok (.aload_n 0, 1) := by decide +kernel
theorem dX6_begins_72 : decode cX6_begins 72 = .ok (.getfield 26, 3) := by decide +kernel
theorem dX6_begins_75 : decode cX6_begins 75 = .ok (.iload_n 3, 1) := by decide +kernel
theorem dX6_begins_76 : decode cX6_begins 76 = .ok (.bipush 99, 2) := by decide +kernel
theorem dX6_begins_78 : decode cX6_begins 78 = .ok (.iastore, 1) := by decide +kernel
theorem dX6_begins_79 : decode cX6_begins 79 = .ok (.aload_n 0, 1) := by decide +kernel
theorem dX6_begins_80 : decode cX6_begins 80 = .ok (.getfield 29, 3) := by decide +kernel
theorem dX6_begins_83 : decode cX6_begins 83 = .ok (.iload_n 3, 1) := by decide +kernel
theorem dX6_begins_84 : decode cX6_begins 84 = .ok (.bipush 10, 2) := by decide +kernel
theorem dX6_begins_86 : decode cX6_begins 86 = .ok (.iastore, 1) := by decide +kernel
theorem dX6_begins_87 : decode cX6_begins 87 = .ok (.iinc 3 1, 3) := by decide +kernel
theorem dX6_begins_90 : decode cX6_begins 90 = .ok (.goto (-25), 3) := by decide +kernel
theorem dX6_begins_93 : decode cX6_begins 93 = .ok (.iconst 0, 1) := by decide +kernel
theorem dX6_begins_94 : decode cX6_begins 94 = .ok (.istore_n 3, 1) := by decide +kernel
theorem dX6_begins_95 : decode cX6_begins 95 = .ok (.iload_n 3, 1) := by decide +kernel
theorem dX6_begins_96 : decode cX6_begins 96 = .ok (.iconst 4, 1) := by decide +kernel
theorem dX6_begins_97 : decode cX6_begins 97 = .ok (.if_icmp .ge 16, 3) := by decide +kernel
theorem dX6_begins_100 : decode cX6_begins 100 = .ok (.aload_n 0, 1) := by decide +kernel
theorem dX6_begins_101 : decode cX6_begins 101 = .ok (.getfield 32, 3) := by decide +kernel
theorem dX6_begins_104 : decode cX6_begins 104 = .ok (.iload_n 3, 1) := by decide +kernel
theorem dX6_begins_105 : decode cX6_begins 105 = .ok (.iconst 0, 1) := by decide +kernel
theorem dX6_begins_106 : decode cX6_begins 106 = .ok (.iastore, 1) := by decide +kernel
theorem dX6_begins_107 : decode cX6_begins 107 = .ok (.iinc 3 1, 3) := by decide +kernel
theorem dX6_begins_110 : decode cX6_begins 110 = .ok (.goto (-15), 3) := by decide +kernel
theorem dX6_begins_113 : decode cX6_begins 113 = .ok (.return_, 1) := by decide +kernel
theorem dX6_works_0 : decode cX6_works 0 = .ok (.aload_n 0, 1) := by decide +kernel
theorem dX6_works_1 : decode cX6_works 1 = .ok (.iconst 0, 1) := by decide +kernel
theorem dX6_works_2 : decode cX6_works 2 = .ok (.putfield 66, 3) := by decide +kernel
theorem dX6_works_5 : decode cX6_works 5 = .ok (.iload_n 1, 1) := by decide +kernel
theorem dX6_works_6 : decode cX6_works 6 = .ok (.iconst 1, 1) := by decide +kernel
theorem dX6_works_7 : decode cX6_works 7 = .ok (.bipush 7, 2) := by decide +kernel
theorem dX6_works_9 : decode cX6_works 9 = .ok (.invokestatic 72, 3) := by decide +kernel
theorem dX6_works_12 : decode cX6_works 12 = .ok (.ifCond .eq 13, 3) := by decide +kernel
theorem dX6_works_15 : decode cX6_works 15 = .ok (.iload_n 2, 1) := by decide +kernel
theorem dX6_works_16 : decode cX6_works 16 = .ok (.iconst 1, 1) := by decide +kernel
theorem dX6_works_17 : decode cX6_works 17 = .ok (.bipush 8, 2) := by decide +kernel
theorem dX6_works_19 : decode cX6_works 19 = .ok (.invokestatic 72, 3) := by decide +kernel
theorem dX6_works_22 : decode cX6_works 22 = .ok (.ifCond .ne 5, 3) := by decide +kernel
theorem dX6_works_25 : decode cX6_works 25 = .ok (.iconst (-1), 1) := by decide +kernel
theorem dX6_works_26 : decode cX6_works 26 = .ok (.ireturn, 1) := by decide +kernel
theorem dX6_works_27 : decode cX6_works 27 = .ok (.aload_n 0, 1) := by decide +kernel
theorem dX6_works_28 : decode cX6_works 28 = .ok (.getfield 7, 3) := by decide +kernel
theorem dX6_works_31 : decode cX6_works 31 = .ok (.istore_n 3, 1) := by decide +kernel
theorem dX6_works_32 : decode cX6_works 32 = .ok (.aload_n 0, 1) := by decide +kernel
theorem dX6_works_33 : decode cX6_works 33 = .ok (.iload_n 1, 1) := by decide +kernel
theorem dX6_works_34 : decode cX6_works 34 = .ok (.iload_n 2, 1) := by decide +kernel
theorem dX6_works_35 : decode cX6_works 35 = .ok (.invokevirtual 62, 3) := by decide +kernel
theorem dX6_works_38 : decode cX6_works 38 = .ok (.iload_n 3, 1) := by decide +kernel
theorem dX6_works_39 : decode cX6_works 39 = .ok (.ireturn, 1) := by decide +kernel
theorem dX6_isPart_0 : decode cX6_isPart 0 = .ok (.iload_n 1, 1) := by decide +kernel
theorem dX6_isPart_1 : decode cX6_isPart 1 = .ok (.iconst 0, 1) := by decide +kernel
theorem dX6_isPart_2 : decode cX6_isPart 2 = .ok (.aload_n 0, 1) := by decide +kernel
theorem dX6_isPart_3 : decode cX6_isPart 3 = .ok (.getfield 13, 3) := by decide +kernel
theorem dX6_isPart_6 : decode cX6_isPart 6 = .ok (.iconst 1, 1) := by decide +kernel
theorem dX6_isPart_7 : decode cX6_isPart 7 = .ok (.isub, 1) := by decide +kernel
theorem dX6_isPart_8 : decode cX6_isPart 8 = .ok (.invokestatic 72, 3) := by decide +kernel
theorem dX6_isPart_11 : decode cX6_isPart 11 = .ok (.ireturn, 1) := by decide +kernel
theorem dX6_isMachine_0 : decode cX6_isMachine 0 = .ok (.iload_n 1, 1) := by decide +kernel
theorem dX6_isMachine_1 : decode cX6_isMachine 1 = .ok (.iconst 0, 1) := by decide +kernel
theorem dX6_isMachine_2 : decode cX6_isMachine 2 = .ok (.aload_n 0, 1) := by decide +kernel
theorem dX6_isMachine_3 : decode cX6_isMachine 3 = .ok (.getfield 7, 3) := by decide +kernel
theorem dX6_isMachine_6 : decode cX6_isMachine 6 = .ok (.iconst 1, 1) := by decide +kernel
theorem dX6_isMachine_7 : decode cX6_isMachine 7 = .ok (.isub, 1) := by decide +kernel
theorem dX6_isMachine_8 : decode cX6_isMachine 8 = .ok (.invokestatic 72, 3) := by decide +kernel
theorem dX6_isMachine_11 : decode cX6_isMachine 11 = .ok (.ireturn, 1) := by decide +kernel
theorem dX6_route_0 : decode cX6_route 0 = .ok (.aload_n 0, 1) := by decide +kernel
theorem dX6_route_1 : decode cX6_route 1 = .ok (.iconst 0, 1) := by decide +kernel
theorem dX6_route_2 : decode cX6_route 2 = .ok (.putfield 66, 3) := by decide +kernel
theorem dX6_route_5 : decode cX6_route 5 = .ok (.aload_n 0, 1) := by decide +kernel
theorem dX6_route_6 : decode cX6_route 6 = .ok (.iload_n 1, 1) := by decide +kernel
theorem dX6_route_7 : decode cX6_route 7 = .ok (.invokevirtual 76, 3) := by decide +kernel
theorem dX6_route_10 : decode cX6_route 10 = .ok (.ifCond .eq 25, 3) := by decide +kernel
theorem dX6_route_13 : decode cX6_route 13 = .ok (.iload_n 2, 1) := by decide +kernel
theorem dX6_route_14 : decode cX6_route 14 = .ok (.iconst 0, 1) := by decide +kernel
theorem dX6_route_15 : decode cX6_route 15 = .ok (.iconst 1, 1) := by decide +kernel
theorem dX6_route_16 : decode cX6_route 16 = .ok (.invokestatic 72, 3) := by decide +kernel
theorem dX6_route_19 : decode cX6_route 19 = .ok (.ifCond .eq 16, 3) := by decide +kernel
theorem dX6_route_22 : decode cX6_route 22 = .ok (.iload_n 3, 1) := by decide +kernel
theorem dX6_route_23 : decode cX6_route 23 = .ok (.ifCond .lt 12, 3) := by decide +kernel
theorem dX6_route_26 : decode cX6_route 26 = .ok (.iload_n 3, 1) := by decide +kernel
theorem dX6_route_27 : decode cX6_route 27 = .ok (.aload_n 0, 1) := by decide +kernel
theorem dX6_route_28 : decode cX6_route 28 = .ok (.getfield 7, 3) := by decide +kernel
theorem dX6_route_31 : decode cX6_route 31 = .ok (.ishr, 1) := by decide +kernel
theorem dX6_route_32 : decode cX6_route 32 = .ok (.ifCond .eq 5, 3) := by decide +kernel
theorem dX6_route_35 : decode cX6_route 35 = .ok (.iconst (-1), 1) := by decide +kernel
theorem dX6_route_36 : decode cX6_route 36 = .ok (.ireturn, 1) := by decide +kernel
theorem dX6_route_37 : decode cX6_route 37 = .ok (.aload_n 0, 1) := by decide +kernel
theorem dX6_route_38 : decode cX6_route 38 = .ok (.getfield 16, 3) := by decide +kernel
theorem dX6_route_41 : decode cX6_route 41 = .ok (.iconst 2, 1) := by decide +kernel
theorem dX6_route_42 : decode cX6_route 42 = .ok (.iload_n 1, 1) := by decide +kernel
theorem dX6_route_43 : decode cX6_route 43 = .ok (.imul, 1) := by decide +kernel
theorem dX6_route_44 : decode cX6_route 44 = .ok (.iload_n 2, 1) := by decide +kernel
theorem dX6_route_45 : decode cX6_route 45 = .ok (.iadd, 1) := by decide +kernel
theorem dX6_route_46 : decode cX6_route 46 = .ok (.iaload, 1) := by decide +kernel
theorem dX6_route_47 : decode cX6_route 47 = .ok (.istore 4, 2) := by decide +kernel
theorem dX6_route_49 : decode cX6_route 49 = .ok (.aload_n 0, 1) := by decide +kernel
theorem dX6_route_50 : decode cX6_route 50 = .ok (.getfield 16, 3) := by decide +kernel
theorem dX6_route_53 : decode cX6_route 53 = .ok (.iconst 2, 1) := by decide +kernel
theorem dX6_route_54 : decode cX6_route 54 = .ok (.iload_n 1, 1) := by decide +kernel
theorem dX6_route_55 : decode cX6_route 55 = .ok (.imul, 1) := by decide +kernel
theorem dX6_route_56 : decode cX6_route 56 = .ok (.iload_n 2, 1) := by decide +kernel
theorem dX6_route_57 : decode cX6_route 57 = .ok (.iadd, 1) := by decide +kernel
theorem dX6_route_58 : decode cX6_route 58 = .ok (.iload_n 3, 1) := by decide +kernel
theorem dX6_route_59 : decode cX6_route 59 = .ok (.iastore, 1) := by decide +kernel
theorem dX6_route_60 : decode cX6_route 60 = .ok (.iload 4, 2) := by decide +kernel
theorem dX6_route_62 : decode cX6_route 62 = .ok (.ireturn, 1) := by decide +kernel
theorem dX6_goes_0 : decode cX6_goes 0 = .ok (.aload_n 0, 1) := by decide +kernel
theorem dX6_goes_1 : decode cX6_goes 1 = .ok (.iconst 0, 1) := by decide +kernel
theorem dX6_goes_2 : decode cX6_goes 2 = .ok (.putfield 66, 3) := by decide +kernel
theorem dX6_goes_5 : decode cX6_goes 5 = .ok (.aload_n 0, 1) := by decide +kernel
theorem dX6_goes_6 : decode cX6_goes 6 = .ok (.iload_n 1, 1) := by decide +kernel
theorem dX6_goes_7 : decode cX6_goes 7 = .ok (.invokevirtual 76, 3) := by decide +kernel
theorem dX6_goes_10 : decode cX6_goes 10 = .ok (.ifCond .eq 12, 3) := by decide +kernel
theorem dX6_goes_13 : decode cX6_goes 13 = .ok (.iload_n 2, 1) := by decide +kernel
theorem dX6_goes_14 : decode cX6_goes 14 = .ok (.iconst 0, 1) := by decide +kernel
theorem dX6_goes_15 : decode cX6_goes 15 = .ok (.iconst 1, 1) := by decide +kernel
theorem dX6_goes_16 : decode cX6_goes 16 = .ok (.invokestatic 72, 3) := by decide +kernel
theorem dX6_goes_19 : decode cX6_goes 19 = .ok (.ifCond .ne 5, 3) := by decide +kernel
theorem dX6_goes_22 : decode cX6_goes 22 = .ok (.iconst (-1), 1) := by decide +kernel
theorem dX6_goes_23 : decode cX6_goes 23 = .ok (.ireturn, 1) := by decide +kernel
theorem dX6_goes_24 : decode cX6_goes 24 = .ok (.aload_n 0, 1) := by decide +kernel
theorem dX6_goes_25 : decode cX6_goes 25 = .ok (.getfield 20, 3) := by decide +kernel
theorem dX6_goes_28 : decode cX6_goes 28 = .ok (.iload_n 1, 1) := by decide +kernel
theorem dX6_goes_29 : decode cX6_goes 29 = .ok (.iaload, 1) := by decide +kernel
theorem dX6_goes_30 : decode cX6_goes 30 = .ok (.istore_n 3, 1) := by decide +kernel
theorem dX6_goes_31 : decode cX6_goes 31 = .ok (.aload_n 0, 1) := by decide +kernel
theorem dX6_goes_32 : decode cX6_goes 32 = .ok (.getfield 20, 3) := by decide +kernel
theorem dX6_goes_35 : decode cX6_goes 35 = .ok (.iload_n 1, 1) := by decide +kernel
theorem dX6_goes_36 : decode cX6_goes 36 = .ok (.iload_n 2, 1) := by decide +kernel
theorem dX6_goes_37 : decode cX6_goes 37 = .ok (.iastore, 1) := by decide +kernel
theorem dX6_goes_38 : decode cX6_goes 38 = .ok (.iload_n 3, 1) := by decide +kernel
theorem dX6_goes_39 : decode cX6_goes 39 = .ok (.ireturn, 1) := by decide +kernel
theorem dX6_pieces_0 : decode cX6_pieces 0 = .ok (.aload_n 0, 1) := by decide +kernel
theorem dX6_pieces_1 : decode cX6_pieces 1 = .ok (.iconst 0, 1) := by decide +kernel
theorem dX6_pieces_2 : decode cX6_pieces 2 = .ok (.putfield 66, 3) := by decide +kernel
theorem dX6_pieces_5 : decode cX6_pieces 5 = .ok (.aload_n 0, 1) := by decide +kernel
theorem dX6_pieces_6 : decode cX6_pieces 6 = .ok (.iload_n 1, 1) := by decide +kernel
theorem dX6_pieces_7 : decode cX6_pieces 7 = .ok (.invokevirtual 76, 3) := by decide +kernel
theorem dX6_pieces_10 : decode cX6_pieces 10 = .ok (.ifCond .eq 13, 3) := by decide +kernel
theorem dX6_pieces_13 : decode cX6_pieces 13 = .ok (.iload_n 2, 1) := by decide +kernel
theorem dX6_pieces_14 : decode cX6_pieces 14 = .ok (.iconst 1, 1) := by decide +kernel
theorem dX6_pieces_15 : decode cX6_pieces 15 = .ok (.bipush 9, 2) := by decide +kernel
theorem dX6_pieces_17 : decode cX6_pieces 17 = .ok (.invokestatic 72, 3) := by decide +kernel
theorem dX6_pieces_20 : decode cX6_pieces 20 = .ok (.ifCond .ne 5, 3) := by decide +kernel
theorem dX6_pieces_23 : decode cX6_pieces 23 = .ok (.iconst (-1), 1) := by decide +kernel
theorem dX6_pieces_24 : decode cX6_pieces 24 = .ok (.ireturn, 1) := by decide +kernel
theorem dX6_pieces_25 : decode cX6_pieces 25 = .ok (.aload_n 0, 1) := by decide +kernel
theorem dX6_pieces_26 : decode cX6_pieces 26 = .ok (.getfield 23, 3) := by decide +kernel
theorem dX6_pieces_29 : decode cX6_pieces 29 = .ok (.iload_n 1, 1) := by decide +kernel
theorem dX6_pieces_30 : decode cX6_pieces 30 = .ok (.iaload, 1) := by decide +kernel
theorem dX6_pieces_31 : decode cX6_pieces 31 = .ok (.istore_n 3, 1) := by decide +kernel
theorem dX6_pieces_32 : decode cX6_pieces 32 = .ok (.aload_n 0, 1) := by decide +kernel
theorem dX6_pieces_33 : decode cX6_pieces 33 = .ok (.getfield 23, 3) := by decide +kernel
theorem dX6_pieces_36 : decode cX6_pieces 36 = .ok (.iload_n 1, 1) := by decide +kernel
theorem dX6_pieces_37 : decode cX6_pieces 37 = .ok (.iload_n 2, 1) := by decide +kernel
theorem dX6_pieces_38 : decode cX6_pieces 38 = .ok (.iastore, 1) := by decide +kernel
theorem dX6_pieces_39 : decode cX6_pieces 39 = .ok (.iload_n 3, 1) := by decide +kernel
theorem dX6_pieces_40 : decode cX6_pieces 40 = .ok (.ireturn, 1) := by decide +kernel
theorem dX6_power_0 : decode cX6_power 0 = .ok (.iconst 1, 1) := by decide +kernel
theorem dX6_power_1 : decode cX6_power 1 = .ok (.iconst 2, 1) := by decide +kernel
theorem dX6_power_2 : decode cX6_power 2 = .ok (.iload_n 0, 1) := by decide +kernel
theorem dX6_power_3 : decode cX6_power 3 = .ok (.imul, 1) := by decide +kernel
theorem dX6_power_4 : decode cX6_power 4 = .ok (.ishl, 1) := by decide +kernel
theorem dX6_power_5 : decode cX6_power 5 = .ok (.ireturn, 1) := by decide +kernel
theorem dX6_cellOf_0 : decode cX6_cellOf 0 = .ok (.iload_n 0, 1) := by decide +kernel
theorem dX6_cellOf_1 : decode cX6_cellOf 1 = .ok (.iconst 2, 1) := by decide +kernel
theorem dX6_cellOf_2 : decode cX6_cellOf 2 = .ok (.iload_n 1, 1) := by decide +kernel
theorem dX6_cellOf_3 : decode cX6_cellOf 3 = .ok (.imul, 1) := by decide +kernel
theorem dX6_cellOf_4 : decode cX6_cellOf 4 = .ok (.ishr, 1) := by decide +kernel
theorem dX6_cellOf_5 : decode cX6_cellOf 5 = .ok (.iconst 3, 1) := by decide +kernel
theorem dX6_cellOf_6 : decode cX6_cellOf 6 = .ok (.iand, 1) := by decide +kernel
theorem dX6_cellOf_7 : decode cX6_cellOf 7 = .ok (.ireturn, 1) := by decide +kernel
theorem dX6_cell_0 : decode cX6_cell 0 = .ok (.aload_n 0, 1) := by decide +kernel
theorem dX6_cell_1 : decode cX6_cell 1 = .ok (.iconst 0, 1) := by decide +kernel
theorem dX6_cell_2 : decode cX6_cell 2 = .ok (.putfield 66, 3) := by decide +kernel
theorem dX6_cell_5 : decode cX6_cell 5 = .ok (.aload_n 0, 1) := by decide +kernel
theorem dX6_cell_6 : decode cX6_cell 6 = .ok (.iload_n 1, 1) := by decide +kernel
theorem dX6_cell_7 : decode cX6_cell 7 = .ok (.invokevirtual 80, 3) := by decide +kernel
theorem dX6_cell_10 : decode cX6_cell 10 = .ok (.ifCond .eq 12, 3) := by decide +kernel
theorem dX6_cell_13 : decode cX6_cell 13 = .ok (.iload_n 2, 1) := by decide +kernel
theorem dX6_cell_14 : decode cX6_cell 14 = .ok (.iconst 0, 1) := by decide +kernel
theorem dX6_cell_15 : decode cX6_cell 15 = .ok (.iconst 3, 1) := by decide +kernel
theorem dX6_cell_16 : decode cX6_cell 16 = .ok (.invokestatic 72, 3) := by decide +kernel
theorem dX6_cell_19 : decode cX6_cell 19 = .ok (.ifCond .ne 5, 3) := by decide +kernel
theorem dX6_cell_22 : decode cX6_cell 22 = .ok (.iconst (-1), 1) := by decide +kernel
theorem dX6_cell_23 : decode cX6_cell 23 = .ok (.ireturn, 1) := by decide +kernel
theorem dX6_cell_24 : decode cX6_cell 24 = .ok (.aload_n 0, 1) := by decide +kernel
theorem dX6_cell_25 : decode cX6_cell 25 = .ok (.getfield 69, 3) := by decide +kernel
theorem dX6_cell_28 : decode cX6_cell 28 = .ok (.iload_n 1, 1) := by decide +kernel
theorem dX6_cell_29 : decode cX6_cell 29 = .ok (.invokestatic 83, 3) := by decide +kernel
theorem dX6_cell_32 : decode cX6_cell 32 = .ok (.istore_n 3, 1) := by decide +kernel
theorem dX6_cell_33 : decode cX6_cell 33 = .ok (.aload_n 0, 1) := by decide +kernel
theorem dX6_cell_34 : decode cX6_cell 34 = .ok (.dup, 1) := by decide +kernel
theorem dX6_cell_35 : decode cX6_cell 35 = .ok (.getfield 69, 3) := by decide +kernel
theorem dX6_cell_38 : decode cX6_cell 38 = .ok (.iload_n 2, 1) := by decide +kernel
theorem dX6_cell_39 : decode cX6_cell 39 = .ok (.iload_n 3, 1) := by decide +kernel
theorem dX6_cell_40 : decode cX6_cell 40 = .ok (.isub, 1) := by decide +kernel
theorem dX6_cell_41 : decode cX6_cell 41 = .ok (.iload_n 1, 1) := by decide +kernel
theorem dX6_cell_42 : decode cX6_cell 42 = .ok (.invokestatic 87, 3) := by decide +kernel
theorem dX6_cell_45 : decode cX6_cell 45 = .ok (.imul, 1) := by decide +kernel
theorem dX6_cell_46 : decode cX6_cell 46 = .ok (.iadd, 1) := by decide +kernel
theorem dX6_cell_47 : decode cX6_cell 47 = .ok (.putfield 69, 3) := by decide +kernel
theorem dX6_cell_50 : decode cX6_cell 50 = .ok (.iload_n 3, 1) := by decide +kernel
theorem dX6_cell_51 : decode cX6_cell 51 = .ok (.ireturn, 1) := by decide +kernel
theorem dX6_group_0 : decode cX6_group 0 = .ok (.aload_n 0, 1) := by decide +kernel
theorem dX6_group_1 : decode cX6_group 1 = .ok (.iconst 0, 1) := by decide +kernel
theorem dX6_group_2 : decode cX6_group 2 = .ok (.putfield 66, 3) := by decide +kernel
theorem dX6_group_5 : decode cX6_group 5 = .ok (.iload_n 1, 1) := by decide +kernel
theorem dX6_group_6 : decode cX6_group 6 = .ok (.iconst 0, 1) := by decide +kernel
theorem dX6_group_7 : decode cX6_group 7 = .ok (.aload_n 0, 1) := by decide +kernel
theorem dX6_group_8 : decode cX6_group 8 = .ok (.getfield 7, 3) := by decide +kernel
theorem dX6_group_11 : decode cX6_group 11 = .ok (.invokestatic 87, 3) := by decide +kernel
theorem dX6_group_14 : decode cX6_group 14 = .ok (.iconst 1, 1) := by decide +kernel
theorem dX6_group_15 : decode cX6_group 15 = .ok (.isub, 1) := by decide +kernel
theorem dX6_group_16 : decode cX6_group 16 = .ok (.invokestatic 72, 3) := by decide +kernel
theorem dX6_group_19 : decode cX6_group 19 = .ok (.ifCond .ne 5, 3) := by decide +kernel
theorem dX6_group_22 : decode cX6_group 22 = .ok (.iconst (-1), 1) := by decide +kernel
theorem dX6_group_23 : decode cX6_group 23 = .ok (.ireturn, 1) := by decide +kernel
theorem dX6_group_24 : decode cX6_group 24 = .ok (.aload_n 0, 1) := by decide +kernel
theorem dX6_group_25 : decode cX6_group 25 = .ok (.getfield 69, 3) := by decide +kernel
theorem dX6_group_28 : decode cX6_group 28 = .ok (.istore_n 2, 1) := by decide +kernel
theorem dX6_group_29 : decode cX6_group 29 = .ok (.aload_n 0, 1) := by decide +kernel
theorem dX6_group_30 : decode cX6_group 30 = .ok (.iload_n 1, 1) := by decide +kernel
theorem dX6_group_31 : decode cX6_group 31 = .ok (.putfield 69, 3) := by decide +kernel
theorem dX6_group_34 : decode cX6_group 34 = .ok (.iload_n 2, 1) := by decide +kernel
theorem dX6_group_35 : decode cX6_group 35 = .ok (.ireturn, 1) := by decide +kernel
theorem dX6_setOf_0 : decode cX6_setOf 0 = .ok (.aload_n 0, 1) := by decide +kernel
theorem dX6_setOf_1 : decode cX6_setOf 1 = .ok (.getfield 16, 3) := by decide +kernel
theorem dX6_setOf_4 : decode cX6_setOf 4 = .ok (.iconst 2, 1) := by decide +kernel
theorem dX6_setOf_5 : decode cX6_setOf 5 = .ok (.iload_n 1, 1) := by decide +kernel
theorem dX6_setOf_6 : decode cX6_setOf 6 = .ok (.imul, 1) := by decide +kernel
theorem dX6_setOf_7 : decode cX6_setOf 7 = .ok (.aload_n 0, 1) := by decide +kernel
theorem dX6_setOf_8 : decode cX6_setOf 8 = .ok (.getfield 20, 3) := by decide +kernel
theorem dX6_setOf_11 : decode cX6_setOf 11 = .ok (.iload_n 1, 1) := by decide +kernel
theorem dX6_setOf_12 : decode cX6_setOf 12 = .ok (.iaload, 1) := by decide +kernel
theorem dX6_setOf_13 : decode cX6_setOf 13 = .ok (.iadd, 1) := by decide +kernel
theorem dX6_setOf_14 : decode cX6_setOf 14 = .ok (.iaload, 1) := by decide +kernel
theorem dX6_setOf_15 : decode cX6_setOf 15 = .ok (.ireturn, 1) := by decide +kernel
theorem dX6_inCell_0 : decode cX6_inCell 0 = .ok (.iconst 0, 1) := by decide +kernel
theorem dX6_inCell_1 : decode cX6_inCell 1 = .ok (.istore 4, 2) := by decide +kernel
theorem dX6_inCell_3 : decode cX6_inCell 3 = .ok (.iconst 0, 1) := by decide +kernel
theorem dX6_inCell_4 : decode cX6_inCell 4 = .ok (.istore 5, 2) := by decide +kernel
theorem dX6_inCell_6 : decode cX6_inCell 6 = .ok (.iload 5, 2) := by decide +kernel
theorem dX6_inCell_8 : decode cX6_inCell 8 = .ok (.aload_n 0, 1) := by decide +kernel
theorem dX6_inCell_9 : decode cX6_inCell 9 = .ok (.getfield 7, 3) := by decide +kernel
theorem dX6_inCell_12 : decode cX6_inCell 12 = .ok (.if_icmp .ge 39, 3) := by decide +kernel
theorem dX6_inCell_15 : decode cX6_inCell 15 = .ok (.iload 4, 2) := by decide +kernel
theorem dX6_inCell_17 : decode cX6_inCell 17 = .ok (.iload_n 2, 1) := by decide +kernel
theorem dX6_inCell_18 : decode cX6_inCell 18 = .ok (.iload 5, 2) := by decide +kernel
theorem dX6_inCell_20 : decode cX6_inCell 20 = .ok (.ishr, 1) := by decide +kernel
theorem dX6_inCell_21 : decode cX6_inCell 21 = .ok (.iconst 1, 1) := by decide +kernel
theorem dX6_inCell_22 : decode cX6_inCell 22 = .ok (.iand, 1) := by decide +kernel
theorem dX6_inCell_23 : decode cX6_inCell 23 = .ok (.iconst 1, 1) := by decide +kernel
theorem dX6_inCell_24 : decode cX6_inCell 24 = .ok (.if_icmp .ne 17, 3) := by decide +kernel
theorem dX6_inCell_27 : decode cX6_inCell 27 = .ok (.iload_n 1, 1) := by decide +kernel
theorem dX6_inCell_28 : decode cX6_inCell 28 = .ok (.iload 5, 2) := by decide +kernel
theorem dX6_inCell_30 : decode cX6_inCell 30 = .ok (.invokestatic 83, 3) := by decide +kernel
theorem dX6_inCell_33 : decode cX6_inCell 33 = .ok (.iload_n 3, 1) := by decide +kernel
theorem dX6_inCell_34 : decode cX6_inCell 34 = .ok (.if_icmp .ne 7, 3) := by decide +kernel
theorem dX6_inCell_37 : decode cX6_inCell 37 = .ok (.iconst 1, 1) := by decide +kernel
theorem dX6_inCell_38 : decode cX6_inCell 38 = .ok (.goto 4, 3) := by decide +kernel
theorem dX6_inCell_41 : decode cX6_inCell 41 = .ok (.iconst 0, 1) := by decide +kernel
theorem dX6_inCell_42 : decode cX6_inCell 42 = .ok (.iadd, 1) := by decide +kernel
theorem dX6_inCell_43 : decode cX6_inCell 43 = .ok (.istore 4, 2) := by decide +kernel
theorem dX6_inCell_45 : decode cX6_inCell 45 = .ok (.iinc 5 1, 3) := by decide +kernel
theorem dX6_inCell_48 : decode cX6_inCell 48 = .ok (.goto (-42), 3) := by decide +kernel
theorem dX6_inCell_51 : decode cX6_inCell 51 = .ok (.iload 4, 2) := by decide +kernel
theorem dX6_inCell_53 : decode cX6_inCell 53 = .ok (.ireturn, 1) := by decide +kernel
theorem dX6_homeOf_0 : decode cX6_homeOf 0 = .ok (.iconst 0, 1) := by decide +kernel
theorem dX6_homeOf_1 : decode cX6_homeOf 1 = .ok (.istore_n 3, 1) := by decide +kernel
theorem dX6_homeOf_2 : decode cX6_homeOf 2 = .ok (.iconst 1, 1) := by decide +kernel
theorem dX6_homeOf_3 : decode cX6_homeOf 3 = .ok (.istore 4, 2) := by decide +kernel
theorem dX6_homeOf_5 : decode cX6_homeOf 5 = .ok (.iload 4, 2) := by decide +kernel
theorem dX6_homeOf_7 : decode cX6_homeOf 7 = .ok (.iconst 4, 1) := by decide +kernel
theorem dX6_homeOf_8 : decode cX6_homeOf 8 = .ok (.if_icmp .ge 34, 3) := by decide +kernel
theorem dX6_homeOf_11 : decode cX6_homeOf 11 = .ok (.aload_n 0, 1) := by decide +kernel
theorem dX6_homeOf_12 : decode cX6_homeOf 12 = .ok (.iload_n 1, 1) := by decide +kernel
theorem dX6_homeOf_13 : decode cX6_homeOf 13 = .ok (.iload_n 2, 1) := by decide +kernel
theorem dX6_homeOf_14 : decode cX6_homeOf 14 = .ok (.iload 4, 2) := by decide +kernel
theorem dX6_homeOf_16 : decode cX6_homeOf 16 = .ok (.invokevirtual 91, 3) := by decide +kernel
theorem dX6_homeOf_19 : decode cX6_homeOf 19 = .ok (.aload_n 0, 1) := by decide +kernel
theorem dX6_homeOf_20 : decode cX6_homeOf 20 = .ok (.iload_n 1, 1) := by decide +kernel
theorem dX6_homeOf_21 : decode cX6_homeOf 21 = .ok (.iload_n 2, 1) := by decide +kernel
theorem dX6_homeOf_22 : decode cX6_homeOf 22 = .ok (.iload_n 3, 1) := by decide +kernel
theorem dX6_homeOf_23 : decode cX6_homeOf 23 = .ok (.invokevirtual 91, 3) := by decide +kernel
theorem dX6_homeOf_26 : decode cX6_homeOf 26 = .ok (.if_icmp .le 8, 3) := by decide +kernel
theorem dX6_homeOf_29 : decode cX6_homeOf 29 = .ok (.iload 4, 2) := by decide +kernel
theorem dX6_homeOf_31 : decode cX6_homeOf 31 = .ok (.goto 4, 3) := by decide +kernel
theorem dX6_homeOf_34 : decode cX6_homeOf 34 = .ok (.iload_n 3, 1) := by decide +kernel
theorem dX6_homeOf_35 : decode cX6_homeOf 35 = .ok (.istore_n 3, 1) := by decide +kernel
theorem dX6_homeOf_36 : decode cX6_homeOf 36 = .ok (.iinc 4 1, 3) := by decide +kernel
theorem dX6_homeOf_39 : decode cX6_homeOf 39 = .ok (.goto (-34), 3) := by decide +kernel
theorem dX6_homeOf_42 : decode cX6_homeOf 42 = .ok (.iload_n 3, 1) := by decide +kernel
theorem dX6_homeOf_43 : decode cX6_homeOf 43 = .ok (.ireturn, 1) := by decide +kernel
theorem dX6_wandersOf_0 : decode cX6_wandersOf 0 = .ok (.aload_n 0, 1) := by decide +kernel
theorem dX6_wandersOf_1 : decode cX6_wandersOf 1 = .ok (.iload_n 1, 1) := by decide +kernel
theorem dX6_wandersOf_2 : decode cX6_wandersOf 2 = .ok (.iload_n 2, 1) := by decide +kernel
theorem dX6_wandersOf_3 : decode cX6_wandersOf 3 = .ok (.invokevirtual 95, 3) := by decide +kernel
theorem dX6_wandersOf_6 : decode cX6_wandersOf 6 = .ok (.istore_n 3, 1) := by decide +kernel
theorem dX6_wandersOf_7 : decode cX6_wandersOf 7 = .ok (.iconst 0, 1) := by decide +kernel
theorem dX6_wandersOf_8 : decode cX6_wandersOf 8 = .ok (.istore 4, 2) := by decide +kernel
theorem dX6_wandersOf_10 : decode cX6_wandersOf 10 = .ok (.iconst 0, 1) := by decide +kernel
theorem dX6_wandersOf_11 : decode cX6_wandersOf 11 = .ok (.istore 5, 2) := by decide +kernel
theorem dX6_wandersOf_13 : decode cX6_wandersOf 13 = .ok (.iload 5, 2) := by decide +kernel
theorem dX6_wandersOf_15 : decode cX6_wandersOf 15 = .ok (.iconst 4, 1) := by decide +kernel
theorem dX6_wandersOf_16 : decode cX6_wandersOf 16 = .ok (.if_icmp .ge 32, 3) := by decide +kernel
theorem dX6_wandersOf_19 : decode cX6_wandersOf 19 = .ok (.iload 4, 2) := by decide +kernel
theorem dX6_wandersOf_21 : decode cX6_wandersOf 21 = .ok (.iload 5, 2) := by decide +kernel
theorem dX6_wandersOf_23 : decode cX6_wandersOf 23 = .ok (.iload_n 3, 1) := by decide +kernel
theorem dX6_wandersOf_24 : decode cX6_wandersOf 24 = .ok (.if_icmp .ne 7, 3) := by decide +kernel
theorem dX6_wandersOf_27 : decode cX6_wandersOf 27 = .ok (.iconst 0, 1) := by decide +kernel
theorem dX6_wandersOf_28 : decode cX6_wandersOf 28 = .ok (.goto 11, 3) := by decide +kernel
theorem dX6_wandersOf_31 : decode cX6_wandersOf 31 = .ok (.aload_n 0, 1) := by decide +kernel
theorem dX6_wandersOf_32 : decode cX6_wandersOf 32 = .ok (.iload_n 1, 1) := by decide +kernel
theorem dX6_wandersOf_33 : decode cX6_wandersOf 33 = .ok (.iload_n 2, 1) := by decide +kernel
theorem dX6_wandersOf_34 : decode cX6_wandersOf 34 = .ok (.iload 5, 2) := by decide +kernel
theorem dX6_wandersOf_36 : decode cX6_wandersOf 36 = .ok (.invokevirtual 91, 3) := by decide +kernel
theorem dX6_wandersOf_39 : decode cX6_wandersOf 39 = .ok (.iadd, 1) := by decide +kernel
theorem dX6_wandersOf_40 : decode cX6_wandersOf 40 = .ok (.istore 4, 2) := by decide +kernel
theorem dX6_wandersOf_42 : decode cX6_wandersOf 42 = .ok (.iinc 5 1, 3) := by decide +kernel
theorem dX6_wandersOf_45 : decode cX6_wandersOf 45 = .ok (.goto (-32), 3) := by decide +kernel
theorem dX6_wandersOf_48 : decode cX6_wandersOf 48 = .ok (.iload 4, 2) := by decide +kernel
theorem dX6_wandersOf_50 : decode cX6_wandersOf 50 = .ok (.ireturn, 1) := by decide +kernel
theorem dX6_idleOf_0 : decode cX6_idleOf 0 = .ok (.aload_n 0, 1) := by decide +kernel
theorem dX6_idleOf_1 : decode cX6_idleOf 1 = .ok (.iload_n 1, 1) := by decide +kernel
theorem dX6_idleOf_2 : decode cX6_idleOf 2 = .ok (.iconst 1, 1) := by decide +kernel
theorem dX6_idleOf_3 : decode cX6_idleOf 3 = .ok (.aload_n 0, 1) := by decide +kernel
theorem dX6_idleOf_4 : decode cX6_idleOf 4 = .ok (.getfield 7, 3) := by decide +kernel
theorem dX6_idleOf_7 : decode cX6_idleOf 7 = .ok (.ishl, 1) := by decide +kernel
theorem dX6_idleOf_8 : decode cX6_idleOf 8 = .ok (.iconst 1, 1) := by decide +kernel
theorem dX6_idleOf_9 : decode cX6_idleOf 9 = .ok (.isub, 1) := by decide +kernel
theorem dX6_idleOf_10 : decode cX6_idleOf 10 = .ok (.iload_n 2, 1) := by decide +kernel
theorem dX6_idleOf_11 : decode cX6_idleOf 11 = .ok (.isub, 1) := by decide +kernel
theorem dX6_idleOf_12 : decode cX6_idleOf 12 = .ok (.aload_n 0, 1) := by decide +kernel
theorem dX6_idleOf_13 : decode cX6_idleOf 13 = .ok (.iload_n 1, 1) := by decide +kernel
theorem dX6_idleOf_14 : decode cX6_idleOf 14 = .ok (.iload_n 2, 1) := by decide +kernel
theorem dX6_idleOf_15 : decode cX6_idleOf 15 = .ok (.invokevirtual 95, 3) := by decide +kernel
theorem dX6_idleOf_18 : decode cX6_idleOf 18 = .ok (.invokevirtual 91, 3) := by decide +kernel
theorem dX6_idleOf_21 : decode cX6_idleOf 21 = .ok (.ireturn, 1) := by decide +kernel
theorem dX6_about_0 : decode cX6_about 0 = .ok (.aload_n 0, 1) := by decide +kernel
theorem dX6_about_1 : decode cX6_about 1 = .ok (.iconst 0, 1) := by decide +kernel
theorem dX6_about_2 : decode cX6_about 2 = .ok (.putfield 66, 3) := by decide +kernel
theorem dX6_about_5 : decode cX6_about 5 = .ok (.aload_n 0, 1) := by decide +kernel
theorem dX6_about_6 : decode cX6_about 6 = .ok (.iload_n 1, 1) := by decide +kernel
theorem dX6_about_7 : decode cX6_about 7 = .ok (.invokevirtual 76, 3) := by decide +kernel
theorem dX6_about_10 : decode cX6_about 10 = .ok (.ifCond .ne 5, 3) := by decide +kernel
theorem dX6_about_13 : decode cX6_about 13 = .ok (.iconst (-1), 1) := by decide +kernel
theorem dX6_about_14 : decode cX6_about 14 = .ok (.ireturn, 1) := by decide +kernel
theorem dX6_about_15 : decode cX6_about 15 = .ok (.iload_n 2, 1) := by decide +kernel
theorem dX6_about_16 : decode cX6_about 16 = .ok (.tableswitch 102 0 5 #[40, 54, 68, 82, 89, 96], 40) := by decide +kernel
theorem dX6_about_56 : decode cX6_about 56 = .ok (.aload_n 0, 1) := by decide +kernel
theorem dX6_about_57 : decode cX6_about 57 = .ok (.aload_n 0, 1) := by decide +kernel
theorem dX6_about_58 : decode cX6_about 58 = .ok (.getfield 69, 3) := by decide +kernel
theorem dX6_about_61 : decode cX6_about 61 = .ok (.aload_n 0, 1) := by decide +kernel
theorem dX6_about_62 : decode cX6_about 62 = .ok (.iload_n 1, 1) := by decide +kernel
theorem dX6_about_63 : decode cX6_about 63 = .ok (.invokevirtual 98, 3) := by decide +kernel
theorem dX6_about_66 : decode cX6_about 66 = .ok (.invokevirtual 95, 3) := by decide +kernel
theorem dX6_about_69 : decode cX6_about 69 = .ok (.ireturn, 1) := by decide +kernel
theorem dX6_about_70 : decode cX6_about 70 = .ok (.aload_n 0, 1) := by decide +kernel
theorem dX6_about_71 : decode cX6_about 71 = .ok (.aload_n 0, 1) := by decide +kernel
theorem dX6_about_72 : decode cX6_about 72 = .ok (.getfield 69, 3) := by decide +kernel
theorem dX6_about_75 : decode cX6_about 75 = .ok (.aload_n 0, 1) := by decide +kernel
theorem dX6_about_76 : decode cX6_about 76 = .ok (.iload_n 1, 1) := by decide +kernel
theorem dX6_about_77 : decode cX6_about 77 = .ok (.invokevirtual 98, 3) := by decide +kernel
theorem dX6_about_80 : decode cX6_about 80 = .ok (.invokevirtual 101, 3) := by decide +kernel
theorem dX6_about_83 : decode cX6_about 83 = .ok (.ireturn, 1) := by decide +kernel
theorem dX6_about_84 : decode cX6_about 84 = .ok (.aload_n 0, 1) := by decide +kernel
theorem dX6_about_85 : decode cX6_about 85 = .ok (.aload_n 0, 1) := by decide +kernel
theorem dX6_about_86 : decode cX6_about 86 = .ok (.getfield 69, 3) := by decide +kernel
theorem dX6_about_89 : decode cX6_about 89 = .ok (.aload_n 0, 1) := by decide +kernel
theorem dX6_about_90 : decode cX6_about 90 = .ok (.iload_n 1, 1) := by decide +kernel
theorem dX6_about_91 : decode cX6_about 91 = .ok (.invokevirtual 98, 3) := by decide +kernel
theorem dX6_about_94 : decode cX6_about 94 = .ok (.invokevirtual 104, 3) := by decide +kernel
theorem dX6_about_97 : decode cX6_about 97 = .ok (.ireturn, 1) := by decide +kernel
theorem dX6_about_98 : decode cX6_about 98 = .ok (.aload_n 0, 1) := by decide +kernel
theorem dX6_about_99 : decode cX6_about 99 = .ok (.getfield 23, 3) := by decide +kernel
theorem dX6_about_102 : decode cX6_about 102 = .ok (.iload_n 1, 1) := by decide +kernel
theorem dX6_about_103 : decode cX6_about 103 = .ok (.iaload, 1) := by decide +kernel
theorem dX6_about_104 : decode cX6_about 104 = .ok (.ireturn, 1) := by decide +kernel
theorem dX6_about_105 : decode cX6_about 105 = .ok (.aload_n 0, 1) := by decide +kernel
theorem dX6_about_106 : decode cX6_about 106 = .ok (.getfield 20, 3) := by decide +kernel
theorem dX6_about_109 : decode cX6_about 109 = .ok (.iload_n 1, 1) := by decide +kernel
theorem dX6_about_110 : decode cX6_about 110 = .ok (.iaload, 1) := by decide +kernel
theorem dX6_about_111 : decode cX6_about 111 = .ok (.ireturn, 1) := by decide +kernel
theorem dX6_about_112 : decode cX6_about 112 = .ok (.aload_n 0, 1) := by decide +kernel
theorem dX6_about_113 : decode cX6_about 113 = .ok (.iload_n 1, 1) := by decide +kernel
theorem dX6_about_114 : decode cX6_about 114 = .ok (.invokevirtual 98, 3) := by decide +kernel
theorem dX6_about_117 : decode cX6_about 117 = .ok (.ireturn, 1) := by decide +kernel
theorem dX6_about_118 : decode cX6_about 118 = .ok (.iconst (-1), 1) := by decide +kernel
theorem dX6_about_119 : decode cX6_about 119 = .ok (.ireturn, 1) := by decide +kernel
theorem dX6_lossOf_0 : decode cX6_lossOf 0 = .ok (.iconst 0, 1) := by decide +kernel
theorem dX6_lossOf_1 : decode cX6_lossOf 1 = .ok (.istore_n 3, 1) := by decide +kernel
theorem dX6_lossOf_2 : decode cX6_lossOf 2 = .ok (.iconst 0, 1) := by decide +kernel
theorem dX6_lossOf_3 : decode cX6_lossOf 3 = .ok (.istore 4, 2) := by decide +kernel
theorem dX6_lossOf_5 : decode cX6_lossOf 5 = .ok (.iload 4, 2) := by decide +kernel
theorem dX6_lossOf_7 : decode cX6_lossOf 7 = .ok (.aload_n 0, 1) := by decide +kernel
theorem dX6_lossOf_8 : decode cX6_lossOf 8 = .ok (.getfield 13, 3) := by decide +kernel
theorem dX6_lossOf_11 : decode cX6_lossOf 11 = .ok (.if_icmp .ge 53, 3) := by decide +kernel
theorem dX6_lossOf_14 : decode cX6_lossOf 14 = .ok (.iload_n 3, 1) := by decide +kernel
theorem dX6_lossOf_15 : decode cX6_lossOf 15 = .ok (.aload_n 0, 1) := by decide +kernel
theorem dX6_lossOf_16 : decode cX6_lossOf 16 = .ok (.iload_n 1, 1) := by decide +kernel
theorem dX6_lossOf_17 : decode cX6_lossOf 17 = .ok (.aload_n 0, 1) := by decide +kernel
theorem dX6_lossOf_18 : decode cX6_lossOf 18 = .ok (.iload 4, 2) := by decide +kernel
theorem dX6_lossOf_20 : decode cX6_lossOf 20 = .ok (.invokevirtual 98, 3) := by decide +kernel
theorem dX6_lossOf_23 : decode cX6_lossOf 23 = .ok (.invokevirtual 101, 3) := by decide +kernel
theorem dX6_lossOf_26 : decode cX6_lossOf 26 = .ok (.aload_n 0, 1) := by decide +kernel
theorem dX6_lossOf_27 : decode cX6_lossOf 27 = .ok (.getfield 23, 3) := by decide +kernel
theorem dX6_lossOf_30 : decode cX6_lossOf 30 = .ok (.iload 4, 2) := by decide +kernel
theorem dX6_lossOf_32 : decode cX6_lossOf 32 = .ok (.iaload, 1) := by decide +kernel
theorem dX6_lossOf_33 : decode cX6_lossOf 33 = .ok (.imul, 1) := by decide +kernel
theorem dX6_lossOf_34 : decode cX6_lossOf 34 = .ok (.iadd, 1) := by decide +kernel
theorem dX6_lossOf_35 : decode cX6_lossOf 35 = .ok (.istore_n 3, 1) := by decide +kernel
theorem dX6_lossOf_36 : decode cX6_lossOf 36 = .ok (.iload_n 3, 1) := by decide +kernel
theorem dX6_lossOf_37 : decode cX6_lossOf 37 = .ok (.iload_n 2, 1) := by decide +kernel
theorem dX6_lossOf_38 : decode cX6_lossOf 38 = .ok (.ifCond .le 17, 3) := by decide +kernel
theorem dX6_lossOf_41 : decode cX6_lossOf 41 = .ok (.aload_n 0, 1) := by decide +kernel
theorem dX6_lossOf_42 : decode cX6_lossOf 42 = .ok (.iload_n 1, 1) := by decide +kernel
theorem dX6_lossOf_43 : decode cX6_lossOf 43 = .ok (.aload_n 0, 1) := by decide +kernel
theorem dX6_lossOf_44 : decode cX6_lossOf 44 = .ok (.iload 4, 2) := by decide +kernel
theorem dX6_lossOf_46 : decode cX6_lossOf 46 = .ok (.invokevirtual 98, 3) := by decide +kernel
theorem dX6_lossOf_49 : decode cX6_lossOf 49 = .ok (.invokevirtual 104, 3) := by decide +kernel
theorem dX6_lossOf_52 : decode cX6_lossOf 52 = .ok (.goto 4, 3) := by decide +kernel
theorem dX6_lossOf_55 : decode cX6_lossOf 55 = .ok (.iconst 0, 1) := by decide +kernel
theorem dX6_lossOf_56 : decode cX6_lossOf 56 = .ok (.iadd, 1) := by decide +kernel
theorem dX6_lossOf_57 : decode cX6_lossOf 57 = .ok (.istore_n 3, 1) := by decide +kernel
theorem dX6_lossOf_58 : decode cX6_lossOf 58 = .ok (.iinc 4 1, 3) := by decide +kernel
theorem dX6_lossOf_61 : decode cX6_lossOf 61 = .ok (.goto (-56), 3) := by decide +kernel
theorem dX6_lossOf_64 : decode cX6_lossOf 64 = .ok (.iconst 0, 1) := by decide +kernel
theorem dX6_lossOf_65 : decode cX6_lossOf 65 = .ok (.istore 4, 2) := by decide +kernel
theorem dX6_lossOf_67 : decode cX6_lossOf 67 = .ok (.iload 4, 2) := by decide +kernel
theorem dX6_lossOf_69 : decode cX6_lossOf 69 = .ok (.iconst 4, 1) := by decide +kernel
theorem dX6_lossOf_70 : decode cX6_lossOf 70 = .ok (.if_icmp .ge 39, 3) := by decide +kernel
theorem dX6_lossOf_73 : decode cX6_lossOf 73 = .ok (.iload_n 2, 1) := by decide +kernel
theorem dX6_lossOf_74 : decode cX6_lossOf 74 = .ok (.iconst 2, 1) := by decide +kernel
theorem dX6_lossOf_75 : decode cX6_lossOf 75 = .ok (.if_icmp .ne 34, 3) := by decide +kernel
theorem dX6_lossOf_78 : decode cX6_lossOf 78 = .ok (.aload_n 0, 1) := by decide +kernel
theorem dX6_lossOf_79 : decode cX6_lossOf 79 = .ok (.iload_n 1, 1) := by decide +kernel
theorem dX6_lossOf_80 : decode cX6_lossOf 80 = .ok (.iconst 1, 1) := by decide +kernel
theorem dX6_lossOf_81 : decode cX6_lossOf 81 = .ok (.aload_n 0, 1) := by decide +kernel
theorem dX6_lossOf_82 : decode cX6_lossOf 82 = .ok (.getfield 7, 3) := by decide +kernel
theorem dX6_lossOf_85 : decode cX6_lossOf 85 = .ok (.ishl, 1) := by decide +kernel
theorem dX6_lossOf_86 : decode cX6_lossOf 86 = .ok (.iconst 1, 1) := by decide +kernel
theorem dX6_lossOf_87 : decode cX6_lossOf 87 = .ok (.isub, 1) := by decide +kernel
theorem dX6_lossOf_88 : decode cX6_lossOf 88 = .ok (.iload 4, 2) := by decide +kernel
theorem dX6_lossOf_90 : decode cX6_lossOf 90 = .ok (.invokevirtual 91, 3) := by decide +kernel
theorem dX6_lossOf_93 : decode cX6_lossOf 93 = .ok (.istore 5, 2) := by decide +kernel
theorem dX6_lossOf_95 : decode cX6_lossOf 95 = .ok (.iload_n 3, 1) := by decide +kernel
theorem dX6_lossOf_96 : decode cX6_lossOf 96 = .ok (.iload 5, 2) := by decide +kernel
theorem dX6_lossOf_98 : decode cX6_lossOf 98 = .ok (.iload 5, 2) := by decide +kernel
theorem dX6_lossOf_100 : decode cX6_lossOf 100 = .ok (.imul, 1) := by decide +kernel
theorem dX6_lossOf_101 : decode cX6_lossOf 101 = .ok (.iadd, 1) := by decide +kernel
theorem dX6_lossOf_102 : decode cX6_lossOf 102 = .ok (.istore_n 3, 1) := by decide +kernel
theorem dX6_lossOf_103 : decode cX6_lossOf 103 = .ok (.iinc 4 1, 3) := by decide +kernel
theorem dX6_lossOf_106 : decode cX6_lossOf 106 = .ok (.goto (-39), 3) := by decide +kernel
theorem dX6_lossOf_109 : decode cX6_lossOf 109 = .ok (.iload_n 3, 1) := by decide +kernel
theorem dX6_lossOf_110 : decode cX6_lossOf 110 = .ok (.ireturn, 1) := by decide +kernel
theorem dX6_loss_0 : decode cX6_loss 0 = .ok (.aload_n 0, 1) := by decide +kernel
theorem dX6_loss_1 : decode cX6_loss 1 = .ok (.iconst 0, 1) := by decide +kernel
theorem dX6_loss_2 : decode cX6_loss 2 = .ok (.putfield 66, 3) := by decide +kernel
theorem dX6_loss_5 : decode cX6_loss 5 = .ok (.iload_n 1, 1) := by decide +kernel
theorem dX6_loss_6 : decode cX6_loss 6 = .ok (.iconst 0, 1) := by decide +kernel
theorem dX6_loss_7 : decode cX6_loss 7 = .ok (.iconst 2, 1) := by decide +kernel
theorem dX6_loss_8 : decode cX6_loss 8 = .ok (.invokestatic 72, 3) := by decide +kernel
theorem dX6_loss_11 : decode cX6_loss 11 = .ok (.ifCond .ne 5, 3) := by decide +kernel
theorem dX6_loss_14 : decode cX6_loss 14 = .ok (.iconst (-1), 1) := by decide +kernel
theorem dX6_loss_15 : decode cX6_loss 15 = .ok (.ireturn, 1) := by decide +kernel
theorem dX6_loss_16 : decode cX6_loss 16 = .ok (.aload_n 0, 1) := by decide +kernel
theorem dX6_loss_17 : decode cX6_loss 17 = .ok (.dup, 1) := by decide +kernel
theorem dX6_loss_18 : decode cX6_loss 18 = .ok (.getfield 107, 3) := by decide +kernel
theorem dX6_loss_21 : decode cX6_loss 21 = .ok (.iload_n 1, 1) := by decide +kernel
theorem dX6_loss_22 : decode cX6_loss 22 = .ok (.ifCond .ne 7, 3) := by decide +kernel
theorem dX6_loss_25 : decode cX6_loss 25 = .ok (.lconst 1, 1) := by decide +kernel
theorem dX6_loss_26 : decode cX6_loss 26 = .ok (.goto 17, 3) := by decide +kernel
theorem dX6_loss_29 : decode cX6_loss 29 = .ok (.iload_n 1, 1) := by decide +kernel
theorem dX6_loss_30 : decode cX6_loss 30 = .ok (.iconst 1, 1) := by decide +kernel
theorem dX6_loss_31 : decode cX6_loss 31 = .ok (.if_icmp .ne 9, 3) := by decide +kernel
theorem dX6_loss_34 : decode cX6_loss 34 = .ok (.ldc2_w 111, 3) := by decide +kernel
theorem dX6_loss_37 : decode cX6_loss 37 = .ok (.goto 6, 3) := by decide +kernel
theorem dX6_loss_40 : decode cX6_loss 40 = .ok (.ldc2_w 113, 3) := by decide +kernel
theorem dX6_loss_43 : decode cX6_loss 43 = .ok (.ladd, 1) := by decide +kernel
theorem dX6_loss_44 : decode cX6_loss 44 = .ok (.putfield 107, 3) := by decide +kernel
theorem dX6_loss_47 : decode cX6_loss 47 = .ok (.aload_n 0, 1) := by decide +kernel
theorem dX6_loss_48 : decode cX6_loss 48 = .ok (.aload_n 0, 1) := by decide +kernel
theorem dX6_loss_49 : decode cX6_loss 49 = .ok (.getfield 69, 3) := by decide +kernel
theorem dX6_loss_52 : decode cX6_loss 52 = .ok (.iload_n 1, 1) := by decide +kernel
theorem dX6_loss_53 : decode cX6_loss 53 = .ok (.invokevirtual 115, 3) := by decide +kernel
theorem dX6_loss_56 : decode cX6_loss 56 = .ok (.ireturn, 1) := by decide +kernel
theorem dX6_isPlain_0 : decode cX6_isPlain 0 = .ok (.iconst 0, 1) := by decide +kernel
theorem dX6_isPlain_1 : decode cX6_isPlain 1 = .ok (.istore_n 2, 1) := by decide +kernel
theorem dX6_isPlain_2 : decode cX6_isPlain 2 = .ok (.iconst 1, 1) := by decide +kernel
theorem dX6_isPlain_3 : decode cX6_isPlain 3 = .ok (.istore_n 3, 1) := by decide +kernel
theorem dX6_isPlain_4 : decode cX6_isPlain 4 = .ok (.iconst 0, 1) := by decide +kernel
theorem dX6_isPlain_5 : decode cX6_isPlain 5 = .ok (.istore 4, 2) := by decide +kernel
theorem dX6_isPlain_7 : decode cX6_isPlain 7 = .ok (.iload 4, 2) := by decide +kernel
theorem dX6_isPlain_9 : decode cX6_isPlain 9 = .ok (.aload_n 0, 1) := by decide +kernel
theorem dX6_isPlain_10 : decode cX6_isPlain 10 = .ok (.getfield 7, 3) := by decide +kernel
theorem dX6_isPlain_13 : decode cX6_isPlain 13 = .ok (.if_icmp .ge 45, 3) := by decide +kernel
theorem dX6_isPlain_16 : decode cX6_isPlain 16 = .ok (.iload_n 1, 1) := by decide +kernel
theorem dX6_isPlain_17 : decode cX6_isPlain 17 = .ok (.iload 4, 2) := by decide +kernel
theorem dX6_isPlain_19 : decode cX6_isPlain 19 = .ok (.invokestatic 83, 3) := by decide +kernel
theorem dX6_isPlain_22 : decode cX6_isPlain 22 = .ok (.istore 5, 2) := by decide +kernel
theorem dX6_isPlain_24 : decode cX6_isPlain 24 = .ok (.iload_n 3, 1) := by decide +kernel
theorem dX6_isPlain_25 : decode cX6_isPlain 25 = .ok (.iload 5, 2) := by decide +kernel
theorem dX6_isPlain_27 : decode cX6_isPlain 27 = .ok (.iload_n 2, 1) := by decide +kernel
theorem dX6_isPlain_28 : decode cX6_isPlain 28 = .ok (.if_icmp .gt 7, 3) := by decide +kernel
theorem dX6_isPlain_31 : decode cX6_isPlain 31 = .ok (.iconst 1, 1) := by decide +kernel
theorem dX6_isPlain_32 : decode cX6_isPlain 32 = .ok (.goto 4, 3) := by decide +kernel
theorem dX6_isPlain_35 : decode cX6_isPlain 35 = .ok (.iconst 0, 1) := by decide +kernel
theorem dX6_isPlain_36 : decode cX6_isPlain 36 = .ok (.iand, 1) := by decide +kernel
theorem dX6_isPlain_37 : decode cX6_isPlain 37 = .ok (.istore_n 3, 1) := by decide +kernel
theorem dX6_isPlain_38 : decode cX6_isPlain 38 = .ok (.iload_n 2, 1) := by decide +kernel
theorem dX6_isPlain_39 : decode cX6_isPlain 39 = .ok (.iload 5, 2) := by decide +kernel
theorem dX6_isPlain_41 : decode cX6_isPlain 41 = .ok (.iload_n 2, 1) := by decide +kernel
theorem dX6_isPlain_42 : decode cX6_isPlain 42 = .ok (.if_icmp .ne 7, 3) := by decide +kernel
theorem dX6_isPlain_45 : decode cX6_isPlain 45 = .ok (.iconst 1, 1) := by decide +kernel
theorem dX6_isPlain_46 : decode cX6_isPlain 46 = .ok (.goto 4, 3) := by decide +kernel
theorem dX6_isPlain_49 : decode cX6_isPlain 49 = .ok (.iconst 0, 1) := by decide +kernel
theorem dX6_isPlain_50 : decode cX6_isPlain 50 = .ok (.iadd, 1) := by decide +kernel
theorem dX6_isPlain_51 : decode cX6_isPlain 51 = .ok (.istore_n 2, 1) := by decide +kernel
theorem dX6_isPlain_52 : decode cX6_isPlain 52 = .ok (.iinc 4 1, 3) := by decide +kernel
theorem dX6_isPlain_55 : decode cX6_isPlain 55 = .ok (.goto (-48), 3) := by decide +kernel
theorem dX6_isPlain_58 : decode cX6_isPlain 58 = .ok (.iload_n 3, 1) := by decide +kernel
theorem dX6_isPlain_59 : decode cX6_isPlain 59 = .ok (.ireturn, 1) := by decide +kernel
theorem dX6_isWithin_0 : decode cX6_isWithin 0 = .ok (.iconst 1, 1) := by decide +kernel
theorem dX6_isWithin_1 : decode cX6_isWithin 1 = .ok (.istore_n 3, 1) := by decide +kernel
theorem dX6_isWithin_2 : decode cX6_isWithin 2 = .ok (.iconst 0, 1) := by decide +kernel
theorem dX6_isWithin_3 : decode cX6_isWithin 3 = .ok (.istore 4, 2) := by decide +kernel
theorem dX6_isWithin_5 : decode cX6_isWithin 5 = .ok (.iload 4, 2) := by decide +kernel
theorem dX6_isWithin_7 : decode cX6_isWithin 7 = .ok (.iconst 4, 1) := by decide +kernel
theorem dX6_isWithin_8 : decode cX6_isWithin 8 = .ok (.if_icmp .ge 36, 3) := by decide +kernel
theorem dX6_isWithin_11 : decode cX6_isWithin 11 = .ok (.iload_n 3, 1) := by decide +kernel
theorem dX6_isWithin_12 : decode cX6_isWithin 12 = .ok (.aload_n 0, 1) := by decide +kernel
theorem dX6_isWithin_13 : decode cX6_isWithin 13 = .ok (.iload_n 1, 1) := by decide +kernel
theorem dX6_isWithin_14 : decode cX6_isWithin 14 = .ok (.iconst 1, 1) := by decide +kernel
theorem dX6_isWithin_15 : decode cX6_isWithin 15 = .ok (.aload_n 0, 1) := by decide +kernel
theorem dX6_isWithin_16 : decode cX6_isWithin 16 = .ok (.getfield 7, 3) := by decide +kernel
theorem dX6_isWithin_19 : decode cX6_isWithin 19 = .ok (.ishl, 1) := by decide +kernel
theorem dX6_isWithin_20 : decode cX6_isWithin 20 = .ok (.iconst 1, 1) := by decide +kernel
theorem dX6_isWithin_21 : decode cX6_isWithin 21 = .ok (.isub, 1) := by decide +kernel
theorem dX6_isWithin_22 : decode cX6_isWithin 22 = .ok (.iload 4, 2) := by decide +kernel
theorem dX6_isWithin_24 : decode cX6_isWithin 24 = .ok (.invokevirtual 91, 3) := by decide +kernel
theorem dX6_isWithin_27 : decode cX6_isWithin 27 = .ok (.iload_n 2, 1) := by decide +kernel
theorem dX6_isWithin_28 : decode cX6_isWithin 28 = .ok (.if_icmp .gt 7, 3) := by decide +kernel
theorem dX6_isWithin_31 : decode cX6_isWithin 31 = .ok (.iconst 1, 1) := by decide +kernel
theorem dX6_isWithin_32 : decode cX6_isWithin 32 = .ok (.goto 4, 3) := by decide +kernel
theorem dX6_isWithin_35 : decode cX6_isWithin 35 = .ok (.iconst 0, 1) := by decide +kernel
theorem dX6_isWithin_36 : decode cX6_isWithin 36 = .ok (.iand, 1) := by decide +kernel
theorem dX6_isWithin_37 : decode cX6_isWithin 37 = .ok (.istore_n 3, 1) := by decide +kernel
theorem dX6_isWithin_38 : decode cX6_isWithin 38 = .ok (.iinc 4 1, 3) := by decide +kernel
theorem dX6_isWithin_41 : decode cX6_isWithin 41 = .ok (.goto (-36), 3) := by decide +kernel
theorem dX6_isWithin_44 : decode cX6_isWithin 44 = .ok (.iload_n 3, 1) := by decide +kernel
theorem dX6_isWithin_45 : decode cX6_isWithin 45 = .ok (.ireturn, 1) := by decide +kernel
theorem dX6_best_0 : decode cX6_best 0 = .ok (.aload_n 0, 1) := by decide +kernel
theorem dX6_best_1 : decode cX6_best 1 = .ok (.iconst 0, 1) := by decide +kernel
theorem dX6_best_2 : decode cX6_best 2 = .ok (.putfield 66, 3) := by decide +kernel
theorem dX6_best_5 : decode cX6_best 5 = .ok (.iload_n 1, 1) := by decide +kernel
theorem dX6_best_6 : decode cX6_best 6 = .ok (.iconst 0, 1) := by decide +kernel
theorem dX6_best_7 : decode cX6_best 7 = .ok (.iconst 2, 1) := by decide +kernel
theorem dX6_best_8 : decode cX6_best 8 = .ok (.invokestatic 72, 3) := by decide +kernel
theorem dX6_best_11 : decode cX6_best 11 = .ok (.ifCond .eq 22, 3) := by decide +kernel
theorem dX6_best_14 : decode cX6_best 14 = .ok (.iload_n 2, 1) := by decide +kernel
theorem dX6_best_15 : decode cX6_best 15 = .ok (.iconst 1, 1) := by decide +kernel
theorem dX6_best_16 : decode cX6_best 16 = .ok (.bipush 7, 2) := by decide +kernel
theorem dX6_best_18 : decode cX6_best 18 = .ok (.invokestatic 72, 3) := by decide +kernel
theorem dX6_best_21 : decode cX6_best 21 = .ok (.ifCond .eq 12, 3) := by decide +kernel
theorem dX6_best_24 : decode cX6_best 24 = .ok (.iload_n 3, 1) := by decide +kernel
theorem dX6_best_25 : decode cX6_best 25 = .ok (.iconst 0, 1) := by decide +kernel
theorem dX6_best_26 : decode cX6_best 26 = .ok (.iconst 1, 1) := by decide +kernel
theorem dX6_best_27 : decode cX6_best 27 = .ok (.invokestatic 72, 3) := by decide +kernel
theorem dX6_best_30 : decode cX6_best 30 = .ok (.ifCond .ne 5, 3) := by decide +kernel
theorem dX6_best_33 : decode cX6_best 33 = .ok (.iconst (-1), 1) := by decide +kernel
theorem dX6_best_34 : decode cX6_best 34 = .ok (.ireturn, 1) := by decide +kernel
theorem dX6_best_35 : decode cX6_best 35 = .ok (.bipush (-9), 2) := by decide +kernel
theorem dX6_best_37 : decode cX6_best 37 = .ok (.istore 4, 2) := by decide +kernel
theorem dX6_best_39 : decode cX6_best 39 = .ok (.iconst 0, 1) := by decide +kernel
theorem dX6_best_40 : decode cX6_best 40 = .ok (.istore 5, 2) := by decide +kernel
theorem dX6_best_42 : decode cX6_best 42 = .ok (.iconst 0, 1) := by decide +kernel
theorem dX6_best_43 : decode cX6_best 43 = .ok (.istore 6, 2) := by decide +kernel
theorem dX6_best_45 : decode cX6_best 45 = .ok (.iload 6, 2) := by decide +kernel
theorem dX6_best_47 : decode cX6_best 47 = .ok (.aload_n 0, 1) := by decide +kernel
theorem dX6_best_48 : decode cX6_best 48 = .ok (.getfield 7, 3) := by decide +kernel
theorem dX6_best_51 : decode cX6_best 51 = .ok (.invokestatic 87, 3) := by decide +kernel
theorem dX6_best_54 : decode cX6_best 54 = .ok (.if_icmp .ge 59, 3) := by decide +kernel
theorem dX6_best_57 : decode cX6_best 57 = .ok (.aload_n 0, 1) := by decide +kernel
theorem dX6_best_58 : decode cX6_best 58 = .ok (.iload 6, 2) := by decide +kernel
theorem dX6_best_60 : decode cX6_best 60 = .ok (.invokevirtual 118, 3) := by decide +kernel
theorem dX6_best_63 : decode cX6_best 63 = .ok (.ifCond .eq 44, 3) := by decide +kernel
theorem dX6_best_66 : decode cX6_best 66 = .ok (.aload_n 0, 1) := by decide +kernel
theorem dX6_best_67 : decode cX6_best 67 = .ok (.iload 6, 2) := by decide +kernel
theorem dX6_best_69 : decode cX6_best 69 = .ok (.iload_n 2, 1) := by decide +kernel
theorem dX6_best_70 : decode cX6_best 70 = .ok (.invokevirtual 121, 3) := by decide +kernel
theorem dX6_best_73 : decode cX6_best 73 = .ok (.ifCond .eq 34, 3) := by decide +kernel
theorem dX6_best_76 : decode cX6_best 76 = .ok (.aload_n 0, 1) := by decide +kernel
theorem dX6_best_77 : decode cX6_best 77 = .ok (.iload 6, 2) := by decide +kernel
theorem dX6_best_79 : decode cX6_best 79 = .ok (.iload_n 1, 1) := by decide +kernel
theorem dX6_best_80 : decode cX6_best 80 = .ok (.invokevirtual 115, 3) := by decide +kernel
theorem dX6_best_83 : decode cX6_best 83 = .ok (.istore 7, 2) := by decide +kernel
theorem dX6_best_85 : decode cX6_best 85 = .ok (.iload 4, 2) := by decide +kernel
theorem dX6_best_87 : decode cX6_best 87 = .ok (.bipush (-9), 2) := by decide +kernel
theorem dX6_best_89 : decode cX6_best 89 = .ok (.if_icmp .eq 10, 3) := by decide +kernel
theorem dX6_best_92 : decode cX6_best 92 = .ok (.iload 7, 2) := by decide +kernel
theorem dX6_best_94 : decode cX6_best 94 = .ok (.iload 5, 2) := by decide +kernel
theorem dX6_best_96 : decode cX6_best 96 = .ok (.if_icmp .ge 11, 3) := by decide +kernel
theorem dX6_best_99 : decode cX6_best 99 = .ok (.iload 6, 2) := by decide +kernel
theorem dX6_best_101 : decode cX6_best 101 = .ok (.istore 4, 2) := by decide +kernel
theorem dX6_best_103 : decode cX6_best 103 = .ok (.iload 7, 2) := by decide +kernel
theorem dX6_best_105 : decode cX6_best 105 = .ok (.istore 5, 2) := by decide +kernel
theorem dX6_best_107 : decode cX6_best 107 = .ok (.iinc 6 1, 3) := by decide +kernel
theorem dX6_best_110 : decode cX6_best 110 = .ok (.goto (-65), 3) := by decide +kernel
theorem dX6_best_113 : decode cX6_best 113 = .ok (.iload 4, 2) := by decide +kernel
theorem dX6_best_115 : decode cX6_best 115 = .ok (.bipush (-9), 2) := by decide +kernel
theorem dX6_best_117 : decode cX6_best 117 = .ok (.if_icmp .ne 8, 3) := by decide +kernel
theorem dX6_best_120 : decode cX6_best 120 = .ok (.bipush (-2), 2) := by decide +kernel
theorem dX6_best_122 : decode cX6_best 122 = .ok (.goto 14, 3) := by decide +kernel
theorem dX6_best_125 : decode cX6_best 125 = .ok (.iload_n 3, 1) := by decide +kernel
theorem dX6_best_126 : decode cX6_best 126 = .ok (.ifCond .ne 8, 3) := by decide +kernel
theorem dX6_best_129 : decode cX6_best 129 = .ok (.iload 4, 2) := by decide +kernel
theorem dX6_best_131 : decode cX6_best 131 = .ok (.goto 5, 3) := by decide +kernel
theorem dX6_best_134 : decode cX6_best 134 = .ok (.iload 5, 2) := by decide +kernel
theorem dX6_best_136 : decode cX6_best 136 = .ok (.ireturn, 1) := by decide +kernel
theorem dX6_plain_0 : decode cX6_plain 0 = .ok (.aload_n 0, 1) := by decide +kernel
theorem dX6_plain_1 : decode cX6_plain 1 = .ok (.iconst 0, 1) := by decide +kernel
theorem dX6_plain_2 : decode cX6_plain 2 = .ok (.putfield 66, 3) := by decide +kernel
theorem dX6_plain_5 : decode cX6_plain 5 = .ok (.aload_n 0, 1) := by decide +kernel
theorem dX6_plain_6 : decode cX6_plain 6 = .ok (.aload_n 0, 1) := by decide +kernel
theorem dX6_plain_7 : decode cX6_plain 7 = .ok (.getfield 69, 3) := by decide +kernel
theorem dX6_plain_10 : decode cX6_plain 10 = .ok (.invokevirtual 118, 3) := by decide +kernel
theorem dX6_plain_13 : decode cX6_plain 13 = .ok (.ifCond .eq 7, 3) := by decide +kernel
theorem dX6_plain_16 : decode cX6_plain 16 = .ok (.iconst 1, 1) := by decide +kernel
theorem dX6_plain_17 : decode cX6_plain 17 = .ok (.goto 4, 3) := by decide +kernel
theorem dX6_plain_20 : decode cX6_plain 20 = .ok (.iconst 0, 1) := by decide +kernel
theorem dX6_plain_21 : decode cX6_plain 21 = .ok (.ireturn, 1) := by decide +kernel
theorem dX6_bothOf_0 : decode cX6_bothOf 0 = .ok (.iconst 0, 1) := by decide +kernel
theorem dX6_bothOf_1 : decode cX6_bothOf 1 = .ok (.istore_n 3, 1) := by decide +kernel
theorem dX6_bothOf_2 : decode cX6_bothOf 2 = .ok (.iconst 0, 1) := by decide +kernel
theorem dX6_bothOf_3 : decode cX6_bothOf 3 = .ok (.istore 4, 2) := by decide +kernel
theorem dX6_bothOf_5 : decode cX6_bothOf 5 = .ok (.iload 4, 2) := by decide +kernel
theorem dX6_bothOf_7 : decode cX6_bothOf 7 = .ok (.aload_n 0, 1) := by decide +kernel
theorem dX6_bothOf_8 : decode cX6_bothOf 8 = .ok (.getfield 13, 3) := by decide +kernel
theorem dX6_bothOf_11 : decode cX6_bothOf 11 = .ok (.if_icmp .ge 31, 3) := by decide +kernel
theorem dX6_bothOf_14 : decode cX6_bothOf 14 = .ok (.iload_n 3, 1) := by decide +kernel
theorem dX6_bothOf_15 : decode cX6_bothOf 15 = .ok (.aload_n 0, 1) := by decide +kernel
theorem dX6_bothOf_16 : decode cX6_bothOf 16 = .ok (.iload 4, 2) := by decide +kernel
theorem dX6_bothOf_18 : decode cX6_bothOf 18 = .ok (.invokevirtual 98, 3) := by decide +kernel
theorem dX6_bothOf_21 : decode cX6_bothOf 21 = .ok (.iload_n 1, 1) := by decide +kernel
theorem dX6_bothOf_22 : decode cX6_bothOf 22 = .ok (.ishr, 1) := by decide +kernel
theorem dX6_bothOf_23 : decode cX6_bothOf 23 = .ok (.aload_n 0, 1) := by decide +kernel
theorem dX6_bothOf_24 : decode cX6_bothOf 24 = .ok (.iload 4, 2) := by decide +kernel
theorem dX6_bothOf_26 : decode cX6_bothOf 26 = .ok (.invokevirtual 98, 3) := by decide +kernel
theorem dX6_bothOf_29 : decode cX6_bothOf 29 = .ok (.iload_n 2, 1) := by decide +kernel
theorem dX6_bothOf_30 : decode cX6_bothOf 30 = .ok (.ishr, 1) := by decide +kernel
theorem dX6_bothOf_31 : decode cX6_bothOf 31 = .ok (.iand, 1) := by decide +kernel
theorem dX6_bothOf_32 : decode cX6_bothOf 32 = .ok (.iconst 1, 1) := by decide +kernel
theorem dX6_bothOf_33 : decode cX6_bothOf 33 = .ok (.iand, 1) := by decide +kernel
theorem dX6_bothOf_34 : decode cX6_bothOf 34 = .ok (.iadd, 1) := by decide +kernel
theorem dX6_bothOf_35 : decode cX6_bothOf 35 = .ok (.istore_n 3, 1) := by decide +kernel
theorem dX6_bothOf_36 : decode cX6_bothOf 36 = .ok (.iinc 4 1, 3) := by decide +kernel
theorem dX6_bothOf_39 : decode cX6_bothOf 39 = .ok (.goto (-34), 3) := by decide +kernel
theorem dX6_bothOf_42 : decode cX6_bothOf 42 = .ok (.iload_n 3, 1) := by decide +kernel
theorem dX6_bothOf_43 : decode cX6_bothOf 43 = .ok (.ireturn, 1) := by decide +kernel
theorem dX6_eitherOf_0 : decode cX6_eitherOf 0 = .ok (.iconst 0, 1) := by decide +kernel
theorem dX6_eitherOf_1 : decode cX6_eitherOf 1 = .ok (.istore_n 3, 1) := by decide +kernel
theorem dX6_eitherOf_2 : decode cX6_eitherOf 2 = .ok (.iconst 0, 1) := by decide +kernel
theorem dX6_eitherOf_3 : decode cX6_eitherOf 3 = .ok (.istore 4, 2) := by decide +kernel
theorem dX6_eitherOf_5 : decode cX6_eitherOf 5 = .ok (.iload 4, 2) := by decide +kernel
theorem dX6_eitherOf_7 : decode cX6_eitherOf 7 = .ok (.aload_n 0, 1) := by decide +kernel
theorem dX6_eitherOf_8 : decode cX6_eitherOf 8 = .ok (.getfield 13, 3) := by decide +kernel
theorem dX6_eitherOf_11 : decode cX6_eitherOf 11 = .ok (.if_icmp .ge 31, 3) := by decide +kernel
theorem dX6_eitherOf_14 : decode cX6_eitherOf 14 = .ok (.iload_n 3, 1) := by decide +kernel
theorem dX6_eitherOf_15 : decode cX6_eitherOf 15 = .ok (.aload_n 0, 1) := by decide +kernel
theorem dX6_eitherOf_16 : decode cX6_eitherOf 16 = .ok (.iload 4, 2) := by decide +kernel
theorem dX6_eitherOf_18 : decode cX6_eitherOf 18 = .ok (.invokevirtual 98, 3) := by decide +kernel
theorem dX6_eitherOf_21 : decode cX6_eitherOf 21 = .ok (.iload_n 1, 1) := by decide +kernel
theorem dX6_eitherOf_22 : decode cX6_eitherOf 22 = .ok (.ishr, 1) := by decide +kernel
theorem dX6_eitherOf_23 : decode cX6_eitherOf 23 = .ok (.aload_n 0, 1) := by decide +kernel
theorem dX6_eitherOf_24 : decode cX6_eitherOf 24 = .ok (.iload 4, 2) := by decide +kernel
theorem dX6_eitherOf_26 : decode cX6_eitherOf 26 = .ok (.invokevirtual 98, 3) := by decide +kernel
theorem dX6_eitherOf_29 : decode cX6_eitherOf 29 = .ok (.iload_n 2, 1) := by decide +kernel
theorem dX6_eitherOf_30 : decode cX6_eitherOf 30 = .ok (.ishr, 1) := by decide +kernel
theorem dX6_eitherOf_31 : decode cX6_eitherOf 31 = .ok (.ior, 1) := by decide +kernel
theorem dX6_eitherOf_32 : decode cX6_eitherOf 32 = .ok (.iconst 1, 1) := by decide +kernel
theorem dX6_eitherOf_33 : decode cX6_eitherOf 33 = .ok (.iand, 1) := by decide +kernel
theorem dX6_eitherOf_34 : decode cX6_eitherOf 34 = .ok (.iadd, 1) := by decide +kernel
theorem dX6_eitherOf_35 : decode cX6_eitherOf 35 = .ok (.istore_n 3, 1) := by decide +kernel
theorem dX6_eitherOf_36 : decode cX6_eitherOf 36 = .ok (.iinc 4 1, 3) := by decide +kernel
theorem dX6_eitherOf_39 : decode cX6_eitherOf 39 = .ok (.goto (-34), 3) := by decide +kernel
theorem dX6_eitherOf_42 : decode cX6_eitherOf 42 = .ok (.iload_n 3, 1) := by decide +kernel
theorem dX6_eitherOf_43 : decode cX6_eitherOf 43 = .ok (.ifCond .ne 7, 3) := by decide +kernel
theorem dX6_eitherOf_46 : decode cX6_eitherOf 46 = .ok (.iconst 1, 1) := by decide +kernel
theorem dX6_eitherOf_47 : decode cX6_eitherOf 47 = .ok (.goto 4, 3) := by decide +kernel
theorem dX6_eitherOf_50 : decode cX6_eitherOf 50 = .ok (.iload_n 3, 1) := by decide +kernel
theorem dX6_eitherOf_51 : decode cX6_eitherOf 51 = .ok (.ireturn, 1) := by decide +kernel
theorem dX6_like_0 : decode cX6_like 0 = .ok (.aload_n 0, 1) := by decide +kernel
theorem dX6_like_1 : decode cX6_like 1 = .ok (.iconst 0, 1) := by decide +kernel
theorem dX6_like_2 : decode cX6_like 2 = .ok (.putfield 66, 3) := by decide +kernel
theorem dX6_like_5 : decode cX6_like 5 = .ok (.aload_n 0, 1) := by decide +kernel
theorem dX6_like_6 : decode cX6_like 6 = .ok (.iload_n 1, 1) := by decide +kernel
theorem dX6_like_7 : decode cX6_like 7 = .ok (.invokevirtual 80, 3) := by decide +kernel
theorem dX6_like_10 : decode cX6_like 10 = .ok (.ifCond .eq 25, 3) := by decide +kernel
theorem dX6_like_13 : decode cX6_like 13 = .ok (.aload_n 0, 1) := by decide +kernel
theorem dX6_like_14 : decode cX6_like 14 = .ok (.iload_n 2, 1) := by decide +kernel
theorem dX6_like_15 : decode cX6_like 15 = .ok (.invokevirtual 80, 3) := by decide +kernel
theorem dX6_like_18 : decode cX6_like 18 = .ok (.ifCond .eq 17, 3) := by decide +kernel
theorem dX6_like_21 : decode cX6_like 21 = .ok (.iload_n 1, 1) := by decide +kernel
theorem dX6_like_22 : decode cX6_like 22 = .ok (.iload_n 2, 1) := by decide +kernel
theorem dX6_like_23 : decode cX6_like 23 = .ok (.if_icmp .eq 12, 3) := by decide +kernel
theorem dX6_like_26 : decode cX6_like 26 = .ok (.iload_n 3, 1) := by decide +kernel
theorem dX6_like_27 : decode cX6_like 27 = .ok (.iconst 0, 1) := by decide +kernel
theorem dX6_like_28 : decode cX6_like 28 = .ok (.iconst 1, 1) := by decide +kernel
theorem dX6_like_29 : decode cX6_like 29 = .ok (.invokestatic 72, 3) := by decide +kernel
theorem dX6_like_32 : decode cX6_like 32 = .ok (.ifCond .ne 5, 3) := by decide +kernel
theorem dX6_like_35 : decode cX6_like 35 = .ok (.iconst (-1), 1) := by decide +kernel
theorem dX6_like_36 : decode cX6_like 36 = .ok (.ireturn, 1) := by decide +kernel
theorem dX6_like_37 : decode cX6_like 37 = .ok (.iload_n 3, 1) := by decide +kernel
theorem dX6_like_38 : decode cX6_like 38 = .ok (.ifCond .ne 12, 3) := by decide +kernel
theorem dX6_like_41 : decode cX6_like 41 = .ok (.aload_n 0, 1) := by decide +kernel
theorem dX6_like_42 : decode cX6_like 42 = .ok (.iload_n 1, 1) := by decide +kernel
theorem dX6_like_43 : decode cX6_like 43 = .ok (.iload_n 2, 1) := by decide +kernel
theorem dX6_like_44 : decode cX6_like 44 = .ok (.invokevirtual 125, 3) := by decide +kernel
theorem dX6_like_47 : decode cX6_like 47 = .ok (.goto 9, 3) := by decide +kernel
theorem dX6_like_50 : decode cX6_like 50 = .ok (.aload_n 0, 1) := by decide +kernel
theorem dX6_like_51 : decode cX6_like 51 = .ok (.iload_n 1, 1) := by decide +kernel
theorem dX6_like_52 : decode cX6_like 52 = .ok (.iload_n 2, 1) := by decide +kernel
theorem dX6_like_53 : decode cX6_like 53 = .ok (.invokevirtual 128, 3) := by decide +kernel
theorem dX6_like_56 : decode cX6_like 56 = .ok (.ireturn, 1) := by decide +kernel
theorem dX6_joins_0 : decode cX6_joins 0 = .ok (.aload_n 0, 1) := by decide +kernel
theorem dX6_joins_1 : decode cX6_joins 1 = .ok (.getfield 44, 3) := by decide +kernel
theorem dX6_joins_4 : decode cX6_joins 4 = .ok (.iconst 2, 1) := by decide +kernel
theorem dX6_joins_5 : decode cX6_joins 5 = .ok (.iconst (-1), 1) := by decide +kernel
theorem dX6_joins_6 : decode cX6_joins 6 = .ok (.iastore, 1) := by decide +kernel
theorem dX6_joins_7 : decode cX6_joins 7 = .ok (.aload_n 0, 1) := by decide +kernel
theorem dX6_joins_8 : decode cX6_joins 8 = .ok (.getfield 44, 3) := by decide +kernel
theorem dX6_joins_11 : decode cX6_joins 11 = .ok (.iconst 3, 1) := by decide +kernel
theorem dX6_joins_12 : decode cX6_joins 12 = .ok (.iconst 1, 1) := by decide +kernel
theorem dX6_joins_13 : decode cX6_joins 13 = .ok (.iastore, 1) := by decide +kernel
theorem dX6_joins_14 : decode cX6_joins 14 = .ok (.iconst 0, 1) := by decide +kernel
theorem dX6_joins_15 : decode cX6_joins 15 = .ok (.istore_n 1, 1) := by decide +kernel
theorem dX6_joins_16 : decode cX6_joins 16 = .ok (.iload_n 1, 1) := by decide +kernel
theorem dX6_joins_17 : decode cX6_joins 17 = .ok (.aload_n 0, 1) := by decide +kernel
theorem dX6_joins_18 : decode cX6_joins 18 = .ok (.getfield 7, 3) := by decide +kernel
theorem dX6_joins_21 : decode cX6_joins 21 = .ok (.if_icmp .ge 153, 3) := by decide +kernel
theorem dX6_joins_24 : decode cX6_joins 24 = .ok (.iload_n 1, 1) := by decide +kernel
theorem dX6_joins_25 : decode cX6_joins 25 = .ok (.iconst 1, 1) := by decide +kernel
theorem dX6_joins_26 : decode cX6_joins 26 = .ok (.iadd, 1) := by decide +kernel
theorem dX6_joins_27 : decode cX6_joins 27 = .ok (.istore_n 2, 1) := by decide +kernel
theorem dX6_joins_28 : decode cX6_joins 28 = .ok (.iload_n 2, 1) := by decide +kernel
theorem dX6_joins_29 : decode cX6_joins 29 = .ok (.aload_n 0, 1) := by decide +kernel
theorem dX6_joins_30 : decode cX6_joins 30 = .ok (.getfield 7, 3) := by decide +kernel
theorem dX6_joins_33 : decode cX6_joins 33 = .ok (.if_icmp .ge 135, 3) := by decide +kernel
theorem dX6_joins_36 : decode cX6_joins 36 = .ok (.iconst 0, 1) := by decide +kernel
theorem dX6_joins_37 : decode cX6_joins 37 = .ok (.istore_n 3, 1) := by decide +kernel
theorem dX6_joins_38 : decode cX6_joins 38 = .ok (.iload_n 3, 1) := by decide +kernel
theorem dX6_joins_39 : decode cX6_joins 39 = .ok (.aload_n 0, 1) := by decide +kernel
theorem dX6_joins_40 : decode cX6_joins 40 = .ok (.getfield 7, 3) := by decide +kernel
theorem dX6_joins_43 : decode cX6_joins 43 = .ok (.if_icmp .ge 119, 3) := by decide +kernel
theorem dX6_joins_46 : decode cX6_joins 46 = .ok (.iconst 0, 1) := by decide +kernel
theorem dX6_joins_47 : decode cX6_joins 47 = .ok (.istore 4, 2) := by decide +kernel
theorem dX6_joins_49 : decode cX6_joins 49 = .ok (.iload 4, 2) := by decide +kernel
theorem dX6_joins_51 : decode cX6_joins 51 = .ok (.aload_n 0, 1) := by decide +kernel
theorem dX6_joins_52 : decode cX6_joins 52 = .ok (.getfield 7, 3) := by decide +kernel
theorem dX6_joins_55 : decode cX6_joins 55 = .ok (.if_icmp .ge 101, 3) := by decide +kernel
theorem dX6_joins_58 : decode cX6_joins 58 = .ok (.aload_n 0, 1) := by decide +kernel
theorem dX6_joins_59 : decode cX6_joins 59 = .ok (.getfield 41, 3) := by decide +kernel
theorem dX6_joins_62 : decode cX6_joins 62 = .ok (.iload_n 3, 1) := by decide +kernel
theorem dX6_joins_63 : decode cX6_joins 63 = .ok (.iaload, 1) := by decide +kernel
theorem dX6_joins_64 : decode cX6_joins 64 = .ok (.iload_n 1, 1) := by decide +kernel
theorem dX6_joins_65 : decode cX6_joins 65 = .ok (.if_icmp .ne 85, 3) := by decide +kernel
theorem dX6_joins_68 : decode cX6_joins 68 = .ok (.aload_n 0, 1) := by decide +kernel
theorem dX6_joins_69 : decode cX6_joins 69 = .ok (.getfield 41, 3) := by decide +kernel
theorem dX6_joins_72 : decode cX6_joins 72 = .ok (.iload 4, 2) := by decide +kernel
theorem dX6_joins_74 : decode cX6_joins 74 = .ok (.iaload, 1) := by decide +kernel
theorem dX6_joins_75 : decode cX6_joins 75 = .ok (.iload_n 2, 1) := by decide +kernel
theorem dX6_joins_76 : decode cX6_joins 76 = .ok (.if_icmp .ne 74, 3) := by decide +kernel
theorem dX6_joins_79 : decode cX6_joins 79 = .ok (.aload_n 0, 1) := by decide +kernel
theorem dX6_joins_80 : decode cX6_joins 80 = .ok (.iload_n 3, 1) := by decide +kernel
theorem dX6_joins_81 : decode cX6_joins 81 = .ok (.iload 4, 2) := by decide +kernel
theorem dX6_joins_83 : decode cX6_joins 83 = .ok (.invokevirtual 125, 3) := by decide +kernel
theorem dX6_joins_86 : decode cX6_joins 86 = .ok (.aload_n 0, 1) := by decide +kernel
theorem dX6_joins_87 : decode cX6_joins 87 = .ok (.getfield 44, 3) := by decide +kernel
theorem dX6_joins_90 : decode cX6_joins 90 = .ok (.iconst 3, 1) := by decide +kernel
theorem dX6_joins_91 : decode cX6_joins 91 = .ok (.iaload, 1) := by decide +kernel
theorem dX6_joins_92 : decode cX6_joins 92 = .ok (.imul, 1) := by decide +kernel
theorem dX6_joins_93 : decode cX6_joins 93 = .ok (.aload_n 0, 1) := by decide +kernel
theorem dX6_joins_94 : decode cX6_joins 94 = .ok (.getfield 44, 3) := by decide +kernel
theorem dX6_joins_97 : decode cX6_joins 97 = .ok (.iconst 2, 1) := by decide +kernel
theorem dX6_joins_98 : decode cX6_joins 98 = .ok (.iaload, 1) := by decide +kernel
theorem dX6_joins_99 : decode cX6_joins 99 = .ok (.aload_n 0, 1) := by decide +kernel
theorem dX6_joins_100 : decode cX6_joins 100 = .ok (.iload_n 3, 1) := by decide +kernel
theorem dX6_joins_101 : decode cX6_joins 101 = .ok (.iload 4, 2) := by decide +kernel
theorem dX6_joins_103 : decode cX6_joins 103 = .ok (.invokevirtual 128, 3) := by decide +kernel
theorem dX6_joins_106 : decode cX6_joins 106 = .ok (.imul, 1) := by decide +kernel
theorem dX6_joins_107 : decode cX6_joins 107 = .ok (.if_icmp .le 43, 3) := by decide +kernel
theorem dX6_joins_110 : decode cX6_joins 110 = .ok (.aload_n 0, 1) := by decide +kernel
theorem dX6_joins_111 : decode cX6_joins 111 = .ok (.getfield 44, 3) := by decide +kernel
theorem dX6_joins_114 : decode cX6_joins 114 = .ok (.iconst 0, 1) := by decide +kernel
theorem dX6_joins_115 : decode cX6_joins 115 = .ok (.iload_n 1, 1) := by decide +kernel
theorem dX6_joins_116 : decode cX6_joins 116 = .ok (.iastore, 1) := by decide +kernel
theorem dX6_joins_117 : decode cX6_joins 117 = .ok (.aload_n 0, 1) := by decide +kernel
theorem dX6_joins_118 : decode cX6_joins 118 = .ok (.getfield 44, 3) := by decide +kernel
theorem dX6_joins_121 : decode cX6_joins 121 = .ok (.iconst 1, 1) := by decide +kernel
theorem dX6_joins_122 : decode cX6_joins 122 = .ok (.iload_n 2, 1) := by decide +kernel
theorem dX6_joins_123 : decode cX6_joins 123 = .ok (.iastore, 1) := by decide +kernel
theorem dX6_joins_124 : decode cX6_joins 124 = .ok (.aload_n 0, 1) := by decide +kernel
theorem dX6_joins_125 : decode cX6_joins 125 = .ok (.getfield 44, 3) := by decide +kernel
theorem dX6_joins_128 : decode cX6_joins 128 = .ok (.iconst 2, 1) := by decide +kernel
theorem dX6_joins_129 : decode cX6_joins 129 = .ok (.aload_n 0, 1) := by decide +kernel
theorem dX6_joins_130 : decode cX6_joins 130 = .ok (.iload_n 3, 1) := by decide +kernel
theorem dX6_joins_131 : decode cX6_joins 131 = .ok (.iload 4, 2) := by decide +kernel
theorem dX6_joins_133 : decode cX6_joins 133 = .ok (.invokevirtual 125, 3) := by decide +kernel
theorem dX6_joins_136 : decode cX6_joins 136 = .ok (.iastore, 1) := by decide +kernel
theorem dX6_joins_137 : decode cX6_joins 137 = .ok (.aload_n 0, 1) := by decide +kernel
theorem dX6_joins_138 : decode cX6_joins 138 = .ok (.getfield 44, 3) := by decide +kernel
theorem dX6_joins_141 : decode cX6_joins 141 = .ok (.iconst 3, 1) := by decide +kernel
theorem dX6_joins_142 : decode cX6_joins 142 = .ok (.aload_n 0, 1) := by decide +kernel
theorem dX6_joins_143 : decode cX6_joins 143 = .ok (.iload_n 3, 1) := by decide +kernel
theorem dX6_joins_144 : decode cX6_joins 144 = .ok (.iload 4, 2) := by decide +kernel
theorem dX6_joins_146 : decode cX6_joins 146 = .ok (.invokevirtual 128, 3) := by decide +kernel
theorem dX6_joins_149 : decode cX6_joins 149 = .ok (.iastore, 1) := by decide +kernel
theorem dX6_joins_150 : decode cX6_joins 150 = .ok (.iinc 4 1, 3) := by decide +kernel
theorem dX6_joins_153 : decode cX6_joins 153 = .ok (.goto (-104), 3) := by decide +kernel
theorem dX6_joins_156 : decode cX6_joins 156 = .ok (.iinc 3 1, 3) := by decide +kernel
theorem dX6_joins_159 : decode cX6_joins 159 = .ok (.goto (-121), 3) := by decide +kernel
theorem dX6_joins_162 : decode cX6_joins 162 = .ok (.iinc 2 1, 3) := by decide +kernel
theorem dX6_joins_165 : decode cX6_joins 165 = .ok (.goto (-137), 3) := by decide +kernel
theorem dX6_joins_168 : decode cX6_joins 168 = .ok (.iinc 1 1, 3) := by decide +kernel
theorem dX6_joins_171 : decode cX6_joins 171 = .ok (.goto (-155), 3) := by decide +kernel
theorem dX6_joins_174 : decode cX6_joins 174 = .ok (.return_, 1) := by decide +kernel
theorem dX6_join_0 : decode cX6_join 0 = .ok (.aload_n 0, 1) := by decide +kernel
theorem dX6_join_1 : decode cX6_join 1 = .ok (.iconst 0, 1) := by decide +kernel
theorem dX6_join_2 : decode cX6_join 2 = .ok (.putfield 66, 3) := by decide +kernel
theorem dX6_join_5 : decode cX6_join 5 = .ok (.iload_n 1, 1) := by decide +kernel
theorem dX6_join_6 : decode cX6_join 6 = .ok (.iconst 0, 1) := by decide +kernel
theorem dX6_join_7 : decode cX6_join 7 = .ok (.aload_n 0, 1) := by decide +kernel
theorem dX6_join_8 : decode cX6_join 8 = .ok (.getfield 7, 3) := by decide +kernel
theorem dX6_join_11 : decode cX6_join 11 = .ok (.iconst 2, 1) := by decide +kernel
theorem dX6_join_12 : decode cX6_join 12 = .ok (.isub, 1) := by decide +kernel
theorem dX6_join_13 : decode cX6_join 13 = .ok (.invokestatic 72, 3) := by decide +kernel
theorem dX6_join_16 : decode cX6_join 16 = .ok (.ifCond .eq 12, 3) := by decide +kernel
theorem dX6_join_19 : decode cX6_join 19 = .ok (.iload_n 2, 1) := by decide +kernel
theorem dX6_join_20 : decode cX6_join 20 = .ok (.iconst 0, 1) := by decide +kernel
theorem dX6_join_21 : decode cX6_join 21 = .ok (.iconst 3, 1) := by decide +kernel
theorem dX6_join_22 : decode cX6_join 22 = .ok (.invokestatic 72, 3) := by decide +kernel
theorem dX6_join_25 : decode cX6_join 25 = .ok (.ifCond .ne 5, 3) := by decide +kernel
theorem dX6_join_28 : decode cX6_join 28 = .ok (.iconst (-1), 1) := by decide +kernel
theorem dX6_join_29 : decode cX6_join 29 = .ok (.ireturn, 1) := by decide +kernel
theorem dX6_join_30 : decode cX6_join 30 = .ok (.iconst 0, 1) := by decide +kernel
theorem dX6_join_31 : decode cX6_join 31 = .ok (.istore_n 3, 1) := by decide +kernel
theorem dX6_join_32 : decode cX6_join 32 = .ok (.iload_n 3, 1) := by decide +kernel
theorem dX6_join_33 : decode cX6_join 33 = .ok (.aload_n 0, 1) := by decide +kernel
theorem dX6_join_34 : decode cX6_join 34 = .ok (.getfield 7, 3) := by decide +kernel
theorem dX6_join_37 : decode cX6_join 37 = .ok (.if_icmp .ge 16, 3) := by decide +kernel
theorem dX6_join_40 : decode cX6_join 40 = .ok (.aload_n 0, 1) := by decide +kernel
theorem dX6_join_41 : decode cX6_join 41 = .ok (.getfield 41, 3) := by decide +kernel
theorem dX6_join_44 : decode cX6_join 44 = .ok (.iload_n 3, 1) := by decide +kernel
theorem dX6_join_45 : decode cX6_join 45 = .ok (.iload_n 3, 1) := by decide +kernel
theorem dX6_join_46 : decode cX6_join 46 = .ok (.iastore, 1) := by decide +kernel
theorem dX6_join_47 : decode cX6_join 47 = .ok (.iinc 3 1, 3) := by decide +kernel
theorem dX6_join_50 : decode cX6_join 50 = .ok (.goto (-18), 3) := by decide +kernel
theorem dX6_join_53 : decode cX6_join 53 = .ok (.iconst 0, 1) := by decide +kernel
theorem dX6_join_54 : decode cX6_join 54 = .ok (.istore_n 3, 1) := by decide +kernel
theorem dX6_join_55 : decode cX6_join 55 = .ok (.iload_n 3, 1) := by decide +kernel
theorem dX6_join_56 : decode cX6_join 56 = .ok (.iload_n 1, 1) := by decide +kernel
theorem dX6_join_57 : decode cX6_join 57 = .ok (.if_icmp .gt 70, 3) := by decide +kernel
theorem dX6_join_60 : decode cX6_join 60 = .ok (.aload_n 0, 1) := by decide +kernel
theorem dX6_join_61 : decode cX6_join 61 = .ok (.invokevirtual 131, 3) := by decide +kernel
theorem dX6_join_64 : decode cX6_join 64 = .ok (.iconst 0, 1) := by decide +kernel
theorem dX6_join_65 : decode cX6_join 65 = .ok (.istore 4, 2) := by decide +kernel
theorem dX6_join_67 : decode cX6_join 67 = .ok (.iload 4, 2) := by decide +kernel
theorem dX6_join_69 : decode cX6_join 69 = .ok (.aload_n 0, 1) := by decide +kernel
theorem dX6_join_70 : decode cX6_join 70 = .ok (.getfield 7, 3) := by decide +kernel
theorem dX6_join_73 : decode cX6_join 73 = .ok (.if_icmp .ge 48, 3) := by decide +kernel
theorem dX6_join_76 : decode cX6_join 76 = .ok (.aload_n 0, 1) := by decide +kernel
theorem dX6_join_77 : decode cX6_join 77 = .ok (.getfield 41, 3) := by decide +kernel
theorem dX6_join_80 : decode cX6_join 80 = .ok (.iload 4, 2) := by decide +kernel
theorem dX6_join_82 : decode cX6_join 82 = .ok (.aload_n 0, 1) := by decide +kernel
theorem dX6_join_83 : decode cX6_join 83 = .ok (.getfield 41, 3) := by decide +kernel
theorem dX6_join_86 : decode cX6_join 86 = .ok (.iload 4, 2) := by decide +kernel
theorem dX6_join_88 : decode cX6_join 88 = .ok (.iaload, 1) := by decide +kernel
theorem dX6_join_89 : decode cX6_join 89 = .ok (.aload_n 0, 1) := by decide +kernel
theorem dX6_join_90 : decode cX6_join 90 = .ok (.getfield 44, 3) := by decide +kernel
theorem dX6_join_93 : decode cX6_join 93 = .ok (.iconst 1, 1) := by decide +kernel
theorem dX6_join_94 : decode cX6_join 94 = .ok (.iaload, 1) := by decide +kernel
theorem dX6_join_95 : decode cX6_join 95 = .ok (.if_icmp .ne 12, 3) := by decide +kernel
theorem dX6_join_98 : decode cX6_join 98 = .ok (.aload_n 0, 1) := by decide +kernel
theorem dX6_join_99 : decode cX6_join 99 = .ok (.getfield 44, 3) := by decide +kernel
theorem dX6_join_102 : decode cX6_join 102 = .ok (.iconst 0, 1) := by decide +kernel
theorem dX6_join_103 : decode cX6_join 103 = .ok (.iaload, 1) := by decide +kernel
theorem dX6_join_104 : decode cX6_join 104 = .ok (.goto 10, 3) := by decide +kernel
theorem dX6_join_107 : decode cX6_join 107 = .ok (.aload_n 0, 1) := by decide +kernel
theorem dX6_join_108 : decode cX6_join 108 = .ok (.getfield 41, 3) := by decide +kernel
theorem dX6_join_111 : decode cX6_join 111 = .ok (.iload 4, 2) := by decide +kernel
theorem dX6_join_113 : decode cX6_join 113 = .ok (.iaload, 1) := by decide +kernel
theorem dX6_join_114 : decode cX6_join 114 = .ok (.iastore, 1) := by decide +kernel
theorem dX6_join_115 : decode cX6_join 115 = .ok (.iinc 4 1, 3) := by decide +kernel
theorem dX6_join_118 : decode cX6_join 118 = .ok (.goto (-51), 3) := by decide +kernel
theorem dX6_join_121 : decode cX6_join 121 = .ok (.iinc 3 1, 3) := by decide +kernel
theorem dX6_join_124 : decode cX6_join 124 = .ok (.goto (-69), 3) := by decide +kernel
theorem dX6_join_127 : decode cX6_join 127 = .ok (.aload_n 0, 1) := by decide +kernel
theorem dX6_join_128 : decode cX6_join 128 = .ok (.getfield 44, 3) := by decide +kernel
theorem dX6_join_131 : decode cX6_join 131 = .ok (.iload_n 2, 1) := by decide +kernel
theorem dX6_join_132 : decode cX6_join 132 = .ok (.iaload, 1) := by decide +kernel
theorem dX6_join_133 : decode cX6_join 133 = .ok (.ireturn, 1) := by decide +kernel
theorem dX6_bears_0 : decode cX6_bears 0 = .ok (.aload_n 0, 1) := by decide +kernel
theorem dX6_bears_1 : decode cX6_bears 1 = .ok (.iconst 0, 1) := by decide +kernel
theorem dX6_bears_2 : decode cX6_bears 2 = .ok (.putfield 66, 3) := by decide +kernel
theorem dX6_bears_5 : decode cX6_bears 5 = .ok (.aload_n 0, 1) := by decide +kernel
theorem dX6_bears_6 : decode cX6_bears 6 = .ok (.iload_n 1, 1) := by decide +kernel
theorem dX6_bears_7 : decode cX6_bears 7 = .ok (.invokevirtual 80, 3) := by decide +kernel
theorem dX6_bears_10 : decode cX6_bears 10 = .ok (.ifCond .eq 13, 3) := by decide +kernel
theorem dX6_bears_13 : decode cX6_bears 13 = .ok (.iload_n 2, 1) := by decide +kernel
theorem dX6_bears_14 : decode cX6_bears 14 = .ok (.iconst 0, 1) := by decide +kernel
theorem dX6_bears_15 : decode cX6_bears 15 = .ok (.bipush 99, 2) := by decide +kernel
theorem dX6_bears_17 : decode cX6_bears 17 = .ok (.invokestatic 72, 3) := by decide +kernel
theorem dX6_bears_20 : decode cX6_bears 20 = .ok (.ifCond .ne 5, 3) := by decide +kernel
theorem dX6_bears_23 : decode cX6_bears 23 = .ok (.iconst (-1), 1) := by decide +kernel
theorem dX6_bears_24 : decode cX6_bears 24 = .ok (.ireturn, 1) := by decide +kernel
theorem dX6_bears_25 : decode cX6_bears 25 = .ok (.aload_n 0, 1) := by decide +kernel
theorem dX6_bears_26 : decode cX6_bears 26 = .ok (.getfield 26, 3) := by decide +kernel
theorem dX6_bears_29 : decode cX6_bears 29 = .ok (.iload_n 1, 1) := by decide +kernel
theorem dX6_bears_30 : decode cX6_bears 30 = .ok (.iaload, 1) := by decide +kernel
theorem dX6_bears_31 : decode cX6_bears 31 = .ok (.istore_n 3, 1) := by decide +kernel
theorem dX6_bears_32 : decode cX6_bears 32 = .ok (.aload_n 0, 1) := by decide +kernel
theorem dX6_bears_33 : decode cX6_bears 33 = .ok (.getfield 26, 3) := by decide +kernel
theorem dX6_bears_36 : decode cX6_bears 36 = .ok (.iload_n 1, 1) := by decide +kernel
theorem dX6_bears_37 : decode cX6_bears 37 = .ok (.iload_n 2, 1) := by decide +kernel
theorem dX6_bears_38 : decode cX6_bears 38 = .ok (.iastore, 1) := by decide +kernel
theorem dX6_bears_39 : decode cX6_bears 39 = .ok (.iload_n 3, 1) := by decide +kernel
theorem dX6_bears_40 : decode cX6_bears 40 = .ok (.ireturn, 1) := by decide +kernel
theorem dX6_loadOf_0 : decode cX6_loadOf 0 = .ok (.iconst 0, 1) := by decide +kernel
theorem dX6_loadOf_1 : decode cX6_loadOf 1 = .ok (.istore_n 3, 1) := by decide +kernel
theorem dX6_loadOf_2 : decode cX6_loadOf 2 = .ok (.iconst 0, 1) := by decide +kernel
theorem dX6_loadOf_3 : decode cX6_loadOf 3 = .ok (.istore 4, 2) := by decide +kernel
theorem dX6_loadOf_5 : decode cX6_loadOf 5 = .ok (.iload 4, 2) := by decide +kernel
theorem dX6_loadOf_7 : decode cX6_loadOf 7 = .ok (.aload_n 0, 1) := by decide +kernel
theorem dX6_loadOf_8 : decode cX6_loadOf 8 = .ok (.getfield 13, 3) := by decide +kernel
theorem dX6_loadOf_11 : decode cX6_loadOf 11 = .ok (.if_icmp .ge 40, 3) := by decide +kernel
theorem dX6_loadOf_14 : decode cX6_loadOf 14 = .ok (.iload_n 3, 1) := by decide +kernel
theorem dX6_loadOf_15 : decode cX6_loadOf 15 = .ok (.aload_n 0, 1) := by decide +kernel
theorem dX6_loadOf_16 : decode cX6_loadOf 16 = .ok (.getfield 16, 3) := by decide +kernel
theorem dX6_loadOf_19 : decode cX6_loadOf 19 = .ok (.iconst 2, 1) := by decide +kernel
theorem dX6_loadOf_20 : decode cX6_loadOf 20 = .ok (.iload 4, 2) := by decide +kernel
theorem dX6_loadOf_22 : decode cX6_loadOf 22 = .ok (.imul, 1) := by decide +kernel
theorem dX6_loadOf_23 : decode cX6_loadOf 23 = .ok (.iload_n 2, 1) := by decide +kernel
theorem dX6_loadOf_24 : decode cX6_loadOf 24 = .ok (.iload 4, 2) := by decide +kernel
theorem dX6_loadOf_26 : decode cX6_loadOf 26 = .ok (.ishr, 1) := by decide +kernel
theorem dX6_loadOf_27 : decode cX6_loadOf 27 = .ok (.iconst 1, 1) := by decide +kernel
theorem dX6_loadOf_28 : decode cX6_loadOf 28 = .ok (.iand, 1) := by decide +kernel
theorem dX6_loadOf_29 : decode cX6_loadOf 29 = .ok (.iadd, 1) := by decide +kernel
theorem dX6_loadOf_30 : decode cX6_loadOf 30 = .ok (.iaload, 1) := by decide +kernel
theorem dX6_loadOf_31 : decode cX6_loadOf 31 = .ok (.iload_n 1, 1) := by decide +kernel
theorem dX6_loadOf_32 : decode cX6_loadOf 32 = .ok (.ishr, 1) := by decide +kernel
theorem dX6_loadOf_33 : decode cX6_loadOf 33 = .ok (.iconst 1, 1) := by decide +kernel
theorem dX6_loadOf_34 : decode cX6_loadOf 34 = .ok (.iand, 1) := by decide +kernel
theorem dX6_loadOf_35 : decode cX6_loadOf 35 = .ok (.aload_n 0, 1) := by decide +kernel
theorem dX6_loadOf_36 : decode cX6_loadOf 36 = .ok (.getfield 23, 3) := by decide +kernel
theorem dX6_loadOf_39 : decode cX6_loadOf 39 = .ok (.iload 4, 2) := by decide +kernel
theorem dX6_loadOf_41 : decode cX6_loadOf 41 = .ok (.iaload, 1) := by decide +kernel
theorem dX6_loadOf_42 : decode cX6_loadOf 42 = .ok (.imul, 1) := by decide +kernel
theorem dX6_loadOf_43 : decode cX6_loadOf 43 = .ok (.iadd, 1) := by decide +kernel
theorem dX6_loadOf_44 : decode cX6_loadOf 44 = .ok (.istore_n 3, 1) := by decide +kernel
theorem dX6_loadOf_45 : decode cX6_loadOf 45 = .ok (.iinc 4 1, 3) := by decide +kernel
theorem dX6_loadOf_48 : decode cX6_loadOf 48 = .ok (.goto (-43), 3) := by decide +kernel
theorem dX6_loadOf_51 : decode cX6_loadOf 51 = .ok (.iload_n 3, 1) := by decide +kernel
theorem dX6_loadOf_52 : decode cX6_loadOf 52 = .ok (.ireturn, 1) := by decide +kernel
theorem dX6_bits_0 : decode cX6_bits 0 = .ok (.iconst 0, 1) := by decide +kernel
theorem dX6_bits_1 : decode cX6_bits 1 = .ok (.istore_n 1, 1) := by decide +kernel
theorem dX6_bits_2 : decode cX6_bits 2 = .ok (.iconst 0, 1) := by decide +kernel
theorem dX6_bits_3 : decode cX6_bits 3 = .ok (.istore_n 2, 1) := by decide +kernel
theorem dX6_bits_4 : decode cX6_bits 4 = .ok (.iload_n 2, 1) := by decide +kernel
theorem dX6_bits_5 : decode cX6_bits 5 = .ok (.aload_n 0, 1) := by decide +kernel
theorem dX6_bits_6 : decode cX6_bits 6 = .ok (.getfield 13, 3) := by decide +kernel
theorem dX6_bits_9 : decode cX6_bits 9 = .ok (.if_icmp .ge 20, 3) := by decide +kernel
theorem dX6_bits_12 : decode cX6_bits 12 = .ok (.iload_n 1, 1) := by decide +kernel
theorem dX6_bits_13 : decode cX6_bits 13 = .ok (.aload_n 0, 1) := by decide +kernel
theorem dX6_bits_14 : decode cX6_bits 14 = .ok (.getfield 20, 3) := by decide +kernel
theorem dX6_bits_17 : decode cX6_bits 17 = .ok (.iload_n 2, 1) := by decide +kernel
theorem dX6_bits_18 : decode cX6_bits 18 = .ok (.iaload, 1) := by decide +kernel
theorem dX6_bits_19 : decode cX6_bits 19 = .ok (.iload_n 2, 1) := by decide +kernel

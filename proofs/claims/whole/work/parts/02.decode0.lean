theorem dX0_init_0 : decode cX0_init 0 = .ok (.aload_n 0, 1) := by decide +kernel
theorem dX0_init_1 : decode cX0_init 1 = .ok (.invokespecial 3, 3) := by decide +kernel
theorem dX0_init_4 : decode cX0_init 4 = .ok (.aload_n 0, 1) := by decide +kernel
theorem dX0_init_5 : decode cX0_init 5 = .ok (.iconst 4, 1) := by decide +kernel
theorem dX0_init_6 : decode cX0_init 6 = .ok (.newarray .int, 2) := by decide +kernel
theorem dX0_init_8 : decode cX0_init 8 = .ok (.putfield 9, 3) := by decide +kernel
theorem dX0_init_11 : decode cX0_init 11 = .ok (.return_, 1) := by decide +kernel
theorem dX0_become_0 : decode cX0_become 0 = .ok (.aload_n 0, 1) := by decide +kernel
theorem dX0_become_1 : decode cX0_become 1 = .ok (.iload_n 1, 1) := by decide +kernel
theorem dX0_become_2 : decode cX0_become 2 = .ok (.putfield 15, 3) := by decide +kernel
theorem dX0_become_5 : decode cX0_become 5 = .ok (.aload_n 0, 1) := by decide +kernel
theorem dX0_become_6 : decode cX0_become 6 = .ok (.iload_n 2, 1) := by decide +kernel
theorem dX0_become_7 : decode cX0_become 7 = .ok (.putfield 19, 3) := by decide +kernel
theorem dX0_become_10 : decode cX0_become 10 = .ok (.aload_n 0, 1) := by decide +kernel
theorem dX0_become_11 : decode cX0_become 11 = .ok (.getfield 9, 3) := by decide +kernel
theorem dX0_become_14 : decode cX0_become 14 = .ok (.iconst 0, 1) := by decide +kernel
theorem dX0_become_15 : decode cX0_become 15 = .ok (.invokestatic 22, 3) := by decide +kernel
theorem dX0_become_18 : decode cX0_become 18 = .ok (.iconst 0, 1) := by decide +kernel
theorem dX0_become_19 : decode cX0_become 19 = .ok (.istore_n 3, 1) := by decide +kernel
theorem dX0_become_20 : decode cX0_become 20 = .ok (.iload_n 3, 1) := by decide +kernel
theorem dX0_become_21 : decode cX0_become 21 = .ok (.aload_n 0, 1) := by decide +kernel
theorem dX0_become_22 : decode cX0_become 22 = .ok (.getfield 19, 3) := by decide +kernel
theorem dX0_become_25 : decode cX0_become 25 = .ok (.if_icmp .ge 25, 3) := by decide +kernel
theorem dX0_become_28 : decode cX0_become 28 = .ok (.aload_n 0, 1) := by decide +kernel
theorem dX0_become_29 : decode cX0_become 29 = .ok (.getfield 9, 3) := by decide +kernel
theorem dX0_become_32 : decode cX0_become 32 = .ok (.aload_n 0, 1) := by decide +kernel
theorem dX0_become_33 : decode cX0_become 33 = .ok (.iload_n 3, 1) := by decide +kernel
theorem dX0_become_34 : decode cX0_become 34 = .ok (.invokevirtual 28, 3) := by decide +kernel
theorem dX0_become_37 : decode cX0_become 37 = .ok (.dup2, 1) := by decide +kernel
theorem dX0_become_38 : decode cX0_become 38 = .ok (.iaload, 1) := by decide +kernel
theorem dX0_become_39 : decode cX0_become 39 = .ok (.iconst 1, 1) := by decide +kernel
theorem dX0_become_40 : decode cX0_become 40 = .ok (.iload_n 3, 1) := by decide +kernel
theorem dX0_become_41 : decode cX0_become 41 = .ok (.ishl, 1) := by decide +kernel
theorem dX0_become_42 : decode cX0_become 42 = .ok (.ior, 1) := by decide +kernel
theorem dX0_become_43 : decode cX0_become 43 = .ok (.iastore, 1) := by decide +kernel
theorem dX0_become_44 : decode cX0_become 44 = .ok (.iinc 3 1, 3) := by decide +kernel
theorem dX0_become_47 : decode cX0_become 47 = .ok (.goto (-27), 3) := by decide +kernel
theorem dX0_become_50 : decode cX0_become 50 = .ok (.return_, 1) := by decide +kernel
theorem dX0_put_0 : decode cX0_put 0 = .ok (.aload_n 0, 1) := by decide +kernel
theorem dX0_put_1 : decode cX0_put 1 = .ok (.getfield 15, 3) := by decide +kernel
theorem dX0_put_4 : decode cX0_put 4 = .ok (.iconst 3, 1) := by decide +kernel
theorem dX0_put_5 : decode cX0_put 5 = .ok (.iconst 2, 1) := by decide +kernel
theorem dX0_put_6 : decode cX0_put 6 = .ok (.iload_n 1, 1) := by decide +kernel
theorem dX0_put_7 : decode cX0_put 7 = .ok (.imul, 1) := by decide +kernel
theorem dX0_put_8 : decode cX0_put 8 = .ok (.ishl, 1) := by decide +kernel
theorem dX0_put_9 : decode cX0_put 9 = .ok (.iconst (-1), 1) := by decide +kernel
theorem dX0_put_10 : decode cX0_put 10 = .ok (.ixor, 1) := by decide +kernel
theorem dX0_put_11 : decode cX0_put 11 = .ok (.iand, 1) := by decide +kernel
theorem dX0_put_12 : decode cX0_put 12 = .ok (.istore_n 3, 1) := by decide +kernel
theorem dX0_put_13 : decode cX0_put 13 = .ok (.aload_n 0, 1) := by decide +kernel
theorem dX0_put_14 : decode cX0_put 14 = .ok (.iload_n 3, 1) := by decide +kernel
theorem dX0_put_15 : decode cX0_put 15 = .ok (.iload_n 2, 1) := by decide +kernel
theorem dX0_put_16 : decode cX0_put 16 = .ok (.iconst 2, 1) := by decide +kernel
theorem dX0_put_17 : decode cX0_put 17 = .ok (.iload_n 1, 1) := by decide +kernel
theorem dX0_put_18 : decode cX0_put 18 = .ok (.imul, 1) := by decide +kernel
theorem dX0_put_19 : decode cX0_put 19 = .ok (.ishl, 1) := by decide +kernel
theorem dX0_put_20 : decode cX0_put 20 = .ok (.ior, 1) := by decide +kernel
theorem dX0_put_21 : decode cX0_put 21 = .ok (.aload_n 0, 1) := by decide +kernel
theorem dX0_put_22 : decode cX0_put 22 = .ok (.getfield 19, 3) := by decide +kernel
theorem dX0_put_25 : decode cX0_put 25 = .ok (.invokevirtual 32, 3) := by decide +kernel
theorem dX0_put_28 : decode cX0_put 28 = .ok (.return_, 1) := by decide +kernel
theorem dX0_numbered_0 : decode cX0_numbered 0 = .ok (.aload_n 0, 1) := by decide +kernel
theorem dX0_numbered_1 : decode cX0_numbered 1 = .ok (.getfield 15, 3) := by decide +kernel
theorem dX0_numbered_4 : decode cX0_numbered 4 = .ok (.ireturn, 1) := by decide +kernel
theorem dX0_cellOf_0 : decode cX0_cellOf 0 = .ok (.aload_n 0, 1) := by decide +kernel
theorem dX0_cellOf_1 : decode cX0_cellOf 1 = .ok (.getfield 15, 3) := by decide +kernel
theorem dX0_cellOf_4 : decode cX0_cellOf 4 = .ok (.iconst 2, 1) := by decide +kernel
theorem dX0_cellOf_5 : decode cX0_cellOf 5 = .ok (.iload_n 1, 1) := by decide +kernel
theorem dX0_cellOf_6 : decode cX0_cellOf 6 = .ok (.imul, 1) := by decide +kernel
theorem dX0_cellOf_7 : decode cX0_cellOf 7 = .ok (.ishr, 1) := by decide +kernel
theorem dX0_cellOf_8 : decode cX0_cellOf 8 = .ok (.iconst 3, 1) := by decide +kernel
theorem dX0_cellOf_9 : decode cX0_cellOf 9 = .ok (.iand, 1) := by decide +kernel
theorem dX0_cellOf_10 : decode cX0_cellOf 10 = .ok (.ireturn, 1) := by decide +kernel
theorem dX0_isPlain_0 : decode cX0_isPlain 0 = .ok (.iconst 0, 1) := by decide +kernel
theorem dX0_isPlain_1 : decode cX0_isPlain 1 = .ok (.istore_n 2, 1) := by decide +kernel
theorem dX0_isPlain_2 : decode cX0_isPlain 2 = .ok (.iconst 0, 1) := by decide +kernel
theorem dX0_isPlain_3 : decode cX0_isPlain 3 = .ok (.istore_n 3, 1) := by decide +kernel
theorem dX0_isPlain_4 : decode cX0_isPlain 4 = .ok (.iload_n 3, 1) := by decide +kernel
theorem dX0_isPlain_5 : decode cX0_isPlain 5 = .ok (.iload_n 1, 1) := by decide +kernel
theorem dX0_isPlain_6 : decode cX0_isPlain 6 = .ok (.if_icmp .ge 35, 3) := by decide +kernel
theorem dX0_isPlain_9 : decode cX0_isPlain 9 = .ok (.iload_n 0, 1) := by decide +kernel
theorem dX0_isPlain_10 : decode cX0_isPlain 10 = .ok (.iconst 2, 1) := by decide +kernel
theorem dX0_isPlain_11 : decode cX0_isPlain 11 = .ok (.iload_n 3, 1) := by decide +kernel
theorem dX0_isPlain_12 : decode cX0_isPlain 12 = .ok (.imul, 1) := by decide +kernel
theorem dX0_isPlain_13 : decode cX0_isPlain 13 = .ok (.ishr, 1) := by decide +kernel
theorem dX0_isPlain_14 : decode cX0_isPlain 14 = .ok (.iconst 3, 1) := by decide +kernel
theorem dX0_isPlain_15 : decode cX0_isPlain 15 = .ok (.iand, 1) := by decide +kernel
theorem dX0_isPlain_16 : decode cX0_isPlain 16 = .ok (.istore 4, 2) := by decide +kernel
theorem dX0_isPlain_18 : decode cX0_isPlain 18 = .ok (.iload 4, 2) := by decide +kernel
theorem dX0_isPlain_20 : decode cX0_isPlain 20 = .ok (.iload_n 2, 1) := by decide +kernel
theorem dX0_isPlain_21 : decode cX0_isPlain 21 = .ok (.if_icmp .le 5, 3) := by decide +kernel
theorem dX0_isPlain_24 : decode cX0_isPlain 24 = .ok (.iconst 0, 1) := by decide +kernel
theorem dX0_isPlain_25 : decode cX0_isPlain 25 = .ok (.ireturn, 1) := by decide +kernel
theorem dX0_isPlain_26 : decode cX0_isPlain 26 = .ok (.iload 4, 2) := by decide +kernel
theorem dX0_isPlain_28 : decode cX0_isPlain 28 = .ok (.iload_n 2, 1) := by decide +kernel
theorem dX0_isPlain_29 : decode cX0_isPlain 29 = .ok (.if_icmp .ne 6, 3) := by decide +kernel
theorem dX0_isPlain_32 : decode cX0_isPlain 32 = .ok (.iinc 2 1, 3) := by decide +kernel
theorem dX0_isPlain_35 : decode cX0_isPlain 35 = .ok (.iinc 3 1, 3) := by decide +kernel
theorem dX0_isPlain_38 : decode cX0_isPlain 38 = .ok (.goto (-34), 3) := by decide +kernel
theorem dX0_isPlain_41 : decode cX0_isPlain 41 = .ok (.iconst 1, 1) := by decide +kernel
theorem dX0_isPlain_42 : decode cX0_isPlain 42 = .ok (.ireturn, 1) := by decide +kernel
theorem dX0_homeOf_0 : decode cX0_homeOf 0 = .ok (.iconst 0, 1) := by decide +kernel
theorem dX0_homeOf_1 : decode cX0_homeOf 1 = .ok (.istore_n 2, 1) := by decide +kernel
theorem dX0_homeOf_2 : decode cX0_homeOf 2 = .ok (.iconst 0, 1) := by decide +kernel
theorem dX0_homeOf_3 : decode cX0_homeOf 3 = .ok (.istore_n 3, 1) := by decide +kernel
theorem dX0_homeOf_4 : decode cX0_homeOf 4 = .ok (.iconst 0, 1) := by decide +kernel
theorem dX0_homeOf_5 : decode cX0_homeOf 5 = .ok (.istore 4, 2) := by decide +kernel
theorem dX0_homeOf_7 : decode cX0_homeOf 7 = .ok (.iload 4, 2) := by decide +kernel
theorem dX0_homeOf_9 : decode cX0_homeOf 9 = .ok (.iconst 4, 1) := by decide +kernel
theorem dX0_homeOf_10 : decode cX0_homeOf 10 = .ok (.if_icmp .ge 35, 3) := by decide +kernel
theorem dX0_homeOf_13 : decode cX0_homeOf 13 = .ok (.aload_n 0, 1) := by decide +kernel
theorem dX0_homeOf_14 : decode cX0_homeOf 14 = .ok (.getfield 9, 3) := by decide +kernel
theorem dX0_homeOf_17 : decode cX0_homeOf 17 = .ok (.iload 4, 2) := by decide +kernel
theorem dX0_homeOf_19 : decode cX0_homeOf 19 = .ok (.iaload, 1) := by decide +kernel
theorem dX0_homeOf_20 : decode cX0_homeOf 20 = .ok (.iload_n 1, 1) := by decide +kernel
theorem dX0_homeOf_21 : decode cX0_homeOf 21 = .ok (.iand, 1) := by decide +kernel
theorem dX0_homeOf_22 : decode cX0_homeOf 22 = .ok (.invokestatic 36, 3) := by decide +kernel
theorem dX0_homeOf_25 : decode cX0_homeOf 25 = .ok (.istore 5, 2) := by decide +kernel
theorem dX0_homeOf_27 : decode cX0_homeOf 27 = .ok (.iload 5, 2) := by decide +kernel
theorem dX0_homeOf_29 : decode cX0_homeOf 29 = .ok (.iload_n 3, 1) := by decide +kernel
theorem dX0_homeOf_30 : decode cX0_homeOf 30 = .ok (.if_icmp .le 9, 3) := by decide +kernel
theorem dX0_homeOf_33 : decode cX0_homeOf 33 = .ok (.iload 5, 2) := by decide +kernel
theorem dX0_homeOf_35 : decode cX0_homeOf 35 = .ok (.istore_n 3, 1) := by decide +kernel
theorem dX0_homeOf_36 : decode cX0_homeOf 36 = .ok (.iload 4, 2) := by decide +kernel
theorem dX0_homeOf_38 : decode cX0_homeOf 38 = .ok (.istore_n 2, 1) := by decide +kernel
theorem dX0_homeOf_39 : decode cX0_homeOf 39 = .ok (.iinc 4 1, 3) := by decide +kernel
theorem dX0_homeOf_42 : decode cX0_homeOf 42 = .ok (.goto (-35), 3) := by decide +kernel
theorem dX0_homeOf_45 : decode cX0_homeOf 45 = .ok (.iload_n 2, 1) := by decide +kernel
theorem dX0_homeOf_46 : decode cX0_homeOf 46 = .ok (.ireturn, 1) := by decide +kernel
theorem dX0_wandersOf_0 : decode cX0_wandersOf 0 = .ok (.iload_n 1, 1) := by decide +kernel
theorem dX0_wandersOf_1 : decode cX0_wandersOf 1 = .ok (.aload_n 0, 1) := by decide +kernel
theorem dX0_wandersOf_2 : decode cX0_wandersOf 2 = .ok (.getfield 9, 3) := by decide +kernel
theorem dX0_wandersOf_5 : decode cX0_wandersOf 5 = .ok (.aload_n 0, 1) := by decide +kernel
theorem dX0_wandersOf_6 : decode cX0_wandersOf 6 = .ok (.iload_n 1, 1) := by decide +kernel
theorem dX0_wandersOf_7 : decode cX0_wandersOf 7 = .ok (.invokevirtual 41, 3) := by decide +kernel
theorem dX0_wandersOf_10 : decode cX0_wandersOf 10 = .ok (.iaload, 1) := by decide +kernel
theorem dX0_wandersOf_11 : decode cX0_wandersOf 11 = .ok (.iconst (-1), 1) := by decide +kernel
theorem dX0_wandersOf_12 : decode cX0_wandersOf 12 = .ok (.ixor, 1) := by decide +kernel
theorem dX0_wandersOf_13 : decode cX0_wandersOf 13 = .ok (.iand, 1) := by decide +kernel
theorem dX0_wandersOf_14 : decode cX0_wandersOf 14 = .ok (.invokestatic 36, 3) := by decide +kernel
theorem dX0_wandersOf_17 : decode cX0_wandersOf 17 = .ok (.ireturn, 1) := by decide +kernel
theorem dX0_idleOf_0 : decode cX0_idleOf 0 = .ok (.aload_n 0, 1) := by decide +kernel
theorem dX0_idleOf_1 : decode cX0_idleOf 1 = .ok (.getfield 9, 3) := by decide +kernel
theorem dX0_idleOf_4 : decode cX0_idleOf 4 = .ok (.aload_n 0, 1) := by decide +kernel
theorem dX0_idleOf_5 : decode cX0_idleOf 5 = .ok (.iload_n 1, 1) := by decide +kernel
theorem dX0_idleOf_6 : decode cX0_idleOf 6 = .ok (.invokevirtual 41, 3) := by decide +kernel
theorem dX0_idleOf_9 : decode cX0_idleOf 9 = .ok (.iaload, 1) := by decide +kernel
theorem dX0_idleOf_10 : decode cX0_idleOf 10 = .ok (.iload_n 1, 1) := by decide +kernel
theorem dX0_idleOf_11 : decode cX0_idleOf 11 = .ok (.iconst (-1), 1) := by decide +kernel
theorem dX0_idleOf_12 : decode cX0_idleOf 12 = .ok (.ixor, 1) := by decide +kernel
theorem dX0_idleOf_13 : decode cX0_idleOf 13 = .ok (.iand, 1) := by decide +kernel
theorem dX0_idleOf_14 : decode cX0_idleOf 14 = .ok (.invokestatic 36, 3) := by decide +kernel
theorem dX0_idleOf_17 : decode cX0_idleOf 17 = .ok (.ireturn, 1) := by decide +kernel
theorem dX0_squares_0 : decode cX0_squares 0 = .ok (.iconst 0, 1) := by decide +kernel
theorem dX0_squares_1 : decode cX0_squares 1 = .ok (.istore_n 1, 1) := by decide +kernel
theorem dX0_squares_2 : decode cX0_squares 2 = .ok (.iconst 0, 1) := by decide +kernel
theorem dX0_squares_3 : decode cX0_squares 3 = .ok (.istore_n 2, 1) := by decide +kernel
theorem dX0_squares_4 : decode cX0_squares 4 = .ok (.iload_n 2, 1) := by decide +kernel
theorem dX0_squares_5 : decode cX0_squares 5 = .ok (.iconst 4, 1) := by decide +kernel
theorem dX0_squares_6 : decode cX0_squares 6 = .ok (.if_icmp .ge 25, 3) := by decide +kernel
theorem dX0_squares_9 : decode cX0_squares 9 = .ok (.aload_n 0, 1) := by decide +kernel
theorem dX0_squares_10 : decode cX0_squares 10 = .ok (.getfield 9, 3) := by decide +kernel
theorem dX0_squares_13 : decode cX0_squares 13 = .ok (.iload_n 2, 1) := by decide +kernel
theorem dX0_squares_14 : decode cX0_squares 14 = .ok (.iaload, 1) := by decide +kernel
theorem dX0_squares_15 : decode cX0_squares 15 = .ok (.invokestatic 36, 3) := by decide +kernel
theorem dX0_squares_18 : decode cX0_squares 18 = .ok (.istore_n 3, 1) := by decide +kernel
theorem dX0_squares_19 : decode cX0_squares 19 = .ok (.iload_n 1, 1) := by decide +kernel
theorem dX0_squares_20 : decode cX0_squares 20 = .ok (.iload_n 3, 1) := by decide +kernel
theorem dX0_squares_21 : decode cX0_squares 21 = .ok (.iload_n 3, 1) := by decide +kernel
theorem dX0_squares_22 : decode cX0_squares 22 = .ok (.imul, 1) := by decide +kernel
theorem dX0_squares_23 : decode cX0_squares 23 = .ok (.iadd, 1) := by decide +kernel
theorem dX0_squares_24 : decode cX0_squares 24 = .ok (.istore_n 1, 1) := by decide +kernel
theorem dX0_squares_25 : decode cX0_squares 25 = .ok (.iinc 2 1, 3) := by decide +kernel
theorem dX0_squares_28 : decode cX0_squares 28 = .ok (.goto (-24), 3) := by decide +kernel
theorem dX0_squares_31 : decode cX0_squares 31 = .ok (.iload_n 1, 1) := by decide +kernel
theorem dX0_squares_32 : decode cX0_squares 32 = .ok (.ireturn, 1) := by decide +kernel
theorem dX0_largest_0 : decode cX0_largest 0 = .ok (.iconst 0, 1) := by decide +kernel
theorem dX0_largest_1 : decode cX0_largest 1 = .ok (.istore_n 1, 1) := by decide +kernel
theorem dX0_largest_2 : decode cX0_largest 2 = .ok (.iconst 0, 1) := by decide +kernel
theorem dX0_largest_3 : decode cX0_largest 3 = .ok (.istore_n 2, 1) := by decide +kernel
theorem dX0_largest_4 : decode cX0_largest 4 = .ok (.iload_n 2, 1) := by decide +kernel
theorem dX0_largest_5 : decode cX0_largest 5 = .ok (.iconst 4, 1) := by decide +kernel
theorem dX0_largest_6 : decode cX0_largest 6 = .ok (.if_icmp .ge 23, 3) := by decide +kernel
theorem dX0_largest_9 : decode cX0_largest 9 = .ok (.iload_n 1, 1) := by decide +kernel
theorem dX0_largest_10 : decode cX0_largest 10 = .ok (.aload_n 0, 1) := by decide +kernel
theorem dX0_largest_11 : decode cX0_largest 11 = .ok (.getfield 9, 3) := by decide +kernel
theorem dX0_largest_14 : decode cX0_largest 14 = .ok (.iload_n 2, 1) := by decide +kernel
theorem dX0_largest_15 : decode cX0_largest 15 = .ok (.iaload, 1) := by decide +kernel
theorem dX0_largest_16 : decode cX0_largest 16 = .ok (.invokestatic 36, 3) := by decide +kernel
theorem dX0_largest_19 : decode cX0_largest 19 = .ok (.invokestatic 44, 3) := by decide +kernel
theorem dX0_largest_22 : decode cX0_largest 22 = .ok (.istore_n 1, 1) := by decide +kernel
theorem dX0_largest_23 : decode cX0_largest 23 = .ok (.iinc 2 1, 3) := by decide +kernel
theorem dX0_largest_26 : decode cX0_largest 26 = .ok (.goto (-22), 3) := by decide +kernel
theorem dX0_largest_29 : decode cX0_largest 29 = .ok (.iload_n 1, 1) := by decide +kernel
theorem dX0_largest_30 : decode cX0_largest 30 = .ok (.ireturn, 1) := by decide +kernel
theorem dX0_moved_0 : decode cX0_moved 0 = .ok (.iconst 0, 1) := by decide +kernel
theorem dX0_moved_1 : decode cX0_moved 1 = .ok (.istore_n 2, 1) := by decide +kernel
theorem dX0_moved_2 : decode cX0_moved 2 = .ok (.iconst 0, 1) := by decide +kernel
theorem dX0_moved_3 : decode cX0_moved 3 = .ok (.istore_n 3, 1) := by decide +kernel
theorem dX0_moved_4 : decode cX0_moved 4 = .ok (.iload_n 3, 1) := by decide +kernel
theorem dX0_moved_5 : decode cX0_moved 5 = .ok (.bipush 7, 2) := by decide +kernel
theorem dX0_moved_7 : decode cX0_moved 7 = .ok (.if_icmp .ge 24, 3) := by decide +kernel
theorem dX0_moved_10 : decode cX0_moved 10 = .ok (.iload_n 0, 1) := by decide +kernel
theorem dX0_moved_11 : decode cX0_moved 11 = .ok (.iload_n 1, 1) := by decide +kernel
theorem dX0_moved_12 : decode cX0_moved 12 = .ok (.ixor, 1) := by decide +kernel
theorem dX0_moved_13 : decode cX0_moved 13 = .ok (.iconst 2, 1) := by decide +kernel
theorem dX0_moved_14 : decode cX0_moved 14 = .ok (.iload_n 3, 1) := by decide +kernel
theorem dX0_moved_15 : decode cX0_moved 15 = .ok (.imul, 1) := by decide +kernel
theorem dX0_moved_16 : decode cX0_moved 16 = .ok (.ishr, 1) := by decide +kernel
theorem dX0_moved_17 : decode cX0_moved 17 = .ok (.iconst 3, 1) := by decide +kernel
theorem dX0_moved_18 : decode cX0_moved 18 = .ok (.iand, 1) := by decide +kernel
theorem dX0_moved_19 : decode cX0_moved 19 = .ok (.ifCond .eq 6, 3) := by decide +kernel
theorem dX0_moved_22 : decode cX0_moved 22 = .ok (.iinc 2 1, 3) := by decide +kernel
theorem dX0_moved_25 : decode cX0_moved 25 = .ok (.iinc 3 1, 3) := by decide +kernel
theorem dX0_moved_28 : decode cX0_moved 28 = .ok (.goto (-24), 3) := by decide +kernel
theorem dX0_moved_31 : decode cX0_moved 31 = .ok (.iload_n 2, 1) := by decide +kernel
theorem dX0_moved_32 : decode cX0_moved 32 = .ok (.ireturn, 1) := by decide +kernel
theorem dX1_init_0 : decode cX1_init 0 = .ok (.aload_n 0, 1) := by decide +kernel
theorem dX1_init_1 : decode cX1_init 1 = .ok (.invokespecial 3, 3) := by decide +kernel
theorem dX1_init_4 : decode cX1_init 4 = .ok (.aload_n 0, 1) := by decide +kernel
theorem dX1_init_5 : decode cX1_init 5 = .ok (.bipush 16, 2) := by decide +kernel
theorem dX1_init_7 : decode cX1_init 7 = .ok (.newarray .int, 2) := by decide +kernel
theorem dX1_init_9 : decode cX1_init 9 = .ok (.putfield 9, 3) := by decide +kernel
theorem dX1_init_12 : decode cX1_init 12 = .ok (.aload_n 0, 1) := by decide +kernel
theorem dX1_init_13 : decode cX1_init 13 = .ok (.bipush 8, 2) := by decide +kernel
theorem dX1_init_15 : decode cX1_init 15 = .ok (.newarray .int, 2) := by decide +kernel
theorem dX1_init_17 : decode cX1_init 17 = .ok (.putfield 15, 3) := by decide +kernel
theorem dX1_init_20 : decode cX1_init 20 = .ok (.return_, 1) := by decide +kernel
theorem dX1_begin_0 : decode cX1_begin 0 = .ok (.aload_n 0, 1) := by decide +kernel
theorem dX1_begin_1 : decode cX1_begin 1 = .ok (.iload_n 1, 1) := by decide +kernel
theorem dX1_begin_2 : decode cX1_begin 2 = .ok (.putfield 18, 3) := by decide +kernel
theorem dX1_begin_5 : decode cX1_begin 5 = .ok (.aload_n 0, 1) := by decide +kernel
theorem dX1_begin_6 : decode cX1_begin 6 = .ok (.iconst 0, 1) := by decide +kernel
theorem dX1_begin_7 : decode cX1_begin 7 = .ok (.putfield 22, 3) := by decide +kernel
theorem dX1_begin_10 : decode cX1_begin 10 = .ok (.aload_n 0, 1) := by decide +kernel
theorem dX1_begin_11 : decode cX1_begin 11 = .ok (.getfield 9, 3) := by decide +kernel
theorem dX1_begin_14 : decode cX1_begin 14 = .ok (.iconst 0, 1) := by decide +kernel
theorem dX1_begin_15 : decode cX1_begin 15 = .ok (.invokestatic 25, 3) := by decide +kernel
theorem dX1_begin_18 : decode cX1_begin 18 = .ok (.aload_n 0, 1) := by decide +kernel
theorem dX1_begin_19 : decode cX1_begin 19 = .ok (.getfield 15, 3) := by decide +kernel
theorem dX1_begin_22 : decode cX1_begin 22 = .ok (.iconst 1, 1) := by decide +kernel
theorem dX1_begin_23 : decode cX1_begin 23 = .ok (.invokestatic 25, 3) := by decide +kernel
theorem dX1_begin_26 : decode cX1_begin 26 = .ok (.return_, 1) := by decide +kernel
theorem dX1_howMany_0 : decode cX1_howMany 0 = .ok (.aload_n 0, 1) := by decide +kernel
theorem dX1_howMany_1 : decode cX1_howMany 1 = .ok (.getfield 18, 3) := by decide +kernel
theorem dX1_howMany_4 : decode cX1_howMany 4 = .ok (.ireturn, 1) := by decide +kernel
theorem dX1_chosen_0 : decode cX1_chosen 0 = .ok (.aload_n 0, 1) := by decide +kernel
theorem dX1_chosen_1 : decode cX1_chosen 1 = .ok (.getfield 22, 3) := by decide +kernel
theorem dX1_chosen_4 : decode cX1_chosen 4 = .ok (.ireturn, 1) := by decide +kernel
theorem dX1_chosenBy_0 : decode cX1_chosenBy 0 = .ok (.aload_n 0, 1) := by decide +kernel
theorem dX1_chosenBy_1 : decode cX1_chosenBy 1 = .ok (.getfield 22, 3) := by decide +kernel
theorem dX1_chosenBy_4 : decode cX1_chosenBy 4 = .ok (.iload_n 1, 1) := by decide +kernel
theorem dX1_chosenBy_5 : decode cX1_chosenBy 5 = .ok (.ishr, 1) := by decide +kernel
theorem dX1_chosenBy_6 : decode cX1_chosenBy 6 = .ok (.iconst 1, 1) := by decide +kernel
theorem dX1_chosenBy_7 : decode cX1_chosenBy 7 = .ok (.iand, 1) := by decide +kernel
theorem dX1_chosenBy_8 : decode cX1_chosenBy 8 = .ok (.ireturn, 1) := by decide +kernel
theorem dX1_choose_0 : decode cX1_choose 0 = .ok (.aload_n 0, 1) := by decide +kernel
theorem dX1_choose_1 : decode cX1_choose 1 = .ok (.aload_n 0, 1) := by decide +kernel
theorem dX1_choose_2 : decode cX1_choose 2 = .ok (.getfield 22, 3) := by decide +kernel
theorem dX1_choose_5 : decode cX1_choose 5 = .ok (.iconst 1, 1) := by decide +kernel
theorem dX1_choose_6 : decode cX1_choose 6 = .ok (.iload_n 1, 1) := by decide +kernel
theorem dX1_choose_7 : decode cX1_choose 7 = .ok (.ishl, 1) := by decide +kernel
theorem dX1_choose_8 : decode cX1_choose 8 = .ok (.iconst (-1), 1) := by decide +kernel
theorem dX1_choose_9 : decode cX1_choose 9 = .ok (.ixor, 1) := by decide +kernel
theorem dX1_choose_10 : decode cX1_choose 10 = .ok (.iand, 1) := by decide +kernel
theorem dX1_choose_11 : decode cX1_choose 11 = .ok (.iload_n 2, 1) := by decide +kernel
theorem dX1_choose_12 : decode cX1_choose 12 = .ok (.iload_n 1, 1) := by decide +kernel
theorem dX1_choose_13 : decode cX1_choose 13 = .ok (.ishl, 1) := by decide +kernel
theorem dX1_choose_14 : decode cX1_choose 14 = .ok (.ior, 1) := by decide +kernel
theorem dX1_choose_15 : decode cX1_choose 15 = .ok (.putfield 22, 3) := by decide +kernel
theorem dX1_choose_18 : decode cX1_choose 18 = .ok (.return_, 1) := by decide +kernel
theorem dX1_routeSet_0 : decode cX1_routeSet 0 = .ok (.aload_n 0, 1) := by decide +kernel
theorem dX1_routeSet_1 : decode cX1_routeSet 1 = .ok (.getfield 9, 3) := by decide +kernel
theorem dX1_routeSet_4 : decode cX1_routeSet 4 = .ok (.iconst 2, 1) := by decide +kernel
theorem dX1_routeSet_5 : decode cX1_routeSet 5 = .ok (.iload_n 1, 1) := by decide +kernel
theorem dX1_routeSet_6 : decode cX1_routeSet 6 = .ok (.imul, 1) := by decide +kernel
theorem dX1_routeSet_7 : decode cX1_routeSet 7 = .ok (.iload_n 2, 1) := by decide +kernel
theorem dX1_routeSet_8 : decode cX1_routeSet 8 = .ok (.iadd, 1) := by decide +kernel
theorem dX1_routeSet_9 : decode cX1_routeSet 9 = .ok (.iaload, 1) := by decide +kernel
theorem dX1_routeSet_10 : decode cX1_routeSet 10 = .ok (.ireturn, 1) := by decide +kernel
theorem dX1_putRouteSet_0 : decode cX1_putRouteSet 0 = .ok (.aload_n 0, 1) := by decide +kernel
theorem dX1_putRouteSet_1 : decode cX1_putRouteSet 1 = .ok (.getfield 9, 3) := by decide +kernel
theorem dX1_putRouteSet_4 : decode cX1_putRouteSet 4 = .ok (.iconst 2, 1) := by decide +kernel
theorem dX1_putRouteSet_5 : decode cX1_putRouteSet 5 = .ok (.iload_n 1, 1) := by decide +kernel
theorem dX1_putRouteSet_6 : decode cX1_putRouteSet 6 = .ok (.imul, 1) := by decide +kernel
theorem dX1_putRouteSet_7 : decode cX1_putRouteSet 7 = .ok (.iload_n 2, 1) := by decide +kernel
theorem dX1_putRouteSet_8 : decode cX1_putRouteSet 8 = .ok (.iadd, 1) := by decide +kernel
theorem dX1_putRouteSet_9 : decode cX1_putRouteSet 9 = .ok (.iload_n 3, 1) := by decide +kernel
theorem dX1_putRouteSet_10 : decode cX1_putRouteSet 10 = .ok (.iastore, 1) := by decide +kernel
theorem dX1_putRouteSet_11 : decode cX1_putRouteSet 11 = .ok (.return_, 1) := by decide +kernel
theorem dX1_setOf_0 : decode cX1_setOf 0 = .ok (.aload_n 0, 1) := by decide +kernel
theorem dX1_setOf_1 : decode cX1_setOf 1 = .ok (.aload_n 0, 1) := by decide +kernel
theorem dX1_setOf_2 : decode cX1_setOf 2 = .ok (.getfield 22, 3) := by decide +kernel
theorem dX1_setOf_5 : decode cX1_setOf 5 = .ok (.iload_n 1, 1) := by decide +kernel
theorem dX1_setOf_6 : decode cX1_setOf 6 = .ok (.invokevirtual 31, 3) := by decide +kernel
theorem dX1_setOf_9 : decode cX1_setOf 9 = .ok (.ireturn, 1) := by decide +kernel
theorem dX1_piecesOf_0 : decode cX1_piecesOf 0 = .ok (.aload_n 0, 1) := by decide +kernel
theorem dX1_piecesOf_1 : decode cX1_piecesOf 1 = .ok (.getfield 15, 3) := by decide +kernel
theorem dX1_piecesOf_4 : decode cX1_piecesOf 4 = .ok (.iload_n 1, 1) := by decide +kernel
theorem dX1_piecesOf_5 : decode cX1_piecesOf 5 = .ok (.iaload, 1) := by decide +kernel
theorem dX1_piecesOf_6 : decode cX1_piecesOf 6 = .ok (.ireturn, 1) := by decide +kernel
theorem dX1_putPieces_0 : decode cX1_putPieces 0 = .ok (.aload_n 0, 1) := by decide +kernel
theorem dX1_putPieces_1 : decode cX1_putPieces 1 = .ok (.getfield 15, 3) := by decide +kernel
theorem dX1_putPieces_4 : decode cX1_putPieces 4 = .ok (.iload_n 1, 1) := by decide +kernel
theorem dX1_putPieces_5 : decode cX1_putPieces 5 = .ok (.iload_n 2, 1) := by decide +kernel
theorem dX1_putPieces_6 : decode cX1_putPieces 6 = .ok (.iastore, 1) := by decide +kernel
theorem dX1_putPieces_7 : decode cX1_putPieces 7 = .ok (.return_, 1) := by decide +kernel
theorem dX1_wanderBy_0 : decode cX1_wanderBy 0 = .ok (.iconst 0, 1) := by decide +kernel
theorem dX1_wanderBy_1 : decode cX1_wanderBy 1 = .ok (.istore_n 3, 1) := by decide +kernel
theorem dX1_wanderBy_2 : decode cX1_wanderBy 2 = .ok (.iconst 0, 1) := by decide +kernel
theorem dX1_wanderBy_3 : decode cX1_wanderBy 3 = .ok (.istore 4, 2) := by decide +kernel
theorem dX1_wanderBy_5 : decode cX1_wanderBy 5 = .ok (.iload 4, 2) := by decide +kernel
theorem dX1_wanderBy_7 : decode cX1_wanderBy 7 = .ok (.aload_n 0, 1) := by decide +kernel
theorem dX1_wanderBy_8 : decode cX1_wanderBy 8 = .ok (.getfield 18, 3) := by decide +kernel
theorem dX1_wanderBy_11 : decode cX1_wanderBy 11 = .ok (.if_icmp .ge 31, 3) := by decide +kernel
theorem dX1_wanderBy_14 : decode cX1_wanderBy 14 = .ok (.iload_n 3, 1) := by decide +kernel
theorem dX1_wanderBy_15 : decode cX1_wanderBy 15 = .ok (.aload_n 0, 1) := by decide +kernel
theorem dX1_wanderBy_16 : decode cX1_wanderBy 16 = .ok (.getfield 15, 3) := by decide +kernel
theorem dX1_wanderBy_19 : decode cX1_wanderBy 19 = .ok (.iload 4, 2) := by decide +kernel
theorem dX1_wanderBy_21 : decode cX1_wanderBy 21 = .ok (.iaload, 1) := by decide +kernel
theorem dX1_wanderBy_22 : decode cX1_wanderBy 22 = .ok (.aload_n 2, 1) := by decide +kernel
theorem dX1_wanderBy_23 : decode cX1_wanderBy 23 = .ok (.aload_n 0, 1) := by decide +kernel
theorem dX1_wanderBy_24 : decode cX1_wanderBy 24 = .ok (.iload_n 1, 1) := by decide +kernel
theorem dX1_wanderBy_25 : decode cX1_wanderBy 25 = .ok (.iload 4, 2) := by decide +kernel
theorem dX1_wanderBy_27 : decode cX1_wanderBy 27 = .ok (.invokevirtual 31, 3) := by decide +kernel
theorem dX1_wanderBy_30 : decode cX1_wanderBy 30 = .ok (.invokevirtual 35, 3) := by decide +kernel
theorem dX1_wanderBy_33 : decode cX1_wanderBy 33 = .ok (.imul, 1) := by decide +kernel
theorem dX1_wanderBy_34 : decode cX1_wanderBy 34 = .ok (.iadd, 1) := by decide +kernel
theorem dX1_wanderBy_35 : decode cX1_wanderBy 35 = .ok (.istore_n 3, 1) := by decide +kernel
theorem dX1_wanderBy_36 : decode cX1_wanderBy 36 = .ok (.iinc 4 1, 3) := by decide +kernel
theorem dX1_wanderBy_39 : decode cX1_wanderBy 39 = .ok (.goto (-34), 3) := by decide +kernel
theorem dX1_wanderBy_42 : decode cX1_wanderBy 42 = .ok (.iload_n 3, 1) := by decide +kernel
theorem dX1_wanderBy_43 : decode cX1_wanderBy 43 = .ok (.ireturn, 1) := by decide +kernel
theorem dX1_idleOf_0 : decode cX1_idleOf 0 = .ok (.iconst 0, 1) := by decide +kernel
theorem dX1_idleOf_1 : decode cX1_idleOf 1 = .ok (.istore_n 2, 1) := by decide +kernel
theorem dX1_idleOf_2 : decode cX1_idleOf 2 = .ok (.iconst 0, 1) := by decide +kernel
theorem dX1_idleOf_3 : decode cX1_idleOf 3 = .ok (.istore_n 3, 1) := by decide +kernel
theorem dX1_idleOf_4 : decode cX1_idleOf 4 = .ok (.iload_n 3, 1) := by decide +kernel
theorem dX1_idleOf_5 : decode cX1_idleOf 5 = .ok (.aload_n 0, 1) := by decide +kernel
theorem dX1_idleOf_6 : decode cX1_idleOf 6 = .ok (.getfield 18, 3) := by decide +kernel
theorem dX1_idleOf_9 : decode cX1_idleOf 9 = .ok (.if_icmp .ge 21, 3) := by decide +kernel
theorem dX1_idleOf_12 : decode cX1_idleOf 12 = .ok (.iload_n 2, 1) := by decide +kernel
theorem dX1_idleOf_13 : decode cX1_idleOf 13 = .ok (.aload_n 1, 1) := by decide +kernel
theorem dX1_idleOf_14 : decode cX1_idleOf 14 = .ok (.aload_n 0, 1) := by decide +kernel
theorem dX1_idleOf_15 : decode cX1_idleOf 15 = .ok (.iload_n 3, 1) := by decide +kernel
theorem dX1_idleOf_16 : decode cX1_idleOf 16 = .ok (.invokevirtual 41, 3) := by decide +kernel
theorem dX1_idleOf_19 : decode cX1_idleOf 19 = .ok (.invokevirtual 44, 3) := by decide +kernel
theorem dX1_idleOf_22 : decode cX1_idleOf 22 = .ok (.iadd, 1) := by decide +kernel
theorem dX1_idleOf_23 : decode cX1_idleOf 23 = .ok (.istore_n 2, 1) := by decide +kernel
theorem dX1_idleOf_24 : decode cX1_idleOf 24 = .ok (.iinc 3 1, 3) := by decide +kernel
theorem dX1_idleOf_27 : decode cX1_idleOf 27 = .ok (.goto (-23), 3) := by decide +kernel
theorem dX1_idleOf_30 : decode cX1_idleOf 30 = .ok (.iload_n 2, 1) := by decide +kernel
theorem dX1_idleOf_31 : decode cX1_idleOf 31 = .ok (.ireturn, 1) := by decide +kernel
theorem dX1_loadBy_0 : decode cX1_loadBy 0 = .ok (.iconst 0, 1) := by decide +kernel
theorem dX1_loadBy_1 : decode cX1_loadBy 1 = .ok (.istore_n 3, 1) := by decide +kernel
theorem dX1_loadBy_2 : decode cX1_loadBy 2 = .ok (.iconst 0, 1) := by decide +kernel
theorem dX1_loadBy_3 : decode cX1_loadBy 3 = .ok (.istore 4, 2) := by decide +kernel
theorem dX1_loadBy_5 : decode cX1_loadBy 5 = .ok (.iload 4, 2) := by decide +kernel
theorem dX1_loadBy_7 : decode cX1_loadBy 7 = .ok (.aload_n 0, 1) := by decide +kernel
theorem dX1_loadBy_8 : decode cX1_loadBy 8 = .ok (.getfield 18, 3) := by decide +kernel
theorem dX1_loadBy_11 : decode cX1_loadBy 11 = .ok (.if_icmp .ge 33, 3) := by decide +kernel
theorem dX1_loadBy_14 : decode cX1_loadBy 14 = .ok (.aload_n 0, 1) := by decide +kernel
theorem dX1_loadBy_15 : decode cX1_loadBy 15 = .ok (.iload_n 1, 1) := by decide +kernel
theorem dX1_loadBy_16 : decode cX1_loadBy 16 = .ok (.iload 4, 2) := by decide +kernel
theorem dX1_loadBy_18 : decode cX1_loadBy 18 = .ok (.invokevirtual 31, 3) := by decide +kernel
theorem dX1_loadBy_21 : decode cX1_loadBy 21 = .ok (.iload_n 2, 1) := by decide +kernel
theorem dX1_loadBy_22 : decode cX1_loadBy 22 = .ok (.invokestatic 47, 3) := by decide +kernel
theorem dX1_loadBy_25 : decode cX1_loadBy 25 = .ok (.ifCond .eq 13, 3) := by decide +kernel
theorem dX1_loadBy_28 : decode cX1_loadBy 28 = .ok (.iload_n 3, 1) := by decide +kernel
theorem dX1_loadBy_29 : decode cX1_loadBy 29 = .ok (.aload_n 0, 1) := by decide +kernel
theorem dX1_loadBy_30 : decode cX1_loadBy 30 = .ok (.getfield 15, 3) := by decide +kernel
theorem dX1_loadBy_33 : decode cX1_loadBy 33 = .ok (.iload 4, 2) := by decide +kernel
theorem dX1_loadBy_35 : decode cX1_loadBy 35 = .ok (.iaload, 1) := by decide +kernel
theorem dX1_loadBy_36 : decode cX1_loadBy 36 = .ok (.iadd, 1) := by decide +kernel
theorem dX1_loadBy_37 : decode cX1_loadBy 37 = .ok (.istore_n 3, 1) := by decide +kernel
theorem dX1_loadBy_38 : decode cX1_loadBy 38 = .ok (.iinc 4 1, 3) := by decide +kernel
theorem dX1_loadBy_41 : decode cX1_loadBy 41 = .ok (.goto (-36), 3) := by decide +kernel
theorem dX1_loadBy_44 : decode cX1_loadBy 44 = .ok (.iload_n 3, 1) := by decide +kernel
theorem dX1_loadBy_45 : decode cX1_loadBy 45 = .ok (.ireturn, 1) := by decide +kernel
theorem dX1_withBoth_0 : decode cX1_withBoth 0 = .ok (.iconst 0, 1) := by decide +kernel
theorem dX1_withBoth_1 : decode cX1_withBoth 1 = .ok (.istore_n 3, 1) := by decide +kernel
theorem dX1_withBoth_2 : decode cX1_withBoth 2 = .ok (.iconst 0, 1) := by decide +kernel
theorem dX1_withBoth_3 : decode cX1_withBoth 3 = .ok (.istore 4, 2) := by decide +kernel
theorem dX1_withBoth_5 : decode cX1_withBoth 5 = .ok (.iload 4, 2) := by decide +kernel
theorem dX1_withBoth_7 : decode cX1_withBoth 7 = .ok (.aload_n 0, 1) := by decide +kernel
theorem dX1_withBoth_8 : decode cX1_withBoth 8 = .ok (.getfield 18, 3) := by decide +kernel
theorem dX1_withBoth_11 : decode cX1_withBoth 11 = .ok (.if_icmp .ge 42, 3) := by decide +kernel
theorem dX1_withBoth_14 : decode cX1_withBoth 14 = .ok (.aload_n 0, 1) := by decide +kernel
theorem dX1_withBoth_15 : decode cX1_withBoth 15 = .ok (.aload_n 0, 1) := by decide +kernel
theorem dX1_withBoth_16 : decode cX1_withBoth 16 = .ok (.getfield 22, 3) := by decide +kernel
theorem dX1_withBoth_19 : decode cX1_withBoth 19 = .ok (.iload 4, 2) := by decide +kernel
theorem dX1_withBoth_21 : decode cX1_withBoth 21 = .ok (.invokevirtual 31, 3) := by decide +kernel
theorem dX1_withBoth_24 : decode cX1_withBoth 24 = .ok (.istore 5, 2) := by decide +kernel
theorem dX1_withBoth_26 : decode cX1_withBoth 26 = .ok (.iload 5, 2) := by decide +kernel
theorem dX1_withBoth_28 : decode cX1_withBoth 28 = .ok (.iload_n 1, 1) := by decide +kernel
theorem dX1_withBoth_29 : decode cX1_withBoth 29 = .ok (.invokestatic 47, 3) := by decide +kernel
theorem dX1_withBoth_32 : decode cX1_withBoth 32 = .ok (.ifCond .eq 15, 3) := by decide +kernel
theorem dX1_withBoth_35 : decode cX1_withBoth 35 = .ok (.iload 5, 2) := by decide +kernel
theorem dX1_withBoth_37 : decode cX1_withBoth 37 = .ok (.iload_n 2, 1) := by decide +kernel
theorem dX1_withBoth_38 : decode cX1_withBoth 38 = .ok (.invokestatic 47, 3) := by decide +kernel
theorem dX1_withBoth_41 : decode cX1_withBoth 41 = .ok (.ifCond .eq 6, 3) := by decide +kernel
theorem dX1_withBoth_44 : decode cX1_withBoth 44 = .ok (.iinc 3 1, 3) := by decide +kernel
theorem dX1_withBoth_47 : decode cX1_withBoth 47 = .ok (.iinc 4 1, 3) := by decide +kernel
theorem dX1_withBoth_50 : decode cX1_withBoth 50 = .ok (.goto (-45), 3) := by decide +kernel
theorem dX1_withBoth_53 : decode cX1_withBoth 53 = .ok (.iload_n 3, 1) := by decide +kernel
theorem dX1_withBoth_54 : decode cX1_withBoth 54 = .ok (.ireturn, 1) := by decide +kernel
theorem dX1_withEither_0 : decode cX1_withEither 0 = .ok (.iconst 0, 1) := by decide +kernel
theorem dX1_withEither_1 : decode cX1_withEither 1 = .ok (.istore_n 3, 1) := by decide +kernel
theorem dX1_withEither_2 : decode cX1_withEither 2 = .ok (.iconst 0, 1) := by decide +kernel
theorem dX1_withEither_3 : decode cX1_withEither 3 = .ok (.istore 4, 2) := by decide +kernel
theorem dX1_withEither_5 : decode cX1_withEither 5 = .ok (.iload 4, 2) := by decide +kernel
theorem dX1_withEither_7 : decode cX1_withEither 7 = .ok (.aload_n 0, 1) := by decide +kernel
theorem dX1_withEither_8 : decode cX1_withEither 8 = .ok (.getfield 18, 3) := by decide +kernel
theorem dX1_withEither_11 : decode cX1_withEither 11 = .ok (.if_icmp .ge 42, 3) := by decide +kernel
theorem dX1_withEither_14 : decode cX1_withEither 14 = .ok (.aload_n 0, 1) := by decide +kernel
theorem dX1_withEither_15 : decode cX1_withEither 15 = .ok (.aload_n 0, 1) := by decide +kernel
theorem dX1_withEither_16 : decode cX1_withEither 16 = .ok (.getfield 22, 3) := by decide +kernel
theorem dX1_withEither_19 : decode cX1_withEither 19 = .ok (.iload 4, 2) := by decide +kernel
theorem dX1_withEither_21 : decode cX1_withEither 21 = .ok (.invokevirtual 31, 3) := by decide +kernel
theorem dX1_withEither_24 : decode cX1_withEither 24 = .ok (.istore 5, 2) := by decide +kernel
theorem dX1_withEither_26 : decode cX1_withEither 26 = .ok (.iload 5, 2) := by decide +kernel
theorem dX1_withEither_28 : decode cX1_withEither 28 = .ok (.iload_n 1, 1) := by decide +kernel
theorem dX1_withEither_29 : decode cX1_withEither 29 = .ok (.invokestatic 47, 3) := by decide +kernel
theorem dX1_withEither_32 : decode cX1_withEither 32 = .ok (.ifCond .ne 12, 3) := by decide +kernel
theorem dX1_withEither_35 : decode cX1_withEither 35 = .ok (.iload 5, 2) := by decide +kernel
theorem dX1_withEither_37 : decode cX1_withEither 37 = .ok (.iload_n 2, 1) := by decide +kernel
theorem dX1_withEither_38 : decode cX1_withEither 38 = .ok (.invokestatic 47, 3) := by decide +kernel
theorem dX1_withEither_41 : decode cX1_withEither 41 = .ok (.ifCond .eq 6, 3) := by decide +kernel
theorem dX1_withEither_44 : decode cX1_withEither 44 = .ok (.iinc 3 1, 3) := by decide +kernel
theorem dX1_withEither_47 : decode cX1_withEither 47 = .ok (.iinc 4 1, 3) := by decide +kernel
theorem dX1_withEither_50 : decode cX1_withEither 50 = .ok (.goto (-45), 3) := by decide +kernel
theorem dX1_withEither_53 : decode cX1_withEither 53 = .ok (.iload_n 3, 1) := by decide +kernel
theorem dX1_withEither_54 : decode cX1_withEither 54 = .ok (.iconst 1, 1) := by decide +kernel
theorem dX1_withEither_55 : decode cX1_withEither 55 = .ok (.invokestatic 51, 3) := by decide +kernel
theorem dX1_withEither_58 : decode cX1_withEither 58 = .ok (.ireturn, 1) := by decide +kernel
theorem dX1_keptHome_0 : decode cX1_keptHome 0 = .ok (.iconst 0, 1) := by decide +kernel
theorem dX1_keptHome_1 : decode cX1_keptHome 1 = .ok (.istore 4, 2) := by decide +kernel
theorem dX1_keptHome_3 : decode cX1_keptHome 3 = .ok (.iconst 0, 1) := by decide +kernel
theorem dX1_keptHome_4 : decode cX1_keptHome 4 = .ok (.istore 5, 2) := by decide +kernel
theorem dX1_keptHome_6 : decode cX1_keptHome 6 = .ok (.iload 5, 2) := by decide +kernel
theorem dX1_keptHome_8 : decode cX1_keptHome 8 = .ok (.aload_n 0, 1) := by decide +kernel
theorem dX1_keptHome_9 : decode cX1_keptHome 9 = .ok (.getfield 18, 3) := by decide +kernel
theorem dX1_keptHome_12 : decode cX1_keptHome 12 = .ok (.if_icmp .ge 48, 3) := by decide +kernel
theorem dX1_keptHome_15 : decode cX1_keptHome 15 = .ok (.aload_n 0, 1) := by decide +kernel
theorem dX1_keptHome_16 : decode cX1_keptHome 16 = .ok (.iload 5, 2) := by decide +kernel
theorem dX1_keptHome_18 : decode cX1_keptHome 18 = .ok (.invokevirtual 41, 3) := by decide +kernel
theorem dX1_keptHome_21 : decode cX1_keptHome 21 = .ok (.istore 6, 2) := by decide +kernel
theorem dX1_keptHome_23 : decode cX1_keptHome 23 = .ok (.iload 6, 2) := by decide +kernel
theorem dX1_keptHome_25 : decode cX1_keptHome 25 = .ok (.iload_n 1, 1) := by decide +kernel
theorem dX1_keptHome_26 : decode cX1_keptHome 26 = .ok (.invokestatic 47, 3) := by decide +kernel
theorem dX1_keptHome_29 : decode cX1_keptHome 29 = .ok (.ifCond .eq 25, 3) := by decide +kernel
theorem dX1_keptHome_32 : decode cX1_keptHome 32 = .ok (.aload_n 3, 1) := by decide +kernel
theorem dX1_keptHome_33 : decode cX1_keptHome 33 = .ok (.iload 6, 2) := by decide +kernel
theorem dX1_keptHome_35 : decode cX1_keptHome 35 = .ok (.invokevirtual 56, 3) := by decide +kernel
theorem dX1_keptHome_38 : decode cX1_keptHome 38 = .ok (.iload_n 2, 1) := by decide +kernel
theorem dX1_keptHome_39 : decode cX1_keptHome 39 = .ok (.if_icmp .ne 15, 3) := by decide +kernel
theorem dX1_keptHome_42 : decode cX1_keptHome 42 = .ok (.iload 4, 2) := by decide +kernel
theorem dX1_keptHome_44 : decode cX1_keptHome 44 = .ok (.aload_n 0, 1) := by decide +kernel
theorem dX1_keptHome_45 : decode cX1_keptHome 45 = .ok (.getfield 15, 3) := by decide +kernel
theorem dX1_keptHome_48 : decode cX1_keptHome 48 = .ok (.iload 5, 2) := by decide +kernel
theorem dX1_keptHome_50 : decode cX1_keptHome 50 = .ok (.iaload, 1) := by decide +kernel
theorem dX1_keptHome_51 : decode cX1_keptHome 51 = .ok (.iadd, 1) := by decide +kernel
theorem dX1_keptHome_52 : decode cX1_keptHome 52 = .ok (.istore 4, 2) := by decide +kernel
theorem dX1_keptHome_54 : decode cX1_keptHome 54 = .ok (.iinc 5 1, 3) := by decide +kernel
theorem dX1_keptHome_57 : decode cX1_keptHome 57 = .ok (.goto (-51), 3) := by decide +kernel
theorem dX1_keptHome_60 : decode cX1_keptHome 60 = .ok (.iload 4, 2) := by decide +kernel
theorem dX1_keptHome_62 : decode cX1_keptHome 62 = .ok (.ireturn, 1) := by decide +kernel
theorem dX1_setBy_0 : decode cX1_setBy 0 = .ok (.aload_n 0, 1) := by decide +kernel
theorem dX1_setBy_1 : decode cX1_setBy 1 = .ok (.getfield 9, 3) := by decide +kernel
theorem dX1_setBy_4 : decode cX1_setBy 4 = .ok (.iconst 2, 1) := by decide +kernel
theorem dX1_setBy_5 : decode cX1_setBy 5 = .ok (.iload_n 2, 1) := by decide +kernel
theorem dX1_setBy_6 : decode cX1_setBy 6 = .ok (.imul, 1) := by decide +kernel
theorem dX1_setBy_7 : decode cX1_setBy 7 = .ok (.iload_n 1, 1) := by decide +kernel
theorem dX1_setBy_8 : decode cX1_setBy 8 = .ok (.iload_n 2, 1) := by decide +kernel
theorem dX1_setBy_9 : decode cX1_setBy 9 = .ok (.ishr, 1) := by decide +kernel
theorem dX1_setBy_10 : decode cX1_setBy 10 = .ok (.iconst 1, 1) := by decide +kernel
theorem dX1_setBy_11 : decode cX1_setBy 11 = .ok (.iand, 1) := by decide +kernel
theorem dX1_setBy_12 : decode cX1_setBy 12 = .ok (.iadd, 1) := by decide +kernel
theorem dX1_setBy_13 : decode cX1_setBy 13 = .ok (.iaload, 1) := by decide +kernel
theorem dX1_setBy_14 : decode cX1_setBy 14 = .ok (.ireturn, 1) := by decide +kernel
theorem dX1_hasMachine_0 : decode cX1_hasMachine 0 = .ok (.iload_n 0, 1) := by decide +kernel
theorem dX1_hasMachine_1 : decode cX1_hasMachine 1 = .ok (.iload_n 1, 1) := by decide +kernel
theorem dX1_hasMachine_2 : decode cX1_hasMachine 2 = .ok (.ishr, 1) := by decide +kernel
theorem dX1_hasMachine_3 : decode cX1_hasMachine 3 = .ok (.iconst 1, 1) := by decide +kernel
theorem dX1_hasMachine_4 : decode cX1_hasMachine 4 = .ok (.iand, 1) := by decide +kernel
theorem dX1_hasMachine_5 : decode cX1_hasMachine 5 = .ok (.iconst 1, 1) := by decide +kernel
theorem dX1_hasMachine_6 : decode cX1_hasMachine 6 = .ok (.if_icmp .ne 7, 3) := by decide +kernel
theorem dX1_hasMachine_9 : decode cX1_hasMachine 9 = .ok (.iconst 1, 1) := by decide +kernel
theorem dX1_hasMachine_10 : decode cX1_hasMachine 10 = .ok (.goto 4, 3) := by decide +kernel
theorem dX1_hasMachine_13 : decode cX1_hasMachine 13 = .ok (.iconst 0, 1) := by decide +kernel
theorem dX1_hasMachine_14 : decode cX1_hasMachine 14 = .ok (.ireturn, 1) := by decide +kernel
theorem dX2_init_0 : decode cX2_init 0 = .ok (.aload_n 0, 1) := by decide +kernel
theorem dX2_init_1 : decode cX2_init 1 = .ok (.invokespecial 3, 3) := by decide +kernel
theorem dX2_init_4 : decode cX2_init 4 = .ok (.aload_n 0, 1) := by decide +kernel
theorem dX2_init_5 : decode cX2_init 5 = .ok (.bipush 16, 2) := by decide +kernel
theorem dX2_init_7 : decode cX2_init 7 = .ok (.newarray .int, 2) := by decide +kernel
theorem dX2_init_9 : decode cX2_init 9 = .ok (.putfield 9, 3) := by decide +kernel
theorem dX2_init_12 : decode cX2_init 12 = .ok (.aload_n 0, 1) := by decide +kernel
theorem dX2_init_13 : decode cX2_init 13 = .ok (.iconst 4, 1) := by decide +kernel
theorem dX2_init_14 : decode cX2_init 14 = .ok (.newarray .int, 2) := by decide +kernel
theorem dX2_init_16 : decode cX2_init 16 = .ok (.putfield 15, 3) := by decide +kernel
theorem dX2_init_19 : decode cX2_init 19 = .ok (.return_, 1) := by decide +kernel
theorem dX2_orderOf_0 : decode cX2_orderOf 0 = .ok (.iload_n 0, 1) := by decide +kernel
theorem dX2_orderOf_1 : decode cX2_orderOf 1 = .ok (.bipush 6, 2) := by decide +kernel
theorem dX2_orderOf_3 : decode cX2_orderOf 3 = .ok (.ishl, 1) := by decide +kernel
theorem dX2_orderOf_4 : decode cX2_orderOf 4 = .ok (.iload_n 1, 1) := by decide +kernel
theorem dX2_orderOf_5 : decode cX2_orderOf 5 = .ok (.iconst 4, 1) := by decide +kernel
theorem dX2_orderOf_6 : decode cX2_orderOf 6 = .ok (.ishl, 1) := by decide +kernel
theorem dX2_orderOf_7 : decode cX2_orderOf 7 = .ok (.ior, 1) := by decide +kernel
theorem dX2_orderOf_8 : decode cX2_orderOf 8 = .ok (.iload_n 2, 1) := by decide +kernel
theorem dX2_orderOf_9 : decode cX2_orderOf 9 = .ok (.iconst 2, 1) := by decide +kernel
theorem dX2_orderOf_10 : decode cX2_orderOf 10 = .ok (.ishl, 1) := by decide +kernel
theorem dX2_orderOf_11 : decode cX2_orderOf 11 = .ok (.ior, 1) := by decide +kernel
theorem dX2_orderOf_12 : decode cX2_orderOf 12 = .ok (.iload_n 3, 1) := by decide +kernel
theorem dX2_orderOf_13 : decode cX2_orderOf 13 = .ok (.ior, 1) := by decide +kernel
theorem dX2_orderOf_14 : decode cX2_orderOf 14 = .ok (.ireturn, 1) := by decide +kernel
theorem dX2_cellAt_0 : decode cX2_cellAt 0 = .ok (.iload_n 0, 1) := by decide +kernel
theorem dX2_cellAt_1 : decode cX2_cellAt 1 = .ok (.iconst 2, 1) := by decide +kernel
theorem dX2_cellAt_2 : decode cX2_cellAt 2 = .ok (.iconst 3, 1) := by decide +kernel
theorem dX2_cellAt_3 : decode cX2_cellAt 3 = .ok (.iload_n 1, 1) := by decide +kernel
theorem dX2_cellAt_4 : decode cX2_cellAt 4 = .ok (.isub, 1) := by decide +kernel
theorem dX2_cellAt_5 : decode cX2_cellAt 5 = .ok (.imul, 1) := by decide +kernel
theorem dX2_cellAt_6 : decode cX2_cellAt 6 = .ok (.ishr, 1) := by decide +kernel
theorem dX2_cellAt_7 : decode cX2_cellAt 7 = .ok (.iconst 3, 1) := by decide +kernel
theorem dX2_cellAt_8 : decode cX2_cellAt 8 = .ok (.iand, 1) := by decide +kernel
theorem dX2_cellAt_9 : decode cX2_cellAt 9 = .ok (.ireturn, 1) := by decide +kernel
theorem dX2_hasEachOnce_0 : decode cX2_hasEachOnce 0 = .ok (.iconst 0, 1) := by decide +kernel
theorem dX2_hasEachOnce_1 : decode cX2_hasEachOnce 1 = .ok (.istore_n 1, 1) := by decide +kernel
theorem dX2_hasEachOnce_2 : decode cX2_hasEachOnce 2 = .ok (.iconst 0, 1) := by decide +kernel
theorem dX2_hasEachOnce_3 : decode cX2_hasEachOnce 3 = .ok (.istore_n 2, 1) := by decide +kernel
theorem dX2_hasEachOnce_4 : decode cX2_hasEachOnce 4 = .ok (.iload_n 2, 1) := by decide +kernel
theorem dX2_hasEachOnce_5 : decode cX2_hasEachOnce 5 = .ok (.iconst 4, 1) := by decide +kernel
theorem dX2_hasEachOnce_6 : decode cX2_hasEachOnce 6 = .ok (.if_icmp .ge 19, 3) := by decide +kernel
theorem dX2_hasEachOnce_9 : decode cX2_hasEachOnce 9 = .ok (.iload_n 1, 1) := by decide +kernel
theorem dX2_hasEachOnce_10 : decode cX2_hasEachOnce 10 = .ok (.iconst 1, 1) := by decide +kernel
theorem dX2_hasEachOnce_11 : decode cX2_hasEachOnce 11 = .ok (.iload_n 0, 1) := by decide +kernel
theorem dX2_hasEachOnce_12 : decode cX2_hasEachOnce 12 = .ok (.iload_n 2, 1) := by decide +kernel
theorem dX2_hasEachOnce_13 : decode cX2_hasEachOnce 13 = .ok (.invokestatic 18, 3) := by decide +kernel
theorem dX2_hasEachOnce_16 : decode cX2_hasEachOnce 16 = .ok (.ishl, 1) := by decide +kernel
theorem dX2_hasEachOnce_17 : decode cX2_hasEachOnce 17 = .ok (.ior, 1) := by decide +kernel
theorem dX2_hasEachOnce_18 : decode cX2_hasEachOnce 18 = .ok (.istore_n 1, 1) := by decide +kernel
theorem dX2_hasEachOnce_19 : decode cX2_hasEachOnce 19 = .ok (.iinc 2 1, 3) := by decide +kernel
theorem dX2_hasEachOnce_22 : decode cX2_hasEachOnce 22 = .ok (.goto (-18), 3) := by decide +kernel
theorem dX2_hasEachOnce_25 : decode cX2_hasEachOnce 25 = .ok (.iload_n 1, 1) := by decide +kernel
theorem dX2_hasEachOnce_26 : decode cX2_hasEachOnce 26 = .ok (.bipush 15, 2) := by decide +kernel
theorem dX2_hasEachOnce_28 : decode cX2_hasEachOnce 28 = .ok (.if_icmp .ne 7, 3) := by decide +kernel
theorem dX2_hasEachOnce_31 : decode cX2_hasEachOnce 31 = .ok (.iconst 1, 1) := by decide +kernel
theorem dX2_hasEachOnce_32 : decode cX2_hasEachOnce 32 = .ok (.goto 4, 3) := by decide +kernel
theorem dX2_hasEachOnce_35 : decode cX2_hasEachOnce 35 = .ok (.iconst 0, 1) := by decide +kernel
theorem dX2_hasEachOnce_36 : decode cX2_hasEachOnce 36 = .ok (.ireturn, 1) := by decide +kernel
theorem dX2_observe_0 : decode cX2_observe 0 = .ok (.aload_n 0, 1) := by decide +kernel
theorem dX2_observe_1 : decode cX2_observe 1 = .ok (.getfield 9, 3) := by decide +kernel
theorem dX2_observe_4 : decode cX2_observe 4 = .ok (.iconst 0, 1) := by decide +kernel
theorem dX2_observe_5 : decode cX2_observe 5 = .ok (.invokestatic 22, 3) := by decide +kernel
theorem dX2_observe_8 : decode cX2_observe 8 = .ok (.iconst 0, 1) := by decide +kernel
theorem dX2_observe_9 : decode cX2_observe 9 = .ok (.istore 4, 2) := by decide +kernel
theorem dX2_observe_11 : decode cX2_observe 11 = .ok (.iload 4, 2) := by decide +kernel
theorem dX2_observe_13 : decode cX2_observe 13 = .ok (.aload_n 1, 1) := by decide +kernel
theorem dX2_observe_14 : decode cX2_observe 14 = .ok (.invokevirtual 28, 3) := by decide +kernel
theorem dX2_observe_17 : decode cX2_observe 17 = .ok (.if_icmp .ge 75, 3) := by decide +kernel
theorem dX2_observe_20 : decode cX2_observe 20 = .ok (.aload_n 1, 1) := by decide +kernel
theorem dX2_observe_21 : decode cX2_observe 21 = .ok (.iload 4, 2) := by decide +kernel
theorem dX2_observe_23 : decode cX2_observe 23 = .ok (.invokevirtual 34, 3) := by decide +kernel
theorem dX2_observe_26 : decode cX2_observe 26 = .ok (.istore 5, 2) := by decide +kernel
theorem dX2_observe_28 : decode cX2_observe 28 = .ok (.aload_n 2, 1) := by decide +kernel
theorem dX2_observe_29 : decode cX2_observe 29 = .ok (.iload 5, 2) := by decide +kernel
theorem dX2_observe_31 : decode cX2_observe 31 = .ok (.invokevirtual 38, 3) := by decide +kernel
theorem dX2_observe_34 : decode cX2_observe 34 = .ok (.istore 6, 2) := by decide +kernel
theorem dX2_observe_36 : decode cX2_observe 36 = .ok (.iconst 0, 1) := by decide +kernel
theorem dX2_observe_37 : decode cX2_observe 37 = .ok (.istore 7, 2) := by decide +kernel
theorem dX2_observe_39 : decode cX2_observe 39 = .ok (.iload 7, 2) := by decide +kernel
theorem dX2_observe_41 : decode cX2_observe 41 = .ok (.iload_n 3, 1) := by decide +kernel
theorem dX2_observe_42 : decode cX2_observe 42 = .ok (.if_icmp .ge 44, 3) := by decide +kernel
theorem dX2_observe_45 : decode cX2_observe 45 = .ok (.iload 5, 2) := by decide +kernel
theorem dX2_observe_47 : decode cX2_observe 47 = .ok (.iload 7, 2) := by decide +kernel
theorem dX2_observe_49 : decode cX2_observe 49 = .ok (.invokestatic 43, 3) := by decide +kernel
theorem dX2_observe_52 : decode cX2_observe 52 = .ok (.ifCond .eq 28, 3) := by decide +kernel
theorem dX2_observe_55 : decode cX2_observe 55 = .ok (.aload_n 0, 1) := by decide +kernel
theorem dX2_observe_56 : decode cX2_observe 56 = .ok (.getfield 9, 3) := by decide +kernel
theorem dX2_observe_59 : decode cX2_observe 59 = .ok (.iconst 4, 1) := by decide +kernel
theorem dX2_observe_60 : decode cX2_observe 60 = .ok (.iload 6, 2) := by decide +kernel
theorem dX2_observe_62 : decode cX2_observe 62 = .ok (.imul, 1) := by decide +kernel
theorem dX2_observe_63 : decode cX2_observe 63 = .ok (.aload_n 2, 1) := by decide +kernel
theorem dX2_observe_64 : decode cX2_observe 64 = .ok (.iload 7, 2) := by decide +kernel
theorem dX2_observe_66 : decode cX2_observe 66 = .ok (.invokevirtual 47, 3) := by decide +kernel
theorem dX2_observe_69 : decode cX2_observe 69 = .ok (.iadd, 1) := by decide +kernel
theorem dX2_observe_70 : decode cX2_observe 70 = .ok (.dup2, 1) := by decide +kernel
theorem dX2_observe_71 : decode cX2_observe 71 = .ok (.iaload, 1) := by decide +kernel
theorem dX2_observe_72 : decode cX2_observe 72 = .ok (.aload_n 1, 1) := by decide +kernel
theorem dX2_observe_73 : decode cX2_observe 73 = .ok (.iload 4, 2) := by decide +kernel
theorem dX2_observe_75 : decode cX2_observe 75 = .ok (.invokevirtual 50, 3) := by decide +kernel
theorem dX2_observe_78 : decode cX2_observe 78 = .ok (.iadd, 1) := by decide +kernel
theorem dX2_observe_79 : decode cX2_observe 79 = .ok (.iastore, 1) := by decide +kernel
theorem dX2_observe_80 : decode cX2_observe 80 = .ok (.iinc 7 1, 3) := by decide +kernel
theorem dX2_observe_83 : decode cX2_observe 83 = .ok (.goto (-44), 3) := by decide +kernel
theorem dX2_observe_86 : decode cX2_observe 86 = .ok (.iinc 4 1, 3) := by decide +kernel
theorem dX2_observe_89 : decode cX2_observe 89 = .ok (.goto (-78), 3) := by decide +kernel
theorem dX2_observe_92 : decode cX2_observe 92 = .ok (.return_, 1) := by decide +kernel
theorem dX2_wayOf_0 : decode cX2_wayOf 0 = .ok (.iconst 0, 1) := by decide +kernel
theorem dX2_wayOf_1 : decode cX2_wayOf 1 = .ok (.istore_n 2, 1) := by decide +kernel
theorem dX2_wayOf_2 : decode cX2_wayOf 2 = .ok (.iload_n 2, 1) := by decide +kernel
theorem dX2_wayOf_3 : decode cX2_wayOf 3 = .ok (.iconst 4, 1) := by decide +kernel
theorem dX2_wayOf_4 : decode cX2_wayOf 4 = .ok (.if_icmp .ge 20, 3) := by decide +kernel
theorem dX2_wayOf_7 : decode cX2_wayOf 7 = .ok (.aload_n 0, 1) := by decide +kernel
theorem dX2_wayOf_8 : decode cX2_wayOf 8 = .ok (.getfield 15, 3) := by decide +kernel
theorem dX2_wayOf_11 : decode cX2_wayOf 11 = .ok (.iload_n 1, 1) := by decide +kernel
theorem dX2_wayOf_12 : decode cX2_wayOf 12 = .ok (.iload_n 2, 1) := by decide +kernel
theorem dX2_wayOf_13 : decode cX2_wayOf 13 = .ok (.invokestatic 18, 3) := by decide +kernel
theorem dX2_wayOf_16 : decode cX2_wayOf 16 = .ok (.iload_n 2, 1) := by decide +kernel
theorem dX2_wayOf_17 : decode cX2_wayOf 17 = .ok (.iastore, 1) := by decide +kernel
theorem dX2_wayOf_18 : decode cX2_wayOf 18 = .ok (.iinc 2 1, 3) := by decide +kernel
theorem dX2_wayOf_21 : decode cX2_wayOf 21 = .ok (.goto (-19), 3) := by decide +kernel
theorem dX2_wayOf_24 : decode cX2_wayOf 24 = .ok (.iconst 0, 1) := by decide +kernel
theorem dX2_wayOf_25 : decode cX2_wayOf 25 = .ok (.istore_n 2, 1) := by decide +kernel
theorem dX2_wayOf_26 : decode cX2_wayOf 26 = .ok (.iconst 0, 1) := by decide +kernel
theorem dX2_wayOf_27 : decode cX2_wayOf 27 = .ok (.istore_n 3, 1) := by decide +kernel
theorem dX2_wayOf_28 : decode cX2_wayOf 28 = .ok (.iload_n 3, 1) := by decide +kernel
theorem dX2_wayOf_29 : decode cX2_wayOf 29 = .ok (.iconst 4, 1) := by decide +kernel
theorem dX2_wayOf_30 : decode cX2_wayOf 30 = .ok (.if_icmp .ge 56, 3) := by decide +kernel
theorem dX2_wayOf_33 : decode cX2_wayOf 33 = .ok (.iconst 0, 1) := by decide +kernel
theorem dX2_wayOf_34 : decode cX2_wayOf 34 = .ok (.istore 4, 2) := by decide +kernel
theorem dX2_wayOf_36 : decode cX2_wayOf 36 = .ok (.iload 4, 2) := by decide +kernel
theorem dX2_wayOf_38 : decode cX2_wayOf 38 = .ok (.iconst 4, 1) := by decide +kernel
theorem dX2_wayOf_39 : decode cX2_wayOf 39 = .ok (.if_icmp .ge 41, 3) := by decide +kernel
theorem dX2_wayOf_42 : decode cX2_wayOf 42 = .ok (.iload_n 2, 1) := by decide +kernel
theorem dX2_wayOf_43 : decode cX2_wayOf 43 = .ok (.aload_n 0, 1) := by decide +kernel
theorem dX2_wayOf_44 : decode cX2_wayOf 44 = .ok (.getfield 9, 3) := by decide +kernel
theorem dX2_wayOf_47 : decode cX2_wayOf 47 = .ok (.iconst 4, 1) := by decide +kernel
theorem dX2_wayOf_48 : decode cX2_wayOf 48 = .ok (.iload_n 3, 1) := by decide +kernel
theorem dX2_wayOf_49 : decode cX2_wayOf 49 = .ok (.imul, 1) := by decide +kernel
theorem dX2_wayOf_50 : decode cX2_wayOf 50 = .ok (.iload 4, 2) := by decide +kernel
theorem dX2_wayOf_52 : decode cX2_wayOf 52 = .ok (.iadd, 1) := by decide +kernel
theorem dX2_wayOf_53 : decode cX2_wayOf 53 = .ok (.iaload, 1) := by decide +kernel
theorem dX2_wayOf_54 : decode cX2_wayOf 54 = .ok (.aload_n 0, 1) := by decide +kernel
theorem dX2_wayOf_55 : decode cX2_wayOf 55 = .ok (.getfield 15, 3) := by decide +kernel
theorem dX2_wayOf_58 : decode cX2_wayOf 58 = .ok (.iload_n 3, 1) := by decide +kernel
theorem dX2_wayOf_59 : decode cX2_wayOf 59 = .ok (.iaload, 1) := by decide +kernel
theorem dX2_wayOf_60 : decode cX2_wayOf 60 = .ok (.aload_n 0, 1) := by decide +kernel
theorem dX2_wayOf_61 : decode cX2_wayOf 61 = .ok (.getfield 15, 3) := by decide +kernel
theorem dX2_wayOf_64 : decode cX2_wayOf 64 = .ok (.iload 4, 2) := by decide +kernel
theorem dX2_wayOf_66 : decode cX2_wayOf 66 = .ok (.iaload, 1) := by decide +kernel
theorem dX2_wayOf_67 : decode cX2_wayOf 67 = .ok (.isub, 1) := by decide +kernel
theorem dX2_wayOf_68 : decode cX2_wayOf 68 = .ok (.invokestatic 53, 3) := by decide +kernel
theorem dX2_wayOf_71 : decode cX2_wayOf 71 = .ok (.imul, 1) := by decide +kernel
theorem dX2_wayOf_72 : decode cX2_wayOf 72 = .ok (.iadd, 1) := by decide +kernel
theorem dX2_wayOf_73 : decode cX2_wayOf 73 = .ok (.istore_n 2, 1) := by decide +kernel
theorem dX2_wayOf_74 : decode cX2_wayOf 74 = .ok (.iinc 4 1, 3) := by decide +kernel
theorem dX2_wayOf_77 : decode cX2_wayOf 77 = .ok (.goto (-41), 3) := by decide +kernel
theorem dX2_wayOf_80 : decode cX2_wayOf 80 = .ok (.iinc 3 1, 3) := by decide +kernel
theorem dX2_wayOf_83 : decode cX2_wayOf 83 = .ok (.goto (-55), 3) := by decide +kernel
theorem dX2_wayOf_86 : decode cX2_wayOf 86 = .ok (.iload_n 2, 1) := by decide +kernel
theorem dX2_wayOf_87 : decode cX2_wayOf 87 = .ok (.ireturn, 1) := by decide +kernel
theorem dX2_bestOrder_0 : decode cX2_bestOrder 0 = .ok (.iconst 0, 1) := by decide +kernel
theorem dX2_bestOrder_1 : decode cX2_bestOrder 1 = .ok (.istore_n 1, 1) := by decide +kernel
theorem dX2_bestOrder_2 : decode cX2_bestOrder 2 = .ok (.ldc 58, 2) := by decide +kernel
theorem dX2_bestOrder_4 : decode cX2_bestOrder 4 = .ok (.istore_n 2, 1) := by decide +kernel
theorem dX2_bestOrder_5 : decode cX2_bestOrder 5 = .ok (.iconst 0, 1) := by decide +kernel
theorem dX2_bestOrder_6 : decode cX2_bestOrder 6 = .ok (.istore_n 3, 1) := by decide +kernel
theorem dX2_bestOrder_7 : decode cX2_bestOrder 7 = .ok (.iload_n 3, 1) := by decide +kernel
theorem dX2_bestOrder_8 : decode cX2_bestOrder 8 = .ok (.sipush 256, 3) := by decide +kernel
theorem dX2_bestOrder_11 : decode cX2_bestOrder 11 = .ok (.if_icmp .ge 34, 3) := by decide +kernel
theorem dX2_bestOrder_14 : decode cX2_bestOrder 14 = .ok (.iload_n 3, 1) := by decide +kernel
theorem dX2_bestOrder_15 : decode cX2_bestOrder 15 = .ok (.invokestatic 59, 3) := by decide +kernel
theorem dX2_bestOrder_18 : decode cX2_bestOrder 18 = .ok (.ifCond .eq 21, 3) := by decide +kernel
theorem dX2_bestOrder_21 : decode cX2_bestOrder 21 = .ok (.aload_n 0, 1) := by decide +kernel
theorem dX2_bestOrder_22 : decode cX2_bestOrder 22 = .ok (.iload_n 3, 1) := by decide +kernel
theorem dX2_bestOrder_23 : decode cX2_bestOrder 23 = .ok (.invokevirtual 63, 3) := by decide +kernel
theorem dX2_bestOrder_26 : decode cX2_bestOrder 26 = .ok (.istore 4, 2) := by decide +kernel
theorem dX2_bestOrder_28 : decode cX2_bestOrder 28 = .ok (.iload 4, 2) := by decide +kernel
theorem dX2_bestOrder_30 : decode cX2_bestOrder 30 = .ok (.iload_n 2, 1) := by decide +kernel
theorem dX2_bestOrder_31 : decode cX2_bestOrder 31 = .ok (.if_icmp .ge 8, 3) := by decide +kernel
theorem dX2_bestOrder_34 : decode cX2_bestOrder 34 = .ok (.iload 4, 2) := by decide +kernel
theorem dX2_bestOrder_36 : decode cX2_bestOrder 36 = .ok (.istore_n 2, 1) := by decide +kernel
theorem dX2_bestOrder_37 : decode cX2_bestOrder 37 = .ok (.iload_n 3, 1) := by decide +kernel
theorem dX2_bestOrder_38 : decode cX2_bestOrder 38 = .ok (.istore_n 1, 1) := by decide +kernel
theorem dX2_bestOrder_39 : decode cX2_bestOrder 39 = .ok (.iinc 3 1, 3) := by decide +kernel
theorem dX2_bestOrder_42 : decode cX2_bestOrder 42 = .ok (.goto (-35), 3) := by decide +kernel
theorem dX2_bestOrder_45 : decode cX2_bestOrder 45 = .ok (.iload_n 1, 1) := by decide +kernel
theorem dX2_bestOrder_46 : decode cX2_bestOrder 46 = .ok (.ireturn, 1) := by decide +kernel
theorem dX3_init_0 : decode cX3_init 0 = .ok (.aload_n 0, 1) := by decide +kernel
theorem dX3_init_1 : decode cX3_init 1 = .ok (.invokespecial 3, 3) := by decide +kernel
theorem dX3_init_4 : decode cX3_init 4 = .ok (.aload_n 0, 1) := by decide +kernel
theorem dX3_init_5 : decode cX3_init 5 = .ok (.bipush 7, 2) := by decide +kernel
theorem dX3_init_7 : decode cX3_init 7 = .ok (.newarray .int, 2) := by decide +kernel
theorem dX3_init_9 : decode cX3_init 9 = .ok (.putfield 9, 3) := by decide +kernel
theorem dX3_init_12 : decode cX3_init 12 = .ok (.return_, 1) := by decide +kernel
theorem dX3_grow_0 : decode cX3_grow 0 = .ok (.aload_n 0, 1) := by decide +kernel
theorem dX3_grow_1 : decode cX3_grow 1 = .ok (.iload_n 2, 1) := by decide +kernel
theorem dX3_grow_2 : decode cX3_grow 2 = .ok (.putfield 15, 3) := by decide +kernel
theorem dX3_grow_5 : decode cX3_grow 5 = .ok (.iconst 0, 1) := by decide +kernel
theorem dX3_grow_6 : decode cX3_grow 6 = .ok (.istore 4, 2) := by decide +kernel
theorem dX3_grow_8 : decode cX3_grow 8 = .ok (.iload 4, 2) := by decide +kernel
theorem dX3_grow_10 : decode cX3_grow 10 = .ok (.aload_n 0, 1) := by decide +kernel
theorem dX3_grow_11 : decode cX3_grow 11 = .ok (.getfield 15, 3) := by decide +kernel
theorem dX3_grow_14 : decode cX3_grow 14 = .ok (.if_icmp .ge 18, 3) := by decide +kernel
theorem dX3_grow_17 : decode cX3_grow 17 = .ok (.aload_n 0, 1) := by decide +kernel
theorem dX3_grow_18 : decode cX3_grow 18 = .ok (.getfield 9, 3) := by decide +kernel
theorem dX3_grow_21 : decode cX3_grow 21 = .ok (.iload 4, 2) := by decide +kernel
theorem dX3_grow_23 : decode cX3_grow 23 = .ok (.iload 4, 2) := by decide +kernel
theorem dX3_grow_25 : decode cX3_grow 25 = .ok (.iastore, 1) := by decide +kernel
theorem dX3_grow_26 : decode cX3_grow 26 = .ok (.iinc 4 1, 3) := by decide +kernel
theorem dX3_grow_29 : decode cX3_grow 29 = .ok (.goto (-21), 3) := by decide +kernel
theorem dX3_grow_32 : decode cX3_grow 32 = .ok (.iconst 0, 1) := by decide +kernel
theorem dX3_grow_33 : decode cX3_grow 33 = .ok (.istore 4, 2) := by decide +kernel
theorem dX3_grow_35 : decode cX3_grow 35 = .ok (.iload 4, 2) := by decide +kernel
theorem dX3_grow_37 : decode cX3_grow 37 = .ok (.iload_n 3, 1) := by decide +kernel
theorem dX3_grow_38 : decode cX3_grow 38 = .ok (.if_icmp .ge 18, 3) := by decide +kernel
theorem dX3_grow_41 : decode cX3_grow 41 = .ok (.aload_n 0, 1) := by decide +kernel
theorem dX3_grow_42 : decode cX3_grow 42 = .ok (.aload_n 1, 1) := by decide +kernel
theorem dX3_grow_43 : decode cX3_grow 43 = .ok (.invokevirtual 19, 3) := by decide +kernel
theorem dX3_grow_46 : decode cX3_grow 46 = .ok (.aload_n 0, 1) := by decide +kernel
theorem dX3_grow_47 : decode cX3_grow 47 = .ok (.invokevirtual 23, 3) := by decide +kernel
theorem dX3_grow_50 : decode cX3_grow 50 = .ok (.iinc 4 1, 3) := by decide +kernel
theorem dX3_grow_53 : decode cX3_grow 53 = .ok (.goto (-18), 3) := by decide +kernel
theorem dX3_grow_56 : decode cX3_grow 56 = .ok (.return_, 1) := by decide +kernel
theorem dX3_tell_0 : decode cX3_tell 0 = .ok (.iload_n 1, 1) := by decide +kernel
theorem dX3_tell_1 : decode cX3_tell 1 = .ok (.tableswitch 42 0 2 #[27, 32, 37], 27) := by decide +kernel
theorem dX3_tell_28 : decode cX3_tell 28 = .ok (.aload_n 0, 1) := by decide +kernel
theorem dX3_tell_29 : decode cX3_tell 29 = .ok (.getfield 26, 3) := by decide +kernel
theorem dX3_tell_32 : decode cX3_tell 32 = .ok (.ireturn, 1) := by decide +kernel
theorem dX3_tell_33 : decode cX3_tell 33 = .ok (.aload_n 0, 1) := by decide +kernel
theorem dX3_tell_34 : decode cX3_tell 34 = .ok (.getfield 29, 3) := by decide +kernel
theorem dX3_tell_37 : decode cX3_tell 37 = .ok (.ireturn, 1) := by decide +kernel
theorem dX3_tell_38 : decode cX3_tell 38 = .ok (.aload_n 0, 1) := by decide +kernel
theorem dX3_tell_39 : decode cX3_tell 39 = .ok (.getfield 32, 3) := by decide +kernel
theorem dX3_tell_42 : decode cX3_tell 42 = .ok (.ireturn, 1) := by decide +kernel
theorem dX3_tell_43 : decode cX3_tell 43 = .ok (.aload_n 0, 1) := by decide +kernel
theorem dX3_tell_44 : decode cX3_tell 44 = .ok (.getfield 35, 3) := by decide +kernel
theorem dX3_tell_47 : decode cX3_tell 47 = .ok (.ireturn, 1) := by decide +kernel
theorem dX3_seekPair_0 : decode cX3_seekPair 0 = .ok (.aload_n 0, 1) := by decide +kernel
theorem dX3_seekPair_1 : decode cX3_seekPair 1 = .ok (.iconst (-1), 1) := by decide +kernel
theorem dX3_seekPair_2 : decode cX3_seekPair 2 = .ok (.putfield 32, 3) := by decide +kernel
theorem dX3_seekPair_5 : decode cX3_seekPair 5 = .ok (.aload_n 0, 1) := by decide +kernel
theorem dX3_seekPair_6 : decode cX3_seekPair 6 = .ok (.iconst 1, 1) := by decide +kernel
theorem dX3_seekPair_7 : decode cX3_seekPair 7 = .ok (.putfield 35, 3) := by decide +kernel
theorem dX3_seekPair_10 : decode cX3_seekPair 10 = .ok (.iconst 0, 1) := by decide +kernel
theorem dX3_seekPair_11 : decode cX3_seekPair 11 = .ok (.istore_n 2, 1) := by decide +kernel
theorem dX3_seekPair_12 : decode cX3_seekPair 12 = .ok (.iload_n 2, 1) := by decide +kernel
theorem dX3_seekPair_13 : decode cX3_seekPair 13 = .ok (.aload_n 0, 1) := by decide +kernel
theorem dX3_seekPair_14 : decode cX3_seekPair 14 = .ok (.getfield 15, 3) := by decide +kernel
theorem dX3_seekPair_17 : decode cX3_seekPair 17 = .ok (.if_icmp .ge 54, 3) := by decide +kernel
theorem dX3_seekPair_20 : decode cX3_seekPair 20 = .ok (.iload_n 2, 1) := by decide +kernel
theorem dX3_seekPair_21 : decode cX3_seekPair 21 = .ok (.iconst 1, 1) := by decide +kernel
theorem dX3_seekPair_22 : decode cX3_seekPair 22 = .ok (.iadd, 1) := by decide +kernel
theorem dX3_seekPair_23 : decode cX3_seekPair 23 = .ok (.istore_n 3, 1) := by decide +kernel
theorem dX3_seekPair_24 : decode cX3_seekPair 24 = .ok (.iload_n 3, 1) := by decide +kernel
theorem dX3_seekPair_25 : decode cX3_seekPair 25 = .ok (.aload_n 0, 1) := by decide +kernel
theorem dX3_seekPair_26 : decode cX3_seekPair 26 = .ok (.getfield 15, 3) := by decide +kernel
theorem dX3_seekPair_29 : decode cX3_seekPair 29 = .ok (.if_icmp .ge 36, 3) := by decide +kernel
theorem dX3_seekPair_32 : decode cX3_seekPair 32 = .ok (.aload_n 0, 1) := by decide +kernel
theorem dX3_seekPair_33 : decode cX3_seekPair 33 = .ok (.getfield 9, 3) := by decide +kernel
theorem dX3_seekPair_36 : decode cX3_seekPair 36 = .ok (.iload_n 2, 1) := by decide +kernel
theorem dX3_seekPair_37 : decode cX3_seekPair 37 = .ok (.iaload, 1) := by decide +kernel
theorem dX3_seekPair_38 : decode cX3_seekPair 38 = .ok (.iload_n 2, 1) := by decide +kernel
theorem dX3_seekPair_39 : decode cX3_seekPair 39 = .ok (.if_icmp .ne 20, 3) := by decide +kernel
theorem dX3_seekPair_42 : decode cX3_seekPair 42 = .ok (.aload_n 0, 1) := by decide +kernel
theorem dX3_seekPair_43 : decode cX3_seekPair 43 = .ok (.getfield 9, 3) := by decide +kernel
theorem dX3_seekPair_46 : decode cX3_seekPair 46 = .ok (.iload_n 3, 1) := by decide +kernel
theorem dX3_seekPair_47 : decode cX3_seekPair 47 = .ok (.iaload, 1) := by decide +kernel
theorem dX3_seekPair_48 : decode cX3_seekPair 48 = .ok (.iload_n 3, 1) := by decide +kernel
theorem dX3_seekPair_49 : decode cX3_seekPair 49 = .ok (.if_icmp .ne 10, 3) := by decide +kernel
theorem dX3_seekPair_52 : decode cX3_seekPair 52 = .ok (.aload_n 0, 1) := by decide +kernel
theorem dX3_seekPair_53 : decode cX3_seekPair 53 = .ok (.aload_n 1, 1) := by decide +kernel
theorem dX3_seekPair_54 : decode cX3_seekPair 54 = .ok (.iload_n 2, 1) := by decide +kernel
theorem dX3_seekPair_55 : decode cX3_seekPair 55 = .ok (.iload_n 3, 1) := by decide +kernel
theorem dX3_seekPair_56 : decode cX3_seekPair 56 = .ok (.invokevirtual 38, 3) := by decide +kernel
theorem dX3_seekPair_59 : decode cX3_seekPair 59 = .ok (.iinc 3 1, 3) := by decide +kernel
theorem dX3_seekPair_62 : decode cX3_seekPair 62 = .ok (.goto (-38), 3) := by decide +kernel
theorem dX3_seekPair_65 : decode cX3_seekPair 65 = .ok (.iinc 2 1, 3) := by decide +kernel
theorem dX3_seekPair_68 : decode cX3_seekPair 68 = .ok (.goto (-56), 3) := by decide +kernel
theorem dX3_seekPair_71 : decode cX3_seekPair 71 = .ok (.return_, 1) := by decide +kernel
theorem dX3_compareHeaps_0 : decode cX3_compareHeaps 0 = .ok (.iconst 0, 1) := by decide +kernel
theorem dX3_compareHeaps_1 : decode cX3_compareHeaps 1 = .ok (.istore 4, 2) := by decide +kernel
theorem dX3_compareHeaps_3 : decode cX3_compareHeaps 3 = .ok (.iload 4, 2) := by decide +kernel
theorem dX3_compareHeaps_5 : decode cX3_compareHeaps 5 = .ok (.aload_n 0, 1) := by decide +kernel
theorem dX3_compareHeaps_6 : decode cX3_compareHeaps 6 = .ok (.getfield 15, 3) := by decide +kernel
theorem dX3_compareHeaps_9 : decode cX3_compareHeaps 9 = .ok (.if_icmp .ge 58, 3) := by decide +kernel
theorem dX3_compareHeaps_12 : decode cX3_compareHeaps 12 = .ok (.iconst 0, 1) := by decide +kernel
theorem dX3_compareHeaps_13 : decode cX3_compareHeaps 13 = .ok (.istore 5, 2) := by decide +kernel
theorem dX3_compareHeaps_15 : decode cX3_compareHeaps 15 = .ok (.iload 5, 2) := by decide +kernel
theorem dX3_compareHeaps_17 : decode cX3_compareHeaps 17 = .ok (.aload_n 0, 1) := by decide +kernel
theorem dX3_compareHeaps_18 : decode cX3_compareHeaps 18 = .ok (.getfield 15, 3) := by decide +kernel
theorem dX3_compareHeaps_21 : decode cX3_compareHeaps 21 = .ok (.if_icmp .ge 40, 3) := by decide +kernel
theorem dX3_compareHeaps_24 : decode cX3_compareHeaps 24 = .ok (.aload_n 0, 1) := by decide +kernel
theorem dX3_compareHeaps_25 : decode cX3_compareHeaps 25 = .ok (.getfield 9, 3) := by decide +kernel
theorem dX3_compareHeaps_28 : decode cX3_compareHeaps 28 = .ok (.iload 4, 2) := by decide +kernel
theorem dX3_compareHeaps_30 : decode cX3_compareHeaps 30 = .ok (.iaload, 1) := by decide +kernel
theorem dX3_compareHeaps_31 : decode cX3_compareHeaps 31 = .ok (.iload_n 2, 1) := by decide +kernel
theorem dX3_compareHeaps_32 : decode cX3_compareHeaps 32 = .ok (.if_icmp .ne 23, 3) := by decide +kernel
theorem dX3_compareHeaps_35 : decode cX3_compareHeaps 35 = .ok (.aload_n 0, 1) := by decide +kernel
theorem dX3_compareHeaps_36 : decode cX3_compareHeaps 36 = .ok (.getfield 9, 3) := by decide +kernel
theorem dX3_compareHeaps_39 : decode cX3_compareHeaps 39 = .ok (.iload 5, 2) := by decide +kernel
theorem dX3_compareHeaps_41 : decode cX3_compareHeaps 41 = .ok (.iaload, 1) := by decide +kernel
theorem dX3_compareHeaps_42 : decode cX3_compareHeaps 42 = .ok (.iload_n 3, 1) := by decide +kernel
theorem dX3_compareHeaps_43 : decode cX3_compareHeaps 43 = .ok (.if_icmp .ne 12, 3) := by decide +kernel
theorem dX3_compareHeaps_46 : decode cX3_compareHeaps 46 = .ok (.aload_n 0, 1) := by decide +kernel
theorem dX3_compareHeaps_47 : decode cX3_compareHeaps 47 = .ok (.aload_n 1, 1) := by decide +kernel
theorem dX3_compareHeaps_48 : decode cX3_compareHeaps 48 = .ok (.iload 4, 2) := by decide +kernel
theorem dX3_compareHeaps_50 : decode cX3_compareHeaps 50 = .ok (.iload 5, 2) := by decide +kernel
theorem dX3_compareHeaps_52 : decode cX3_compareHeaps 52 = .ok (.invokevirtual 42, 3) := by decide +kernel
theorem dX3_compareHeaps_55 : decode cX3_compareHeaps 55 = .ok (.iinc 5 1, 3) := by decide +kernel
theorem dX3_compareHeaps_58 : decode cX3_compareHeaps 58 = .ok (.goto (-43), 3) := by decide +kernel
theorem dX3_compareHeaps_61 : decode cX3_compareHeaps 61 = .ok (.iinc 4 1, 3) := by decide +kernel
theorem dX3_compareHeaps_64 : decode cX3_compareHeaps 64 = .ok (.goto (-61), 3) := by decide +kernel
theorem dX3_compareHeaps_67 : decode cX3_compareHeaps 67 = .ok (.return_, 1) := by decide +kernel
theorem dX3_compareMachines_0 : decode cX3_compareMachines 0 = .ok (.aload_n 1, 1) := by decide +kernel
theorem dX3_compareMachines_1 : decode cX3_compareMachines 1 = .ok (.iload_n 2, 1) := by decide +kernel
theorem dX3_compareMachines_2 : decode cX3_compareMachines 2 = .ok (.iload_n 3, 1) := by decide +kernel
theorem dX3_compareMachines_3 : decode cX3_compareMachines 3 = .ok (.invokevirtual 45, 3) := by decide +kernel
theorem dX3_compareMachines_6 : decode cX3_compareMachines 6 = .ok (.istore 4, 2) := by decide +kernel
theorem dX3_compareMachines_8 : decode cX3_compareMachines 8 = .ok (.aload_n 1, 1) := by decide +kernel
theorem dX3_compareMachines_9 : decode cX3_compareMachines 9 = .ok (.iload_n 2, 1) := by decide +kernel
theorem dX3_compareMachines_10 : decode cX3_compareMachines 10 = .ok (.iload_n 3, 1) := by decide +kernel
theorem dX3_compareMachines_11 : decode cX3_compareMachines 11 = .ok (.invokevirtual 51, 3) := by decide +kernel
theorem dX3_compareMachines_14 : decode cX3_compareMachines 14 = .ok (.istore 5, 2) := by decide +kernel
theorem dX3_compareMachines_16 : decode cX3_compareMachines 16 = .ok (.iload 4, 2) := by decide +kernel
theorem dX3_compareMachines_18 : decode cX3_compareMachines 18 = .ok (.aload_n 0, 1) := by decide +kernel
theorem dX3_compareMachines_19 : decode cX3_compareMachines 19 = .ok (.getfield 35, 3) := by decide +kernel
theorem dX3_compareMachines_22 : decode cX3_compareMachines 22 = .ok (.imul, 1) := by decide +kernel
theorem dX3_compareMachines_23 : decode cX3_compareMachines 23 = .ok (.aload_n 0, 1) := by decide +kernel
theorem dX3_compareMachines_24 : decode cX3_compareMachines 24 = .ok (.getfield 32, 3) := by decide +kernel
theorem dX3_compareMachines_27 : decode cX3_compareMachines 27 = .ok (.iload 5, 2) := by decide +kernel
theorem dX3_compareMachines_29 : decode cX3_compareMachines 29 = .ok (.imul, 1) := by decide +kernel
theorem dX3_compareMachines_30 : decode cX3_compareMachines 30 = .ok (.if_icmp .le 35, 3) := by decide +kernel
theorem dX3_compareMachines_33 : decode cX3_compareMachines 33 = .ok (.aload_n 0, 1) := by decide +kernel
theorem dX3_compareMachines_34 : decode cX3_compareMachines 34 = .ok (.aload_n 0, 1) := by decide +kernel
theorem dX3_compareMachines_35 : decode cX3_compareMachines 35 = .ok (.getfield 9, 3) := by decide +kernel
theorem dX3_compareMachines_38 : decode cX3_compareMachines 38 = .ok (.iload_n 2, 1) := by decide +kernel
theorem dX3_compareMachines_39 : decode cX3_compareMachines 39 = .ok (.iaload, 1) := by decide +kernel
theorem dX3_compareMachines_40 : decode cX3_compareMachines 40 = .ok (.putfield 26, 3) := by decide +kernel
theorem dX3_compareMachines_43 : decode cX3_compareMachines 43 = .ok (.aload_n 0, 1) := by decide +kernel
theorem dX3_compareMachines_44 : decode cX3_compareMachines 44 = .ok (.aload_n 0, 1) := by decide +kernel
theorem dX3_compareMachines_45 : decode cX3_compareMachines 45 = .ok (.getfield 9, 3) := by decide +kernel
theorem dX3_compareMachines_48 : decode cX3_compareMachines 48 = .ok (.iload_n 3, 1) := by decide +kernel
theorem dX3_compareMachines_49 : decode cX3_compareMachines 49 = .ok (.iaload, 1) := by decide +kernel
theorem dX3_compareMachines_50 : decode cX3_compareMachines 50 = .ok (.putfield 29, 3) := by decide +kernel
theorem dX3_compareMachines_53 : decode cX3_compareMachines 53 = .ok (.aload_n 0, 1) := by decide +kernel
theorem dX3_compareMachines_54 : decode cX3_compareMachines 54 = .ok (.iload 4, 2) := by decide +kernel
theorem dX3_compareMachines_56 : decode cX3_compareMachines 56 = .ok (.putfield 32, 3) := by decide +kernel
theorem dX3_compareMachines_59 : decode cX3_compareMachines 59 = .ok (.aload_n 0, 1) := by decide +kernel
theorem dX3_compareMachines_60 : decode cX3_compareMachines 60 = .ok (.iload 5, 2) := by decide +kernel
theorem dX3_compareMachines_62 : decode cX3_compareMachines 62 = .ok (.putfield 35, 3) := by decide +kernel
theorem dX3_compareMachines_65 : decode cX3_compareMachines 65 = .ok (.return_, 1) := by decide +kernel
theorem dX3_unite_0 : decode cX3_unite 0 = .ok (.iconst 0, 1) := by decide +kernel
theorem dX3_unite_1 : decode cX3_unite 1 = .ok (.istore_n 1, 1) := by decide +kernel
theorem dX3_unite_2 : decode cX3_unite 2 = .ok (.iload_n 1, 1) := by decide +kernel
theorem dX3_unite_3 : decode cX3_unite 3 = .ok (.aload_n 0, 1) := by decide +kernel
theorem dX3_unite_4 : decode cX3_unite 4 = .ok (.getfield 15, 3) := by decide +kernel
theorem dX3_unite_7 : decode cX3_unite 7 = .ok (.if_icmp .ge 32, 3) := by decide +kernel
theorem dX3_unite_10 : decode cX3_unite 10 = .ok (.aload_n 0, 1) := by decide +kernel
theorem dX3_unite_11 : decode cX3_unite 11 = .ok (.getfield 9, 3) := by decide +kernel
theorem dX3_unite_14 : decode cX3_unite 14 = .ok (.iload_n 1, 1) := by decide +kernel
theorem dX3_unite_15 : decode cX3_unite 15 = .ok (.iaload, 1) := by decide +kernel
theorem dX3_unite_16 : decode cX3_unite 16 = .ok (.aload_n 0, 1) := by decide +kernel
theorem dX3_unite_17 : decode cX3_unite 17 = .ok (.getfield 29, 3) := by decide +kernel
theorem dX3_unite_20 : decode cX3_unite 20 = .ok (.if_icmp .ne 13, 3) := by decide +kernel
theorem dX3_unite_23 : decode cX3_unite 23 = .ok (.aload_n 0, 1) := by decide +kernel
theorem dX3_unite_24 : decode cX3_unite 24 = .ok (.getfield 9, 3) := by decide +kernel
theorem dX3_unite_27 : decode cX3_unite 27 = .ok (.iload_n 1, 1) := by decide +kernel
theorem dX3_unite_28 : decode cX3_unite 28 = .ok (.aload_n 0, 1) := by decide +kernel
theorem dX3_unite_29 : decode cX3_unite 29 = .ok (.getfield 26, 3) := by decide +kernel
theorem dX3_unite_32 : decode cX3_unite 32 = .ok (.iastore, 1) := by decide +kernel
theorem dX3_unite_33 : decode cX3_unite 33 = .ok (.iinc 1 1, 3) := by decide +kernel
theorem dX3_unite_36 : decode cX3_unite 36 = .ok (.goto (-34), 3) := by decide +kernel
theorem dX3_unite_39 : decode cX3_unite 39 = .ok (.return_, 1) := by decide +kernel
theorem dX4_init_0 : decode cX4_init 0 = .ok (.aload_n 0, 1) := by decide +kernel
theorem dX4_init_1 : decode cX4_init 1 = .ok (.invokespecial 3, 3) := by decide +kernel
theorem dX4_init_4 : decode cX4_init 4 = .ok (.aload_n 0, 1) := by decide +kernel
theorem dX4_init_5 : decode cX4_init 5 = .ok (.bipush 6, 2) := by decide +kernel
theorem dX4_init_7 : decode cX4_init 7 = .ok (.newarray .int, 2) := by decide +kernel
theorem dX4_init_9 : decode cX4_init 9 = .ok (.putfield 9, 3) := by decide +kernel
theorem dX4_init_12 : decode cX4_init 12 = .ok (.aload_n 0, 1) := by decide +kernel
theorem dX4_init_13 : decode cX4_init 13 = .ok (.iconst 4, 1) := by decide +kernel
theorem dX4_init_14 : decode cX4_init 14 = .ok (.newarray .int, 2) := by decide +kernel
theorem dX4_init_16 : decode cX4_init 16 = .ok (.putfield 15, 3) := by decide +kernel
theorem dX4_init_19 : decode cX4_init 19 = .ok (.aload_n 0, 1) := by decide +kernel
theorem dX4_init_20 : decode cX4_init 20 = .ok (.iconst 4, 1) := by decide +kernel
theorem dX4_init_21 : decode cX4_init 21 = .ok (.newarray .int, 2) := by decide +kernel
theorem dX4_init_23 : decode cX4_init 23 = .ok (.putfield 18, 3) := by decide +kernel
theorem dX4_init_26 : decode cX4_init 26 = .ok (.aload_n 0, 1) := by decide +kernel
theorem dX4_init_27 : decode cX4_init 27 = .ok (.iconst 5, 1) := by decide +kernel
theorem dX4_init_28 : decode cX4_init 28 = .ok (.putfield 21, 3) := by decide +kernel
theorem dX4_init_31 : decode cX4_init 31 = .ok (.return_, 1) := by decide +kernel
theorem dX4_howMany_0 : decode cX4_howMany 0 = .ok (.aload_n 0, 1) := by decide +kernel
theorem dX4_howMany_1 : decode cX4_howMany 1 = .ok (.getfield 25, 3) := by decide +kernel
theorem dX4_howMany_4 : decode cX4_howMany 4 = .ok (.ireturn, 1) := by decide +kernel
theorem dX4_append_0 : decode cX4_append 0 = .ok (.aload_n 0, 1) := by decide +kernel
theorem dX4_append_1 : decode cX4_append 1 = .ok (.getfield 25, 3) := by decide +kernel
theorem dX4_append_4 : decode cX4_append 4 = .ok (.bipush 6, 2) := by decide +kernel
theorem dX4_append_6 : decode cX4_append 6 = .ok (.if_icmp .ge 23, 3) := by decide +kernel
theorem dX4_append_9 : decode cX4_append 9 = .ok (.aload_n 0, 1) := by decide +kernel
theorem dX4_append_10 : decode cX4_append 10 = .ok (.getfield 9, 3) := by decide +kernel
theorem dX4_append_13 : decode cX4_append 13 = .ok (.aload_n 0, 1) := by decide +kernel
theorem dX4_append_14 : decode cX4_append 14 = .ok (.getfield 25, 3) := by decide +kernel
theorem dX4_append_17 : decode cX4_append 17 = .ok (.iload_n 1, 1) := by decide +kernel
theorem dX4_append_18 : decode cX4_append 18 = .ok (.iastore, 1) := by decide +kernel
theorem dX4_append_19 : decode cX4_append 19 = .ok (.aload_n 0, 1) := by decide +kernel
theorem dX4_append_20 : decode cX4_append 20 = .ok (.dup, 1) := by decide +kernel
theorem dX4_append_21 : decode cX4_append 21 = .ok (.getfield 25, 3) := by decide +kernel
theorem dX4_append_24 : decode cX4_append 24 = .ok (.iconst 1, 1) := by decide +kernel
theorem dX4_append_25 : decode cX4_append 25 = .ok (.iadd, 1) := by decide +kernel
theorem dX4_append_26 : decode cX4_append 26 = .ok (.putfield 25, 3) := by decide +kernel
theorem dX4_append_29 : decode cX4_append 29 = .ok (.return_, 1) := by decide +kernel
theorem dX4_costOfMove_0 : decode cX4_costOfMove 0 = .ok (.aload_n 0, 1) := by decide +kernel
theorem dX4_costOfMove_1 : decode cX4_costOfMove 1 = .ok (.getfield 21, 3) := by decide +kernel
theorem dX4_costOfMove_4 : decode cX4_costOfMove 4 = .ok (.ireturn, 1) := by decide +kernel
theorem dX4_putCostOfMove_0 : decode cX4_putCostOfMove 0 = .ok (.aload_n 0, 1) := by decide +kernel
theorem dX4_putCostOfMove_1 : decode cX4_putCostOfMove 1 = .ok (.iload_n 1, 1) := by decide +kernel
theorem dX4_putCostOfMove_2 : decode cX4_putCostOfMove 2 = .ok (.putfield 21, 3) := by decide +kernel
theorem dX4_putCostOfMove_5 : decode cX4_putCostOfMove 5 = .ok (.return_, 1) := by decide +kernel
theorem dX4_cheapest_0 : decode cX4_cheapest 0 = .ok (.iconst 0, 1) := by decide +kernel
theorem dX4_cheapest_1 : decode cX4_cheapest 1 = .ok (.istore_n 3, 1) := by decide +kernel
theorem dX4_cheapest_2 : decode cX4_cheapest 2 = .ok (.iload_n 3, 1) := by decide +kernel
theorem dX4_cheapest_3 : decode cX4_cheapest 3 = .ok (.iconst 4, 1) := by decide +kernel
theorem dX4_cheapest_4 : decode cX4_cheapest 4 = .ok (.if_icmp .ge 25, 3) := by decide +kernel
theorem dX4_cheapest_7 : decode cX4_cheapest 7 = .ok (.aload_n 0, 1) := by decide +kernel
theorem dX4_cheapest_8 : decode cX4_cheapest 8 = .ok (.getfield 15, 3) := by decide +kernel
theorem dX4_cheapest_11 : decode cX4_cheapest 11 = .ok (.iload_n 3, 1) := by decide +kernel
theorem dX4_cheapest_12 : decode cX4_cheapest 12 = .ok (.aload_n 0, 1) := by decide +kernel
theorem dX4_cheapest_13 : decode cX4_cheapest 13 = .ok (.getfield 9, 3) := by decide +kernel
theorem dX4_cheapest_16 : decode cX4_cheapest 16 = .ok (.iconst 0, 1) := by decide +kernel
theorem dX4_cheapest_17 : decode cX4_cheapest 17 = .ok (.iaload, 1) := by decide +kernel
theorem dX4_cheapest_18 : decode cX4_cheapest 18 = .ok (.aload_n 2, 1) := by decide +kernel
theorem dX4_cheapest_19 : decode cX4_cheapest 19 = .ok (.iload_n 3, 1) := by decide +kernel
theorem dX4_cheapest_20 : decode cX4_cheapest 20 = .ok (.iaload, 1) := by decide +kernel
theorem dX4_cheapest_21 : decode cX4_cheapest 21 = .ok (.imul, 1) := by decide +kernel
theorem dX4_cheapest_22 : decode cX4_cheapest 22 = .ok (.iastore, 1) := by decide +kernel
theorem dX4_cheapest_23 : decode cX4_cheapest 23 = .ok (.iinc 3 1, 3) := by decide +kernel
theorem dX4_cheapest_26 : decode cX4_cheapest 26 = .ok (.goto (-24), 3) := by decide +kernel
theorem dX4_cheapest_29 : decode cX4_cheapest 29 = .ok (.iconst 1, 1) := by decide +kernel
theorem dX4_cheapest_30 : decode cX4_cheapest 30 = .ok (.istore_n 3, 1) := by decide +kernel
theorem dX4_cheapest_31 : decode cX4_cheapest 31 = .ok (.iload_n 3, 1) := by decide +kernel
theorem dX4_cheapest_32 : decode cX4_cheapest 32 = .ok (.aload_n 0, 1) := by decide +kernel
theorem dX4_cheapest_33 : decode cX4_cheapest 33 = .ok (.getfield 25, 3) := by decide +kernel
theorem dX4_cheapest_36 : decode cX4_cheapest 36 = .ok (.if_icmp .ge 64, 3) := by decide +kernel
theorem dX4_cheapest_39 : decode cX4_cheapest 39 = .ok (.iconst 0, 1) := by decide +kernel
theorem dX4_cheapest_40 : decode cX4_cheapest 40 = .ok (.istore 4, 2) := by decide +kernel
theorem dX4_cheapest_42 : decode cX4_cheapest 42 = .ok (.iload 4, 2) := by decide +kernel
theorem dX4_cheapest_44 : decode cX4_cheapest 44 = .ok (.iconst 4, 1) := by decide +kernel
theorem dX4_cheapest_45 : decode cX4_cheapest 45 = .ok (.if_icmp .ge 35, 3) := by decide +kernel
theorem dX4_cheapest_48 : decode cX4_cheapest 48 = .ok (.aload_n 0, 1) := by decide +kernel
theorem dX4_cheapest_49 : decode cX4_cheapest 49 = .ok (.getfield 18, 3) := by decide +kernel
theorem dX4_cheapest_52 : decode cX4_cheapest 52 = .ok (.iload 4, 2) := by decide +kernel
theorem dX4_cheapest_54 : decode cX4_cheapest 54 = .ok (.aload_n 0, 1) := by decide +kernel
theorem dX4_cheapest_55 : decode cX4_cheapest 55 = .ok (.iload 4, 2) := by decide +kernel
theorem dX4_cheapest_57 : decode cX4_cheapest 57 = .ok (.aload_n 1, 1) := by decide +kernel
theorem dX4_cheapest_58 : decode cX4_cheapest 58 = .ok (.invokevirtual 28, 3) := by decide +kernel
theorem dX4_cheapest_61 : decode cX4_cheapest 61 = .ok (.aload_n 0, 1) := by decide +kernel
theorem dX4_cheapest_62 : decode cX4_cheapest 62 = .ok (.getfield 9, 3) := by decide +kernel
theorem dX4_cheapest_65 : decode cX4_cheapest 65 = .ok (.iload_n 3, 1) := by decide +kernel
theorem dX4_cheapest_66 : decode cX4_cheapest 66 = .ok (.iaload, 1) := by decide +kernel
theorem dX4_cheapest_67 : decode cX4_cheapest 67 = .ok (.aload_n 2, 1) := by decide +kernel
theorem dX4_cheapest_68 : decode cX4_cheapest 68 = .ok (.iload 4, 2) := by decide +kernel
theorem dX4_cheapest_70 : decode cX4_cheapest 70 = .ok (.iaload, 1) := by decide +kernel
theorem dX4_cheapest_71 : decode cX4_cheapest 71 = .ok (.imul, 1) := by decide +kernel
theorem dX4_cheapest_72 : decode cX4_cheapest 72 = .ok (.iadd, 1) := by decide +kernel
theorem dX4_cheapest_73 : decode cX4_cheapest 73 = .ok (.iastore, 1) := by decide +kernel
theorem dX4_cheapest_74 : decode cX4_cheapest 74 = .ok (.iinc 4 1, 3) := by decide +kernel
theorem dX4_cheapest_77 : decode cX4_cheapest 77 = .ok (.goto (-35), 3) := by decide +kernel
theorem dX4_cheapest_80 : decode cX4_cheapest 80 = .ok (.aload_n 0, 1) := by decide +kernel
theorem dX4_cheapest_81 : decode cX4_cheapest 81 = .ok (.getfield 18, 3) := by decide +kernel
theorem dX4_cheapest_84 : decode cX4_cheapest 84 = .ok (.iconst 0, 1) := by decide +kernel
theorem dX4_cheapest_85 : decode cX4_cheapest 85 = .ok (.aload_n 0, 1) := by decide +kernel
theorem dX4_cheapest_86 : decode cX4_cheapest 86 = .ok (.getfield 15, 3) := by decide +kernel
theorem dX4_cheapest_89 : decode cX4_cheapest 89 = .ok (.iconst 0, 1) := by decide +kernel
theorem dX4_cheapest_90 : decode cX4_cheapest 90 = .ok (.iconst 4, 1) := by decide +kernel
theorem dX4_cheapest_91 : decode cX4_cheapest 91 = .ok (.invokestatic 32, 3) := by decide +kernel
theorem dX4_cheapest_94 : decode cX4_cheapest 94 = .ok (.iinc 3 1, 3) := by decide +kernel
theorem dX4_cheapest_97 : decode cX4_cheapest 97 = .ok (.goto (-66), 3) := by decide +kernel
theorem dX4_cheapest_100 : decode cX4_cheapest 100 = .ok (.aload_n 0, 1) := by decide +kernel
theorem dX4_cheapest_101 : decode cX4_cheapest 101 = .ok (.getfield 15, 3) := by decide +kernel
theorem dX4_cheapest_104 : decode cX4_cheapest 104 = .ok (.iconst 0, 1) := by decide +kernel
theorem dX4_cheapest_105 : decode cX4_cheapest 105 = .ok (.iaload, 1) := by decide +kernel
theorem dX4_cheapest_106 : decode cX4_cheapest 106 = .ok (.istore_n 3, 1) := by decide +kernel
theorem dX4_cheapest_107 : decode cX4_cheapest 107 = .ok (.iconst 1, 1) := by decide +kernel
theorem dX4_cheapest_108 : decode cX4_cheapest 108 = .ok (.istore 4, 2) := by decide +kernel
theorem dX4_cheapest_110 : decode cX4_cheapest 110 = .ok (.iload 4, 2) := by decide +kernel
theorem dX4_cheapest_112 : decode cX4_cheapest 112 = .ok (.iconst 4, 1) := by decide +kernel
theorem dX4_cheapest_113 : decode cX4_cheapest 113 = .ok (.if_icmp .ge 21, 3) := by decide +kernel
theorem dX4_cheapest_116 : decode cX4_cheapest 116 = .ok (.iload_n 3, 1) := by decide +kernel
theorem dX4_cheapest_117 : decode cX4_cheapest 117 = .ok (.aload_n 0, 1) := by decide +kernel
theorem dX4_cheapest_118 : decode cX4_cheapest 118 = .ok (.getfield 15, 3) := by decide +kernel
theorem dX4_cheapest_121 : decode cX4_cheapest 121 = .ok (.iload 4, 2) := by decide +kernel
theorem dX4_cheapest_123 : decode cX4_cheapest 123 = .ok (.iaload, 1) := by decide +kernel
theorem dX4_cheapest_124 : decode cX4_cheapest 124 = .ok (.invokestatic 38, 3) := by decide +kernel
theorem dX4_cheapest_127 : decode cX4_cheapest 127 = .ok (.istore_n 3, 1) := by decide +kernel
theorem dX4_cheapest_128 : decode cX4_cheapest 128 = .ok (.iinc 4 1, 3) := by decide +kernel
theorem dX4_cheapest_131 : decode cX4_cheapest 131 = .ok (.goto (-21), 3) := by decide +kernel
theorem dX4_cheapest_134 : decode cX4_cheapest 134 = .ok (.iload_n 3, 1) := by decide +kernel
theorem dX4_cheapest_135 : decode cX4_cheapest 135 = .ok (.ireturn, 1) := by decide +kernel
theorem dX4_leastTo_0 : decode cX4_leastTo 0 = .ok (.ldc 44, 2) := by decide +kernel
theorem dX4_leastTo_2 : decode cX4_leastTo 2 = .ok (.istore_n 3, 1) := by decide +kernel
theorem dX4_leastTo_3 : decode cX4_leastTo 3 = .ok (.iconst 0, 1) := by decide +kernel
theorem dX4_leastTo_4 : decode cX4_leastTo 4 = .ok (.istore 4, 2) := by decide +kernel
theorem dX4_leastTo_6 : decode cX4_leastTo 6 = .ok (.iload 4, 2) := by decide +kernel
theorem dX4_leastTo_8 : decode cX4_leastTo 8 = .ok (.iconst 4, 1) := by decide +kernel
theorem dX4_leastTo_9 : decode cX4_leastTo 9 = .ok (.if_icmp .ge 41, 3) := by decide +kernel
theorem dX4_leastTo_12 : decode cX4_leastTo 12 = .ok (.aload_n 2, 1) := by decide +kernel
theorem dX4_leastTo_13 : decode cX4_leastTo 13 = .ok (.iload 4, 2) := by decide +kernel
theorem dX4_leastTo_15 : decode cX4_leastTo 15 = .ok (.iaload, 1) := by decide +kernel
theorem dX4_leastTo_16 : decode cX4_leastTo 16 = .ok (.aload_n 2, 1) := by decide +kernel
theorem dX4_leastTo_17 : decode cX4_leastTo 17 = .ok (.iload_n 1, 1) := by decide +kernel
theorem dX4_leastTo_18 : decode cX4_leastTo 18 = .ok (.iaload, 1) := by decide +kernel
theorem dX4_leastTo_19 : decode cX4_leastTo 19 = .ok (.invokestatic 45, 3) := by decide +kernel
theorem dX4_leastTo_22 : decode cX4_leastTo 22 = .ok (.istore 5, 2) := by decide +kernel
theorem dX4_leastTo_24 : decode cX4_leastTo 24 = .ok (.iload_n 3, 1) := by decide +kernel
theorem dX4_leastTo_25 : decode cX4_leastTo 25 = .ok (.aload_n 0, 1) := by decide +kernel
theorem dX4_leastTo_26 : decode cX4_leastTo 26 = .ok (.getfield 15, 3) := by decide +kernel
theorem dX4_leastTo_29 : decode cX4_leastTo 29 = .ok (.iload 4, 2) := by decide +kernel
theorem dX4_leastTo_31 : decode cX4_leastTo 31 = .ok (.iaload, 1) := by decide +kernel
theorem dX4_leastTo_32 : decode cX4_leastTo 32 = .ok (.aload_n 0, 1) := by decide +kernel
theorem dX4_leastTo_33 : decode cX4_leastTo 33 = .ok (.getfield 21, 3) := by decide +kernel
theorem dX4_leastTo_36 : decode cX4_leastTo 36 = .ok (.iload 5, 2) := by decide +kernel
theorem dX4_leastTo_38 : decode cX4_leastTo 38 = .ok (.imul, 1) := by decide +kernel
theorem dX4_leastTo_39 : decode cX4_leastTo 39 = .ok (.iadd, 1) := by decide +kernel
theorem dX4_leastTo_40 : decode cX4_leastTo 40 = .ok (.invokestatic 38, 3) := by decide +kernel
theorem dX4_leastTo_43 : decode cX4_leastTo 43 = .ok (.istore_n 3, 1) := by decide +kernel
theorem dX4_leastTo_44 : decode cX4_leastTo 44 = .ok (.iinc 4 1, 3) := by decide +kernel
theorem dX4_leastTo_47 : decode cX4_leastTo 47 = .ok (.goto (-41), 3) := by decide +kernel
theorem dX4_leastTo_50 : decode cX4_leastTo 50 = .ok (.iload_n 3, 1) := by decide +kernel
theorem dX4_leastTo_51 : decode cX4_leastTo 51 = .ok (.ireturn, 1) := by decide +kernel
theorem dX5_init_0 : decode cX5_init 0 = .ok (.aload_n 0, 1) := by decide +kernel
theorem dX5_init_1 : decode cX5_init 1 = .ok (.invokespecial 1, 3) := by decide +kernel
theorem dX5_init_4 : decode cX5_init 4 = .ok (.aload_n 0, 1) := by decide +kernel
theorem dX5_init_5 : decode cX5_init 5 = .ok (.new 7, 3) := by decide +kernel
theorem dX5_init_8 : decode cX5_init 8 = .ok (.dup, 1) := by decide +kernel
theorem dX5_init_9 : decode cX5_init 9 = .ok (.invokespecial 9, 3) := by decide +kernel
theorem dX5_init_12 : decode cX5_init 12 = .ok (.putfield 10, 3) := by decide +kernel
theorem dX5_init_15 : decode cX5_init 15 = .ok (.aload_n 0, 1) := by decide +kernel
theorem dX5_init_16 : decode cX5_init 16 = .ok (.new 16, 3) := by decide +kernel
theorem dX5_init_19 : decode cX5_init 19 = .ok (.dup, 1) := by decide +kernel
theorem dX5_init_20 : decode cX5_init 20 = .ok (.invokespecial 18, 3) := by decide +kernel
theorem dX5_init_23 : decode cX5_init 23 = .ok (.putfield 19, 3) := by decide +kernel
theorem dX5_init_26 : decode cX5_init 26 = .ok (.aload_n 0, 1) := by decide +kernel
theorem dX5_init_27 : decode cX5_init 27 = .ok (.new 16, 3) := by decide +kernel
theorem dX5_init_30 : decode cX5_init 30 = .ok (.dup, 1) := by decide +kernel
theorem dX5_init_31 : decode cX5_init 31 = .ok (.invokespecial 18, 3) := by decide +kernel
theorem dX5_init_34 : decode cX5_init 34 = .ok (.putfield 23, 3) := by decide +kernel
theorem dX5_init_37 : decode cX5_init 37 = .ok (.aload_n 0, 1) := by decide +kernel
theorem dX5_init_38 : decode cX5_init 38 = .ok (.new 26, 3) := by decide +kernel
theorem dX5_init_41 : decode cX5_init 41 = .ok (.dup, 1) := by decide +kernel
theorem dX5_init_42 : decode cX5_init 42 = .ok (.invokespecial 28, 3) := by decide +kernel
theorem dX5_init_45 : decode cX5_init 45 = .ok (.putfield 29, 3) := by decide +kernel
theorem dX5_init_48 : decode cX5_init 48 = .ok (.aload_n 0, 1) := by decide +kernel
theorem dX5_init_49 : decode cX5_init 49 = .ok (.new 33, 3) := by decide +kernel
theorem dX5_init_52 : decode cX5_init 52 = .ok (.dup, 1) := by decide +kernel
theorem dX5_init_53 : decode cX5_init 53 = .ok (.invokespecial 35, 3) := by decide +kernel
theorem dX5_init_56 : decode cX5_init 56 = .ok (.putfield 36, 3) := by decide +kernel
theorem dX5_init_59 : decode cX5_init 59 = .ok (.aload_n 0, 1) := by decide +kernel
theorem dX5_init_60 : decode cX5_init 60 = .ok (.new 40, 3) := by decide +kernel
theorem dX5_init_63 : decode cX5_init 63 = .ok (.dup, 1) := by decide +kernel
theorem dX5_init_64 : decode cX5_init 64 = .ok (.invokespecial 42, 3) := by decide +kernel
theorem dX5_init_67 : decode cX5_init 67 = .ok (.putfield 43, 3) := by decide +kernel
theorem dX5_init_70 : decode cX5_init 70 = .ok (.aload_n 0, 1) := by decide +kernel
theorem dX5_init_71 : decode cX5_init 71 = .ok (.bipush 7, 2) := by decide +kernel
theorem dX5_init_73 : decode cX5_init 73 = .ok (.newarray .int, 2) := by decide +kernel
theorem dX5_init_75 : decode cX5_init 75 = .ok (.putfield 47, 3) := by decide +kernel
theorem dX5_init_78 : decode cX5_init 78 = .ok (.aload_n 0, 1) := by decide +kernel
theorem dX5_init_79 : decode cX5_init 79 = .ok (.bipush 7, 2) := by decide +kernel
theorem dX5_init_81 : decode cX5_init 81 = .ok (.newarray .int, 2) := by decide +kernel
theorem dX5_init_83 : decode cX5_init 83 = .ok (.putfield 51, 3) := by decide +kernel
theorem dX5_init_86 : decode cX5_init 86 = .ok (.aload_n 0, 1) := by decide +kernel
theorem dX5_init_87 : decode cX5_init 87 = .ok (.iconst 4, 1) := by decide +kernel
theorem dX5_init_88 : decode cX5_init 88 = .ok (.newarray .int, 2) := by decide +kernel
theorem dX5_init_90 : decode cX5_init 90 = .ok (.putfield 54, 3) := by decide +kernel
theorem dX5_init_93 : decode cX5_init 93 = .ok (.aload_n 0, 1) := by decide +kernel
theorem dX5_init_94 : decode cX5_init 94 = .ok (.iconst 4, 1) := by decide +kernel
theorem dX5_init_95 : decode cX5_init 95 = .ok (.newarray .int, 2) := by decide +kernel
theorem dX5_init_97 : decode cX5_init 97 = .ok (.putfield 57, 3) := by decide +kernel
theorem dX5_init_100 : decode cX5_init 100 = .ok (.aload_n 0, 1) := by decide +kernel
theorem dX5_init_101 : decode cX5_init 101 = .ok (.sipush 201, 3) := by decide +kernel
theorem dX5_init_104 : decode cX5_init 104 = .ok (.newarray .int, 2) := by decide +kernel
theorem dX5_init_106 : decode cX5_init 106 = .ok (.putfield 60, 3) := by decide +kernel
theorem dX5_init_109 : decode cX5_init 109 = .ok (.aload_n 0, 1) := by decide +kernel
theorem dX5_init_110 : decode cX5_init 110 = .ok (.iconst 4, 1) := by decide +kernel
theorem dX5_init_111 : decode cX5_init 111 = .ok (.iconst 4, 1) := by decide +kernel
theorem dX5_init_112 : decode cX5_init 112 = .ok (.invokevirtual 63, 3) := by decide +kernel
theorem dX5_init_115 : decode cX5_init 115 = .ok (.return_, 1) := by decide +kernel
theorem dX5_works_0 : decode cX5_works 0 = .ok (.iload_n 1, 1) := by decide +kernel
theorem dX5_works_1 : decode cX5_works 1 = .ok (.iconst 1, 1) := by decide +kernel
theorem dX5_works_2 : decode cX5_works 2 = .ok (.bipush 7, 2) := by decide +kernel
theorem dX5_works_4 : decode cX5_works 4 = .ok (.invokestatic 67, 3) := by decide +kernel
theorem dX5_works_7 : decode cX5_works 7 = .ok (.ifCond .eq 13, 3) := by decide +kernel
theorem dX5_works_10 : decode cX5_works 10 = .ok (.iload_n 2, 1) := by decide +kernel
theorem dX5_works_11 : decode cX5_works 11 = .ok (.iconst 1, 1) := by decide +kernel
theorem dX5_works_12 : decode cX5_works 12 = .ok (.bipush 8, 2) := by decide +kernel
theorem dX5_works_14 : decode cX5_works 14 = .ok (.invokestatic 67, 3) := by decide +kernel
theorem dX5_works_17 : decode cX5_works 17 = .ok (.ifCond .ne 5, 3) := by decide +kernel
theorem dX5_works_20 : decode cX5_works 20 = .ok (.iconst (-1), 1) := by decide +kernel
theorem dX5_works_21 : decode cX5_works 21 = .ok (.ireturn, 1) := by decide +kernel
theorem dX5_works_22 : decode cX5_works 22 = .ok (.aload_n 0, 1) := by decide +kernel
theorem dX5_works_23 : decode cX5_works 23 = .ok (.getfield 71, 3) := by decide +kernel
theorem dX5_works_26 : decode cX5_works 26 = .ok (.istore_n 3, 1) := by decide +kernel
theorem dX5_works_27 : decode cX5_works 27 = .ok (.aload_n 0, 1) := by decide +kernel
theorem dX5_works_28 : decode cX5_works 28 = .ok (.iload_n 1, 1) := by decide +kernel
theorem dX5_works_29 : decode cX5_works 29 = .ok (.iload_n 2, 1) := by decide +kernel
theorem dX5_works_30 : decode cX5_works 30 = .ok (.invokevirtual 63, 3) := by decide +kernel
theorem dX5_works_33 : decode cX5_works 33 = .ok (.iload_n 3, 1) := by decide +kernel
theorem dX5_works_34 : decode cX5_works 34 = .ok (.ireturn, 1) := by decide +kernel
theorem dX5_route_0 : decode cX5_route 0 = .ok (.aload_n 0, 1) := by decide +kernel
theorem dX5_route_1 : decode cX5_route 1 = .ok (.iload_n 1, 1) := by decide +kernel
theorem dX5_route_2 : decode cX5_route 2 = .ok (.invokevirtual 75, 3) := by decide +kernel
theorem dX5_route_5 : decode cX5_route 5 = .ok (.ifCond .eq 28, 3) := by decide +kernel
theorem dX5_route_8 : decode cX5_route 8 = .ok (.iload_n 2, 1) := by decide +kernel
theorem dX5_route_9 : decode cX5_route 9 = .ok (.iconst 0, 1) := by decide +kernel
theorem dX5_route_10 : decode cX5_route 10 = .ok (.iconst 1, 1) := by decide +kernel
theorem dX5_route_11 : decode cX5_route 11 = .ok (.invokestatic 67, 3) := by decide +kernel
theorem dX5_route_14 : decode cX5_route 14 = .ok (.ifCond .eq 19, 3) := by decide +kernel
theorem dX5_route_17 : decode cX5_route 17 = .ok (.iload_n 3, 1) := by decide +kernel
theorem dX5_route_18 : decode cX5_route 18 = .ok (.iconst 0, 1) := by decide +kernel
theorem dX5_route_19 : decode cX5_route 19 = .ok (.iconst 1, 1) := by decide +kernel
theorem dX5_route_20 : decode cX5_route 20 = .ok (.aload_n 0, 1) := by decide +kernel
theorem dX5_route_21 : decode cX5_route 21 = .ok (.getfield 71, 3) := by decide +kernel
theorem dX5_route_24 : decode cX5_route 24 = .ok (.ishl, 1) := by decide +kernel
theorem dX5_route_25 : decode cX5_route 25 = .ok (.iconst 1, 1) := by decide +kernel
theorem dX5_route_26 : decode cX5_route 26 = .ok (.isub, 1) := by decide +kernel
theorem dX5_route_27 : decode cX5_route 27 = .ok (.invokestatic 67, 3) := by decide +kernel
theorem dX5_route_30 : decode cX5_route 30 = .ok (.ifCond .ne 5, 3) := by decide +kernel
theorem dX5_route_33 : decode cX5_route 33 = .ok (.iconst (-1), 1) := by decide +kernel
theorem dX5_route_34 : decode cX5_route 34 = .ok (.ireturn, 1) := by decide +kernel
theorem dX5_route_35 : decode cX5_route 35 = .ok (.aload_n 0, 1) := by decide +kernel
theorem dX5_route_36 : decode cX5_route 36 = .ok (.getfield 10, 3) := by decide +kernel
theorem dX5_route_39 : decode cX5_route 39 = .ok (.iload_n 1, 1) := by decide +kernel
theorem dX5_route_40 : decode cX5_route 40 = .ok (.iload_n 2, 1) := by decide +kernel
theorem dX5_route_41 : decode cX5_route 41 = .ok (.invokevirtual 79, 3) := by decide +kernel
theorem dX5_route_44 : decode cX5_route 44 = .ok (.istore 4, 2) := by decide +kernel
theorem dX5_route_46 : decode cX5_route 46 = .ok (.aload_n 0, 1) := by decide +kernel
theorem dX5_route_47 : decode cX5_route 47 = .ok (.getfield 10, 3) := by decide +kernel
theorem dX5_route_50 : decode cX5_route 50 = .ok (.iload_n 1, 1) := by decide +kernel
theorem dX5_route_51 : decode cX5_route 51 = .ok (.iload_n 2, 1) := by decide +kernel
theorem dX5_route_52 : decode cX5_route 52 = .ok (.iload_n 3, 1) := by decide +kernel
theorem dX5_route_53 : decode cX5_route 53 = .ok (.invokevirtual 83, 3) := by decide +kernel
theorem dX5_route_56 : decode cX5_route 56 = .ok (.iload 4, 2) := by decide +kernel
theorem dX5_route_58 : decode cX5_route 58 = .ok (.ireturn, 1) := by decide +kernel
theorem dX5_goes_0 : decode cX5_goes 0 = .ok (.aload_n 0, 1) := by decide +kernel
theorem dX5_goes_1 : decode cX5_goes 1 = .ok (.iload_n 1, 1) := by decide +kernel
theorem dX5_goes_2 : decode cX5_goes 2 = .ok (.invokevirtual 75, 3) := by decide +kernel
theorem dX5_goes_5 : decode cX5_goes 5 = .ok (.ifCond .eq 12, 3) := by decide +kernel
theorem dX5_goes_8 : decode cX5_goes 8 = .ok (.iload_n 2, 1) := by decide +kernel
theorem dX5_goes_9 : decode cX5_goes 9 = .ok (.iconst 0, 1) := by decide +kernel
theorem dX5_goes_10 : decode cX5_goes 10 = .ok (.iconst 1, 1) := by decide +kernel
theorem dX5_goes_11 : decode cX5_goes 11 = .ok (.invokestatic 67, 3) := by decide +kernel
theorem dX5_goes_14 : decode cX5_goes 14 = .ok (.ifCond .ne 5, 3) := by decide +kernel
theorem dX5_goes_17 : decode cX5_goes 17 = .ok (.iconst (-1), 1) := by decide +kernel
theorem dX5_goes_18 : decode cX5_goes 18 = .ok (.ireturn, 1) := by decide +kernel
theorem dX5_goes_19 : decode cX5_goes 19 = .ok (.aload_n 0, 1) := by decide +kernel
theorem dX5_goes_20 : decode cX5_goes 20 = .ok (.getfield 10, 3) := by decide +kernel
theorem dX5_goes_23 : decode cX5_goes 23 = .ok (.iload_n 1, 1) := by decide +kernel
theorem dX5_goes_24 : decode cX5_goes 24 = .ok (.invokevirtual 87, 3) := by decide +kernel
theorem dX5_goes_27 : decode cX5_goes 27 = .ok (.istore_n 3, 1) := by decide +kernel
theorem dX5_goes_28 : decode cX5_goes 28 = .ok (.aload_n 0, 1) := by decide +kernel
theorem dX5_goes_29 : decode cX5_goes 29 = .ok (.getfield 10, 3) := by decide +kernel
theorem dX5_goes_32 : decode cX5_goes 32 = .ok (.iload_n 1, 1) := by decide +kernel
theorem dX5_goes_33 : decode cX5_goes 33 = .ok (.iload_n 2, 1) := by decide +kernel
theorem dX5_goes_34 : decode cX5_goes 34 = .ok (.invokevirtual 91, 3) := by decide +kernel
theorem dX5_goes_37 : decode cX5_goes 37 = .ok (.iload_n 3, 1) := by decide +kernel
theorem dX5_goes_38 : decode cX5_goes 38 = .ok (.ireturn, 1) := by decide +kernel
theorem dX5_pieces_0 : decode cX5_pieces 0 = .ok (.aload_n 0, 1) := by decide +kernel
theorem dX5_pieces_1 : decode cX5_pieces 1 = .ok (.iload_n 1, 1) := by decide +kernel
theorem dX5_pieces_2 : decode cX5_pieces 2 = .ok (.invokevirtual 75, 3) := by decide +kernel
theorem dX5_pieces_5 : decode cX5_pieces 5 = .ok (.ifCond .eq 13, 3) := by decide +kernel
theorem dX5_pieces_8 : decode cX5_pieces 8 = .ok (.iload_n 2, 1) := by decide +kernel
theorem dX5_pieces_9 : decode cX5_pieces 9 = .ok (.iconst 1, 1) := by decide +kernel
theorem dX5_pieces_10 : decode cX5_pieces 10 = .ok (.bipush 9, 2) := by decide +kernel
theorem dX5_pieces_12 : decode cX5_pieces 12 = .ok (.invokestatic 67, 3) := by decide +kernel
theorem dX5_pieces_15 : decode cX5_pieces 15 = .ok (.ifCond .ne 5, 3) := by decide +kernel
theorem dX5_pieces_18 : decode cX5_pieces 18 = .ok (.iconst (-1), 1) := by decide +kernel
theorem dX5_pieces_19 : decode cX5_pieces 19 = .ok (.ireturn, 1) := by decide +kernel
theorem dX5_pieces_20 : decode cX5_pieces 20 = .ok (.aload_n 0, 1) := by decide +kernel
theorem dX5_pieces_21 : decode cX5_pieces 21 = .ok (.getfield 10, 3) := by decide +kernel
theorem dX5_pieces_24 : decode cX5_pieces 24 = .ok (.iload_n 1, 1) := by decide +kernel
theorem dX5_pieces_25 : decode cX5_pieces 25 = .ok (.invokevirtual 94, 3) := by decide +kernel
theorem dX5_pieces_28 : decode cX5_pieces 28 = .ok (.istore_n 3, 1) := by decide +kernel
theorem dX5_pieces_29 : decode cX5_pieces 29 = .ok (.aload_n 0, 1) := by decide +kernel
theorem dX5_pieces_30 : decode cX5_pieces 30 = .ok (.getfield 10, 3) := by decide +kernel
theorem dX5_pieces_33 : decode cX5_pieces 33 = .ok (.iload_n 1, 1) := by decide +kernel
theorem dX5_pieces_34 : decode cX5_pieces 34 = .ok (.iload_n 2, 1) := by decide +kernel
theorem dX5_pieces_35 : decode cX5_pieces 35 = .ok (.invokevirtual 97, 3) := by decide +kernel
theorem dX5_pieces_38 : decode cX5_pieces 38 = .ok (.iload_n 3, 1) := by decide +kernel
theorem dX5_pieces_39 : decode cX5_pieces 39 = .ok (.ireturn, 1) := by decide +kernel
theorem dX5_cell_0 : decode cX5_cell 0 = .ok (.aload_n 0, 1) := by decide +kernel
theorem dX5_cell_1 : decode cX5_cell 1 = .ok (.iload_n 1, 1) := by decide +kernel
theorem dX5_cell_2 : decode cX5_cell 2 = .ok (.invokevirtual 100, 3) := by decide +kernel
theorem dX5_cell_5 : decode cX5_cell 5 = .ok (.ifCond .eq 10, 3) := by decide +kernel
theorem dX5_cell_8 : decode cX5_cell 8 = .ok (.iload_n 2, 1) := by decide +kernel
theorem dX5_cell_9 : decode cX5_cell 9 = .ok (.invokestatic 103, 3) := by decide +kernel
theorem dX5_cell_12 : decode cX5_cell 12 = .ok (.ifCond .ne 5, 3) := by decide +kernel
theorem dX5_cell_15 : decode cX5_cell 15 = .ok (.iconst (-1), 1) := by decide +kernel
theorem dX5_cell_16 : decode cX5_cell 16 = .ok (.ireturn, 1) := by decide +kernel
theorem dX5_cell_17 : decode cX5_cell 17 = .ok (.aload_n 0, 1) := by decide +kernel
theorem dX5_cell_18 : decode cX5_cell 18 = .ok (.getfield 19, 3) := by decide +kernel
theorem dX5_cell_21 : decode cX5_cell 21 = .ok (.iload_n 1, 1) := by decide +kernel
theorem dX5_cell_22 : decode cX5_cell 22 = .ok (.invokevirtual 106, 3) := by decide +kernel
theorem dX5_cell_25 : decode cX5_cell 25 = .ok (.istore_n 3, 1) := by decide +kernel
theorem dX5_cell_26 : decode cX5_cell 26 = .ok (.aload_n 0, 1) := by decide +kernel
theorem dX5_cell_27 : decode cX5_cell 27 = .ok (.getfield 19, 3) := by decide +kernel
theorem dX5_cell_30 : decode cX5_cell 30 = .ok (.iload_n 1, 1) := by decide +kernel
theorem dX5_cell_31 : decode cX5_cell 31 = .ok (.iload_n 2, 1) := by decide +kernel
theorem dX5_cell_32 : decode cX5_cell 32 = .ok (.invokevirtual 109, 3) := by decide +kernel
theorem dX5_cell_35 : decode cX5_cell 35 = .ok (.iload_n 3, 1) := by decide +kernel
theorem dX5_cell_36 : decode cX5_cell 36 = .ok (.ireturn, 1) := by decide +kernel
theorem dX5_group_0 : decode cX5_group 0 = .ok (.iload_n 1, 1) := by decide +kernel
theorem dX5_group_1 : decode cX5_group 1 = .ok (.iconst 0, 1) := by decide +kernel
theorem dX5_group_2 : decode cX5_group 2 = .ok (.aload_n 0, 1) := by decide +kernel
theorem dX5_group_3 : decode cX5_group 3 = .ok (.invokevirtual 112, 3) := by decide +kernel
theorem dX5_group_6 : decode cX5_group 6 = .ok (.iconst 1, 1) := by decide +kernel
theorem dX5_group_7 : decode cX5_group 7 = .ok (.isub, 1) := by decide +kernel
theorem dX5_group_8 : decode cX5_group 8 = .ok (.invokestatic 67, 3) := by decide +kernel
theorem dX5_group_11 : decode cX5_group 11 = .ok (.ifCond .ne 5, 3) := by decide +kernel
theorem dX5_group_14 : decode cX5_group 14 = .ok (.iconst (-1), 1) := by decide +kernel
theorem dX5_group_15 : decode cX5_group 15 = .ok (.ireturn, 1) := by decide +kernel
theorem dX5_group_16 : decode cX5_group 16 = .ok (.aload_n 0, 1) := by decide +kernel
theorem dX5_group_17 : decode cX5_group 17 = .ok (.getfield 19, 3) := by decide +kernel
theorem dX5_group_20 : decode cX5_group 20 = .ok (.invokevirtual 116, 3) := by decide +kernel
theorem dX5_group_23 : decode cX5_group 23 = .ok (.istore_n 2, 1) := by decide +kernel
theorem dX5_group_24 : decode cX5_group 24 = .ok (.aload_n 0, 1) := by decide +kernel
theorem dX5_group_25 : decode cX5_group 25 = .ok (.getfield 19, 3) := by decide +kernel
theorem dX5_group_28 : decode cX5_group 28 = .ok (.iload_n 1, 1) := by decide +kernel
theorem dX5_group_29 : decode cX5_group 29 = .ok (.aload_n 0, 1) := by decide +kernel
theorem dX5_group_30 : decode cX5_group 30 = .ok (.getfield 71, 3) := by decide +kernel
theorem dX5_group_33 : decode cX5_group 33 = .ok (.invokevirtual 119, 3) := by decide +kernel
theorem dX5_group_36 : decode cX5_group 36 = .ok (.iload_n 2, 1) := by decide +kernel
theorem dX5_group_37 : decode cX5_group 37 = .ok (.ireturn, 1) := by decide +kernel
theorem dX5_about_0 : decode cX5_about 0 = .ok (.aload_n 0, 1) := by decide +kernel
theorem dX5_about_1 : decode cX5_about 1 = .ok (.iload_n 1, 1) := by decide +kernel
theorem dX5_about_2 : decode cX5_about 2 = .ok (.invokevirtual 75, 3) := by decide +kernel
theorem dX5_about_5 : decode cX5_about 5 = .ok (.ifCond .ne 5, 3) := by decide +kernel
theorem dX5_about_8 : decode cX5_about 8 = .ok (.iconst (-1), 1) := by decide +kernel
theorem dX5_about_9 : decode cX5_about 9 = .ok (.ireturn, 1) := by decide +kernel
theorem dX5_about_10 : decode cX5_about 10 = .ok (.aload_n 0, 1) := by decide +kernel
theorem dX5_about_11 : decode cX5_about 11 = .ok (.getfield 10, 3) := by decide +kernel
theorem dX5_about_14 : decode cX5_about 14 = .ok (.iload_n 1, 1) := by decide +kernel
theorem dX5_about_15 : decode cX5_about 15 = .ok (.invokevirtual 122, 3) := by decide +kernel
theorem dX5_about_18 : decode cX5_about 18 = .ok (.istore_n 3, 1) := by decide +kernel
theorem dX5_about_19 : decode cX5_about 19 = .ok (.iload_n 2, 1) := by decide +kernel
theorem dX5_about_20 : decode cX5_about 20 = .ok (.tableswitch 87 0 5 #[40, 49, 58, 67, 76, 85], 40) := by decide +kernel
theorem dX5_about_60 : decode cX5_about 60 = .ok (.aload_n 0, 1) := by decide +kernel
theorem dX5_about_61 : decode cX5_about 61 = .ok (.getfield 19, 3) := by decide +kernel
theorem dX5_about_64 : decode cX5_about 64 = .ok (.iload_n 3, 1) := by decide +kernel
theorem dX5_about_65 : decode cX5_about 65 = .ok (.invokevirtual 125, 3) := by decide +kernel
theorem dX5_about_68 : decode cX5_about 68 = .ok (.ireturn, 1) := by decide +kernel
theorem dX5_about_69 : decode cX5_about 69 = .ok (.aload_n 0, 1) := by decide +kernel
theorem dX5_about_70 : decode cX5_about 70 = .ok (.getfield 19, 3) := by decide +kernel
theorem dX5_about_73 : decode cX5_about 73 = .ok (.iload_n 3, 1) := by decide +kernel
theorem dX5_about_74 : decode cX5_about 74 = .ok (.invokevirtual 128, 3) := by decide +kernel
theorem dX5_about_77 : decode cX5_about 77 = .ok (.ireturn, 1) := by decide +kernel
theorem dX5_about_78 : decode cX5_about 78 = .ok (.aload_n 0, 1) := by decide +kernel
theorem dX5_about_79 : decode cX5_about 79 = .ok (.getfield 19, 3) := by decide +kernel
theorem dX5_about_82 : decode cX5_about 82 = .ok (.iload_n 3, 1) := by decide +kernel
theorem dX5_about_83 : decode cX5_about 83 = .ok (.invokevirtual 131, 3) := by decide +kernel
theorem dX5_about_86 : decode cX5_about 86 = .ok (.ireturn, 1) := by decide +kernel
theorem dX5_about_87 : decode cX5_about 87 = .ok (.aload_n 0, 1) := by decide +kernel
theorem dX5_about_88 : decode cX5_about 88 = .ok (.getfield 10, 3) := by decide +kernel
theorem dX5_about_91 : decode cX5_about 91 = .ok (.iload_n 1, 1) := by decide +kernel
theorem dX5_about_92 : decode cX5_about 92 = .ok (.invokevirtual 94, 3) := by decide +kernel
theorem dX5_about_95 : decode cX5_about 95 = .ok (.ireturn, 1) := by decide +kernel
theorem dX5_about_96 : decode cX5_about 96 = .ok (.aload_n 0, 1) := by decide +kernel
theorem dX5_about_97 : decode cX5_about 97 = .ok (.getfield 10, 3) := by decide +kernel
theorem dX5_about_100 : decode cX5_about 100 = .ok (.iload_n 1, 1) := by decide +kernel
theorem dX5_about_101 : decode cX5_about 101 = .ok (.invokevirtual 87, 3) := by decide +kernel
theorem dX5_about_104 : decode cX5_about 104 = .ok (.ireturn, 1) := by decide +kernel
theorem dX5_about_105 : decode cX5_about 105 = .ok (.iload_n 3, 1) := by decide +kernel
theorem dX5_about_106 : decode cX5_about 106 = .ok (.ireturn, 1) := by decide +kernel
theorem dX5_about_107 : decode cX5_about 107 = .ok (.iconst (-1), 1) := by decide +kernel
theorem dX5_about_108 : decode cX5_about 108 = .ok (.ireturn, 1) := by decide +kernel
theorem dX5_loss_0 : decode cX5_loss 0 = .ok (.iload_n 1, 1) := by decide +kernel
theorem dX5_loss_1 : decode cX5_loss 1 = .ok (.invokestatic 134, 3) := by decide +kernel
theorem dX5_loss_4 : decode cX5_loss 4 = .ok (.ifCond .ne 5, 3) := by decide +kernel
theorem dX5_loss_7 : decode cX5_loss 7 = .ok (.iconst (-1), 1) := by decide +kernel
theorem dX5_loss_8 : decode cX5_loss 8 = .ok (.ireturn, 1) := by decide +kernel
theorem dX5_loss_9 : decode cX5_loss 9 = .ok (.aload_n 0, 1) := by decide +kernel
theorem dX5_loss_10 : decode cX5_loss 10 = .ok (.dup, 1) := by decide +kernel
theorem dX5_loss_11 : decode cX5_loss 11 = .ok (.getfield 137, 3) := by decide +kernel
theorem dX5_loss_14 : decode cX5_loss 14 = .ok (.getstatic 141, 3) := by decide +kernel
theorem dX5_loss_17 : decode cX5_loss 17 = .ok (.iload_n 1, 1) := by decide +kernel
theorem dX5_loss_18 : decode cX5_loss 18 = .ok (.iaload, 1) := by decide +kernel
theorem dX5_loss_19 : decode cX5_loss 19 = .ok (.i2l, 1) := by decide +kernel
theorem dX5_loss_20 : decode cX5_loss 20 = .ok (.ladd, 1) := by decide +kernel
theorem dX5_loss_21 : decode cX5_loss 21 = .ok (.putfield 137, 3) := by decide +kernel
theorem dX5_loss_24 : decode cX5_loss 24 = .ok (.aload_n 0, 1) := by decide +kernel
theorem dX5_loss_25 : decode cX5_loss 25 = .ok (.aload_n 0, 1) := by decide +kernel
theorem dX5_loss_26 : decode cX5_loss 26 = .ok (.getfield 19, 3) := by decide +kernel
theorem dX5_loss_29 : decode cX5_loss 29 = .ok (.iload_n 1, 1) := by decide +kernel
theorem dX5_loss_30 : decode cX5_loss 30 = .ok (.invokevirtual 144, 3) := by decide +kernel
theorem dX5_loss_33 : decode cX5_loss 33 = .ok (.ireturn, 1) := by decide +kernel
theorem dX5_best_0 : decode cX5_best 0 = .ok (.iload_n 1, 1) := by decide +kernel
theorem dX5_best_1 : decode cX5_best 1 = .ok (.invokestatic 134, 3) := by decide +kernel
theorem dX5_best_4 : decode cX5_best 4 = .ok (.ifCond .eq 22, 3) := by decide +kernel
theorem dX5_best_7 : decode cX5_best 7 = .ok (.iload_n 2, 1) := by decide +kernel
theorem dX5_best_8 : decode cX5_best 8 = .ok (.iconst 1, 1) := by decide +kernel
theorem dX5_best_9 : decode cX5_best 9 = .ok (.bipush 7, 2) := by decide +kernel
theorem dX5_best_11 : decode cX5_best 11 = .ok (.invokestatic 67, 3) := by decide +kernel
theorem dX5_best_14 : decode cX5_best 14 = .ok (.ifCond .eq 12, 3) := by decide +kernel
theorem dX5_best_17 : decode cX5_best 17 = .ok (.iload_n 3, 1) := by decide +kernel
theorem dX5_best_18 : decode cX5_best 18 = .ok (.iconst 0, 1) := by decide +kernel
theorem dX5_best_19 : decode cX5_best 19 = .ok (.iconst 1, 1) := by decide +kernel
theorem dX5_best_20 : decode cX5_best 20 = .ok (.invokestatic 67, 3) := by decide +kernel
theorem dX5_best_23 : decode cX5_best 23 = .ok (.ifCond .ne 5, 3) := by decide +kernel
theorem dX5_best_26 : decode cX5_best 26 = .ok (.iconst (-1), 1) := by decide +kernel
theorem dX5_best_27 : decode cX5_best 27 = .ok (.ireturn, 1) := by decide +kernel
theorem dX5_best_28 : decode cX5_best 28 = .ok (.iconst 4, 1) := by decide +kernel
theorem dX5_best_29 : decode cX5_best 29 = .ok (.iload_n 2, 1) := by decide +kernel
theorem dX5_best_30 : decode cX5_best 30 = .ok (.imul, 1) := by decide +kernel
theorem dX5_best_31 : decode cX5_best 31 = .ok (.aload_n 0, 1) := by decide +kernel
theorem dX5_best_32 : decode cX5_best 32 = .ok (.getfield 71, 3) := by decide +kernel
theorem dX5_best_35 : decode cX5_best 35 = .ok (.if_icmp .ge 6, 3) := by decide +kernel
theorem dX5_best_38 : decode cX5_best 38 = .ok (.bipush (-2), 2) := by decide +kernel
theorem dX5_best_40 : decode cX5_best 40 = .ok (.ireturn, 1) := by decide +kernel
theorem dX5_best_41 : decode cX5_best 41 = .ok (.aload_n 0, 1) := by decide +kernel
theorem dX5_best_42 : decode cX5_best 42 = .ok (.iload_n 1, 1) := by decide +kernel
theorem dX5_best_43 : decode cX5_best 43 = .ok (.iload_n 2, 1) := by decide +kernel
theorem dX5_best_44 : decode cX5_best 44 = .ok (.invokevirtual 148, 3) := by decide +kernel
theorem dX5_best_47 : decode cX5_best 47 = .ok (.iload_n 3, 1) := by decide +kernel
theorem dX5_best_48 : decode cX5_best 48 = .ok (.ifCond .ne 10, 3) := by decide +kernel
theorem dX5_best_51 : decode cX5_best 51 = .ok (.aload_n 0, 1) := by decide +kernel
theorem dX5_best_52 : decode cX5_best 52 = .ok (.getfield 151, 3) := by decide +kernel
theorem dX5_best_55 : decode cX5_best 55 = .ok (.goto 7, 3) := by decide +kernel
theorem dX5_best_58 : decode cX5_best 58 = .ok (.aload_n 0, 1) := by decide +kernel
theorem dX5_best_59 : decode cX5_best 59 = .ok (.getfield 154, 3) := by decide +kernel
theorem dX5_best_62 : decode cX5_best 62 = .ok (.ireturn, 1) := by decide +kernel
theorem dX5_plain_0 : decode cX5_plain 0 = .ok (.aload_n 0, 1) := by decide +kernel
theorem dX5_plain_1 : decode cX5_plain 1 = .ok (.getfield 19, 3) := by decide +kernel
theorem dX5_plain_4 : decode cX5_plain 4 = .ok (.invokevirtual 116, 3) := by decide +kernel
theorem dX5_plain_7 : decode cX5_plain 7 = .ok (.aload_n 0, 1) := by decide +kernel
theorem dX5_plain_8 : decode cX5_plain 8 = .ok (.getfield 71, 3) := by decide +kernel
theorem dX5_plain_11 : decode cX5_plain 11 = .ok (.invokestatic 157, 3) := by decide +kernel
theorem dX5_plain_14 : decode cX5_plain 14 = .ok (.ifCond .eq 7, 3) := by decide +kernel
theorem dX5_plain_17 : decode cX5_plain 17 = .ok (.iconst 1, 1) := by decide +kernel
theorem dX5_plain_18 : decode cX5_plain 18 = .ok (.goto 4, 3) := by decide +kernel
theorem dX5_plain_21 : decode cX5_plain 21 = .ok (.iconst 0, 1) := by decide +kernel
theorem dX5_plain_22 : decode cX5_plain 22 = .ok (.ireturn, 1) := by decide +kernel
theorem dX5_like_0 : decode cX5_like 0 = .ok (.aload_n 0, 1) := by decide +kernel
theorem dX5_like_1 : decode cX5_like 1 = .ok (.iload_n 1, 1) := by decide +kernel
theorem dX5_like_2 : decode cX5_like 2 = .ok (.invokevirtual 100, 3) := by decide +kernel
theorem dX5_like_5 : decode cX5_like 5 = .ok (.ifCond .eq 25, 3) := by decide +kernel
theorem dX5_like_8 : decode cX5_like 8 = .ok (.aload_n 0, 1) := by decide +kernel
theorem dX5_like_9 : decode cX5_like 9 = .ok (.iload_n 2, 1) := by decide +kernel
theorem dX5_like_10 : decode cX5_like 10 = .ok (.invokevirtual 100, 3) := by decide +kernel
theorem dX5_like_13 : decode cX5_like 13 = .ok (.ifCond .eq 17, 3) := by decide +kernel
theorem dX5_like_16 : decode cX5_like 16 = .ok (.iload_n 1, 1) := by decide +kernel
theorem dX5_like_17 : decode cX5_like 17 = .ok (.iload_n 2, 1) := by decide +kernel
theorem dX5_like_18 : decode cX5_like 18 = .ok (.if_icmp .eq 12, 3) := by decide +kernel
theorem dX5_like_21 : decode cX5_like 21 = .ok (.iload_n 3, 1) := by decide +kernel
theorem dX5_like_22 : decode cX5_like 22 = .ok (.iconst 0, 1) := by decide +kernel
theorem dX5_like_23 : decode cX5_like 23 = .ok (.iconst 1, 1) := by decide +kernel
theorem dX5_like_24 : decode cX5_like 24 = .ok (.invokestatic 67, 3) := by decide +kernel
theorem dX5_like_27 : decode cX5_like 27 = .ok (.ifCond .ne 5, 3) := by decide +kernel
theorem dX5_like_30 : decode cX5_like 30 = .ok (.iconst (-1), 1) := by decide +kernel
theorem dX5_like_31 : decode cX5_like 31 = .ok (.ireturn, 1) := by decide +kernel
theorem dX5_like_32 : decode cX5_like 32 = .ok (.iload_n 3, 1) := by decide +kernel
theorem dX5_like_33 : decode cX5_like 33 = .ok (.ifCond .ne 15, 3) := by decide +kernel
theorem dX5_like_36 : decode cX5_like 36 = .ok (.aload_n 0, 1) := by decide +kernel
theorem dX5_like_37 : decode cX5_like 37 = .ok (.getfield 10, 3) := by decide +kernel
theorem dX5_like_40 : decode cX5_like 40 = .ok (.iload_n 1, 1) := by decide +kernel
theorem dX5_like_41 : decode cX5_like 41 = .ok (.iload_n 2, 1) := by decide +kernel
theorem dX5_like_42 : decode cX5_like 42 = .ok (.invokevirtual 161, 3) := by decide +kernel
theorem dX5_like_45 : decode cX5_like 45 = .ok (.goto 12, 3) := by decide +kernel
theorem dX5_like_48 : decode cX5_like 48 = .ok (.aload_n 0, 1) := by decide +kernel
theorem dX5_like_49 : decode cX5_like 49 = .ok (.getfield 10, 3) := by decide +kernel
theorem dX5_like_52 : decode cX5_like 52 = .ok (.iload_n 1, 1) := by decide +kernel
theorem dX5_like_53 : decode cX5_like 53 = .ok (.iload_n 2, 1) := by decide +kernel
theorem dX5_like_54 : decode cX5_like 54 = .ok (.invokevirtual 164, 3) := by decide +kernel
theorem dX5_like_57 : decode cX5_like 57 = .ok (.ireturn, 1) := by decide +kernel
theorem dX5_join_0 : decode cX5_join 0 = .ok (.iload_n 1, 1) := by decide +kernel
theorem dX5_join_1 : decode cX5_join 1 = .ok (.iconst 0, 1) := by decide +kernel
theorem dX5_join_2 : decode cX5_join 2 = .ok (.aload_n 0, 1) := by decide +kernel
theorem dX5_join_3 : decode cX5_join 3 = .ok (.getfield 71, 3) := by decide +kernel
theorem dX5_join_6 : decode cX5_join 6 = .ok (.iconst 2, 1) := by decide +kernel
theorem dX5_join_7 : decode cX5_join 7 = .ok (.isub, 1) := by decide +kernel
theorem dX5_join_8 : decode cX5_join 8 = .ok (.invokestatic 67, 3) := by decide +kernel
theorem dX5_join_11 : decode cX5_join 11 = .ok (.ifCond .eq 12, 3) := by decide +kernel
theorem dX5_join_14 : decode cX5_join 14 = .ok (.iload_n 2, 1) := by decide +kernel
theorem dX5_join_15 : decode cX5_join 15 = .ok (.iconst 0, 1) := by decide +kernel
theorem dX5_join_16 : decode cX5_join 16 = .ok (.iconst 3, 1) := by decide +kernel
theorem dX5_join_17 : decode cX5_join 17 = .ok (.invokestatic 67, 3) := by decide +kernel
theorem dX5_join_20 : decode cX5_join 20 = .ok (.ifCond .ne 5, 3) := by decide +kernel
theorem dX5_join_23 : decode cX5_join 23 = .ok (.iconst (-1), 1) := by decide +kernel
theorem dX5_join_24 : decode cX5_join 24 = .ok (.ireturn, 1) := by decide +kernel
theorem dX5_join_25 : decode cX5_join 25 = .ok (.aload_n 0, 1) := by decide +kernel
theorem dX5_join_26 : decode cX5_join 26 = .ok (.getfield 29, 3) := by decide +kernel
theorem dX5_join_29 : decode cX5_join 29 = .ok (.aload_n 0, 1) := by decide +kernel
theorem dX5_join_30 : decode cX5_join 30 = .ok (.getfield 10, 3) := by decide +kernel
theorem dX5_join_33 : decode cX5_join 33 = .ok (.aload_n 0, 1) := by decide +kernel
theorem dX5_join_34 : decode cX5_join 34 = .ok (.getfield 71, 3) := by decide +kernel
theorem dX5_join_37 : decode cX5_join 37 = .ok (.iload_n 1, 1) := by decide +kernel
theorem dX5_join_38 : decode cX5_join 38 = .ok (.iconst 1, 1) := by decide +kernel
theorem dX5_join_39 : decode cX5_join 39 = .ok (.iadd, 1) := by decide +kernel
theorem dX5_join_40 : decode cX5_join 40 = .ok (.invokevirtual 167, 3) := by decide +kernel
theorem dX5_join_43 : decode cX5_join 43 = .ok (.aload_n 0, 1) := by decide +kernel
theorem dX5_join_44 : decode cX5_join 44 = .ok (.getfield 29, 3) := by decide +kernel
theorem dX5_join_47 : decode cX5_join 47 = .ok (.iload_n 2, 1) := by decide +kernel
theorem dX5_join_48 : decode cX5_join 48 = .ok (.invokevirtual 171, 3) := by decide +kernel
theorem dX5_join_51 : decode cX5_join 51 = .ok (.ireturn, 1) := by decide +kernel
theorem dX5_bears_0 : decode cX5_bears 0 = .ok (.aload_n 0, 1) := by decide +kernel
theorem dX5_bears_1 : decode cX5_bears 1 = .ok (.iload_n 1, 1) := by decide +kernel
theorem dX5_bears_2 : decode cX5_bears 2 = .ok (.invokevirtual 100, 3) := by decide +kernel
theorem dX5_bears_5 : decode cX5_bears 5 = .ok (.ifCond .eq 13, 3) := by decide +kernel
theorem dX5_bears_8 : decode cX5_bears 8 = .ok (.iload_n 2, 1) := by decide +kernel
theorem dX5_bears_9 : decode cX5_bears 9 = .ok (.iconst 0, 1) := by decide +kernel
theorem dX5_bears_10 : decode cX5_bears 10 = .ok (.bipush 99, 2) := by decide +kernel
theorem dX5_bears_12 : decode cX5_bears 12 = .ok (.invokestatic 67, 3) := by decide +kernel
theorem dX5_bears_15 : decode cX5_bears 15 = .ok (.ifCond .ne 5, 3) := by decide +kernel
theorem dX5_bears_18 : decode cX5_bears 18 = .ok (.iconst (-1), 1) := by decide +kernel
theorem dX5_bears_19 : decode cX5_bears 19 = .ok (.ireturn, 1) := by decide +kernel
theorem dX5_bears_20 : decode cX5_bears 20 = .ok (.aload_n 0, 1) := by decide +kernel
theorem dX5_bears_21 : decode cX5_bears 21 = .ok (.getfield 47, 3) := by decide +kernel
theorem dX5_bears_24 : decode cX5_bears 24 = .ok (.iload_n 1, 1) := by decide +kernel
theorem dX5_bears_25 : decode cX5_bears 25 = .ok (.iaload, 1) := by decide +kernel
theorem dX5_bears_26 : decode cX5_bears 26 = .ok (.istore_n 3, 1) := by decide +kernel
theorem dX5_bears_27 : decode cX5_bears 27 = .ok (.aload_n 0, 1) := by decide +kernel
theorem dX5_bears_28 : decode cX5_bears 28 = .ok (.getfield 47, 3) := by decide +kernel
theorem dX5_bears_31 : decode cX5_bears 31 = .ok (.iload_n 1, 1) := by decide +kernel
theorem dX5_bears_32 : decode cX5_bears 32 = .ok (.iload_n 2, 1) := by decide +kernel
theorem dX5_bears_33 : decode cX5_bears 33 = .ok (.iastore, 1) := by decide +kernel
theorem dX5_bears_34 : decode cX5_bears 34 = .ok (.iload_n 3, 1) := by decide +kernel
theorem dX5_bears_35 : decode cX5_bears 35 = .ok (.ireturn, 1) := by decide +kernel
theorem dX5_load_0 : decode cX5_load 0 = .ok (.aload_n 0, 1) := by decide +kernel
theorem dX5_load_1 : decode cX5_load 1 = .ok (.iload_n 1, 1) := by decide +kernel
theorem dX5_load_2 : decode cX5_load 2 = .ok (.invokevirtual 100, 3) := by decide +kernel
theorem dX5_load_5 : decode cX5_load 5 = .ok (.ifCond .ne 5, 3) := by decide +kernel
theorem dX5_load_8 : decode cX5_load 8 = .ok (.iconst (-1), 1) := by decide +kernel
theorem dX5_load_9 : decode cX5_load 9 = .ok (.ireturn, 1) := by decide +kernel
theorem dX5_load_10 : decode cX5_load 10 = .ok (.aload_n 0, 1) := by decide +kernel
theorem dX5_load_11 : decode cX5_load 11 = .ok (.getfield 10, 3) := by decide +kernel
theorem dX5_load_14 : decode cX5_load 14 = .ok (.aload_n 0, 1) := by decide +kernel
theorem dX5_load_15 : decode cX5_load 15 = .ok (.getfield 10, 3) := by decide +kernel
theorem dX5_load_18 : decode cX5_load 18 = .ok (.invokevirtual 174, 3) := by decide +kernel
theorem dX5_load_21 : decode cX5_load 21 = .ok (.iload_n 1, 1) := by decide +kernel
theorem dX5_load_22 : decode cX5_load 22 = .ok (.invokevirtual 177, 3) := by decide +kernel
theorem dX5_load_25 : decode cX5_load 25 = .ok (.ireturn, 1) := by decide +kernel
theorem dX5_routes_0 : decode cX5_routes 0 = .ok (.iload_n 1, 1) := by decide +kernel
theorem dX5_routes_1 : decode cX5_routes 1 = .ok (.iconst 0, 1) := by decide +kernel
theorem dX5_routes_2 : decode cX5_routes 2 = .ok (.iconst 1, 1) := by decide +kernel
theorem dX5_routes_3 : decode cX5_routes 3 = .ok (.invokestatic 67, 3) := by decide +kernel
theorem dX5_routes_6 : decode cX5_routes 6 = .ok (.ifCond .ne 5, 3) := by decide +kernel
theorem dX5_routes_9 : decode cX5_routes 9 = .ok (.iconst (-1), 1) := by decide +kernel
theorem dX5_routes_10 : decode cX5_routes 10 = .ok (.ireturn, 1) := by decide +kernel
theorem dX5_routes_11 : decode cX5_routes 11 = .ok (.aload_n 0, 1) := by decide +kernel
theorem dX5_routes_12 : decode cX5_routes 12 = .ok (.invokevirtual 180, 3) := by decide +kernel
theorem dX5_routes_15 : decode cX5_routes 15 = .ok (.istore_n 2, 1) := by decide +kernel
theorem dX5_routes_16 : decode cX5_routes 16 = .ok (.iload_n 2, 1) := by decide +kernel
theorem dX5_routes_17 : decode cX5_routes 17 = .ok (.ifCond .ge 6, 3) := by decide +kernel
theorem dX5_routes_20 : decode cX5_routes 20 = .ok (.bipush (-2), 2) := by decide +kernel
theorem dX5_routes_22 : decode cX5_routes 22 = .ok (.ireturn, 1) := by decide +kernel
theorem dX5_routes_23 : decode cX5_routes 23 = .ok (.iload_n 1, 1) := by decide +kernel
theorem dX5_routes_24 : decode cX5_routes 24 = .ok (.ifCond .ne 7, 3) := by decide +kernel
theorem dX5_routes_27 : decode cX5_routes 27 = .ok (.iload_n 2, 1) := by decide +kernel
theorem dX5_routes_28 : decode cX5_routes 28 = .ok (.goto 15, 3) := by decide +kernel
theorem dX5_routes_31 : decode cX5_routes 31 = .ok (.aload_n 0, 1) := by decide +kernel
theorem dX5_routes_32 : decode cX5_routes 32 = .ok (.getfield 10, 3) := by decide +kernel
theorem dX5_routes_35 : decode cX5_routes 35 = .ok (.iload_n 2, 1) := by decide +kernel
theorem dX5_routes_36 : decode cX5_routes 36 = .ok (.aload_n 0, 1) := by decide +kernel
theorem dX5_routes_37 : decode cX5_routes 37 = .ok (.getfield 19, 3) := by decide +kernel
theorem dX5_routes_40 : decode cX5_routes 40 = .ok (.invokevirtual 183, 3) := by decide +kernel
theorem dX5_routes_43 : decode cX5_routes 43 = .ok (.ireturn, 1) := by decide +kernel
theorem dX5_price_0 : decode cX5_price 0 = .ok (.aload_n 0, 1) := by decide +kernel
theorem dX5_price_1 : decode cX5_price 1 = .ok (.iload_n 1, 1) := by decide +kernel
theorem dX5_price_2 : decode cX5_price 2 = .ok (.invokevirtual 100, 3) := by decide +kernel
theorem dX5_price_5 : decode cX5_price 5 = .ok (.ifCond .eq 13, 3) := by decide +kernel
theorem dX5_price_8 : decode cX5_price 8 = .ok (.iload_n 2, 1) := by decide +kernel
theorem dX5_price_9 : decode cX5_price 9 = .ok (.iconst 1, 1) := by decide +kernel
theorem dX5_price_10 : decode cX5_price 10 = .ok (.bipush 50, 2) := by decide +kernel
theorem dX5_price_12 : decode cX5_price 12 = .ok (.invokestatic 67, 3) := by decide +kernel
theorem dX5_price_15 : decode cX5_price 15 = .ok (.ifCond .ne 5, 3) := by decide +kernel
theorem dX5_price_18 : decode cX5_price 18 = .ok (.iconst (-1), 1) := by decide +kernel
theorem dX5_price_19 : decode cX5_price 19 = .ok (.ireturn, 1) := by decide +kernel
theorem dX5_price_20 : decode cX5_price 20 = .ok (.aload_n 0, 1) := by decide +kernel
theorem dX5_price_21 : decode cX5_price 21 = .ok (.getfield 51, 3) := by decide +kernel
theorem dX5_price_24 : decode cX5_price 24 = .ok (.iload_n 1, 1) := by decide +kernel
theorem dX5_price_25 : decode cX5_price 25 = .ok (.iaload, 1) := by decide +kernel
theorem dX5_price_26 : decode cX5_price 26 = .ok (.istore_n 3, 1) := by decide +kernel
theorem dX5_price_27 : decode cX5_price 27 = .ok (.aload_n 0, 1) := by decide +kernel
theorem dX5_price_28 : decode cX5_price 28 = .ok (.getfield 51, 3) := by decide +kernel
theorem dX5_price_31 : decode cX5_price 31 = .ok (.iload_n 1, 1) := by decide +kernel
theorem dX5_price_32 : decode cX5_price 32 = .ok (.iload_n 2, 1) := by decide +kernel
theorem dX5_price_33 : decode cX5_price 33 = .ok (.iastore, 1) := by decide +kernel
theorem dX5_price_34 : decode cX5_price 34 = .ok (.iload_n 3, 1) := by decide +kernel
theorem dX5_price_35 : decode cX5_price 35 = .ok (.ireturn, 1) := by decide +kernel
theorem dX5_copy_0 : decode cX5_copy 0 = .ok (.aload_n 0, 1) := by decide +kernel
theorem dX5_copy_1 : decode cX5_copy 1 = .ok (.iload_n 1, 1) := by decide +kernel
theorem dX5_copy_2 : decode cX5_copy 2 = .ok (.invokevirtual 100, 3) := by decide +kernel
theorem dX5_copy_5 : decode cX5_copy 5 = .ok (.ifCond .eq 22, 3) := by decide +kernel
theorem dX5_copy_8 : decode cX5_copy 8 = .ok (.iload_n 2, 1) := by decide +kernel
theorem dX5_copy_9 : decode cX5_copy 9 = .ok (.invokestatic 103, 3) := by decide +kernel
theorem dX5_copy_12 : decode cX5_copy 12 = .ok (.ifCond .eq 15, 3) := by decide +kernel
theorem dX5_copy_15 : decode cX5_copy 15 = .ok (.aload_n 0, 1) := by decide +kernel
theorem dX5_copy_16 : decode cX5_copy 16 = .ok (.getfield 19, 3) := by decide +kernel
theorem dX5_copy_19 : decode cX5_copy 19 = .ok (.iload_n 1, 1) := by decide +kernel
theorem dX5_copy_20 : decode cX5_copy 20 = .ok (.invokevirtual 106, 3) := by decide +kernel
theorem dX5_copy_23 : decode cX5_copy 23 = .ok (.iload_n 2, 1) := by decide +kernel
theorem dX5_copy_24 : decode cX5_copy 24 = .ok (.if_icmp .ne 5, 3) := by decide +kernel
theorem dX5_copy_27 : decode cX5_copy 27 = .ok (.iconst (-1), 1) := by decide +kernel
theorem dX5_copy_28 : decode cX5_copy 28 = .ok (.ireturn, 1) := by decide +kernel
theorem dX5_copy_29 : decode cX5_copy 29 = .ok (.aload_n 0, 1) := by decide +kernel
theorem dX5_copy_30 : decode cX5_copy 30 = .ok (.getfield 10, 3) := by decide +kernel
theorem dX5_copy_33 : decode cX5_copy 33 = .ok (.iload_n 1, 1) := by decide +kernel
theorem dX5_copy_34 : decode cX5_copy 34 = .ok (.iload_n 2, 1) := by decide +kernel
theorem dX5_copy_35 : decode cX5_copy 35 = .ok (.aload_n 0, 1) := by decide +kernel
theorem dX5_copy_36 : decode cX5_copy 36 = .ok (.getfield 19, 3) := by decide +kernel
theorem dX5_copy_39 : decode cX5_copy 39 = .ok (.invokevirtual 187, 3) := by decide +kernel
theorem dX5_copy_42 : decode cX5_copy 42 = .ok (.ireturn, 1) := by decide +kernel
theorem dX5_saved_0 : decode cX5_saved 0 = .ok (.iload_n 1, 1) := by decide +kernel
theorem dX5_saved_1 : decode cX5_saved 1 = .ok (.iconst 0, 1) := by decide +kernel
theorem dX5_saved_2 : decode cX5_saved 2 = .ok (.sipush 200, 3) := by decide +kernel
theorem dX5_saved_5 : decode cX5_saved 5 = .ok (.invokestatic 67, 3) := by decide +kernel
theorem dX5_saved_8 : decode cX5_saved 8 = .ok (.ifCond .ne 5, 3) := by decide +kernel
theorem dX5_saved_11 : decode cX5_saved 11 = .ok (.iconst (-1), 1) := by decide +kernel
theorem dX5_saved_12 : decode cX5_saved 12 = .ok (.ireturn, 1) := by decide +kernel
theorem dX5_saved_13 : decode cX5_saved 13 = .ok (.aload_n 0, 1) := by decide +kernel
theorem dX5_saved_14 : decode cX5_saved 14 = .ok (.getfield 60, 3) := by decide +kernel
theorem dX5_saved_17 : decode cX5_saved 17 = .ok (.iconst 0, 1) := by decide +kernel
theorem dX5_saved_18 : decode cX5_saved 18 = .ok (.invokestatic 191, 3) := by decide +kernel
theorem dX5_saved_21 : decode cX5_saved 21 = .ok (.iconst 0, 1) := by decide +kernel
theorem dX5_saved_22 : decode cX5_saved 22 = .ok (.istore_n 2, 1) := by decide +kernel
theorem dX5_saved_23 : decode cX5_saved 23 = .ok (.iload_n 2, 1) := by decide +kernel
theorem dX5_saved_24 : decode cX5_saved 24 = .ok (.aload_n 0, 1) := by decide +kernel
theorem dX5_saved_25 : decode cX5_saved 25 = .ok (.getfield 71, 3) := by decide +kernel
theorem dX5_saved_28 : decode cX5_saved 28 = .ok (.if_icmp .ge 15, 3) := by decide +kernel
theorem dX5_saved_31 : decode cX5_saved 31 = .ok (.aload_n 0, 1) := by decide +kernel
theorem dX5_saved_32 : decode cX5_saved 32 = .ok (.iload_n 2, 1) := by decide +kernel
theorem dX5_saved_33 : decode cX5_saved 33 = .ok (.iload_n 1, 1) := by decide +kernel
theorem dX5_saved_34 : decode cX5_saved 34 = .ok (.invokevirtual 197, 3) := by decide +kernel
theorem dX5_saved_37 : decode cX5_saved 37 = .ok (.iinc 2 1, 3) := by decide +kernel
theorem dX5_saved_40 : decode cX5_saved 40 = .ok (.goto (-17), 3) := by decide +kernel
theorem dX5_saved_43 : decode cX5_saved 43 = .ok (.aload_n 0, 1) := by decide +kernel
theorem dX5_saved_44 : decode cX5_saved 44 = .ok (.getfield 60, 3) := by decide +kernel
theorem dX5_saved_47 : decode cX5_saved 47 = .ok (.iload_n 1, 1) := by decide +kernel
theorem dX5_saved_48 : decode cX5_saved 48 = .ok (.iaload, 1) := by decide +kernel
theorem dX5_saved_49 : decode cX5_saved 49 = .ok (.ireturn, 1) := by decide +kernel
theorem dX5_way_0 : decode cX5_way 0 = .ok (.iload_n 1, 1) := by decide +kernel
theorem dX5_way_1 : decode cX5_way 1 = .ok (.invokestatic 103, 3) := by decide +kernel
theorem dX5_way_4 : decode cX5_way 4 = .ok (.ifCond .eq 25, 3) := by decide +kernel
theorem dX5_way_7 : decode cX5_way 7 = .ok (.iload_n 2, 1) := by decide +kernel
theorem dX5_way_8 : decode cX5_way 8 = .ok (.invokestatic 103, 3) := by decide +kernel
theorem dX5_way_11 : decode cX5_way 11 = .ok (.ifCond .eq 18, 3) := by decide +kernel
theorem dX5_way_14 : decode cX5_way 14 = .ok (.iload_n 3, 1) := by decide +kernel
theorem dX5_way_15 : decode cX5_way 15 = .ok (.invokestatic 103, 3) := by decide +kernel
theorem dX5_way_18 : decode cX5_way 18 = .ok (.ifCond .eq 11, 3) := by decide +kernel
theorem dX5_way_21 : decode cX5_way 21 = .ok (.iload 4, 2) := by decide +kernel
theorem dX5_way_23 : decode cX5_way 23 = .ok (.invokestatic 103, 3) := by decide +kernel
theorem dX5_way_26 : decode cX5_way 26 = .ok (.ifCond .ne 5, 3) := by decide +kernel
theorem dX5_way_29 : decode cX5_way 29 = .ok (.iconst (-1), 1) := by decide +kernel
theorem dX5_way_30 : decode cX5_way 30 = .ok (.ireturn, 1) := by decide +kernel
theorem dX5_way_31 : decode cX5_way 31 = .ok (.iload_n 1, 1) := by decide +kernel
theorem dX5_way_32 : decode cX5_way 32 = .ok (.iload_n 2, 1) := by decide +kernel
theorem dX5_way_33 : decode cX5_way 33 = .ok (.iload_n 3, 1) := by decide +kernel
theorem dX5_way_34 : decode cX5_way 34 = .ok (.iload 4, 2) := by decide +kernel

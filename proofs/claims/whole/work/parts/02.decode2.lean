theorem dX6_bits_20 : decode cX6_bits 20 = .ok (.ishl, 1) := by decide +kernel
theorem dX6_bits_21 : decode cX6_bits 21 = .ok (.ior, 1) := by decide +kernel
theorem dX6_bits_22 : decode cX6_bits 22 = .ok (.istore_n 1, 1) := by decide +kernel
theorem dX6_bits_23 : decode cX6_bits 23 = .ok (.iinc 2 1, 3) := by decide +kernel
theorem dX6_bits_26 : decode cX6_bits 26 = .ok (.goto (-22), 3) := by decide +kernel
theorem dX6_bits_29 : decode cX6_bits 29 = .ok (.iload_n 1, 1) := by decide +kernel
theorem dX6_bits_30 : decode cX6_bits 30 = .ok (.ireturn, 1) := by decide +kernel
theorem dX6_load_0 : decode cX6_load 0 = .ok (.aload_n 0, 1) := by decide +kernel
theorem dX6_load_1 : decode cX6_load 1 = .ok (.iconst 0, 1) := by decide +kernel
theorem dX6_load_2 : decode cX6_load 2 = .ok (.putfield 66, 3) := by decide +kernel
theorem dX6_load_5 : decode cX6_load 5 = .ok (.aload_n 0, 1) := by decide +kernel
theorem dX6_load_6 : decode cX6_load 6 = .ok (.iload_n 1, 1) := by decide +kernel
theorem dX6_load_7 : decode cX6_load 7 = .ok (.invokevirtual 80, 3) := by decide +kernel
theorem dX6_load_10 : decode cX6_load 10 = .ok (.ifCond .eq 15, 3) := by decide +kernel
theorem dX6_load_13 : decode cX6_load 13 = .ok (.aload_n 0, 1) := by decide +kernel
theorem dX6_load_14 : decode cX6_load 14 = .ok (.iload_n 1, 1) := by decide +kernel
theorem dX6_load_15 : decode cX6_load 15 = .ok (.aload_n 0, 1) := by decide +kernel
theorem dX6_load_16 : decode cX6_load 16 = .ok (.invokevirtual 134, 3) := by decide +kernel
theorem dX6_load_19 : decode cX6_load 19 = .ok (.invokevirtual 138, 3) := by decide +kernel
theorem dX6_load_22 : decode cX6_load 22 = .ok (.goto 4, 3) := by decide +kernel
theorem dX6_load_25 : decode cX6_load 25 = .ok (.iconst (-1), 1) := by decide +kernel
theorem dX6_load_26 : decode cX6_load 26 = .ok (.ireturn, 1) := by decide +kernel
theorem dX6_routes_0 : decode cX6_routes 0 = .ok (.aload_n 0, 1) := by decide +kernel
theorem dX6_routes_1 : decode cX6_routes 1 = .ok (.iconst 0, 1) := by decide +kernel
theorem dX6_routes_2 : decode cX6_routes 2 = .ok (.putfield 66, 3) := by decide +kernel
theorem dX6_routes_5 : decode cX6_routes 5 = .ok (.iload_n 1, 1) := by decide +kernel
theorem dX6_routes_6 : decode cX6_routes 6 = .ok (.iconst 0, 1) := by decide +kernel
theorem dX6_routes_7 : decode cX6_routes 7 = .ok (.iconst 1, 1) := by decide +kernel
theorem dX6_routes_8 : decode cX6_routes 8 = .ok (.invokestatic 72, 3) := by decide +kernel
theorem dX6_routes_11 : decode cX6_routes 11 = .ok (.ifCond .ne 5, 3) := by decide +kernel
theorem dX6_routes_14 : decode cX6_routes 14 = .ok (.iconst (-1), 1) := by decide +kernel
theorem dX6_routes_15 : decode cX6_routes 15 = .ok (.ireturn, 1) := by decide +kernel
theorem dX6_routes_16 : decode cX6_routes 16 = .ok (.bipush (-9), 2) := by decide +kernel
theorem dX6_routes_18 : decode cX6_routes 18 = .ok (.istore_n 2, 1) := by decide +kernel
theorem dX6_routes_19 : decode cX6_routes 19 = .ok (.iconst 0, 1) := by decide +kernel
theorem dX6_routes_20 : decode cX6_routes 20 = .ok (.istore_n 3, 1) := by decide +kernel
theorem dX6_routes_21 : decode cX6_routes 21 = .ok (.iconst 0, 1) := by decide +kernel
theorem dX6_routes_22 : decode cX6_routes 22 = .ok (.istore 4, 2) := by decide +kernel
theorem dX6_routes_24 : decode cX6_routes 24 = .ok (.iload 4, 2) := by decide +kernel
theorem dX6_routes_26 : decode cX6_routes 26 = .ok (.iconst 1, 1) := by decide +kernel
theorem dX6_routes_27 : decode cX6_routes 27 = .ok (.aload_n 0, 1) := by decide +kernel
theorem dX6_routes_28 : decode cX6_routes 28 = .ok (.getfield 13, 3) := by decide +kernel
theorem dX6_routes_31 : decode cX6_routes 31 = .ok (.ishl, 1) := by decide +kernel
theorem dX6_routes_32 : decode cX6_routes 32 = .ok (.if_icmp .ge 145, 3) := by decide +kernel
theorem dX6_routes_35 : decode cX6_routes 35 = .ok (.iconst 1, 1) := by decide +kernel
theorem dX6_routes_36 : decode cX6_routes 36 = .ok (.istore 5, 2) := by decide +kernel
theorem dX6_routes_38 : decode cX6_routes 38 = .ok (.iconst 0, 1) := by decide +kernel
theorem dX6_routes_39 : decode cX6_routes 39 = .ok (.istore 6, 2) := by decide +kernel
theorem dX6_routes_41 : decode cX6_routes 41 = .ok (.iload 6, 2) := by decide +kernel
theorem dX6_routes_43 : decode cX6_routes 43 = .ok (.aload_n 0, 1) := by decide +kernel
theorem dX6_routes_44 : decode cX6_routes 44 = .ok (.getfield 7, 3) := by decide +kernel
theorem dX6_routes_47 : decode cX6_routes 47 = .ok (.if_icmp .ge 37, 3) := by decide +kernel
theorem dX6_routes_50 : decode cX6_routes 50 = .ok (.iload 5, 2) := by decide +kernel
theorem dX6_routes_52 : decode cX6_routes 52 = .ok (.aload_n 0, 1) := by decide +kernel
theorem dX6_routes_53 : decode cX6_routes 53 = .ok (.iload 6, 2) := by decide +kernel
theorem dX6_routes_55 : decode cX6_routes 55 = .ok (.iload 4, 2) := by decide +kernel
theorem dX6_routes_57 : decode cX6_routes 57 = .ok (.invokevirtual 138, 3) := by decide +kernel
theorem dX6_routes_60 : decode cX6_routes 60 = .ok (.aload_n 0, 1) := by decide +kernel
theorem dX6_routes_61 : decode cX6_routes 61 = .ok (.getfield 26, 3) := by decide +kernel
theorem dX6_routes_64 : decode cX6_routes 64 = .ok (.iload 6, 2) := by decide +kernel
theorem dX6_routes_66 : decode cX6_routes 66 = .ok (.iaload, 1) := by decide +kernel
theorem dX6_routes_67 : decode cX6_routes 67 = .ok (.if_icmp .gt 7, 3) := by decide +kernel
theorem dX6_routes_70 : decode cX6_routes 70 = .ok (.iconst 1, 1) := by decide +kernel
theorem dX6_routes_71 : decode cX6_routes 71 = .ok (.goto 4, 3) := by decide +kernel
theorem dX6_routes_74 : decode cX6_routes 74 = .ok (.iconst 0, 1) := by decide +kernel
theorem dX6_routes_75 : decode cX6_routes 75 = .ok (.iand, 1) := by decide +kernel
theorem dX6_routes_76 : decode cX6_routes 76 = .ok (.istore 5, 2) := by decide +kernel
theorem dX6_routes_78 : decode cX6_routes 78 = .ok (.iinc 6 1, 3) := by decide +kernel
theorem dX6_routes_81 : decode cX6_routes 81 = .ok (.goto (-40), 3) := by decide +kernel
theorem dX6_routes_84 : decode cX6_routes 84 = .ok (.iconst 0, 1) := by decide +kernel
theorem dX6_routes_85 : decode cX6_routes 85 = .ok (.istore 6, 2) := by decide +kernel
theorem dX6_routes_87 : decode cX6_routes 87 = .ok (.iconst 0, 1) := by decide +kernel
theorem dX6_routes_88 : decode cX6_routes 88 = .ok (.istore 7, 2) := by decide +kernel
theorem dX6_routes_90 : decode cX6_routes 90 = .ok (.iload 7, 2) := by decide +kernel
theorem dX6_routes_92 : decode cX6_routes 92 = .ok (.aload_n 0, 1) := by decide +kernel
theorem dX6_routes_93 : decode cX6_routes 93 = .ok (.getfield 13, 3) := by decide +kernel
theorem dX6_routes_96 : decode cX6_routes 96 = .ok (.if_icmp .ge 52, 3) := by decide +kernel
theorem dX6_routes_99 : decode cX6_routes 99 = .ok (.iload 5, 2) := by decide +kernel
theorem dX6_routes_101 : decode cX6_routes 101 = .ok (.ifCond .eq 47, 3) := by decide +kernel
theorem dX6_routes_104 : decode cX6_routes 104 = .ok (.iload 6, 2) := by decide +kernel
theorem dX6_routes_106 : decode cX6_routes 106 = .ok (.aload_n 0, 1) := by decide +kernel
theorem dX6_routes_107 : decode cX6_routes 107 = .ok (.aload_n 0, 1) := by decide +kernel
theorem dX6_routes_108 : decode cX6_routes 108 = .ok (.getfield 69, 3) := by decide +kernel
theorem dX6_routes_111 : decode cX6_routes 111 = .ok (.aload_n 0, 1) := by decide +kernel
theorem dX6_routes_112 : decode cX6_routes 112 = .ok (.getfield 16, 3) := by decide +kernel
theorem dX6_routes_115 : decode cX6_routes 115 = .ok (.iconst 2, 1) := by decide +kernel
theorem dX6_routes_116 : decode cX6_routes 116 = .ok (.iload 7, 2) := by decide +kernel
theorem dX6_routes_118 : decode cX6_routes 118 = .ok (.imul, 1) := by decide +kernel
theorem dX6_routes_119 : decode cX6_routes 119 = .ok (.iload 4, 2) := by decide +kernel
theorem dX6_routes_121 : decode cX6_routes 121 = .ok (.iload 7, 2) := by decide +kernel
theorem dX6_routes_123 : decode cX6_routes 123 = .ok (.ishr, 1) := by decide +kernel
theorem dX6_routes_124 : decode cX6_routes 124 = .ok (.iconst 1, 1) := by decide +kernel
theorem dX6_routes_125 : decode cX6_routes 125 = .ok (.iand, 1) := by decide +kernel
theorem dX6_routes_126 : decode cX6_routes 126 = .ok (.iadd, 1) := by decide +kernel
theorem dX6_routes_127 : decode cX6_routes 127 = .ok (.iaload, 1) := by decide +kernel
theorem dX6_routes_128 : decode cX6_routes 128 = .ok (.invokevirtual 101, 3) := by decide +kernel
theorem dX6_routes_131 : decode cX6_routes 131 = .ok (.aload_n 0, 1) := by decide +kernel
theorem dX6_routes_132 : decode cX6_routes 132 = .ok (.getfield 23, 3) := by decide +kernel
theorem dX6_routes_135 : decode cX6_routes 135 = .ok (.iload 7, 2) := by decide +kernel
theorem dX6_routes_137 : decode cX6_routes 137 = .ok (.iaload, 1) := by decide +kernel
theorem dX6_routes_138 : decode cX6_routes 138 = .ok (.imul, 1) := by decide +kernel
theorem dX6_routes_139 : decode cX6_routes 139 = .ok (.iadd, 1) := by decide +kernel
theorem dX6_routes_140 : decode cX6_routes 140 = .ok (.istore 6, 2) := by decide +kernel
theorem dX6_routes_142 : decode cX6_routes 142 = .ok (.iinc 7 1, 3) := by decide +kernel
theorem dX6_routes_145 : decode cX6_routes 145 = .ok (.goto (-55), 3) := by decide +kernel
theorem dX6_routes_148 : decode cX6_routes 148 = .ok (.iload 5, 2) := by decide +kernel
theorem dX6_routes_150 : decode cX6_routes 150 = .ok (.ifCond .eq 21, 3) := by decide +kernel
theorem dX6_routes_153 : decode cX6_routes 153 = .ok (.iload_n 2, 1) := by decide +kernel
theorem dX6_routes_154 : decode cX6_routes 154 = .ok (.bipush (-9), 2) := by decide +kernel
theorem dX6_routes_156 : decode cX6_routes 156 = .ok (.if_icmp .eq 9, 3) := by decide +kernel
theorem dX6_routes_159 : decode cX6_routes 159 = .ok (.iload 6, 2) := by decide +kernel
theorem dX6_routes_161 : decode cX6_routes 161 = .ok (.iload_n 3, 1) := by decide +kernel
theorem dX6_routes_162 : decode cX6_routes 162 = .ok (.if_icmp .ge 9, 3) := by decide +kernel
theorem dX6_routes_165 : decode cX6_routes 165 = .ok (.iload 4, 2) := by decide +kernel
theorem dX6_routes_167 : decode cX6_routes 167 = .ok (.istore_n 2, 1) := by decide +kernel
theorem dX6_routes_168 : decode cX6_routes 168 = .ok (.iload 6, 2) := by decide +kernel
theorem dX6_routes_170 : decode cX6_routes 170 = .ok (.istore_n 3, 1) := by decide +kernel
theorem dX6_routes_171 : decode cX6_routes 171 = .ok (.iinc 4 1, 3) := by decide +kernel
theorem dX6_routes_174 : decode cX6_routes 174 = .ok (.goto (-150), 3) := by decide +kernel
theorem dX6_routes_177 : decode cX6_routes 177 = .ok (.iload_n 2, 1) := by decide +kernel
theorem dX6_routes_178 : decode cX6_routes 178 = .ok (.bipush (-9), 2) := by decide +kernel
theorem dX6_routes_180 : decode cX6_routes 180 = .ok (.if_icmp .ne 8, 3) := by decide +kernel
theorem dX6_routes_183 : decode cX6_routes 183 = .ok (.bipush (-2), 2) := by decide +kernel
theorem dX6_routes_185 : decode cX6_routes 185 = .ok (.goto 12, 3) := by decide +kernel
theorem dX6_routes_188 : decode cX6_routes 188 = .ok (.iload_n 1, 1) := by decide +kernel
theorem dX6_routes_189 : decode cX6_routes 189 = .ok (.ifCond .ne 7, 3) := by decide +kernel
theorem dX6_routes_192 : decode cX6_routes 192 = .ok (.iload_n 2, 1) := by decide +kernel
theorem dX6_routes_193 : decode cX6_routes 193 = .ok (.goto 4, 3) := by decide +kernel
theorem dX6_routes_196 : decode cX6_routes 196 = .ok (.iload_n 3, 1) := by decide +kernel
theorem dX6_routes_197 : decode cX6_routes 197 = .ok (.ireturn, 1) := by decide +kernel
theorem dX6_price_0 : decode cX6_price 0 = .ok (.aload_n 0, 1) := by decide +kernel
theorem dX6_price_1 : decode cX6_price 1 = .ok (.iconst 0, 1) := by decide +kernel
theorem dX6_price_2 : decode cX6_price 2 = .ok (.putfield 66, 3) := by decide +kernel
theorem dX6_price_5 : decode cX6_price 5 = .ok (.aload_n 0, 1) := by decide +kernel
theorem dX6_price_6 : decode cX6_price 6 = .ok (.iload_n 1, 1) := by decide +kernel
theorem dX6_price_7 : decode cX6_price 7 = .ok (.invokevirtual 80, 3) := by decide +kernel
theorem dX6_price_10 : decode cX6_price 10 = .ok (.ifCond .eq 13, 3) := by decide +kernel
theorem dX6_price_13 : decode cX6_price 13 = .ok (.iload_n 2, 1) := by decide +kernel
theorem dX6_price_14 : decode cX6_price 14 = .ok (.iconst 1, 1) := by decide +kernel
theorem dX6_price_15 : decode cX6_price 15 = .ok (.bipush 50, 2) := by decide +kernel
theorem dX6_price_17 : decode cX6_price 17 = .ok (.invokestatic 72, 3) := by decide +kernel
theorem dX6_price_20 : decode cX6_price 20 = .ok (.ifCond .ne 5, 3) := by decide +kernel
theorem dX6_price_23 : decode cX6_price 23 = .ok (.iconst (-1), 1) := by decide +kernel
theorem dX6_price_24 : decode cX6_price 24 = .ok (.ireturn, 1) := by decide +kernel
theorem dX6_price_25 : decode cX6_price 25 = .ok (.aload_n 0, 1) := by decide +kernel
theorem dX6_price_26 : decode cX6_price 26 = .ok (.getfield 29, 3) := by decide +kernel
theorem dX6_price_29 : decode cX6_price 29 = .ok (.iload_n 1, 1) := by decide +kernel
theorem dX6_price_30 : decode cX6_price 30 = .ok (.iaload, 1) := by decide +kernel
theorem dX6_price_31 : decode cX6_price 31 = .ok (.istore_n 3, 1) := by decide +kernel
theorem dX6_price_32 : decode cX6_price 32 = .ok (.aload_n 0, 1) := by decide +kernel
theorem dX6_price_33 : decode cX6_price 33 = .ok (.getfield 29, 3) := by decide +kernel
theorem dX6_price_36 : decode cX6_price 36 = .ok (.iload_n 1, 1) := by decide +kernel
theorem dX6_price_37 : decode cX6_price 37 = .ok (.iload_n 2, 1) := by decide +kernel
theorem dX6_price_38 : decode cX6_price 38 = .ok (.iastore, 1) := by decide +kernel
theorem dX6_price_39 : decode cX6_price 39 = .ok (.iload_n 3, 1) := by decide +kernel
theorem dX6_price_40 : decode cX6_price 40 = .ok (.ireturn, 1) := by decide +kernel
theorem dX6_copyOf_0 : decode cX6_copyOf 0 = .ok (.iconst 0, 1) := by decide +kernel
theorem dX6_copyOf_1 : decode cX6_copyOf 1 = .ok (.istore_n 3, 1) := by decide +kernel
theorem dX6_copyOf_2 : decode cX6_copyOf 2 = .ok (.iconst 0, 1) := by decide +kernel
theorem dX6_copyOf_3 : decode cX6_copyOf 3 = .ok (.istore 4, 2) := by decide +kernel
theorem dX6_copyOf_5 : decode cX6_copyOf 5 = .ok (.iload 4, 2) := by decide +kernel
theorem dX6_copyOf_7 : decode cX6_copyOf 7 = .ok (.aload_n 0, 1) := by decide +kernel
theorem dX6_copyOf_8 : decode cX6_copyOf 8 = .ok (.getfield 13, 3) := by decide +kernel
theorem dX6_copyOf_11 : decode cX6_copyOf 11 = .ok (.if_icmp .ge 55, 3) := by decide +kernel
theorem dX6_copyOf_14 : decode cX6_copyOf 14 = .ok (.iload_n 3, 1) := by decide +kernel
theorem dX6_copyOf_15 : decode cX6_copyOf 15 = .ok (.aload_n 0, 1) := by decide +kernel
theorem dX6_copyOf_16 : decode cX6_copyOf 16 = .ok (.iload 4, 2) := by decide +kernel
theorem dX6_copyOf_18 : decode cX6_copyOf 18 = .ok (.invokevirtual 98, 3) := by decide +kernel
theorem dX6_copyOf_21 : decode cX6_copyOf 21 = .ok (.iload_n 1, 1) := by decide +kernel
theorem dX6_copyOf_22 : decode cX6_copyOf 22 = .ok (.ishr, 1) := by decide +kernel
theorem dX6_copyOf_23 : decode cX6_copyOf 23 = .ok (.iconst 1, 1) := by decide +kernel
theorem dX6_copyOf_24 : decode cX6_copyOf 24 = .ok (.iand, 1) := by decide +kernel
theorem dX6_copyOf_25 : decode cX6_copyOf 25 = .ok (.iconst 1, 1) := by decide +kernel
theorem dX6_copyOf_26 : decode cX6_copyOf 26 = .ok (.if_icmp .ne 31, 3) := by decide +kernel
theorem dX6_copyOf_29 : decode cX6_copyOf 29 = .ok (.aload_n 0, 1) := by decide +kernel
theorem dX6_copyOf_30 : decode cX6_copyOf 30 = .ok (.aload_n 0, 1) := by decide +kernel
theorem dX6_copyOf_31 : decode cX6_copyOf 31 = .ok (.getfield 69, 3) := by decide +kernel
theorem dX6_copyOf_34 : decode cX6_copyOf 34 = .ok (.aload_n 0, 1) := by decide +kernel
theorem dX6_copyOf_35 : decode cX6_copyOf 35 = .ok (.iload 4, 2) := by decide +kernel
theorem dX6_copyOf_37 : decode cX6_copyOf 37 = .ok (.invokevirtual 98, 3) := by decide +kernel
theorem dX6_copyOf_40 : decode cX6_copyOf 40 = .ok (.invokevirtual 95, 3) := by decide +kernel
theorem dX6_copyOf_43 : decode cX6_copyOf 43 = .ok (.iload_n 2, 1) := by decide +kernel
theorem dX6_copyOf_44 : decode cX6_copyOf 44 = .ok (.if_icmp .ne 13, 3) := by decide +kernel
theorem dX6_copyOf_47 : decode cX6_copyOf 47 = .ok (.aload_n 0, 1) := by decide +kernel
theorem dX6_copyOf_48 : decode cX6_copyOf 48 = .ok (.getfield 23, 3) := by decide +kernel
theorem dX6_copyOf_51 : decode cX6_copyOf 51 = .ok (.iload 4, 2) := by decide +kernel
theorem dX6_copyOf_53 : decode cX6_copyOf 53 = .ok (.iaload, 1) := by decide +kernel
theorem dX6_copyOf_54 : decode cX6_copyOf 54 = .ok (.goto 4, 3) := by decide +kernel
theorem dX6_copyOf_57 : decode cX6_copyOf 57 = .ok (.iconst 0, 1) := by decide +kernel
theorem dX6_copyOf_58 : decode cX6_copyOf 58 = .ok (.iadd, 1) := by decide +kernel
theorem dX6_copyOf_59 : decode cX6_copyOf 59 = .ok (.istore_n 3, 1) := by decide +kernel
theorem dX6_copyOf_60 : decode cX6_copyOf 60 = .ok (.iinc 4 1, 3) := by decide +kernel
theorem dX6_copyOf_63 : decode cX6_copyOf 63 = .ok (.goto (-58), 3) := by decide +kernel
theorem dX6_copyOf_66 : decode cX6_copyOf 66 = .ok (.iload_n 3, 1) := by decide +kernel
theorem dX6_copyOf_67 : decode cX6_copyOf 67 = .ok (.ireturn, 1) := by decide +kernel
theorem dX6_copy_0 : decode cX6_copy 0 = .ok (.aload_n 0, 1) := by decide +kernel
theorem dX6_copy_1 : decode cX6_copy 1 = .ok (.iconst 0, 1) := by decide +kernel
theorem dX6_copy_2 : decode cX6_copy 2 = .ok (.putfield 66, 3) := by decide +kernel
theorem dX6_copy_5 : decode cX6_copy 5 = .ok (.aload_n 0, 1) := by decide +kernel
theorem dX6_copy_6 : decode cX6_copy 6 = .ok (.iload_n 1, 1) := by decide +kernel
theorem dX6_copy_7 : decode cX6_copy 7 = .ok (.invokevirtual 80, 3) := by decide +kernel
theorem dX6_copy_10 : decode cX6_copy 10 = .ok (.ifCond .eq 33, 3) := by decide +kernel
theorem dX6_copy_13 : decode cX6_copy 13 = .ok (.iload_n 2, 1) := by decide +kernel
theorem dX6_copy_14 : decode cX6_copy 14 = .ok (.iconst 0, 1) := by decide +kernel
theorem dX6_copy_15 : decode cX6_copy 15 = .ok (.iconst 3, 1) := by decide +kernel
theorem dX6_copy_16 : decode cX6_copy 16 = .ok (.invokestatic 72, 3) := by decide +kernel
theorem dX6_copy_19 : decode cX6_copy 19 = .ok (.ifCond .eq 24, 3) := by decide +kernel
theorem dX6_copy_22 : decode cX6_copy 22 = .ok (.aload_n 0, 1) := by decide +kernel
theorem dX6_copy_23 : decode cX6_copy 23 = .ok (.getfield 69, 3) := by decide +kernel
theorem dX6_copy_26 : decode cX6_copy 26 = .ok (.iload_n 1, 1) := by decide +kernel
theorem dX6_copy_27 : decode cX6_copy 27 = .ok (.invokestatic 83, 3) := by decide +kernel
theorem dX6_copy_30 : decode cX6_copy 30 = .ok (.iload_n 2, 1) := by decide +kernel
theorem dX6_copy_31 : decode cX6_copy 31 = .ok (.if_icmp .eq 12, 3) := by decide +kernel
theorem dX6_copy_34 : decode cX6_copy 34 = .ok (.aload_n 0, 1) := by decide +kernel
theorem dX6_copy_35 : decode cX6_copy 35 = .ok (.iload_n 1, 1) := by decide +kernel
theorem dX6_copy_36 : decode cX6_copy 36 = .ok (.iload_n 2, 1) := by decide +kernel
theorem dX6_copy_37 : decode cX6_copy 37 = .ok (.invokevirtual 141, 3) := by decide +kernel
theorem dX6_copy_40 : decode cX6_copy 40 = .ok (.goto 4, 3) := by decide +kernel
theorem dX6_copy_43 : decode cX6_copy 43 = .ok (.iconst (-1), 1) := by decide +kernel
theorem dX6_copy_44 : decode cX6_copy 44 = .ok (.ireturn, 1) := by decide +kernel
theorem dX6_saved_0 : decode cX6_saved 0 = .ok (.aload_n 0, 1) := by decide +kernel
theorem dX6_saved_1 : decode cX6_saved 1 = .ok (.iconst 0, 1) := by decide +kernel
theorem dX6_saved_2 : decode cX6_saved 2 = .ok (.putfield 66, 3) := by decide +kernel
theorem dX6_saved_5 : decode cX6_saved 5 = .ok (.iload_n 1, 1) := by decide +kernel
theorem dX6_saved_6 : decode cX6_saved 6 = .ok (.iconst 0, 1) := by decide +kernel
theorem dX6_saved_7 : decode cX6_saved 7 = .ok (.sipush 200, 3) := by decide +kernel
theorem dX6_saved_10 : decode cX6_saved 10 = .ok (.invokestatic 72, 3) := by decide +kernel
theorem dX6_saved_13 : decode cX6_saved 13 = .ok (.ifCond .ne 5, 3) := by decide +kernel
theorem dX6_saved_16 : decode cX6_saved 16 = .ok (.iconst (-1), 1) := by decide +kernel
theorem dX6_saved_17 : decode cX6_saved 17 = .ok (.ireturn, 1) := by decide +kernel
theorem dX6_saved_18 : decode cX6_saved 18 = .ok (.iconst 0, 1) := by decide +kernel
theorem dX6_saved_19 : decode cX6_saved 19 = .ok (.istore_n 2, 1) := by decide +kernel
theorem dX6_saved_20 : decode cX6_saved 20 = .ok (.iload_n 2, 1) := by decide +kernel
theorem dX6_saved_21 : decode cX6_saved 21 = .ok (.iload_n 1, 1) := by decide +kernel
theorem dX6_saved_22 : decode cX6_saved 22 = .ok (.if_icmp .gt 16, 3) := by decide +kernel
theorem dX6_saved_25 : decode cX6_saved 25 = .ok (.aload_n 0, 1) := by decide +kernel
theorem dX6_saved_26 : decode cX6_saved 26 = .ok (.getfield 47, 3) := by decide +kernel
theorem dX6_saved_29 : decode cX6_saved 29 = .ok (.iload_n 2, 1) := by decide +kernel
theorem dX6_saved_30 : decode cX6_saved 30 = .ok (.iconst 0, 1) := by decide +kernel
theorem dX6_saved_31 : decode cX6_saved 31 = .ok (.iastore, 1) := by decide +kernel
theorem dX6_saved_32 : decode cX6_saved 32 = .ok (.iinc 2 1, 3) := by decide +kernel
theorem dX6_saved_35 : decode cX6_saved 35 = .ok (.goto (-15), 3) := by decide +kernel
theorem dX6_saved_38 : decode cX6_saved 38 = .ok (.iconst 0, 1) := by decide +kernel
theorem dX6_saved_39 : decode cX6_saved 39 = .ok (.istore_n 2, 1) := by decide +kernel
theorem dX6_saved_40 : decode cX6_saved 40 = .ok (.iload_n 2, 1) := by decide +kernel
theorem dX6_saved_41 : decode cX6_saved 41 = .ok (.aload_n 0, 1) := by decide +kernel
theorem dX6_saved_42 : decode cX6_saved 42 = .ok (.getfield 7, 3) := by decide +kernel
theorem dX6_saved_45 : decode cX6_saved 45 = .ok (.if_icmp .ge 123, 3) := by decide +kernel
theorem dX6_saved_48 : decode cX6_saved 48 = .ok (.iconst 0, 1) := by decide +kernel
theorem dX6_saved_49 : decode cX6_saved 49 = .ok (.istore_n 3, 1) := by decide +kernel
theorem dX6_saved_50 : decode cX6_saved 50 = .ok (.iload_n 3, 1) := by decide +kernel
theorem dX6_saved_51 : decode cX6_saved 51 = .ok (.iconst 4, 1) := by decide +kernel
theorem dX6_saved_52 : decode cX6_saved 52 = .ok (.if_icmp .ge 110, 3) := by decide +kernel
theorem dX6_saved_55 : decode cX6_saved 55 = .ok (.aload_n 0, 1) := by decide +kernel
theorem dX6_saved_56 : decode cX6_saved 56 = .ok (.getfield 69, 3) := by decide +kernel
theorem dX6_saved_59 : decode cX6_saved 59 = .ok (.iload_n 2, 1) := by decide +kernel
theorem dX6_saved_60 : decode cX6_saved 60 = .ok (.invokestatic 83, 3) := by decide +kernel
theorem dX6_saved_63 : decode cX6_saved 63 = .ok (.iload_n 3, 1) := by decide +kernel
theorem dX6_saved_64 : decode cX6_saved 64 = .ok (.if_icmp .eq 92, 3) := by decide +kernel
theorem dX6_saved_67 : decode cX6_saved 67 = .ok (.aload_n 0, 1) := by decide +kernel
theorem dX6_saved_68 : decode cX6_saved 68 = .ok (.iload_n 2, 1) := by decide +kernel
theorem dX6_saved_69 : decode cX6_saved 69 = .ok (.iload_n 3, 1) := by decide +kernel
theorem dX6_saved_70 : decode cX6_saved 70 = .ok (.invokevirtual 141, 3) := by decide +kernel
theorem dX6_saved_73 : decode cX6_saved 73 = .ok (.istore 4, 2) := by decide +kernel
theorem dX6_saved_75 : decode cX6_saved 75 = .ok (.iload_n 1, 1) := by decide +kernel
theorem dX6_saved_76 : decode cX6_saved 76 = .ok (.istore 5, 2) := by decide +kernel
theorem dX6_saved_78 : decode cX6_saved 78 = .ok (.iload 5, 2) := by decide +kernel
theorem dX6_saved_80 : decode cX6_saved 80 = .ok (.aload_n 0, 1) := by decide +kernel
theorem dX6_saved_81 : decode cX6_saved 81 = .ok (.getfield 29, 3) := by decide +kernel
theorem dX6_saved_84 : decode cX6_saved 84 = .ok (.iload_n 2, 1) := by decide +kernel
theorem dX6_saved_85 : decode cX6_saved 85 = .ok (.iaload, 1) := by decide +kernel
theorem dX6_saved_86 : decode cX6_saved 86 = .ok (.if_icmp .lt 70, 3) := by decide +kernel
theorem dX6_saved_89 : decode cX6_saved 89 = .ok (.aload_n 0, 1) := by decide +kernel
theorem dX6_saved_90 : decode cX6_saved 90 = .ok (.getfield 47, 3) := by decide +kernel
theorem dX6_saved_93 : decode cX6_saved 93 = .ok (.iload 5, 2) := by decide +kernel
theorem dX6_saved_95 : decode cX6_saved 95 = .ok (.aload_n 0, 1) := by decide +kernel
theorem dX6_saved_96 : decode cX6_saved 96 = .ok (.getfield 47, 3) := by decide +kernel
theorem dX6_saved_99 : decode cX6_saved 99 = .ok (.iload 5, 2) := by decide +kernel
theorem dX6_saved_101 : decode cX6_saved 101 = .ok (.aload_n 0, 1) := by decide +kernel
theorem dX6_saved_102 : decode cX6_saved 102 = .ok (.getfield 29, 3) := by decide +kernel
theorem dX6_saved_105 : decode cX6_saved 105 = .ok (.iload_n 2, 1) := by decide +kernel
theorem dX6_saved_106 : decode cX6_saved 106 = .ok (.iaload, 1) := by decide +kernel
theorem dX6_saved_107 : decode cX6_saved 107 = .ok (.isub, 1) := by decide +kernel
theorem dX6_saved_108 : decode cX6_saved 108 = .ok (.iaload, 1) := by decide +kernel
theorem dX6_saved_109 : decode cX6_saved 109 = .ok (.iload 4, 2) := by decide +kernel
theorem dX6_saved_111 : decode cX6_saved 111 = .ok (.iadd, 1) := by decide +kernel
theorem dX6_saved_112 : decode cX6_saved 112 = .ok (.aload_n 0, 1) := by decide +kernel
theorem dX6_saved_113 : decode cX6_saved 113 = .ok (.getfield 47, 3) := by decide +kernel
theorem dX6_saved_116 : decode cX6_saved 116 = .ok (.iload 5, 2) := by decide +kernel
theorem dX6_saved_118 : decode cX6_saved 118 = .ok (.iaload, 1) := by decide +kernel
theorem dX6_saved_119 : decode cX6_saved 119 = .ok (.if_icmp .le 23, 3) := by decide +kernel
theorem dX6_saved_122 : decode cX6_saved 122 = .ok (.aload_n 0, 1) := by decide +kernel
theorem dX6_saved_123 : decode cX6_saved 123 = .ok (.getfield 47, 3) := by decide +kernel
theorem dX6_saved_126 : decode cX6_saved 126 = .ok (.iload 5, 2) := by decide +kernel
theorem dX6_saved_128 : decode cX6_saved 128 = .ok (.aload_n 0, 1) := by decide +kernel
theorem dX6_saved_129 : decode cX6_saved 129 = .ok (.getfield 29, 3) := by decide +kernel
theorem dX6_saved_132 : decode cX6_saved 132 = .ok (.iload_n 2, 1) := by decide +kernel
theorem dX6_saved_133 : decode cX6_saved 133 = .ok (.iaload, 1) := by decide +kernel
theorem dX6_saved_134 : decode cX6_saved 134 = .ok (.isub, 1) := by decide +kernel
theorem dX6_saved_135 : decode cX6_saved 135 = .ok (.iaload, 1) := by decide +kernel
theorem dX6_saved_136 : decode cX6_saved 136 = .ok (.iload 4, 2) := by decide +kernel
theorem dX6_saved_138 : decode cX6_saved 138 = .ok (.iadd, 1) := by decide +kernel
theorem dX6_saved_139 : decode cX6_saved 139 = .ok (.goto 10, 3) := by decide +kernel
theorem dX6_saved_142 : decode cX6_saved 142 = .ok (.aload_n 0, 1) := by decide +kernel
theorem dX6_saved_143 : decode cX6_saved 143 = .ok (.getfield 47, 3) := by decide +kernel
theorem dX6_saved_146 : decode cX6_saved 146 = .ok (.iload 5, 2) := by decide +kernel
theorem dX6_saved_148 : decode cX6_saved 148 = .ok (.iaload, 1) := by decide +kernel
theorem dX6_saved_149 : decode cX6_saved 149 = .ok (.iastore, 1) := by decide +kernel
theorem dX6_saved_150 : decode cX6_saved 150 = .ok (.iinc 5 (-1), 3) := by decide +kernel
theorem dX6_saved_153 : decode cX6_saved 153 = .ok (.goto (-75), 3) := by decide +kernel
theorem dX6_saved_156 : decode cX6_saved 156 = .ok (.iinc 3 1, 3) := by decide +kernel
theorem dX6_saved_159 : decode cX6_saved 159 = .ok (.goto (-109), 3) := by decide +kernel
theorem dX6_saved_162 : decode cX6_saved 162 = .ok (.iinc 2 1, 3) := by decide +kernel
theorem dX6_saved_165 : decode cX6_saved 165 = .ok (.goto (-125), 3) := by decide +kernel
theorem dX6_saved_168 : decode cX6_saved 168 = .ok (.aload_n 0, 1) := by decide +kernel
theorem dX6_saved_169 : decode cX6_saved 169 = .ok (.getfield 47, 3) := by decide +kernel
theorem dX6_saved_172 : decode cX6_saved 172 = .ok (.iload_n 1, 1) := by decide +kernel
theorem dX6_saved_173 : decode cX6_saved 173 = .ok (.iaload, 1) := by decide +kernel
theorem dX6_saved_174 : decode cX6_saved 174 = .ok (.ireturn, 1) := by decide +kernel
theorem dX6_wayOf_0 : decode cX6_wayOf 0 = .ok (.iconst 0, 1) := by decide +kernel
theorem dX6_wayOf_1 : decode cX6_wayOf 1 = .ok (.istore_n 1, 1) := by decide +kernel
theorem dX6_wayOf_2 : decode cX6_wayOf 2 = .ok (.iconst 0, 1) := by decide +kernel
theorem dX6_wayOf_3 : decode cX6_wayOf 3 = .ok (.istore_n 2, 1) := by decide +kernel
theorem dX6_wayOf_4 : decode cX6_wayOf 4 = .ok (.iload_n 2, 1) := by decide +kernel
theorem dX6_wayOf_5 : decode cX6_wayOf 5 = .ok (.aload_n 0, 1) := by decide +kernel
theorem dX6_wayOf_6 : decode cX6_wayOf 6 = .ok (.getfield 13, 3) := by decide +kernel
theorem dX6_wayOf_9 : decode cX6_wayOf 9 = .ok (.if_icmp .ge 98, 3) := by decide +kernel
theorem dX6_wayOf_12 : decode cX6_wayOf 12 = .ok (.aload_n 0, 1) := by decide +kernel
theorem dX6_wayOf_13 : decode cX6_wayOf 13 = .ok (.aload_n 0, 1) := by decide +kernel
theorem dX6_wayOf_14 : decode cX6_wayOf 14 = .ok (.getfield 69, 3) := by decide +kernel
theorem dX6_wayOf_17 : decode cX6_wayOf 17 = .ok (.aload_n 0, 1) := by decide +kernel
theorem dX6_wayOf_18 : decode cX6_wayOf 18 = .ok (.iload_n 2, 1) := by decide +kernel
theorem dX6_wayOf_19 : decode cX6_wayOf 19 = .ok (.invokevirtual 98, 3) := by decide +kernel
theorem dX6_wayOf_22 : decode cX6_wayOf 22 = .ok (.invokevirtual 95, 3) := by decide +kernel
theorem dX6_wayOf_25 : decode cX6_wayOf 25 = .ok (.istore_n 3, 1) := by decide +kernel
theorem dX6_wayOf_26 : decode cX6_wayOf 26 = .ok (.iconst 0, 1) := by decide +kernel
theorem dX6_wayOf_27 : decode cX6_wayOf 27 = .ok (.istore 4, 2) := by decide +kernel
theorem dX6_wayOf_29 : decode cX6_wayOf 29 = .ok (.iload 4, 2) := by decide +kernel
theorem dX6_wayOf_31 : decode cX6_wayOf 31 = .ok (.aload_n 0, 1) := by decide +kernel
theorem dX6_wayOf_32 : decode cX6_wayOf 32 = .ok (.getfield 7, 3) := by decide +kernel
theorem dX6_wayOf_35 : decode cX6_wayOf 35 = .ok (.if_icmp .ge 66, 3) := by decide +kernel
theorem dX6_wayOf_38 : decode cX6_wayOf 38 = .ok (.aload_n 0, 1) := by decide +kernel
theorem dX6_wayOf_39 : decode cX6_wayOf 39 = .ok (.getfield 50, 3) := by decide +kernel
theorem dX6_wayOf_42 : decode cX6_wayOf 42 = .ok (.iload_n 3, 1) := by decide +kernel
theorem dX6_wayOf_43 : decode cX6_wayOf 43 = .ok (.iaload, 1) := by decide +kernel
theorem dX6_wayOf_44 : decode cX6_wayOf 44 = .ok (.aload_n 0, 1) := by decide +kernel
theorem dX6_wayOf_45 : decode cX6_wayOf 45 = .ok (.getfield 50, 3) := by decide +kernel
theorem dX6_wayOf_48 : decode cX6_wayOf 48 = .ok (.aload_n 0, 1) := by decide +kernel
theorem dX6_wayOf_49 : decode cX6_wayOf 49 = .ok (.getfield 69, 3) := by decide +kernel
theorem dX6_wayOf_52 : decode cX6_wayOf 52 = .ok (.iload 4, 2) := by decide +kernel
theorem dX6_wayOf_54 : decode cX6_wayOf 54 = .ok (.invokestatic 83, 3) := by decide +kernel
theorem dX6_wayOf_57 : decode cX6_wayOf 57 = .ok (.iaload, 1) := by decide +kernel
theorem dX6_wayOf_58 : decode cX6_wayOf 58 = .ok (.isub, 1) := by decide +kernel
theorem dX6_wayOf_59 : decode cX6_wayOf 59 = .ok (.istore 5, 2) := by decide +kernel
theorem dX6_wayOf_61 : decode cX6_wayOf 61 = .ok (.iload_n 1, 1) := by decide +kernel
theorem dX6_wayOf_62 : decode cX6_wayOf 62 = .ok (.aload_n 0, 1) := by decide +kernel
theorem dX6_wayOf_63 : decode cX6_wayOf 63 = .ok (.iload_n 2, 1) := by decide +kernel
theorem dX6_wayOf_64 : decode cX6_wayOf 64 = .ok (.invokevirtual 98, 3) := by decide +kernel
theorem dX6_wayOf_67 : decode cX6_wayOf 67 = .ok (.iload 4, 2) := by decide +kernel
theorem dX6_wayOf_69 : decode cX6_wayOf 69 = .ok (.ishr, 1) := by decide +kernel
theorem dX6_wayOf_70 : decode cX6_wayOf 70 = .ok (.iconst 1, 1) := by decide +kernel
theorem dX6_wayOf_71 : decode cX6_wayOf 71 = .ok (.iand, 1) := by decide +kernel
theorem dX6_wayOf_72 : decode cX6_wayOf 72 = .ok (.aload_n 0, 1) := by decide +kernel
theorem dX6_wayOf_73 : decode cX6_wayOf 73 = .ok (.getfield 23, 3) := by decide +kernel
theorem dX6_wayOf_76 : decode cX6_wayOf 76 = .ok (.iload_n 2, 1) := by decide +kernel
theorem dX6_wayOf_77 : decode cX6_wayOf 77 = .ok (.iaload, 1) := by decide +kernel
theorem dX6_wayOf_78 : decode cX6_wayOf 78 = .ok (.imul, 1) := by decide +kernel
theorem dX6_wayOf_79 : decode cX6_wayOf 79 = .ok (.iload 5, 2) := by decide +kernel
theorem dX6_wayOf_81 : decode cX6_wayOf 81 = .ok (.ifCond .ge 9, 3) := by decide +kernel
theorem dX6_wayOf_84 : decode cX6_wayOf 84 = .ok (.iload 5, 2) := by decide +kernel
theorem dX6_wayOf_86 : decode cX6_wayOf 86 = .ok (.ineg, 1) := by decide +kernel
theorem dX6_wayOf_87 : decode cX6_wayOf 87 = .ok (.goto 5, 3) := by decide +kernel
theorem dX6_wayOf_90 : decode cX6_wayOf 90 = .ok (.iload 5, 2) := by decide +kernel
theorem dX6_wayOf_92 : decode cX6_wayOf 92 = .ok (.imul, 1) := by decide +kernel
theorem dX6_wayOf_93 : decode cX6_wayOf 93 = .ok (.iadd, 1) := by decide +kernel
theorem dX6_wayOf_94 : decode cX6_wayOf 94 = .ok (.istore_n 1, 1) := by decide +kernel
theorem dX6_wayOf_95 : decode cX6_wayOf 95 = .ok (.iinc 4 1, 3) := by decide +kernel
theorem dX6_wayOf_98 : decode cX6_wayOf 98 = .ok (.goto (-69), 3) := by decide +kernel
theorem dX6_wayOf_101 : decode cX6_wayOf 101 = .ok (.iinc 2 1, 3) := by decide +kernel
theorem dX6_wayOf_104 : decode cX6_wayOf 104 = .ok (.goto (-100), 3) := by decide +kernel
theorem dX6_wayOf_107 : decode cX6_wayOf 107 = .ok (.iload_n 1, 1) := by decide +kernel
theorem dX6_wayOf_108 : decode cX6_wayOf 108 = .ok (.ireturn, 1) := by decide +kernel
theorem dX6_lays_0 : decode cX6_lays 0 = .ok (.iload_n 1, 1) := by decide +kernel
theorem dX6_lays_1 : decode cX6_lays 1 = .ok (.iconst 0, 1) := by decide +kernel
theorem dX6_lays_2 : decode cX6_lays 2 = .ok (.iconst 3, 1) := by decide +kernel
theorem dX6_lays_3 : decode cX6_lays 3 = .ok (.invokestatic 72, 3) := by decide +kernel
theorem dX6_lays_6 : decode cX6_lays 6 = .ok (.ifCond .eq 52, 3) := by decide +kernel
theorem dX6_lays_9 : decode cX6_lays 9 = .ok (.iload_n 2, 1) := by decide +kernel
theorem dX6_lays_10 : decode cX6_lays 10 = .ok (.iconst 0, 1) := by decide +kernel
theorem dX6_lays_11 : decode cX6_lays 11 = .ok (.iconst 3, 1) := by decide +kernel
theorem dX6_lays_12 : decode cX6_lays 12 = .ok (.invokestatic 72, 3) := by decide +kernel
theorem dX6_lays_15 : decode cX6_lays 15 = .ok (.ifCond .eq 43, 3) := by decide +kernel
theorem dX6_lays_18 : decode cX6_lays 18 = .ok (.iload_n 3, 1) := by decide +kernel
theorem dX6_lays_19 : decode cX6_lays 19 = .ok (.iconst 0, 1) := by decide +kernel
theorem dX6_lays_20 : decode cX6_lays 20 = .ok (.iconst 3, 1) := by decide +kernel
theorem dX6_lays_21 : decode cX6_lays 21 = .ok (.invokestatic 72, 3) := by decide +kernel
theorem dX6_lays_24 : decode cX6_lays 24 = .ok (.ifCond .eq 34, 3) := by decide +kernel
theorem dX6_lays_27 : decode cX6_lays 27 = .ok (.iload 4, 2) := by decide +kernel
theorem dX6_lays_29 : decode cX6_lays 29 = .ok (.iconst 0, 1) := by decide +kernel
theorem dX6_lays_30 : decode cX6_lays 30 = .ok (.iconst 3, 1) := by decide +kernel
theorem dX6_lays_31 : decode cX6_lays 31 = .ok (.invokestatic 72, 3) := by decide +kernel
theorem dX6_lays_34 : decode cX6_lays 34 = .ok (.ifCond .eq 24, 3) := by decide +kernel
theorem dX6_lays_37 : decode cX6_lays 37 = .ok (.iconst 1, 1) := by decide +kernel
theorem dX6_lays_38 : decode cX6_lays 38 = .ok (.iload_n 1, 1) := by decide +kernel
theorem dX6_lays_39 : decode cX6_lays 39 = .ok (.ishl, 1) := by decide +kernel
theorem dX6_lays_40 : decode cX6_lays 40 = .ok (.iconst 1, 1) := by decide +kernel
theorem dX6_lays_41 : decode cX6_lays 41 = .ok (.iload_n 2, 1) := by decide +kernel
theorem dX6_lays_42 : decode cX6_lays 42 = .ok (.ishl, 1) := by decide +kernel
theorem dX6_lays_43 : decode cX6_lays 43 = .ok (.ior, 1) := by decide +kernel
theorem dX6_lays_44 : decode cX6_lays 44 = .ok (.iconst 1, 1) := by decide +kernel
theorem dX6_lays_45 : decode cX6_lays 45 = .ok (.iload_n 3, 1) := by decide +kernel
theorem dX6_lays_46 : decode cX6_lays 46 = .ok (.ishl, 1) := by decide +kernel
theorem dX6_lays_47 : decode cX6_lays 47 = .ok (.ior, 1) := by decide +kernel
theorem dX6_lays_48 : decode cX6_lays 48 = .ok (.iconst 1, 1) := by decide +kernel
theorem dX6_lays_49 : decode cX6_lays 49 = .ok (.iload 4, 2) := by decide +kernel
theorem dX6_lays_51 : decode cX6_lays 51 = .ok (.ishl, 1) := by decide +kernel
theorem dX6_lays_52 : decode cX6_lays 52 = .ok (.ior, 1) := by decide +kernel
theorem dX6_lays_53 : decode cX6_lays 53 = .ok (.bipush 15, 2) := by decide +kernel
theorem dX6_lays_55 : decode cX6_lays 55 = .ok (.if_icmp .eq 5, 3) := by decide +kernel
theorem dX6_lays_58 : decode cX6_lays 58 = .ok (.iconst 0, 1) := by decide +kernel
theorem dX6_lays_59 : decode cX6_lays 59 = .ok (.ireturn, 1) := by decide +kernel
theorem dX6_lays_60 : decode cX6_lays 60 = .ok (.aload_n 0, 1) := by decide +kernel
theorem dX6_lays_61 : decode cX6_lays 61 = .ok (.getfield 50, 3) := by decide +kernel
theorem dX6_lays_64 : decode cX6_lays 64 = .ok (.iload_n 1, 1) := by decide +kernel
theorem dX6_lays_65 : decode cX6_lays 65 = .ok (.iconst 0, 1) := by decide +kernel
theorem dX6_lays_66 : decode cX6_lays 66 = .ok (.iastore, 1) := by decide +kernel
theorem dX6_lays_67 : decode cX6_lays 67 = .ok (.aload_n 0, 1) := by decide +kernel
theorem dX6_lays_68 : decode cX6_lays 68 = .ok (.getfield 50, 3) := by decide +kernel
theorem dX6_lays_71 : decode cX6_lays 71 = .ok (.iload_n 2, 1) := by decide +kernel
theorem dX6_lays_72 : decode cX6_lays 72 = .ok (.iconst 1, 1) := by decide +kernel
theorem dX6_lays_73 : decode cX6_lays 73 = .ok (.iastore, 1) := by decide +kernel
theorem dX6_lays_74 : decode cX6_lays 74 = .ok (.aload_n 0, 1) := by decide +kernel
theorem dX6_lays_75 : decode cX6_lays 75 = .ok (.getfield 50, 3) := by decide +kernel
theorem dX6_lays_78 : decode cX6_lays 78 = .ok (.iload_n 3, 1) := by decide +kernel
theorem dX6_lays_79 : decode cX6_lays 79 = .ok (.iconst 2, 1) := by decide +kernel
theorem dX6_lays_80 : decode cX6_lays 80 = .ok (.iastore, 1) := by decide +kernel
theorem dX6_lays_81 : decode cX6_lays 81 = .ok (.aload_n 0, 1) := by decide +kernel
theorem dX6_lays_82 : decode cX6_lays 82 = .ok (.getfield 50, 3) := by decide +kernel
theorem dX6_lays_85 : decode cX6_lays 85 = .ok (.iload 4, 2) := by decide +kernel
theorem dX6_lays_87 : decode cX6_lays 87 = .ok (.iconst 3, 1) := by decide +kernel
theorem dX6_lays_88 : decode cX6_lays 88 = .ok (.iastore, 1) := by decide +kernel
theorem dX6_lays_89 : decode cX6_lays 89 = .ok (.iconst 1, 1) := by decide +kernel
theorem dX6_lays_90 : decode cX6_lays 90 = .ok (.ireturn, 1) := by decide +kernel
theorem dX6_way_0 : decode cX6_way 0 = .ok (.aload_n 0, 1) := by decide +kernel
theorem dX6_way_1 : decode cX6_way 1 = .ok (.iconst 0, 1) := by decide +kernel
theorem dX6_way_2 : decode cX6_way 2 = .ok (.putfield 66, 3) := by decide +kernel
theorem dX6_way_5 : decode cX6_way 5 = .ok (.aload_n 0, 1) := by decide +kernel
theorem dX6_way_6 : decode cX6_way 6 = .ok (.iload_n 1, 1) := by decide +kernel
theorem dX6_way_7 : decode cX6_way 7 = .ok (.iload_n 2, 1) := by decide +kernel
theorem dX6_way_8 : decode cX6_way 8 = .ok (.iload_n 3, 1) := by decide +kernel
theorem dX6_way_9 : decode cX6_way 9 = .ok (.iload 4, 2) := by decide +kernel
theorem dX6_way_11 : decode cX6_way 11 = .ok (.invokevirtual 144, 3) := by decide +kernel
theorem dX6_way_14 : decode cX6_way 14 = .ok (.ifCond .eq 10, 3) := by decide +kernel
theorem dX6_way_17 : decode cX6_way 17 = .ok (.aload_n 0, 1) := by decide +kernel
theorem dX6_way_18 : decode cX6_way 18 = .ok (.invokevirtual 148, 3) := by decide +kernel
theorem dX6_way_21 : decode cX6_way 21 = .ok (.goto 4, 3) := by decide +kernel
theorem dX6_way_24 : decode cX6_way 24 = .ok (.iconst (-1), 1) := by decide +kernel
theorem dX6_way_25 : decode cX6_way 25 = .ok (.ireturn, 1) := by decide +kernel
theorem dX6_floor_0 : decode cX6_floor 0 = .ok (.aload_n 0, 1) := by decide +kernel
theorem dX6_floor_1 : decode cX6_floor 1 = .ok (.iconst 0, 1) := by decide +kernel
theorem dX6_floor_2 : decode cX6_floor 2 = .ok (.putfield 66, 3) := by decide +kernel
theorem dX6_floor_5 : decode cX6_floor 5 = .ok (.iload_n 1, 1) := by decide +kernel
theorem dX6_floor_6 : decode cX6_floor 6 = .ok (.iconst 0, 1) := by decide +kernel
theorem dX6_floor_7 : decode cX6_floor 7 = .ok (.iconst 4, 1) := by decide +kernel
theorem dX6_floor_8 : decode cX6_floor 8 = .ok (.invokestatic 72, 3) := by decide +kernel
theorem dX6_floor_11 : decode cX6_floor 11 = .ok (.ifCond .ne 5, 3) := by decide +kernel
theorem dX6_floor_14 : decode cX6_floor 14 = .ok (.iconst (-1), 1) := by decide +kernel
theorem dX6_floor_15 : decode cX6_floor 15 = .ok (.ireturn, 1) := by decide +kernel
theorem dX6_floor_16 : decode cX6_floor 16 = .ok (.aload_n 0, 1) := by decide +kernel
theorem dX6_floor_17 : decode cX6_floor 17 = .ok (.getfield 53, 3) := by decide +kernel
theorem dX6_floor_20 : decode cX6_floor 20 = .ok (.iconst 4, 1) := by decide +kernel
theorem dX6_floor_21 : decode cX6_floor 21 = .ok (.bipush (-9), 2) := by decide +kernel
theorem dX6_floor_23 : decode cX6_floor 23 = .ok (.iastore, 1) := by decide +kernel
theorem dX6_floor_24 : decode cX6_floor 24 = .ok (.iconst 0, 1) := by decide +kernel
theorem dX6_floor_25 : decode cX6_floor 25 = .ok (.istore_n 2, 1) := by decide +kernel
theorem dX6_floor_26 : decode cX6_floor 26 = .ok (.iload_n 2, 1) := by decide +kernel
theorem dX6_floor_27 : decode cX6_floor 27 = .ok (.sipush 256, 3) := by decide +kernel
theorem dX6_floor_30 : decode cX6_floor 30 = .ok (.if_icmp .ge 107, 3) := by decide +kernel
theorem dX6_floor_33 : decode cX6_floor 33 = .ok (.aload_n 0, 1) := by decide +kernel
theorem dX6_floor_34 : decode cX6_floor 34 = .ok (.iload_n 2, 1) := by decide +kernel
theorem dX6_floor_35 : decode cX6_floor 35 = .ok (.bipush 6, 2) := by decide +kernel
theorem dX6_floor_37 : decode cX6_floor 37 = .ok (.ishr, 1) := by decide +kernel
theorem dX6_floor_38 : decode cX6_floor 38 = .ok (.iload_n 2, 1) := by decide +kernel
theorem dX6_floor_39 : decode cX6_floor 39 = .ok (.iconst 4, 1) := by decide +kernel
theorem dX6_floor_40 : decode cX6_floor 40 = .ok (.ishr, 1) := by decide +kernel
theorem dX6_floor_41 : decode cX6_floor 41 = .ok (.iconst 3, 1) := by decide +kernel
theorem dX6_floor_42 : decode cX6_floor 42 = .ok (.iand, 1) := by decide +kernel
theorem dX6_floor_43 : decode cX6_floor 43 = .ok (.iload_n 2, 1) := by decide +kernel
theorem dX6_floor_44 : decode cX6_floor 44 = .ok (.iconst 2, 1) := by decide +kernel
theorem dX6_floor_45 : decode cX6_floor 45 = .ok (.ishr, 1) := by decide +kernel
theorem dX6_floor_46 : decode cX6_floor 46 = .ok (.iconst 3, 1) := by decide +kernel
theorem dX6_floor_47 : decode cX6_floor 47 = .ok (.iand, 1) := by decide +kernel
theorem dX6_floor_48 : decode cX6_floor 48 = .ok (.iload_n 2, 1) := by decide +kernel
theorem dX6_floor_49 : decode cX6_floor 49 = .ok (.iconst 3, 1) := by decide +kernel
theorem dX6_floor_50 : decode cX6_floor 50 = .ok (.iand, 1) := by decide +kernel
theorem dX6_floor_51 : decode cX6_floor 51 = .ok (.invokevirtual 144, 3) := by decide +kernel
theorem dX6_floor_54 : decode cX6_floor 54 = .ok (.ifCond .eq 77, 3) := by decide +kernel
theorem dX6_floor_57 : decode cX6_floor 57 = .ok (.aload_n 0, 1) := by decide +kernel
theorem dX6_floor_58 : decode cX6_floor 58 = .ok (.invokevirtual 148, 3) := by decide +kernel
theorem dX6_floor_61 : decode cX6_floor 61 = .ok (.istore_n 3, 1) := by decide +kernel
theorem dX6_floor_62 : decode cX6_floor 62 = .ok (.aload_n 0, 1) := by decide +kernel
theorem dX6_floor_63 : decode cX6_floor 63 = .ok (.getfield 53, 3) := by decide +kernel
theorem dX6_floor_66 : decode cX6_floor 66 = .ok (.iconst 4, 1) := by decide +kernel
theorem dX6_floor_67 : decode cX6_floor 67 = .ok (.iaload, 1) := by decide +kernel
theorem dX6_floor_68 : decode cX6_floor 68 = .ok (.bipush (-9), 2) := by decide +kernel
theorem dX6_floor_70 : decode cX6_floor 70 = .ok (.if_icmp .eq 13, 3) := by decide +kernel
theorem dX6_floor_73 : decode cX6_floor 73 = .ok (.iload_n 3, 1) := by decide +kernel
theorem dX6_floor_74 : decode cX6_floor 74 = .ok (.aload_n 0, 1) := by decide +kernel
theorem dX6_floor_75 : decode cX6_floor 75 = .ok (.getfield 53, 3) := by decide +kernel
theorem dX6_floor_78 : decode cX6_floor 78 = .ok (.iconst 4, 1) := by decide +kernel
theorem dX6_floor_79 : decode cX6_floor 79 = .ok (.iaload, 1) := by decide +kernel
theorem dX6_floor_80 : decode cX6_floor 80 = .ok (.if_icmp .ge 51, 3) := by decide +kernel
theorem dX6_floor_83 : decode cX6_floor 83 = .ok (.aload_n 0, 1) := by decide +kernel
theorem dX6_floor_84 : decode cX6_floor 84 = .ok (.getfield 53, 3) := by decide +kernel
theorem dX6_floor_87 : decode cX6_floor 87 = .ok (.iconst 0, 1) := by decide +kernel
theorem dX6_floor_88 : decode cX6_floor 88 = .ok (.iload_n 2, 1) := by decide +kernel
theorem dX6_floor_89 : decode cX6_floor 89 = .ok (.bipush 6, 2) := by decide +kernel
theorem dX6_floor_91 : decode cX6_floor 91 = .ok (.ishr, 1) := by decide +kernel
theorem dX6_floor_92 : decode cX6_floor 92 = .ok (.iastore, 1) := by decide +kernel
theorem dX6_floor_93 : decode cX6_floor 93 = .ok (.aload_n 0, 1) := by decide +kernel
theorem dX6_floor_94 : decode cX6_floor 94 = .ok (.getfield 53, 3) := by decide +kernel
theorem dX6_floor_97 : decode cX6_floor 97 = .ok (.iconst 1, 1) := by decide +kernel
theorem dX6_floor_98 : decode cX6_floor 98 = .ok (.iload_n 2, 1) := by decide +kernel
theorem dX6_floor_99 : decode cX6_floor 99 = .ok (.iconst 4, 1) := by decide +kernel
theorem dX6_floor_100 : decode cX6_floor 100 = .ok (.ishr, 1) := by decide +kernel
theorem dX6_floor_101 : decode cX6_floor 101 = .ok (.iconst 3, 1) := by decide +kernel
theorem dX6_floor_102 : decode cX6_floor 102 = .ok (.iand, 1) := by decide +kernel
theorem dX6_floor_103 : decode cX6_floor 103 = .ok (.iastore, 1) := by decide +kernel
theorem dX6_floor_104 : decode cX6_floor 104 = .ok (.aload_n 0, 1) := by decide +kernel
theorem dX6_floor_105 : decode cX6_floor 105 = .ok (.getfield 53, 3) := by decide +kernel
theorem dX6_floor_108 : decode cX6_floor 108 = .ok (.iconst 2, 1) := by decide +kernel
theorem dX6_floor_109 : decode cX6_floor 109 = .ok (.iload_n 2, 1) := by decide +kernel
theorem dX6_floor_110 : decode cX6_floor 110 = .ok (.iconst 2, 1) := by decide +kernel
theorem dX6_floor_111 : decode cX6_floor 111 = .ok (.ishr, 1) := by decide +kernel
theorem dX6_floor_112 : decode cX6_floor 112 = .ok (.iconst 3, 1) := by decide +kernel
theorem dX6_floor_113 : decode cX6_floor 113 = .ok (.iand, 1) := by decide +kernel
theorem dX6_floor_114 : decode cX6_floor 114 = .ok (.iastore, 1) := by decide +kernel
theorem dX6_floor_115 : decode cX6_floor 115 = .ok (.aload_n 0, 1) := by decide +kernel
theorem dX6_floor_116 : decode cX6_floor 116 = .ok (.getfield 53, 3) := by decide +kernel
theorem dX6_floor_119 : decode cX6_floor 119 = .ok (.iconst 3, 1) := by decide +kernel
theorem dX6_floor_120 : decode cX6_floor 120 = .ok (.iload_n 2, 1) := by decide +kernel
theorem dX6_floor_121 : decode cX6_floor 121 = .ok (.iconst 3, 1) := by decide +kernel
theorem dX6_floor_122 : decode cX6_floor 122 = .ok (.iand, 1) := by decide +kernel
theorem dX6_floor_123 : decode cX6_floor 123 = .ok (.iastore, 1) := by decide +kernel
theorem dX6_floor_124 : decode cX6_floor 124 = .ok (.aload_n 0, 1) := by decide +kernel
theorem dX6_floor_125 : decode cX6_floor 125 = .ok (.getfield 53, 3) := by decide +kernel
theorem dX6_floor_128 : decode cX6_floor 128 = .ok (.iconst 4, 1) := by decide +kernel
theorem dX6_floor_129 : decode cX6_floor 129 = .ok (.iload_n 3, 1) := by decide +kernel
theorem dX6_floor_130 : decode cX6_floor 130 = .ok (.iastore, 1) := by decide +kernel
theorem dX6_floor_131 : decode cX6_floor 131 = .ok (.iinc 2 1, 3) := by decide +kernel
theorem dX6_floor_134 : decode cX6_floor 134 = .ok (.goto (-108), 3) := by decide +kernel
theorem dX6_floor_137 : decode cX6_floor 137 = .ok (.aload_n 0, 1) := by decide +kernel
theorem dX6_floor_138 : decode cX6_floor 138 = .ok (.getfield 53, 3) := by decide +kernel
theorem dX6_floor_141 : decode cX6_floor 141 = .ok (.iload_n 1, 1) := by decide +kernel
theorem dX6_floor_142 : decode cX6_floor 142 = .ok (.iaload, 1) := by decide +kernel
theorem dX6_floor_143 : decode cX6_floor 143 = .ok (.ireturn, 1) := by decide +kernel
theorem dX6_keep_0 : decode cX6_keep 0 = .ok (.aload_n 0, 1) := by decide +kernel
theorem dX6_keep_1 : decode cX6_keep 1 = .ok (.iconst 0, 1) := by decide +kernel
theorem dX6_keep_2 : decode cX6_keep 2 = .ok (.putfield 66, 3) := by decide +kernel
theorem dX6_keep_5 : decode cX6_keep 5 = .ok (.iload_n 1, 1) := by decide +kernel
theorem dX6_keep_6 : decode cX6_keep 6 = .ok (.iconst 0, 1) := by decide +kernel
theorem dX6_keep_7 : decode cX6_keep 7 = .ok (.iconst 3, 1) := by decide +kernel
theorem dX6_keep_8 : decode cX6_keep 8 = .ok (.invokestatic 72, 3) := by decide +kernel
theorem dX6_keep_11 : decode cX6_keep 11 = .ok (.ifCond .ne 5, 3) := by decide +kernel
theorem dX6_keep_14 : decode cX6_keep 14 = .ok (.iconst (-1), 1) := by decide +kernel
theorem dX6_keep_15 : decode cX6_keep 15 = .ok (.ireturn, 1) := by decide +kernel
theorem dX6_keep_16 : decode cX6_keep 16 = .ok (.aload_n 0, 1) := by decide +kernel
theorem dX6_keep_17 : decode cX6_keep 17 = .ok (.getfield 32, 3) := by decide +kernel
theorem dX6_keep_20 : decode cX6_keep 20 = .ok (.iload_n 1, 1) := by decide +kernel
theorem dX6_keep_21 : decode cX6_keep 21 = .ok (.aload_n 0, 1) := by decide +kernel
theorem dX6_keep_22 : decode cX6_keep 22 = .ok (.getfield 69, 3) := by decide +kernel
theorem dX6_keep_25 : decode cX6_keep 25 = .ok (.iastore, 1) := by decide +kernel
theorem dX6_keep_26 : decode cX6_keep 26 = .ok (.aload_n 0, 1) := by decide +kernel
theorem dX6_keep_27 : decode cX6_keep 27 = .ok (.getfield 69, 3) := by decide +kernel
theorem dX6_keep_30 : decode cX6_keep 30 = .ok (.ireturn, 1) := by decide +kernel
theorem dX6_year_0 : decode cX6_year 0 = .ok (.aload_n 0, 1) := by decide +kernel
theorem dX6_year_1 : decode cX6_year 1 = .ok (.iconst 0, 1) := by decide +kernel
theorem dX6_year_2 : decode cX6_year 2 = .ok (.putfield 66, 3) := by decide +kernel
theorem dX6_year_5 : decode cX6_year 5 = .ok (.iload_n 1, 1) := by decide +kernel
theorem dX6_year_6 : decode cX6_year 6 = .ok (.iconst 0, 1) := by decide +kernel
theorem dX6_year_7 : decode cX6_year 7 = .ok (.bipush 9, 2) := by decide +kernel
theorem dX6_year_9 : decode cX6_year 9 = .ok (.invokestatic 72, 3) := by decide +kernel
theorem dX6_year_12 : decode cX6_year 12 = .ok (.ifCond .ne 5, 3) := by decide +kernel
theorem dX6_year_15 : decode cX6_year 15 = .ok (.iconst (-1), 1) := by decide +kernel
theorem dX6_year_16 : decode cX6_year 16 = .ok (.ireturn, 1) := by decide +kernel
theorem dX6_year_17 : decode cX6_year 17 = .ok (.aload_n 0, 1) := by decide +kernel
theorem dX6_year_18 : decode cX6_year 18 = .ok (.getfield 151, 3) := by decide +kernel
theorem dX6_year_21 : decode cX6_year 21 = .ok (.bipush 6, 2) := by decide +kernel
theorem dX6_year_23 : decode cX6_year 23 = .ok (.if_icmp .ne 6, 3) := by decide +kernel
theorem dX6_year_26 : decode cX6_year 26 = .ok (.bipush (-3), 2) := by decide +kernel
theorem dX6_year_28 : decode cX6_year 28 = .ok (.ireturn, 1) := by decide +kernel
theorem dX6_year_29 : decode cX6_year 29 = .ok (.aload_n 0, 1) := by decide +kernel
theorem dX6_year_30 : decode cX6_year 30 = .ok (.getfield 35, 3) := by decide +kernel
theorem dX6_year_33 : decode cX6_year 33 = .ok (.aload_n 0, 1) := by decide +kernel
theorem dX6_year_34 : decode cX6_year 34 = .ok (.getfield 151, 3) := by decide +kernel
theorem dX6_year_37 : decode cX6_year 37 = .ok (.iload_n 1, 1) := by decide +kernel
theorem dX6_year_38 : decode cX6_year 38 = .ok (.iastore, 1) := by decide +kernel
theorem dX6_year_39 : decode cX6_year 39 = .ok (.aload_n 0, 1) := by decide +kernel
theorem dX6_year_40 : decode cX6_year 40 = .ok (.dup, 1) := by decide +kernel
theorem dX6_year_41 : decode cX6_year 41 = .ok (.getfield 151, 3) := by decide +kernel
theorem dX6_year_44 : decode cX6_year 44 = .ok (.iconst 1, 1) := by decide +kernel
theorem dX6_year_45 : decode cX6_year 45 = .ok (.iadd, 1) := by decide +kernel
theorem dX6_year_46 : decode cX6_year 46 = .ok (.putfield 151, 3) := by decide +kernel
theorem dX6_year_49 : decode cX6_year 49 = .ok (.aload_n 0, 1) := by decide +kernel
theorem dX6_year_50 : decode cX6_year 50 = .ok (.getfield 151, 3) := by decide +kernel
theorem dX6_year_53 : decode cX6_year 53 = .ok (.ireturn, 1) := by decide +kernel
theorem dX6_change_0 : decode cX6_change 0 = .ok (.aload_n 0, 1) := by decide +kernel
theorem dX6_change_1 : decode cX6_change 1 = .ok (.iconst 0, 1) := by decide +kernel
theorem dX6_change_2 : decode cX6_change 2 = .ok (.putfield 66, 3) := by decide +kernel
theorem dX6_change_5 : decode cX6_change 5 = .ok (.iload_n 1, 1) := by decide +kernel
theorem dX6_change_6 : decode cX6_change 6 = .ok (.iconst 0, 1) := by decide +kernel
theorem dX6_change_7 : decode cX6_change 7 = .ok (.bipush 50, 2) := by decide +kernel
theorem dX6_change_9 : decode cX6_change 9 = .ok (.invokestatic 72, 3) := by decide +kernel
theorem dX6_change_12 : decode cX6_change 12 = .ok (.ifCond .ne 5, 3) := by decide +kernel
theorem dX6_change_15 : decode cX6_change 15 = .ok (.iconst (-1), 1) := by decide +kernel
theorem dX6_change_16 : decode cX6_change 16 = .ok (.ireturn, 1) := by decide +kernel
theorem dX6_change_17 : decode cX6_change 17 = .ok (.aload_n 0, 1) := by decide +kernel
theorem dX6_change_18 : decode cX6_change 18 = .ok (.getfield 38, 3) := by decide +kernel
theorem dX6_change_21 : decode cX6_change 21 = .ok (.istore_n 2, 1) := by decide +kernel
theorem dX6_change_22 : decode cX6_change 22 = .ok (.aload_n 0, 1) := by decide +kernel
theorem dX6_change_23 : decode cX6_change 23 = .ok (.iload_n 1, 1) := by decide +kernel
theorem dX6_change_24 : decode cX6_change 24 = .ok (.putfield 38, 3) := by decide +kernel
theorem dX6_change_27 : decode cX6_change 27 = .ok (.iload_n 2, 1) := by decide +kernel
theorem dX6_change_28 : decode cX6_change 28 = .ok (.ireturn, 1) := by decide +kernel
theorem dX6_movedOf_0 : decode cX6_movedOf 0 = .ok (.iconst 0, 1) := by decide +kernel
theorem dX6_movedOf_1 : decode cX6_movedOf 1 = .ok (.istore_n 3, 1) := by decide +kernel
theorem dX6_movedOf_2 : decode cX6_movedOf 2 = .ok (.iconst 0, 1) := by decide +kernel
theorem dX6_movedOf_3 : decode cX6_movedOf 3 = .ok (.istore 4, 2) := by decide +kernel
theorem dX6_movedOf_5 : decode cX6_movedOf 5 = .ok (.iload 4, 2) := by decide +kernel
theorem dX6_movedOf_7 : decode cX6_movedOf 7 = .ok (.aload_n 0, 1) := by decide +kernel
theorem dX6_movedOf_8 : decode cX6_movedOf 8 = .ok (.getfield 7, 3) := by decide +kernel
theorem dX6_movedOf_11 : decode cX6_movedOf 11 = .ok (.if_icmp .ge 32, 3) := by decide +kernel
theorem dX6_movedOf_14 : decode cX6_movedOf 14 = .ok (.iload_n 3, 1) := by decide +kernel
theorem dX6_movedOf_15 : decode cX6_movedOf 15 = .ok (.iload_n 1, 1) := by decide +kernel
theorem dX6_movedOf_16 : decode cX6_movedOf 16 = .ok (.iload 4, 2) := by decide +kernel
theorem dX6_movedOf_18 : decode cX6_movedOf 18 = .ok (.invokestatic 83, 3) := by decide +kernel
theorem dX6_movedOf_21 : decode cX6_movedOf 21 = .ok (.iload_n 2, 1) := by decide +kernel
theorem dX6_movedOf_22 : decode cX6_movedOf 22 = .ok (.iload 4, 2) := by decide +kernel
theorem dX6_movedOf_24 : decode cX6_movedOf 24 = .ok (.invokestatic 83, 3) := by decide +kernel
theorem dX6_movedOf_27 : decode cX6_movedOf 27 = .ok (.if_icmp .eq 7, 3) := by decide +kernel
theorem dX6_movedOf_30 : decode cX6_movedOf 30 = .ok (.iconst 1, 1) := by decide +kernel
theorem dX6_movedOf_31 : decode cX6_movedOf 31 = .ok (.goto 4, 3) := by decide +kernel
theorem dX6_movedOf_34 : decode cX6_movedOf 34 = .ok (.iconst 0, 1) := by decide +kernel
theorem dX6_movedOf_35 : decode cX6_movedOf 35 = .ok (.iadd, 1) := by decide +kernel
theorem dX6_movedOf_36 : decode cX6_movedOf 36 = .ok (.istore_n 3, 1) := by decide +kernel
theorem dX6_movedOf_37 : decode cX6_movedOf 37 = .ok (.iinc 4 1, 3) := by decide +kernel
theorem dX6_movedOf_40 : decode cX6_movedOf 40 = .ok (.goto (-35), 3) := by decide +kernel
theorem dX6_movedOf_43 : decode cX6_movedOf 43 = .ok (.iload_n 3, 1) := by decide +kernel
theorem dX6_movedOf_44 : decode cX6_movedOf 44 = .ok (.ireturn, 1) := by decide +kernel
theorem dX6_plan_0 : decode cX6_plan 0 = .ok (.aload_n 0, 1) := by decide +kernel
theorem dX6_plan_1 : decode cX6_plan 1 = .ok (.iconst 0, 1) := by decide +kernel
theorem dX6_plan_2 : decode cX6_plan 2 = .ok (.putfield 66, 3) := by decide +kernel
theorem dX6_plan_5 : decode cX6_plan 5 = .ok (.aload_n 0, 1) := by decide +kernel
theorem dX6_plan_6 : decode cX6_plan 6 = .ok (.getfield 151, 3) := by decide +kernel
theorem dX6_plan_9 : decode cX6_plan 9 = .ok (.ifCond .ne 6, 3) := by decide +kernel
theorem dX6_plan_12 : decode cX6_plan 12 = .ok (.bipush (-2), 2) := by decide +kernel
theorem dX6_plan_14 : decode cX6_plan 14 = .ok (.ireturn, 1) := by decide +kernel
theorem dX6_plan_15 : decode cX6_plan 15 = .ok (.iconst 0, 1) := by decide +kernel
theorem dX6_plan_16 : decode cX6_plan 16 = .ok (.istore_n 1, 1) := by decide +kernel
theorem dX6_plan_17 : decode cX6_plan 17 = .ok (.iload_n 1, 1) := by decide +kernel
theorem dX6_plan_18 : decode cX6_plan 18 = .ok (.iconst 4, 1) := by decide +kernel
theorem dX6_plan_19 : decode cX6_plan 19 = .ok (.if_icmp .ge 33, 3) := by decide +kernel
theorem dX6_plan_22 : decode cX6_plan 22 = .ok (.aload_n 0, 1) := by decide +kernel
theorem dX6_plan_23 : decode cX6_plan 23 = .ok (.getfield 56, 3) := by decide +kernel
theorem dX6_plan_26 : decode cX6_plan 26 = .ok (.iload_n 1, 1) := by decide +kernel
theorem dX6_plan_27 : decode cX6_plan 27 = .ok (.aload_n 0, 1) := by decide +kernel
theorem dX6_plan_28 : decode cX6_plan 28 = .ok (.getfield 35, 3) := by decide +kernel
theorem dX6_plan_31 : decode cX6_plan 31 = .ok (.iconst 0, 1) := by decide +kernel
theorem dX6_plan_32 : decode cX6_plan 32 = .ok (.iaload, 1) := by decide +kernel
theorem dX6_plan_33 : decode cX6_plan 33 = .ok (.aload_n 0, 1) := by decide +kernel
theorem dX6_plan_34 : decode cX6_plan 34 = .ok (.aload_n 0, 1) := by decide +kernel
theorem dX6_plan_35 : decode cX6_plan 35 = .ok (.getfield 32, 3) := by decide +kernel
theorem dX6_plan_38 : decode cX6_plan 38 = .ok (.iload_n 1, 1) := by decide +kernel
theorem dX6_plan_39 : decode cX6_plan 39 = .ok (.iaload, 1) := by decide +kernel
theorem dX6_plan_40 : decode cX6_plan 40 = .ok (.iconst 0, 1) := by decide +kernel
theorem dX6_plan_41 : decode cX6_plan 41 = .ok (.invokevirtual 115, 3) := by decide +kernel
theorem dX6_plan_44 : decode cX6_plan 44 = .ok (.imul, 1) := by decide +kernel
theorem dX6_plan_45 : decode cX6_plan 45 = .ok (.iastore, 1) := by decide +kernel
theorem dX6_plan_46 : decode cX6_plan 46 = .ok (.iinc 1 1, 3) := by decide +kernel
theorem dX6_plan_49 : decode cX6_plan 49 = .ok (.goto (-32), 3) := by decide +kernel
theorem dX6_plan_52 : decode cX6_plan 52 = .ok (.iconst 1, 1) := by decide +kernel
theorem dX6_plan_53 : decode cX6_plan 53 = .ok (.istore_n 1, 1) := by decide +kernel
theorem dX6_plan_54 : decode cX6_plan 54 = .ok (.iload_n 1, 1) := by decide +kernel
theorem dX6_plan_55 : decode cX6_plan 55 = .ok (.aload_n 0, 1) := by decide +kernel
theorem dX6_plan_56 : decode cX6_plan 56 = .ok (.getfield 151, 3) := by decide +kernel
theorem dX6_plan_59 : decode cX6_plan 59 = .ok (.if_icmp .ge 157, 3) := by decide +kernel
theorem dX6_plan_62 : decode cX6_plan 62 = .ok (.iconst 0, 1) := by decide +kernel
theorem dX6_plan_63 : decode cX6_plan 63 = .ok (.istore_n 2, 1) := by decide +kernel
theorem dX6_plan_64 : decode cX6_plan 64 = .ok (.iload_n 2, 1) := by decide +kernel
theorem dX6_plan_65 : decode cX6_plan 65 = .ok (.iconst 4, 1) := by decide +kernel
theorem dX6_plan_66 : decode cX6_plan 66 = .ok (.if_icmp .ge 119, 3) := by decide +kernel
theorem dX6_plan_69 : decode cX6_plan 69 = .ok (.aload_n 0, 1) := by decide +kernel
theorem dX6_plan_70 : decode cX6_plan 70 = .ok (.getfield 59, 3) := by decide +kernel
theorem dX6_plan_73 : decode cX6_plan 73 = .ok (.iload_n 2, 1) := by decide +kernel
theorem dX6_plan_74 : decode cX6_plan 74 = .ok (.aload_n 0, 1) := by decide +kernel
theorem dX6_plan_75 : decode cX6_plan 75 = .ok (.getfield 56, 3) := by decide +kernel
theorem dX6_plan_78 : decode cX6_plan 78 = .ok (.iload_n 2, 1) := by decide +kernel
theorem dX6_plan_79 : decode cX6_plan 79 = .ok (.iaload, 1) := by decide +kernel
theorem dX6_plan_80 : decode cX6_plan 80 = .ok (.iastore, 1) := by decide +kernel
theorem dX6_plan_81 : decode cX6_plan 81 = .ok (.iconst 0, 1) := by decide +kernel
theorem dX6_plan_82 : decode cX6_plan 82 = .ok (.istore_n 3, 1) := by decide +kernel
theorem dX6_plan_83 : decode cX6_plan 83 = .ok (.iload_n 3, 1) := by decide +kernel
theorem dX6_plan_84 : decode cX6_plan 84 = .ok (.iconst 4, 1) := by decide +kernel
theorem dX6_plan_85 : decode cX6_plan 85 = .ok (.if_icmp .ge 67, 3) := by decide +kernel
theorem dX6_plan_88 : decode cX6_plan 88 = .ok (.aload_n 0, 1) := by decide +kernel
theorem dX6_plan_89 : decode cX6_plan 89 = .ok (.getfield 56, 3) := by decide +kernel
theorem dX6_plan_92 : decode cX6_plan 92 = .ok (.iload_n 3, 1) := by decide +kernel
theorem dX6_plan_93 : decode cX6_plan 93 = .ok (.iaload, 1) := by decide +kernel
theorem dX6_plan_94 : decode cX6_plan 94 = .ok (.aload_n 0, 1) := by decide +kernel
theorem dX6_plan_95 : decode cX6_plan 95 = .ok (.getfield 38, 3) := by decide +kernel
theorem dX6_plan_98 : decode cX6_plan 98 = .ok (.aload_n 0, 1) := by decide +kernel
theorem dX6_plan_99 : decode cX6_plan 99 = .ok (.aload_n 0, 1) := by decide +kernel
theorem dX6_plan_100 : decode cX6_plan 100 = .ok (.getfield 32, 3) := by decide +kernel
theorem dX6_plan_103 : decode cX6_plan 103 = .ok (.iload_n 3, 1) := by decide +kernel
theorem dX6_plan_104 : decode cX6_plan 104 = .ok (.iaload, 1) := by decide +kernel
theorem dX6_plan_105 : decode cX6_plan 105 = .ok (.aload_n 0, 1) := by decide +kernel
theorem dX6_plan_106 : decode cX6_plan 106 = .ok (.getfield 32, 3) := by decide +kernel
theorem dX6_plan_109 : decode cX6_plan 109 = .ok (.iload_n 2, 1) := by decide +kernel
theorem dX6_plan_110 : decode cX6_plan 110 = .ok (.iaload, 1) := by decide +kernel
theorem dX6_plan_111 : decode cX6_plan 111 = .ok (.invokevirtual 154, 3) := by decide +kernel
theorem dX6_plan_114 : decode cX6_plan 114 = .ok (.imul, 1) := by decide +kernel
theorem dX6_plan_115 : decode cX6_plan 115 = .ok (.iadd, 1) := by decide +kernel
theorem dX6_plan_116 : decode cX6_plan 116 = .ok (.istore 4, 2) := by decide +kernel
theorem dX6_plan_118 : decode cX6_plan 118 = .ok (.aload_n 0, 1) := by decide +kernel
theorem dX6_plan_119 : decode cX6_plan 119 = .ok (.getfield 59, 3) := by decide +kernel
theorem dX6_plan_122 : decode cX6_plan 122 = .ok (.iload_n 2, 1) := by decide +kernel
theorem dX6_plan_123 : decode cX6_plan 123 = .ok (.iload 4, 2) := by decide +kernel
theorem dX6_plan_125 : decode cX6_plan 125 = .ok (.aload_n 0, 1) := by decide +kernel
theorem dX6_plan_126 : decode cX6_plan 126 = .ok (.getfield 59, 3) := by decide +kernel
theorem dX6_plan_129 : decode cX6_plan 129 = .ok (.iload_n 2, 1) := by decide +kernel
theorem dX6_plan_130 : decode cX6_plan 130 = .ok (.iaload, 1) := by decide +kernel
theorem dX6_plan_131 : decode cX6_plan 131 = .ok (.if_icmp .ge 8, 3) := by decide +kernel
theorem dX6_plan_134 : decode cX6_plan 134 = .ok (.iload 4, 2) := by decide +kernel
theorem dX6_plan_136 : decode cX6_plan 136 = .ok (.goto 9, 3) := by decide +kernel
theorem dX6_plan_139 : decode cX6_plan 139 = .ok (.aload_n 0, 1) := by decide +kernel
theorem dX6_plan_140 : decode cX6_plan 140 = .ok (.getfield 59, 3) := by decide +kernel
theorem dX6_plan_143 : decode cX6_plan 143 = .ok (.iload_n 2, 1) := by decide +kernel
theorem dX6_plan_144 : decode cX6_plan 144 = .ok (.iaload, 1) := by decide +kernel
theorem dX6_plan_145 : decode cX6_plan 145 = .ok (.iastore, 1) := by decide +kernel
theorem dX6_plan_146 : decode cX6_plan 146 = .ok (.iinc 3 1, 3) := by decide +kernel
theorem dX6_plan_149 : decode cX6_plan 149 = .ok (.goto (-66), 3) := by decide +kernel
theorem dX6_plan_152 : decode cX6_plan 152 = .ok (.aload_n 0, 1) := by decide +kernel
theorem dX6_plan_153 : decode cX6_plan 153 = .ok (.getfield 59, 3) := by decide +kernel
theorem dX6_plan_156 : decode cX6_plan 156 = .ok (.iload_n 2, 1) := by decide +kernel
theorem dX6_plan_157 : decode cX6_plan 157 = .ok (.dup2, 1) := by decide +kernel
theorem dX6_plan_158 : decode cX6_plan 158 = .ok (.iaload, 1) := by decide +kernel
theorem dX6_plan_159 : decode cX6_plan 159 = .ok (.aload_n 0, 1) := by decide +kernel
theorem dX6_plan_160 : decode cX6_plan 160 = .ok (.getfield 35, 3) := by decide +kernel
theorem dX6_plan_163 : decode cX6_plan 163 = .ok (.iload_n 1, 1) := by decide +kernel
theorem dX6_plan_164 : decode cX6_plan 164 = .ok (.iaload, 1) := by decide +kernel
theorem dX6_plan_165 : decode cX6_plan 165 = .ok (.aload_n 0, 1) := by decide +kernel
theorem dX6_plan_166 : decode cX6_plan 166 = .ok (.aload_n 0, 1) := by decide +kernel
theorem dX6_plan_167 : decode cX6_plan 167 = .ok (.getfield 32, 3) := by decide +kernel
theorem dX6_plan_170 : decode cX6_plan 170 = .ok (.iload_n 2, 1) := by decide +kernel
theorem dX6_plan_171 : decode cX6_plan 171 = .ok (.iaload, 1) := by decide +kernel
theorem dX6_plan_172 : decode cX6_plan 172 = .ok (.iconst 0, 1) := by decide +kernel
theorem dX6_plan_173 : decode cX6_plan 173 = .ok (.invokevirtual 115, 3) := by decide +kernel
theorem dX6_plan_176 : decode cX6_plan 176 = .ok (.imul, 1) := by decide +kernel
theorem dX6_plan_177 : decode cX6_plan 177 = .ok (.iadd, 1) := by decide +kernel
theorem dX6_plan_178 : decode cX6_plan 178 = .ok (.iastore, 1) := by decide +kernel
theorem dX6_plan_179 : decode cX6_plan 179 = .ok (.iinc 2 1, 3) := by decide +kernel
theorem dX6_plan_182 : decode cX6_plan 182 = .ok (.goto (-118), 3) := by decide +kernel
theorem dX6_plan_185 : decode cX6_plan 185 = .ok (.iconst 0, 1) := by decide +kernel
theorem dX6_plan_186 : decode cX6_plan 186 = .ok (.istore_n 2, 1) := by decide +kernel
theorem dX6_plan_187 : decode cX6_plan 187 = .ok (.iload_n 2, 1) := by decide +kernel
theorem dX6_plan_188 : decode cX6_plan 188 = .ok (.iconst 4, 1) := by decide +kernel
theorem dX6_plan_189 : decode cX6_plan 189 = .ok (.if_icmp .ge 21, 3) := by decide +kernel
theorem dX6_plan_192 : decode cX6_plan 192 = .ok (.aload_n 0, 1) := by decide +kernel
theorem dX6_plan_193 : decode cX6_plan 193 = .ok (.getfield 56, 3) := by decide +kernel
theorem dX6_plan_196 : decode cX6_plan 196 = .ok (.iload_n 2, 1) := by decide +kernel
theorem dX6_plan_197 : decode cX6_plan 197 = .ok (.aload_n 0, 1) := by decide +kernel
theorem dX6_plan_198 : decode cX6_plan 198 = .ok (.getfield 59, 3) := by decide +kernel
theorem dX6_plan_201 : decode cX6_plan 201 = .ok (.iload_n 2, 1) := by decide +kernel
theorem dX6_plan_202 : decode cX6_plan 202 = .ok (.iaload, 1) := by decide +kernel
theorem dX6_plan_203 : decode cX6_plan 203 = .ok (.iastore, 1) := by decide +kernel
theorem dX6_plan_204 : decode cX6_plan 204 = .ok (.iinc 2 1, 3) := by decide +kernel
theorem dX6_plan_207 : decode cX6_plan 207 = .ok (.goto (-20), 3) := by decide +kernel
theorem dX6_plan_210 : decode cX6_plan 210 = .ok (.iinc 1 1, 3) := by decide +kernel
theorem dX6_plan_213 : decode cX6_plan 213 = .ok (.goto (-159), 3) := by decide +kernel
theorem dX6_plan_216 : decode cX6_plan 216 = .ok (.aload_n 0, 1) := by decide +kernel
theorem dX6_plan_217 : decode cX6_plan 217 = .ok (.getfield 56, 3) := by decide +kernel
theorem dX6_plan_220 : decode cX6_plan 220 = .ok (.iconst 0, 1) := by decide +kernel
theorem dX6_plan_221 : decode cX6_plan 221 = .ok (.iaload, 1) := by decide +kernel
theorem dX6_plan_222 : decode cX6_plan 222 = .ok (.istore_n 1, 1) := by decide +kernel
theorem dX6_plan_223 : decode cX6_plan 223 = .ok (.iconst 1, 1) := by decide +kernel
theorem dX6_plan_224 : decode cX6_plan 224 = .ok (.istore_n 2, 1) := by decide +kernel
theorem dX6_plan_225 : decode cX6_plan 225 = .ok (.iload_n 2, 1) := by decide +kernel
theorem dX6_plan_226 : decode cX6_plan 226 = .ok (.iconst 4, 1) := by decide +kernel
theorem dX6_plan_227 : decode cX6_plan 227 = .ok (.if_icmp .ge 30, 3) := by decide +kernel
theorem dX6_plan_230 : decode cX6_plan 230 = .ok (.aload_n 0, 1) := by decide +kernel
theorem dX6_plan_231 : decode cX6_plan 231 = .ok (.getfield 56, 3) := by decide +kernel
theorem dX6_plan_234 : decode cX6_plan 234 = .ok (.iload_n 2, 1) := by decide +kernel
theorem dX6_plan_235 : decode cX6_plan 235 = .ok (.iaload, 1) := by decide +kernel
theorem dX6_plan_236 : decode cX6_plan 236 = .ok (.iload_n 1, 1) := by decide +kernel
theorem dX6_plan_237 : decode cX6_plan 237 = .ok (.if_icmp .ge 12, 3) := by decide +kernel
theorem dX6_plan_240 : decode cX6_plan 240 = .ok (.aload_n 0, 1) := by decide +kernel
theorem dX6_plan_241 : decode cX6_plan 241 = .ok (.getfield 56, 3) := by decide +kernel
theorem dX6_plan_244 : decode cX6_plan 244 = .ok (.iload_n 2, 1) := by decide +kernel
theorem dX6_plan_245 : decode cX6_plan 245 = .ok (.iaload, 1) := by decide +kernel
theorem dX6_plan_246 : decode cX6_plan 246 = .ok (.goto 4, 3) := by decide +kernel
theorem dX6_plan_249 : decode cX6_plan 249 = .ok (.iload_n 1, 1) := by decide +kernel
theorem dX6_plan_250 : decode cX6_plan 250 = .ok (.istore_n 1, 1) := by decide +kernel
theorem dX6_plan_251 : decode cX6_plan 251 = .ok (.iinc 2 1, 3) := by decide +kernel
theorem dX6_plan_254 : decode cX6_plan 254 = .ok (.goto (-29), 3) := by decide +kernel
theorem dX6_plan_257 : decode cX6_plan 257 = .ok (.iload_n 1, 1) := by decide +kernel
theorem dX6_plan_258 : decode cX6_plan 258 = .ok (.ireturn, 1) := by decide +kernel
theorem dX6_count_0 : decode cX6_count 0 = .ok (.aload_n 0, 1) := by decide +kernel
theorem dX6_count_1 : decode cX6_count 1 = .ok (.iconst 0, 1) := by decide +kernel
theorem dX6_count_2 : decode cX6_count 2 = .ok (.putfield 66, 3) := by decide +kernel
theorem dX6_count_5 : decode cX6_count 5 = .ok (.iload_n 1, 1) := by decide +kernel
theorem dX6_count_6 : decode cX6_count 6 = .ok (.ifCond .ne 10, 3) := by decide +kernel
theorem dX6_count_9 : decode cX6_count 9 = .ok (.aload_n 0, 1) := by decide +kernel
theorem dX6_count_10 : decode cX6_count 10 = .ok (.getfield 7, 3) := by decide +kernel
theorem dX6_count_13 : decode cX6_count 13 = .ok (.goto 54, 3) := by decide +kernel
theorem dX6_count_16 : decode cX6_count 16 = .ok (.iload_n 1, 1) := by decide +kernel
theorem dX6_count_17 : decode cX6_count 17 = .ok (.iconst 1, 1) := by decide +kernel
theorem dX6_count_18 : decode cX6_count 18 = .ok (.if_icmp .ne 10, 3) := by decide +kernel
theorem dX6_count_21 : decode cX6_count 21 = .ok (.aload_n 0, 1) := by decide +kernel
theorem dX6_count_22 : decode cX6_count 22 = .ok (.getfield 13, 3) := by decide +kernel
theorem dX6_count_25 : decode cX6_count 25 = .ok (.goto 42, 3) := by decide +kernel
theorem dX6_count_28 : decode cX6_count 28 = .ok (.iload_n 1, 1) := by decide +kernel
theorem dX6_count_29 : decode cX6_count 29 = .ok (.iconst 2, 1) := by decide +kernel
theorem dX6_count_30 : decode cX6_count 30 = .ok (.if_icmp .ne 10, 3) := by decide +kernel
theorem dX6_count_33 : decode cX6_count 33 = .ok (.aload_n 0, 1) := by decide +kernel
theorem dX6_count_34 : decode cX6_count 34 = .ok (.getfield 69, 3) := by decide +kernel
theorem dX6_count_37 : decode cX6_count 37 = .ok (.goto 30, 3) := by decide +kernel
theorem dX6_count_40 : decode cX6_count 40 = .ok (.iload_n 1, 1) := by decide +kernel
theorem dX6_count_41 : decode cX6_count 41 = .ok (.iconst 3, 1) := by decide +kernel
theorem dX6_count_42 : decode cX6_count 42 = .ok (.if_icmp .ne 10, 3) := by decide +kernel
theorem dX6_count_45 : decode cX6_count 45 = .ok (.aload_n 0, 1) := by decide +kernel
theorem dX6_count_46 : decode cX6_count 46 = .ok (.getfield 151, 3) := by decide +kernel
theorem dX6_count_49 : decode cX6_count 49 = .ok (.goto 18, 3) := by decide +kernel
theorem dX6_count_52 : decode cX6_count 52 = .ok (.iload_n 1, 1) := by decide +kernel
theorem dX6_count_53 : decode cX6_count 53 = .ok (.iconst 4, 1) := by decide +kernel
theorem dX6_count_54 : decode cX6_count 54 = .ok (.if_icmp .ne 12, 3) := by decide +kernel
theorem dX6_count_57 : decode cX6_count 57 = .ok (.aload_n 0, 1) := by decide +kernel
theorem dX6_count_58 : decode cX6_count 58 = .ok (.getfield 32, 3) := by decide +kernel
theorem dX6_count_61 : decode cX6_count 61 = .ok (.iconst 0, 1) := by decide +kernel
theorem dX6_count_62 : decode cX6_count 62 = .ok (.iaload, 1) := by decide +kernel
theorem dX6_count_63 : decode cX6_count 63 = .ok (.goto 4, 3) := by decide +kernel
theorem dX6_count_66 : decode cX6_count 66 = .ok (.iconst (-1), 1) := by decide +kernel
theorem dX6_count_67 : decode cX6_count 67 = .ok (.ireturn, 1) := by decide +kernel
theorem dX6_trace_0 : decode cX6_trace 0 = .ok (.aload_n 0, 1) := by decide +kernel
theorem dX6_trace_1 : decode cX6_trace 1 = .ok (.iconst 0, 1) := by decide +kernel
theorem dX6_trace_2 : decode cX6_trace 2 = .ok (.putfield 66, 3) := by decide +kernel
theorem dX6_trace_5 : decode cX6_trace 5 = .ok (.aload_n 0, 1) := by decide +kernel
theorem dX6_trace_6 : decode cX6_trace 6 = .ok (.getfield 107, 3) := by decide +kernel
theorem dX6_trace_9 : decode cX6_trace 9 = .ok (.lreturn, 1) := by decide +kernel
theorem dJ6_bitCount_0f7a4_0 : decode cJ6_bitCount_0f7a4 0 = .ok (.iload_n 0, 1) := by decide +kernel
theorem dJ6_bitCount_0f7a4_1 : decode cJ6_bitCount_0f7a4 1 = .ok (.iload_n 0, 1) := by decide +kernel
theorem dJ6_bitCount_0f7a4_2 : decode cJ6_bitCount_0f7a4 2 = .ok (.iconst 1, 1) := by decide +kernel
theorem dJ6_bitCount_0f7a4_3 : decode cJ6_bitCount_0f7a4 3 = .ok (.iushr, 1) := by decide +kernel
theorem dJ6_bitCount_0f7a4_4 : decode cJ6_bitCount_0f7a4 4 = .ok (.ldc_w 265, 3) := by decide +kernel
theorem dJ6_bitCount_0f7a4_7 : decode cJ6_bitCount_0f7a4 7 = .ok (.iand, 1) := by decide +kernel
theorem dJ6_bitCount_0f7a4_8 : decode cJ6_bitCount_0f7a4 8 = .ok (.isub, 1) := by decide +kernel
theorem dJ6_bitCount_0f7a4_9 : decode cJ6_bitCount_0f7a4 9 = .ok (.istore_n 0, 1) := by decide +kernel
theorem dJ6_bitCount_0f7a4_10 : decode cJ6_bitCount_0f7a4 10 = .ok (.iload_n 0, 1) := by decide +kernel
theorem dJ6_bitCount_0f7a4_11 : decode cJ6_bitCount_0f7a4 11 = .ok (.ldc_w 266, 3) := by decide +kernel
theorem dJ6_bitCount_0f7a4_14 : decode cJ6_bitCount_0f7a4 14 = .ok (.iand, 1) := by decide +kernel
theorem dJ6_bitCount_0f7a4_15 : decode cJ6_bitCount_0f7a4 15 = .ok (.iload_n 0, 1) := by decide +kernel
theorem dJ6_bitCount_0f7a4_16 : decode cJ6_bitCount_0f7a4 16 = .ok (.iconst 2, 1) := by decide +kernel
theorem dJ6_bitCount_0f7a4_17 : decode cJ6_bitCount_0f7a4 17 = .ok (.iushr, 1) := by decide +kernel
theorem dJ6_bitCount_0f7a4_18 : decode cJ6_bitCount_0f7a4 18 = .ok (.ldc_w 266, 3) := by decide +kernel
theorem dJ6_bitCount_0f7a4_21 : decode cJ6_bitCount_0f7a4 21 = .ok (.iand, 1) := by decide +kernel
theorem dJ6_bitCount_0f7a4_22 : decode cJ6_bitCount_0f7a4 22 = .ok (.iadd, 1) := by decide +kernel
theorem dJ6_bitCount_0f7a4_23 : decode cJ6_bitCount_0f7a4 23 = .ok (.istore_n 0, 1) := by decide +kernel
theorem dJ6_bitCount_0f7a4_24 : decode cJ6_bitCount_0f7a4 24 = .ok (.iload_n 0, 1) := by decide +kernel
theorem dJ6_bitCount_0f7a4_25 : decode cJ6_bitCount_0f7a4 25 = .ok (.iload_n 0, 1) := by decide +kernel
theorem dJ6_bitCount_0f7a4_26 : decode cJ6_bitCount_0f7a4 26 = .ok (.iconst 4, 1) := by decide +kernel
theorem dJ6_bitCount_0f7a4_27 : decode cJ6_bitCount_0f7a4 27 = .ok (.iushr, 1) := by decide +kernel
theorem dJ6_bitCount_0f7a4_28 : decode cJ6_bitCount_0f7a4 28 = .ok (.iadd, 1) := by decide +kernel
theorem dJ6_bitCount_0f7a4_29 : decode cJ6_bitCount_0f7a4 29 = .ok (.ldc_w 267, 3) := by decide +kernel
theorem dJ6_bitCount_0f7a4_32 : decode cJ6_bitCount_0f7a4 32 = .ok (.iand, 1) := by decide +kernel
theorem dJ6_bitCount_0f7a4_33 : decode cJ6_bitCount_0f7a4 33 = .ok (.istore_n 0, 1) := by decide +kernel
theorem dJ6_bitCount_0f7a4_34 : decode cJ6_bitCount_0f7a4 34 = .ok (.iload_n 0, 1) := by decide +kernel
theorem dJ6_bitCount_0f7a4_35 : decode cJ6_bitCount_0f7a4 35 = .ok (.iload_n 0, 1) := by decide +kernel
theorem dJ6_bitCount_0f7a4_36 : decode cJ6_bitCount_0f7a4 36 = .ok (.bipush 8, 2) := by decide +kernel
theorem dJ6_bitCount_0f7a4_38 : decode cJ6_bitCount_0f7a4 38 = .ok (.iushr, 1) := by decide +kernel
theorem dJ6_bitCount_0f7a4_39 : decode cJ6_bitCount_0f7a4 39 = .ok (.iadd, 1) := by decide +kernel
theorem dJ6_bitCount_0f7a4_40 : decode cJ6_bitCount_0f7a4 40 = .ok (.istore_n 0, 1) := by decide +kernel
theorem dJ6_bitCount_0f7a4_41 : decode cJ6_bitCount_0f7a4 41 = .ok (.iload_n 0, 1) := by decide +kernel
theorem dJ6_bitCount_0f7a4_42 : decode cJ6_bitCount_0f7a4 42 = .ok (.iload_n 0, 1) := by decide +kernel
theorem dJ6_bitCount_0f7a4_43 : decode cJ6_bitCount_0f7a4 43 = .ok (.bipush 16, 2) := by decide +kernel
theorem dJ6_bitCount_0f7a4_45 : decode cJ6_bitCount_0f7a4 45 = .ok (.iushr, 1) := by decide +kernel
theorem dJ6_bitCount_0f7a4_46 : decode cJ6_bitCount_0f7a4 46 = .ok (.iadd, 1) := by decide +kernel
theorem dJ6_bitCount_0f7a4_47 : decode cJ6_bitCount_0f7a4 47 = .ok (.istore_n 0, 1) := by decide +kernel
theorem dJ6_bitCount_0f7a4_48 : decode cJ6_bitCount_0f7a4 48 = .ok (.iload_n 0, 1) := by decide +kernel
theorem dJ6_bitCount_0f7a4_49 : decode cJ6_bitCount_0f7a4 49 = .ok (.bipush 63, 2) := by decide +kernel
theorem dJ6_bitCount_0f7a4_51 : decode cJ6_bitCount_0f7a4 51 = .ok (.iand, 1) := by decide +kernel
theorem dJ6_bitCount_0f7a4_52 : decode cJ6_bitCount_0f7a4 52 = .ok (.ireturn, 1) := by decide +kernel
theorem dJ9_abs_0f7a4_0 : decode cJ9_abs_0f7a4 0 = .ok (.iload_n 0, 1) := by decide +kernel
theorem dJ9_abs_0f7a4_1 : decode cJ9_abs_0f7a4 1 = .ok (.ifCond .ge 8, 3) := by decide +kernel
theorem dJ9_abs_0f7a4_4 : decode cJ9_abs_0f7a4 4 = .ok (.iload_n 0, 1) := by decide +kernel
theorem dJ9_abs_0f7a4_5 : decode cJ9_abs_0f7a4 5 = .ok (.ineg, 1) := by decide +kernel
theorem dJ9_abs_0f7a4_6 : decode cJ9_abs_0f7a4 6 = .ok (.goto 4, 3) := by decide +kernel
theorem dJ9_abs_0f7a4_9 : decode cJ9_abs_0f7a4 9 = .ok (.iload_n 0, 1) := by decide +kernel
theorem dJ9_abs_0f7a4_10 : decode cJ9_abs_0f7a4 10 = .ok (.ireturn, 1) := by decide +kernel
theorem dJ9_max_7cf53_0 : decode cJ9_max_7cf53 0 = .ok (.iload_n 0, 1) := by decide +kernel
theorem dJ9_max_7cf53_1 : decode cJ9_max_7cf53 1 = .ok (.iload_n 1, 1) := by decide +kernel
theorem dJ9_max_7cf53_2 : decode cJ9_max_7cf53 2 = .ok (.if_icmp .lt 7, 3) := by decide +kernel
theorem dJ9_max_7cf53_5 : decode cJ9_max_7cf53 5 = .ok (.iload_n 0, 1) := by decide +kernel
theorem dJ9_max_7cf53_6 : decode cJ9_max_7cf53 6 = .ok (.goto 4, 3) := by decide +kernel
theorem dJ9_max_7cf53_9 : decode cJ9_max_7cf53 9 = .ok (.iload_n 1, 1) := by decide +kernel
theorem dJ9_max_7cf53_10 : decode cJ9_max_7cf53 10 = .ok (.ireturn, 1) := by decide +kernel
theorem dJ9_min_7cf53_0 : decode cJ9_min_7cf53 0 = .ok (.iload_n 0, 1) := by decide +kernel
theorem dJ9_min_7cf53_1 : decode cJ9_min_7cf53 1 = .ok (.iload_n 1, 1) := by decide +kernel
theorem dJ9_min_7cf53_2 : decode cJ9_min_7cf53 2 = .ok (.if_icmp .gt 7, 3) := by decide +kernel
theorem dJ9_min_7cf53_5 : decode cJ9_min_7cf53 5 = .ok (.iload_n 0, 1) := by decide +kernel
theorem dJ9_min_7cf53_6 : decode cJ9_min_7cf53 6 = .ok (.goto 4, 3) := by decide +kernel
theorem dJ9_min_7cf53_9 : decode cJ9_min_7cf53 9 = .ok (.iload_n 1, 1) := by decide +kernel
theorem dJ9_min_7cf53_10 : decode cJ9_min_7cf53 10 = .ok (.ireturn, 1) := by decide +kernel
theorem dJ7_fill_53178_0 : decode cJ7_fill_53178 0 = .ok (.iconst 0, 1) := by decide +kernel
theorem dJ7_fill_53178_1 : decode cJ7_fill_53178 1 = .ok (.istore_n 2, 1) := by decide +kernel
theorem dJ7_fill_53178_2 : decode cJ7_fill_53178 2 = .ok (.aload_n 0, 1) := by decide +kernel
theorem dJ7_fill_53178_3 : decode cJ7_fill_53178 3 = .ok (.arraylength, 1) := by decide +kernel
theorem dJ7_fill_53178_4 : decode cJ7_fill_53178 4 = .ok (.istore_n 3, 1) := by decide +kernel
theorem dJ7_fill_53178_5 : decode cJ7_fill_53178 5 = .ok (.iload_n 2, 1) := by decide +kernel
theorem dJ7_fill_53178_6 : decode cJ7_fill_53178 6 = .ok (.iload_n 3, 1) := by decide +kernel
theorem dJ7_fill_53178_7 : decode cJ7_fill_53178 7 = .ok (.if_icmp .ge 13, 3) := by decide +kernel
theorem dJ7_fill_53178_10 : decode cJ7_fill_53178 10 = .ok (.aload_n 0, 1) := by decide +kernel
theorem dJ7_fill_53178_11 : decode cJ7_fill_53178 11 = .ok (.iload_n 2, 1) := by decide +kernel
theorem dJ7_fill_53178_12 : decode cJ7_fill_53178 12 = .ok (.iload_n 1, 1) := by decide +kernel
theorem dJ7_fill_53178_13 : decode cJ7_fill_53178 13 = .ok (.iastore, 1) := by decide +kernel
theorem dJ7_fill_53178_14 : decode cJ7_fill_53178 14 = .ok (.iinc 2 1, 3) := by decide +kernel
theorem dJ7_fill_53178_17 : decode cJ7_fill_53178 17 = .ok (.goto (-12), 3) := by decide +kernel
theorem dJ7_fill_53178_20 : decode cJ7_fill_53178 20 = .ok (.return_, 1) := by decide +kernel
theorem dL_law_0 : decode cL_law 0 = .ok (.new 7, 3) := by decide +kernel
theorem dL_law_3 : decode cL_law 3 = .ok (.dup, 1) := by decide +kernel
theorem dL_law_4 : decode cL_law 4 = .ok (.invokespecial 9, 3) := by decide +kernel
theorem dL_law_7 : decode cL_law 7 = .ok (.astore_n 1, 1) := by decide +kernel
theorem dL_law_8 : decode cL_law 8 = .ok (.new 10, 3) := by decide +kernel
theorem dL_law_11 : decode cL_law 11 = .ok (.dup, 1) := by decide +kernel
theorem dL_law_12 : decode cL_law 12 = .ok (.invokespecial 12, 3) := by decide +kernel
theorem dL_law_15 : decode cL_law 15 = .ok (.astore_n 2, 1) := by decide +kernel
theorem dL_law_16 : decode cL_law 16 = .ok (.iconst 0, 1) := by decide +kernel
theorem dL_law_17 : decode cL_law 17 = .ok (.istore_n 3, 1) := by decide +kernel
theorem dL_law_18 : decode cL_law 18 = .ok (.iload_n 3, 1) := by decide +kernel
theorem dL_law_19 : decode cL_law 19 = .ok (.aload_n 0, 1) := by decide +kernel
theorem dL_law_20 : decode cL_law 20 = .ok (.arraylength, 1) := by decide +kernel
theorem dL_law_21 : decode cL_law 21 = .ok (.iconst 5, 1) := by decide +kernel
theorem dL_law_22 : decode cL_law 22 = .ok (.isub, 1) := by decide +kernel
theorem dL_law_23 : decode cL_law 23 = .ok (.if_icmp .gt 884, 3) := by decide +kernel
theorem dL_law_26 : decode cL_law 26 = .ok (.aload_n 0, 1) := by decide +kernel
theorem dL_law_27 : decode cL_law 27 = .ok (.iload_n 3, 1) := by decide +kernel
theorem dL_law_28 : decode cL_law 28 = .ok (.iaload, 1) := by decide +kernel
theorem dL_law_29 : decode cL_law 29 = .ok (.bipush 31, 2) := by decide +kernel
theorem dL_law_31 : decode cL_law 31 = .ok (.iand, 1) := by decide +kernel
theorem dL_law_32 : decode cL_law 32 = .ok (.tableswitch 869 0 25 #[120, 153, 196, 229, 262, 295, 318, 351, 374, 417, 430, 473, 506, 539, 562, 585, 618, 651, 674, 727, 750, 773, 796, 819, 832, 855], 120) := by decide +kernel
theorem dL_law_152 : decode cL_law 152 = .ok (.aload_n 1, 1) := by decide +kernel
theorem dL_law_153 : decode cL_law 153 = .ok (.aload_n 0, 1) := by decide +kernel
theorem dL_law_154 : decode cL_law 154 = .ok (.iload_n 3, 1) := by decide +kernel
theorem dL_law_155 : decode cL_law 155 = .ok (.iconst 1, 1) := by decide +kernel
theorem dL_law_156 : decode cL_law 156 = .ok (.iadd, 1) := by decide +kernel
theorem dL_law_157 : decode cL_law 157 = .ok (.iaload, 1) := by decide +kernel
theorem dL_law_158 : decode cL_law 158 = .ok (.aload_n 0, 1) := by decide +kernel
theorem dL_law_159 : decode cL_law 159 = .ok (.iload_n 3, 1) := by decide +kernel
theorem dL_law_160 : decode cL_law 160 = .ok (.iconst 2, 1) := by decide +kernel
theorem dL_law_161 : decode cL_law 161 = .ok (.iadd, 1) := by decide +kernel
theorem dL_law_162 : decode cL_law 162 = .ok (.iaload, 1) := by decide +kernel
theorem dL_law_163 : decode cL_law 163 = .ok (.invokevirtual 13, 3) := by decide +kernel
theorem dL_law_166 : decode cL_law 166 = .ok (.aload_n 2, 1) := by decide +kernel
theorem dL_law_167 : decode cL_law 167 = .ok (.aload_n 0, 1) := by decide +kernel
theorem dL_law_168 : decode cL_law 168 = .ok (.iload_n 3, 1) := by decide +kernel
theorem dL_law_169 : decode cL_law 169 = .ok (.iconst 1, 1) := by decide +kernel
theorem dL_law_170 : decode cL_law 170 = .ok (.iadd, 1) := by decide +kernel
theorem dL_law_171 : decode cL_law 171 = .ok (.iaload, 1) := by decide +kernel
theorem dL_law_172 : decode cL_law 172 = .ok (.aload_n 0, 1) := by decide +kernel
theorem dL_law_173 : decode cL_law 173 = .ok (.iload_n 3, 1) := by decide +kernel
theorem dL_law_174 : decode cL_law 174 = .ok (.iconst 2, 1) := by decide +kernel
theorem dL_law_175 : decode cL_law 175 = .ok (.iadd, 1) := by decide +kernel
theorem dL_law_176 : decode cL_law 176 = .ok (.iaload, 1) := by decide +kernel
theorem dL_law_177 : decode cL_law 177 = .ok (.invokevirtual 17, 3) := by decide +kernel
theorem dL_law_180 : decode cL_law 180 = .ok (.if_icmp .eq 721, 3) := by decide +kernel
theorem dL_law_183 : decode cL_law 183 = .ok (.iconst 0, 1) := by decide +kernel
theorem dL_law_184 : decode cL_law 184 = .ok (.ireturn, 1) := by decide +kernel
theorem dL_law_185 : decode cL_law 185 = .ok (.aload_n 1, 1) := by decide +kernel
theorem dL_law_186 : decode cL_law 186 = .ok (.aload_n 0, 1) := by decide +kernel
theorem dL_law_187 : decode cL_law 187 = .ok (.iload_n 3, 1) := by decide +kernel
theorem dL_law_188 : decode cL_law 188 = .ok (.iconst 1, 1) := by decide +kernel
theorem dL_law_189 : decode cL_law 189 = .ok (.iadd, 1) := by decide +kernel
theorem dL_law_190 : decode cL_law 190 = .ok (.iaload, 1) := by decide +kernel
theorem dL_law_191 : decode cL_law 191 = .ok (.aload_n 0, 1) := by decide +kernel
theorem dL_law_192 : decode cL_law 192 = .ok (.iload_n 3, 1) := by decide +kernel
theorem dL_law_193 : decode cL_law 193 = .ok (.iconst 2, 1) := by decide +kernel
theorem dL_law_194 : decode cL_law 194 = .ok (.iadd, 1) := by decide +kernel
theorem dL_law_195 : decode cL_law 195 = .ok (.iaload, 1) := by decide +kernel
theorem dL_law_196 : decode cL_law 196 = .ok (.aload_n 0, 1) := by decide +kernel
theorem dL_law_197 : decode cL_law 197 = .ok (.iload_n 3, 1) := by decide +kernel
theorem dL_law_198 : decode cL_law 198 = .ok (.iconst 3, 1) := by decide +kernel
theorem dL_law_199 : decode cL_law 199 = .ok (.iadd, 1) := by decide +kernel
theorem dL_law_200 : decode cL_law 200 = .ok (.iaload, 1) := by decide +kernel
theorem dL_law_201 : decode cL_law 201 = .ok (.invokevirtual 18, 3) := by decide +kernel
theorem dL_law_204 : decode cL_law 204 = .ok (.aload_n 2, 1) := by decide +kernel
theorem dL_law_205 : decode cL_law 205 = .ok (.aload_n 0, 1) := by decide +kernel
theorem dL_law_206 : decode cL_law 206 = .ok (.iload_n 3, 1) := by decide +kernel
theorem dL_law_207 : decode cL_law 207 = .ok (.iconst 1, 1) := by decide +kernel
theorem dL_law_208 : decode cL_law 208 = .ok (.iadd, 1) := by decide +kernel
theorem dL_law_209 : decode cL_law 209 = .ok (.iaload, 1) := by decide +kernel
theorem dL_law_210 : decode cL_law 210 = .ok (.aload_n 0, 1) := by decide +kernel
theorem dL_law_211 : decode cL_law 211 = .ok (.iload_n 3, 1) := by decide +kernel
theorem dL_law_212 : decode cL_law 212 = .ok (.iconst 2, 1) := by decide +kernel
theorem dL_law_213 : decode cL_law 213 = .ok (.iadd, 1) := by decide +kernel
theorem dL_law_214 : decode cL_law 214 = .ok (.iaload, 1) := by decide +kernel
theorem dL_law_215 : decode cL_law 215 = .ok (.aload_n 0, 1) := by decide +kernel
theorem dL_law_216 : decode cL_law 216 = .ok (.iload_n 3, 1) := by decide +kernel
theorem dL_law_217 : decode cL_law 217 = .ok (.iconst 3, 1) := by decide +kernel
theorem dL_law_218 : decode cL_law 218 = .ok (.iadd, 1) := by decide +kernel
theorem dL_law_219 : decode cL_law 219 = .ok (.iaload, 1) := by decide +kernel
theorem dL_law_220 : decode cL_law 220 = .ok (.invokevirtual 22, 3) := by decide +kernel
theorem dL_law_223 : decode cL_law 223 = .ok (.if_icmp .eq 678, 3) := by decide +kernel
theorem dL_law_226 : decode cL_law 226 = .ok (.iconst 0, 1) := by decide +kernel
theorem dL_law_227 : decode cL_law 227 = .ok (.ireturn, 1) := by decide +kernel
theorem dL_law_228 : decode cL_law 228 = .ok (.aload_n 1, 1) := by decide +kernel
theorem dL_law_229 : decode cL_law 229 = .ok (.aload_n 0, 1) := by decide +kernel
theorem dL_law_230 : decode cL_law 230 = .ok (.iload_n 3, 1) := by decide +kernel
theorem dL_law_231 : decode cL_law 231 = .ok (.iconst 1, 1) := by decide +kernel
theorem dL_law_232 : decode cL_law 232 = .ok (.iadd, 1) := by decide +kernel
theorem dL_law_233 : decode cL_law 233 = .ok (.iaload, 1) := by decide +kernel
theorem dL_law_234 : decode cL_law 234 = .ok (.aload_n 0, 1) := by decide +kernel
theorem dL_law_235 : decode cL_law 235 = .ok (.iload_n 3, 1) := by decide +kernel
theorem dL_law_236 : decode cL_law 236 = .ok (.iconst 2, 1) := by decide +kernel
theorem dL_law_237 : decode cL_law 237 = .ok (.iadd, 1) := by decide +kernel
theorem dL_law_238 : decode cL_law 238 = .ok (.iaload, 1) := by decide +kernel
theorem dL_law_239 : decode cL_law 239 = .ok (.invokevirtual 23, 3) := by decide +kernel
theorem dL_law_242 : decode cL_law 242 = .ok (.aload_n 2, 1) := by decide +kernel
theorem dL_law_243 : decode cL_law 243 = .ok (.aload_n 0, 1) := by decide +kernel
theorem dL_law_244 : decode cL_law 244 = .ok (.iload_n 3, 1) := by decide +kernel
theorem dL_law_245 : decode cL_law 245 = .ok (.iconst 1, 1) := by decide +kernel
theorem dL_law_246 : decode cL_law 246 = .ok (.iadd, 1) := by decide +kernel
theorem dL_law_247 : decode cL_law 247 = .ok (.iaload, 1) := by decide +kernel
theorem dL_law_248 : decode cL_law 248 = .ok (.aload_n 0, 1) := by decide +kernel
theorem dL_law_249 : decode cL_law 249 = .ok (.iload_n 3, 1) := by decide +kernel
theorem dL_law_250 : decode cL_law 250 = .ok (.iconst 2, 1) := by decide +kernel
theorem dL_law_251 : decode cL_law 251 = .ok (.iadd, 1) := by decide +kernel
theorem dL_law_252 : decode cL_law 252 = .ok (.iaload, 1) := by decide +kernel
theorem dL_law_253 : decode cL_law 253 = .ok (.invokevirtual 26, 3) := by decide +kernel
theorem dL_law_256 : decode cL_law 256 = .ok (.if_icmp .eq 645, 3) := by decide +kernel
theorem dL_law_259 : decode cL_law 259 = .ok (.iconst 0, 1) := by decide +kernel
theorem dL_law_260 : decode cL_law 260 = .ok (.ireturn, 1) := by decide +kernel
theorem dL_law_261 : decode cL_law 261 = .ok (.aload_n 1, 1) := by decide +kernel
theorem dL_law_262 : decode cL_law 262 = .ok (.aload_n 0, 1) := by decide +kernel
theorem dL_law_263 : decode cL_law 263 = .ok (.iload_n 3, 1) := by decide +kernel
theorem dL_law_264 : decode cL_law 264 = .ok (.iconst 1, 1) := by decide +kernel
theorem dL_law_265 : decode cL_law 265 = .ok (.iadd, 1) := by decide +kernel
theorem dL_law_266 : decode cL_law 266 = .ok (.iaload, 1) := by decide +kernel
theorem dL_law_267 : decode cL_law 267 = .ok (.aload_n 0, 1) := by decide +kernel
theorem dL_law_268 : decode cL_law 268 = .ok (.iload_n 3, 1) := by decide +kernel
theorem dL_law_269 : decode cL_law 269 = .ok (.iconst 2, 1) := by decide +kernel
theorem dL_law_270 : decode cL_law 270 = .ok (.iadd, 1) := by decide +kernel
theorem dL_law_271 : decode cL_law 271 = .ok (.iaload, 1) := by decide +kernel
theorem dL_law_272 : decode cL_law 272 = .ok (.invokevirtual 27, 3) := by decide +kernel
theorem dL_law_275 : decode cL_law 275 = .ok (.aload_n 2, 1) := by decide +kernel
theorem dL_law_276 : decode cL_law 276 = .ok (.aload_n 0, 1) := by decide +kernel
theorem dL_law_277 : decode cL_law 277 = .ok (.iload_n 3, 1) := by decide +kernel
theorem dL_law_278 : decode cL_law 278 = .ok (.iconst 1, 1) := by decide +kernel
theorem dL_law_279 : decode cL_law 279 = .ok (.iadd, 1) := by decide +kernel
theorem dL_law_280 : decode cL_law 280 = .ok (.iaload, 1) := by decide +kernel
theorem dL_law_281 : decode cL_law 281 = .ok (.aload_n 0, 1) := by decide +kernel
theorem dL_law_282 : decode cL_law 282 = .ok (.iload_n 3, 1) := by decide +kernel
theorem dL_law_283 : decode cL_law 283 = .ok (.iconst 2, 1) := by decide +kernel
theorem dL_law_284 : decode cL_law 284 = .ok (.iadd, 1) := by decide +kernel
theorem dL_law_285 : decode cL_law 285 = .ok (.iaload, 1) := by decide +kernel
theorem dL_law_286 : decode cL_law 286 = .ok (.invokevirtual 30, 3) := by decide +kernel
theorem dL_law_289 : decode cL_law 289 = .ok (.if_icmp .eq 612, 3) := by decide +kernel
theorem dL_law_292 : decode cL_law 292 = .ok (.iconst 0, 1) := by decide +kernel
theorem dL_law_293 : decode cL_law 293 = .ok (.ireturn, 1) := by decide +kernel
theorem dL_law_294 : decode cL_law 294 = .ok (.aload_n 1, 1) := by decide +kernel
theorem dL_law_295 : decode cL_law 295 = .ok (.aload_n 0, 1) := by decide +kernel
theorem dL_law_296 : decode cL_law 296 = .ok (.iload_n 3, 1) := by decide +kernel
theorem dL_law_297 : decode cL_law 297 = .ok (.iconst 1, 1) := by decide +kernel
theorem dL_law_298 : decode cL_law 298 = .ok (.iadd, 1) := by decide +kernel
theorem dL_law_299 : decode cL_law 299 = .ok (.iaload, 1) := by decide +kernel
theorem dL_law_300 : decode cL_law 300 = .ok (.aload_n 0, 1) := by decide +kernel
theorem dL_law_301 : decode cL_law 301 = .ok (.iload_n 3, 1) := by decide +kernel
theorem dL_law_302 : decode cL_law 302 = .ok (.iconst 2, 1) := by decide +kernel
theorem dL_law_303 : decode cL_law 303 = .ok (.iadd, 1) := by decide +kernel
theorem dL_law_304 : decode cL_law 304 = .ok (.iaload, 1) := by decide +kernel
theorem dL_law_305 : decode cL_law 305 = .ok (.invokevirtual 31, 3) := by decide +kernel
theorem dL_law_308 : decode cL_law 308 = .ok (.aload_n 2, 1) := by decide +kernel
theorem dL_law_309 : decode cL_law 309 = .ok (.aload_n 0, 1) := by decide +kernel
theorem dL_law_310 : decode cL_law 310 = .ok (.iload_n 3, 1) := by decide +kernel
theorem dL_law_311 : decode cL_law 311 = .ok (.iconst 1, 1) := by decide +kernel
theorem dL_law_312 : decode cL_law 312 = .ok (.iadd, 1) := by decide +kernel
theorem dL_law_313 : decode cL_law 313 = .ok (.iaload, 1) := by decide +kernel
theorem dL_law_314 : decode cL_law 314 = .ok (.aload_n 0, 1) := by decide +kernel
theorem dL_law_315 : decode cL_law 315 = .ok (.iload_n 3, 1) := by decide +kernel
theorem dL_law_316 : decode cL_law 316 = .ok (.iconst 2, 1) := by decide +kernel
theorem dL_law_317 : decode cL_law 317 = .ok (.iadd, 1) := by decide +kernel
theorem dL_law_318 : decode cL_law 318 = .ok (.iaload, 1) := by decide +kernel
theorem dL_law_319 : decode cL_law 319 = .ok (.invokevirtual 34, 3) := by decide +kernel
theorem dL_law_322 : decode cL_law 322 = .ok (.if_icmp .eq 579, 3) := by decide +kernel
theorem dL_law_325 : decode cL_law 325 = .ok (.iconst 0, 1) := by decide +kernel
theorem dL_law_326 : decode cL_law 326 = .ok (.ireturn, 1) := by decide +kernel
theorem dL_law_327 : decode cL_law 327 = .ok (.aload_n 1, 1) := by decide +kernel
theorem dL_law_328 : decode cL_law 328 = .ok (.aload_n 0, 1) := by decide +kernel
theorem dL_law_329 : decode cL_law 329 = .ok (.iload_n 3, 1) := by decide +kernel
theorem dL_law_330 : decode cL_law 330 = .ok (.iconst 1, 1) := by decide +kernel
theorem dL_law_331 : decode cL_law 331 = .ok (.iadd, 1) := by decide +kernel
theorem dL_law_332 : decode cL_law 332 = .ok (.iaload, 1) := by decide +kernel
theorem dL_law_333 : decode cL_law 333 = .ok (.invokevirtual 35, 3) := by decide +kernel
theorem dL_law_336 : decode cL_law 336 = .ok (.aload_n 2, 1) := by decide +kernel
theorem dL_law_337 : decode cL_law 337 = .ok (.aload_n 0, 1) := by decide +kernel
theorem dL_law_338 : decode cL_law 338 = .ok (.iload_n 3, 1) := by decide +kernel
theorem dL_law_339 : decode cL_law 339 = .ok (.iconst 1, 1) := by decide +kernel
theorem dL_law_340 : decode cL_law 340 = .ok (.iadd, 1) := by decide +kernel
theorem dL_law_341 : decode cL_law 341 = .ok (.iaload, 1) := by decide +kernel
theorem dL_law_342 : decode cL_law 342 = .ok (.invokevirtual 39, 3) := by decide +kernel
theorem dL_law_345 : decode cL_law 345 = .ok (.if_icmp .eq 556, 3) := by decide +kernel
theorem dL_law_348 : decode cL_law 348 = .ok (.iconst 0, 1) := by decide +kernel
theorem dL_law_349 : decode cL_law 349 = .ok (.ireturn, 1) := by decide +kernel
theorem dL_law_350 : decode cL_law 350 = .ok (.aload_n 1, 1) := by decide +kernel
theorem dL_law_351 : decode cL_law 351 = .ok (.aload_n 0, 1) := by decide +kernel
theorem dL_law_352 : decode cL_law 352 = .ok (.iload_n 3, 1) := by decide +kernel
theorem dL_law_353 : decode cL_law 353 = .ok (.iconst 1, 1) := by decide +kernel
theorem dL_law_354 : decode cL_law 354 = .ok (.iadd, 1) := by decide +kernel
theorem dL_law_355 : decode cL_law 355 = .ok (.iaload, 1) := by decide +kernel
theorem dL_law_356 : decode cL_law 356 = .ok (.aload_n 0, 1) := by decide +kernel
theorem dL_law_357 : decode cL_law 357 = .ok (.iload_n 3, 1) := by decide +kernel
theorem dL_law_358 : decode cL_law 358 = .ok (.iconst 2, 1) := by decide +kernel
theorem dL_law_359 : decode cL_law 359 = .ok (.iadd, 1) := by decide +kernel
theorem dL_law_360 : decode cL_law 360 = .ok (.iaload, 1) := by decide +kernel
theorem dL_law_361 : decode cL_law 361 = .ok (.invokevirtual 40, 3) := by decide +kernel
theorem dL_law_364 : decode cL_law 364 = .ok (.aload_n 2, 1) := by decide +kernel
theorem dL_law_365 : decode cL_law 365 = .ok (.aload_n 0, 1) := by decide +kernel
theorem dL_law_366 : decode cL_law 366 = .ok (.iload_n 3, 1) := by decide +kernel
theorem dL_law_367 : decode cL_law 367 = .ok (.iconst 1, 1) := by decide +kernel
theorem dL_law_368 : decode cL_law 368 = .ok (.iadd, 1) := by decide +kernel
theorem dL_law_369 : decode cL_law 369 = .ok (.iaload, 1) := by decide +kernel
theorem dL_law_370 : decode cL_law 370 = .ok (.aload_n 0, 1) := by decide +kernel
theorem dL_law_371 : decode cL_law 371 = .ok (.iload_n 3, 1) := by decide +kernel
theorem dL_law_372 : decode cL_law 372 = .ok (.iconst 2, 1) := by decide +kernel
theorem dL_law_373 : decode cL_law 373 = .ok (.iadd, 1) := by decide +kernel
theorem dL_law_374 : decode cL_law 374 = .ok (.iaload, 1) := by decide +kernel
theorem dL_law_375 : decode cL_law 375 = .ok (.invokevirtual 43, 3) := by decide +kernel
theorem dL_law_378 : decode cL_law 378 = .ok (.if_icmp .eq 523, 3) := by decide +kernel
theorem dL_law_381 : decode cL_law 381 = .ok (.iconst 0, 1) := by decide +kernel
theorem dL_law_382 : decode cL_law 382 = .ok (.ireturn, 1) := by decide +kernel
theorem dL_law_383 : decode cL_law 383 = .ok (.aload_n 1, 1) := by decide +kernel
theorem dL_law_384 : decode cL_law 384 = .ok (.aload_n 0, 1) := by decide +kernel
theorem dL_law_385 : decode cL_law 385 = .ok (.iload_n 3, 1) := by decide +kernel
theorem dL_law_386 : decode cL_law 386 = .ok (.iconst 1, 1) := by decide +kernel
theorem dL_law_387 : decode cL_law 387 = .ok (.iadd, 1) := by decide +kernel
theorem dL_law_388 : decode cL_law 388 = .ok (.iaload, 1) := by decide +kernel
theorem dL_law_389 : decode cL_law 389 = .ok (.invokevirtual 44, 3) := by decide +kernel
theorem dL_law_392 : decode cL_law 392 = .ok (.aload_n 2, 1) := by decide +kernel
theorem dL_law_393 : decode cL_law 393 = .ok (.aload_n 0, 1) := by decide +kernel
theorem dL_law_394 : decode cL_law 394 = .ok (.iload_n 3, 1) := by decide +kernel
theorem dL_law_395 : decode cL_law 395 = .ok (.iconst 1, 1) := by decide +kernel
theorem dL_law_396 : decode cL_law 396 = .ok (.iadd, 1) := by decide +kernel
theorem dL_law_397 : decode cL_law 397 = .ok (.iaload, 1) := by decide +kernel
theorem dL_law_398 : decode cL_law 398 = .ok (.invokevirtual 47, 3) := by decide +kernel
theorem dL_law_401 : decode cL_law 401 = .ok (.if_icmp .eq 500, 3) := by decide +kernel
theorem dL_law_404 : decode cL_law 404 = .ok (.iconst 0, 1) := by decide +kernel
theorem dL_law_405 : decode cL_law 405 = .ok (.ireturn, 1) := by decide +kernel
theorem dL_law_406 : decode cL_law 406 = .ok (.aload_n 1, 1) := by decide +kernel
theorem dL_law_407 : decode cL_law 407 = .ok (.aload_n 0, 1) := by decide +kernel
theorem dL_law_408 : decode cL_law 408 = .ok (.iload_n 3, 1) := by decide +kernel
theorem dL_law_409 : decode cL_law 409 = .ok (.iconst 1, 1) := by decide +kernel
theorem dL_law_410 : decode cL_law 410 = .ok (.iadd, 1) := by decide +kernel
theorem dL_law_411 : decode cL_law 411 = .ok (.iaload, 1) := by decide +kernel
theorem dL_law_412 : decode cL_law 412 = .ok (.aload_n 0, 1) := by decide +kernel
theorem dL_law_413 : decode cL_law 413 = .ok (.iload_n 3, 1) := by decide +kernel
theorem dL_law_414 : decode cL_law 414 = .ok (.iconst 2, 1) := by decide +kernel
theorem dL_law_415 : decode cL_law 415 = .ok (.iadd, 1) := by decide +kernel
theorem dL_law_416 : decode cL_law 416 = .ok (.iaload, 1) := by decide +kernel
theorem dL_law_417 : decode cL_law 417 = .ok (.aload_n 0, 1) := by decide +kernel
theorem dL_law_418 : decode cL_law 418 = .ok (.iload_n 3, 1) := by decide +kernel
theorem dL_law_419 : decode cL_law 419 = .ok (.iconst 3, 1) := by decide +kernel
theorem dL_law_420 : decode cL_law 420 = .ok (.iadd, 1) := by decide +kernel
theorem dL_law_421 : decode cL_law 421 = .ok (.iaload, 1) := by decide +kernel
theorem dL_law_422 : decode cL_law 422 = .ok (.invokevirtual 48, 3) := by decide +kernel
theorem dL_law_425 : decode cL_law 425 = .ok (.aload_n 2, 1) := by decide +kernel
theorem dL_law_426 : decode cL_law 426 = .ok (.aload_n 0, 1) := by decide +kernel
theorem dL_law_427 : decode cL_law 427 = .ok (.iload_n 3, 1) := by decide +kernel
theorem dL_law_428 : decode cL_law 428 = .ok (.iconst 1, 1) := by decide +kernel
theorem dL_law_429 : decode cL_law 429 = .ok (.iadd, 1) := by decide +kernel
theorem dL_law_430 : decode cL_law 430 = .ok (.iaload, 1) := by decide +kernel
theorem dL_law_431 : decode cL_law 431 = .ok (.aload_n 0, 1) := by decide +kernel
theorem dL_law_432 : decode cL_law 432 = .ok (.iload_n 3, 1) := by decide +kernel
theorem dL_law_433 : decode cL_law 433 = .ok (.iconst 2, 1) := by decide +kernel
theorem dL_law_434 : decode cL_law 434 = .ok (.iadd, 1) := by decide +kernel
theorem dL_law_435 : decode cL_law 435 = .ok (.iaload, 1) := by decide +kernel
theorem dL_law_436 : decode cL_law 436 = .ok (.aload_n 0, 1) := by decide +kernel
theorem dL_law_437 : decode cL_law 437 = .ok (.iload_n 3, 1) := by decide +kernel
theorem dL_law_438 : decode cL_law 438 = .ok (.iconst 3, 1) := by decide +kernel
theorem dL_law_439 : decode cL_law 439 = .ok (.iadd, 1) := by decide +kernel
theorem dL_law_440 : decode cL_law 440 = .ok (.iaload, 1) := by decide +kernel
theorem dL_law_441 : decode cL_law 441 = .ok (.invokevirtual 51, 3) := by decide +kernel
theorem dL_law_444 : decode cL_law 444 = .ok (.if_icmp .eq 457, 3) := by decide +kernel
theorem dL_law_447 : decode cL_law 447 = .ok (.iconst 0, 1) := by decide +kernel
theorem dL_law_448 : decode cL_law 448 = .ok (.ireturn, 1) := by decide +kernel
theorem dL_law_449 : decode cL_law 449 = .ok (.aload_n 1, 1) := by decide +kernel
theorem dL_law_450 : decode cL_law 450 = .ok (.invokevirtual 52, 3) := by decide +kernel
theorem dL_law_453 : decode cL_law 453 = .ok (.aload_n 2, 1) := by decide +kernel
theorem dL_law_454 : decode cL_law 454 = .ok (.invokevirtual 56, 3) := by decide +kernel
theorem dL_law_457 : decode cL_law 457 = .ok (.if_icmp .eq 444, 3) := by decide +kernel
theorem dL_law_460 : decode cL_law 460 = .ok (.iconst 0, 1) := by decide +kernel
theorem dL_law_461 : decode cL_law 461 = .ok (.ireturn, 1) := by decide +kernel
theorem dL_law_462 : decode cL_law 462 = .ok (.aload_n 1, 1) := by decide +kernel
theorem dL_law_463 : decode cL_law 463 = .ok (.aload_n 0, 1) := by decide +kernel
theorem dL_law_464 : decode cL_law 464 = .ok (.iload_n 3, 1) := by decide +kernel
theorem dL_law_465 : decode cL_law 465 = .ok (.iconst 1, 1) := by decide +kernel
theorem dL_law_466 : decode cL_law 466 = .ok (.iadd, 1) := by decide +kernel
theorem dL_law_467 : decode cL_law 467 = .ok (.iaload, 1) := by decide +kernel
theorem dL_law_468 : decode cL_law 468 = .ok (.aload_n 0, 1) := by decide +kernel
theorem dL_law_469 : decode cL_law 469 = .ok (.iload_n 3, 1) := by decide +kernel
theorem dL_law_470 : decode cL_law 470 = .ok (.iconst 2, 1) := by decide +kernel
theorem dL_law_471 : decode cL_law 471 = .ok (.iadd, 1) := by decide +kernel
theorem dL_law_472 : decode cL_law 472 = .ok (.iaload, 1) := by decide +kernel
theorem dL_law_473 : decode cL_law 473 = .ok (.aload_n 0, 1) := by decide +kernel
theorem dL_law_474 : decode cL_law 474 = .ok (.iload_n 3, 1) := by decide +kernel
theorem dL_law_475 : decode cL_law 475 = .ok (.iconst 3, 1) := by decide +kernel
theorem dL_law_476 : decode cL_law 476 = .ok (.iadd, 1) := by decide +kernel
theorem dL_law_477 : decode cL_law 477 = .ok (.iaload, 1) := by decide +kernel
theorem dL_law_478 : decode cL_law 478 = .ok (.invokevirtual 57, 3) := by decide +kernel
theorem dL_law_481 : decode cL_law 481 = .ok (.aload_n 2, 1) := by decide +kernel
theorem dL_law_482 : decode cL_law 482 = .ok (.aload_n 0, 1) := by decide +kernel
theorem dL_law_483 : decode cL_law 483 = .ok (.iload_n 3, 1) := by decide +kernel
theorem dL_law_484 : decode cL_law 484 = .ok (.iconst 1, 1) := by decide +kernel
theorem dL_law_485 : decode cL_law 485 = .ok (.iadd, 1) := by decide +kernel
theorem dL_law_486 : decode cL_law 486 = .ok (.iaload, 1) := by decide +kernel
theorem dL_law_487 : decode cL_law 487 = .ok (.aload_n 0, 1) := by decide +kernel
theorem dL_law_488 : decode cL_law 488 = .ok (.iload_n 3, 1) := by decide +kernel
theorem dL_law_489 : decode cL_law 489 = .ok (.iconst 2, 1) := by decide +kernel
theorem dL_law_490 : decode cL_law 490 = .ok (.iadd, 1) := by decide +kernel
theorem dL_law_491 : decode cL_law 491 = .ok (.iaload, 1) := by decide +kernel
theorem dL_law_492 : decode cL_law 492 = .ok (.aload_n 0, 1) := by decide +kernel
theorem dL_law_493 : decode cL_law 493 = .ok (.iload_n 3, 1) := by decide +kernel
theorem dL_law_494 : decode cL_law 494 = .ok (.iconst 3, 1) := by decide +kernel
theorem dL_law_495 : decode cL_law 495 = .ok (.iadd, 1) := by decide +kernel
theorem dL_law_496 : decode cL_law 496 = .ok (.iaload, 1) := by decide +kernel
theorem dL_law_497 : decode cL_law 497 = .ok (.invokevirtual 60, 3) := by decide +kernel
theorem dL_law_500 : decode cL_law 500 = .ok (.if_icmp .eq 401, 3) := by decide +kernel
theorem dL_law_503 : decode cL_law 503 = .ok (.iconst 0, 1) := by decide +kernel
theorem dL_law_504 : decode cL_law 504 = .ok (.ireturn, 1) := by decide +kernel
theorem dL_law_505 : decode cL_law 505 = .ok (.aload_n 1, 1) := by decide +kernel
theorem dL_law_506 : decode cL_law 506 = .ok (.aload_n 0, 1) := by decide +kernel
theorem dL_law_507 : decode cL_law 507 = .ok (.iload_n 3, 1) := by decide +kernel
theorem dL_law_508 : decode cL_law 508 = .ok (.iconst 1, 1) := by decide +kernel
theorem dL_law_509 : decode cL_law 509 = .ok (.iadd, 1) := by decide +kernel
theorem dL_law_510 : decode cL_law 510 = .ok (.iaload, 1) := by decide +kernel
theorem dL_law_511 : decode cL_law 511 = .ok (.aload_n 0, 1) := by decide +kernel
theorem dL_law_512 : decode cL_law 512 = .ok (.iload_n 3, 1) := by decide +kernel
theorem dL_law_513 : decode cL_law 513 = .ok (.iconst 2, 1) := by decide +kernel
theorem dL_law_514 : decode cL_law 514 = .ok (.iadd, 1) := by decide +kernel
theorem dL_law_515 : decode cL_law 515 = .ok (.iaload, 1) := by decide +kernel
theorem dL_law_516 : decode cL_law 516 = .ok (.invokevirtual 61, 3) := by decide +kernel
theorem dL_law_519 : decode cL_law 519 = .ok (.aload_n 2, 1) := by decide +kernel
theorem dL_law_520 : decode cL_law 520 = .ok (.aload_n 0, 1) := by decide +kernel
theorem dL_law_521 : decode cL_law 521 = .ok (.iload_n 3, 1) := by decide +kernel
theorem dL_law_522 : decode cL_law 522 = .ok (.iconst 1, 1) := by decide +kernel
theorem dL_law_523 : decode cL_law 523 = .ok (.iadd, 1) := by decide +kernel
theorem dL_law_524 : decode cL_law 524 = .ok (.iaload, 1) := by decide +kernel
theorem dL_law_525 : decode cL_law 525 = .ok (.aload_n 0, 1) := by decide +kernel
theorem dL_law_526 : decode cL_law 526 = .ok (.iload_n 3, 1) := by decide +kernel
theorem dL_law_527 : decode cL_law 527 = .ok (.iconst 2, 1) := by decide +kernel
theorem dL_law_528 : decode cL_law 528 = .ok (.iadd, 1) := by decide +kernel
theorem dL_law_529 : decode cL_law 529 = .ok (.iaload, 1) := by decide +kernel
theorem dL_law_530 : decode cL_law 530 = .ok (.invokevirtual 64, 3) := by decide +kernel
theorem dL_law_533 : decode cL_law 533 = .ok (.if_icmp .eq 368, 3) := by decide +kernel
theorem dL_law_536 : decode cL_law 536 = .ok (.iconst 0, 1) := by decide +kernel
theorem dL_law_537 : decode cL_law 537 = .ok (.ireturn, 1) := by decide +kernel
theorem dL_law_538 : decode cL_law 538 = .ok (.aload_n 1, 1) := by decide +kernel
theorem dL_law_539 : decode cL_law 539 = .ok (.aload_n 0, 1) := by decide +kernel
theorem dL_law_540 : decode cL_law 540 = .ok (.iload_n 3, 1) := by decide +kernel
theorem dL_law_541 : decode cL_law 541 = .ok (.iconst 1, 1) := by decide +kernel
theorem dL_law_542 : decode cL_law 542 = .ok (.iadd, 1) := by decide +kernel
theorem dL_law_543 : decode cL_law 543 = .ok (.iaload, 1) := by decide +kernel
theorem dL_law_544 : decode cL_law 544 = .ok (.aload_n 0, 1) := by decide +kernel
theorem dL_law_545 : decode cL_law 545 = .ok (.iload_n 3, 1) := by decide +kernel
theorem dL_law_546 : decode cL_law 546 = .ok (.iconst 2, 1) := by decide +kernel
theorem dL_law_547 : decode cL_law 547 = .ok (.iadd, 1) := by decide +kernel
theorem dL_law_548 : decode cL_law 548 = .ok (.iaload, 1) := by decide +kernel
theorem dL_law_549 : decode cL_law 549 = .ok (.invokevirtual 65, 3) := by decide +kernel
theorem dL_law_552 : decode cL_law 552 = .ok (.aload_n 2, 1) := by decide +kernel
theorem dL_law_553 : decode cL_law 553 = .ok (.aload_n 0, 1) := by decide +kernel
theorem dL_law_554 : decode cL_law 554 = .ok (.iload_n 3, 1) := by decide +kernel
theorem dL_law_555 : decode cL_law 555 = .ok (.iconst 1, 1) := by decide +kernel
theorem dL_law_556 : decode cL_law 556 = .ok (.iadd, 1) := by decide +kernel
theorem dL_law_557 : decode cL_law 557 = .ok (.iaload, 1) := by decide +kernel
theorem dL_law_558 : decode cL_law 558 = .ok (.aload_n 0, 1) := by decide +kernel
theorem dL_law_559 : decode cL_law 559 = .ok (.iload_n 3, 1) := by decide +kernel
theorem dL_law_560 : decode cL_law 560 = .ok (.iconst 2, 1) := by decide +kernel
theorem dL_law_561 : decode cL_law 561 = .ok (.iadd, 1) := by decide +kernel
theorem dL_law_562 : decode cL_law 562 = .ok (.iaload, 1) := by decide +kernel
theorem dL_law_563 : decode cL_law 563 = .ok (.invokevirtual 68, 3) := by decide +kernel
theorem dL_law_566 : decode cL_law 566 = .ok (.if_icmp .eq 335, 3) := by decide +kernel
theorem dL_law_569 : decode cL_law 569 = .ok (.iconst 0, 1) := by decide +kernel
theorem dL_law_570 : decode cL_law 570 = .ok (.ireturn, 1) := by decide +kernel
theorem dL_law_571 : decode cL_law 571 = .ok (.aload_n 1, 1) := by decide +kernel
theorem dL_law_572 : decode cL_law 572 = .ok (.aload_n 0, 1) := by decide +kernel
theorem dL_law_573 : decode cL_law 573 = .ok (.iload_n 3, 1) := by decide +kernel
theorem dL_law_574 : decode cL_law 574 = .ok (.iconst 1, 1) := by decide +kernel
theorem dL_law_575 : decode cL_law 575 = .ok (.iadd, 1) := by decide +kernel
theorem dL_law_576 : decode cL_law 576 = .ok (.iaload, 1) := by decide +kernel
theorem dL_law_577 : decode cL_law 577 = .ok (.invokevirtual 69, 3) := by decide +kernel
theorem dL_law_580 : decode cL_law 580 = .ok (.aload_n 2, 1) := by decide +kernel
theorem dL_law_581 : decode cL_law 581 = .ok (.aload_n 0, 1) := by decide +kernel
theorem dL_law_582 : decode cL_law 582 = .ok (.iload_n 3, 1) := by decide +kernel
theorem dL_law_583 : decode cL_law 583 = .ok (.iconst 1, 1) := by decide +kernel
theorem dL_law_584 : decode cL_law 584 = .ok (.iadd, 1) := by decide +kernel
theorem dL_law_585 : decode cL_law 585 = .ok (.iaload, 1) := by decide +kernel
theorem dL_law_586 : decode cL_law 586 = .ok (.invokevirtual 72, 3) := by decide +kernel
theorem dL_law_589 : decode cL_law 589 = .ok (.if_icmp .eq 312, 3) := by decide +kernel
theorem dL_law_592 : decode cL_law 592 = .ok (.iconst 0, 1) := by decide +kernel
theorem dL_law_593 : decode cL_law 593 = .ok (.ireturn, 1) := by decide +kernel
theorem dL_law_594 : decode cL_law 594 = .ok (.aload_n 1, 1) := by decide +kernel
theorem dL_law_595 : decode cL_law 595 = .ok (.aload_n 0, 1) := by decide +kernel
theorem dL_law_596 : decode cL_law 596 = .ok (.iload_n 3, 1) := by decide +kernel
theorem dL_law_597 : decode cL_law 597 = .ok (.iconst 1, 1) := by decide +kernel
theorem dL_law_598 : decode cL_law 598 = .ok (.iadd, 1) := by decide +kernel
theorem dL_law_599 : decode cL_law 599 = .ok (.iaload, 1) := by decide +kernel
theorem dL_law_600 : decode cL_law 600 = .ok (.invokevirtual 73, 3) := by decide +kernel
theorem dL_law_603 : decode cL_law 603 = .ok (.aload_n 2, 1) := by decide +kernel
theorem dL_law_604 : decode cL_law 604 = .ok (.aload_n 0, 1) := by decide +kernel
theorem dL_law_605 : decode cL_law 605 = .ok (.iload_n 3, 1) := by decide +kernel
theorem dL_law_606 : decode cL_law 606 = .ok (.iconst 1, 1) := by decide +kernel
theorem dL_law_607 : decode cL_law 607 = .ok (.iadd, 1) := by decide +kernel
theorem dL_law_608 : decode cL_law 608 = .ok (.iaload, 1) := by decide +kernel
theorem dL_law_609 : decode cL_law 609 = .ok (.invokevirtual 76, 3) := by decide +kernel
theorem dL_law_612 : decode cL_law 612 = .ok (.if_icmp .eq 289, 3) := by decide +kernel
theorem dL_law_615 : decode cL_law 615 = .ok (.iconst 0, 1) := by decide +kernel
theorem dL_law_616 : decode cL_law 616 = .ok (.ireturn, 1) := by decide +kernel
theorem dL_law_617 : decode cL_law 617 = .ok (.aload_n 1, 1) := by decide +kernel
theorem dL_law_618 : decode cL_law 618 = .ok (.aload_n 0, 1) := by decide +kernel
theorem dL_law_619 : decode cL_law 619 = .ok (.iload_n 3, 1) := by decide +kernel
theorem dL_law_620 : decode cL_law 620 = .ok (.iconst 1, 1) := by decide +kernel
theorem dL_law_621 : decode cL_law 621 = .ok (.iadd, 1) := by decide +kernel
theorem dL_law_622 : decode cL_law 622 = .ok (.iaload, 1) := by decide +kernel
theorem dL_law_623 : decode cL_law 623 = .ok (.aload_n 0, 1) := by decide +kernel
theorem dL_law_624 : decode cL_law 624 = .ok (.iload_n 3, 1) := by decide +kernel
theorem dL_law_625 : decode cL_law 625 = .ok (.iconst 2, 1) := by decide +kernel
theorem dL_law_626 : decode cL_law 626 = .ok (.iadd, 1) := by decide +kernel
theorem dL_law_627 : decode cL_law 627 = .ok (.iaload, 1) := by decide +kernel
theorem dL_law_628 : decode cL_law 628 = .ok (.invokevirtual 77, 3) := by decide +kernel
theorem dL_law_631 : decode cL_law 631 = .ok (.aload_n 2, 1) := by decide +kernel
theorem dL_law_632 : decode cL_law 632 = .ok (.aload_n 0, 1) := by decide +kernel
theorem dL_law_633 : decode cL_law 633 = .ok (.iload_n 3, 1) := by decide +kernel
theorem dL_law_634 : decode cL_law 634 = .ok (.iconst 1, 1) := by decide +kernel
theorem dL_law_635 : decode cL_law 635 = .ok (.iadd, 1) := by decide +kernel
theorem dL_law_636 : decode cL_law 636 = .ok (.iaload, 1) := by decide +kernel
theorem dL_law_637 : decode cL_law 637 = .ok (.aload_n 0, 1) := by decide +kernel
theorem dL_law_638 : decode cL_law 638 = .ok (.iload_n 3, 1) := by decide +kernel
theorem dL_law_639 : decode cL_law 639 = .ok (.iconst 2, 1) := by decide +kernel
theorem dL_law_640 : decode cL_law 640 = .ok (.iadd, 1) := by decide +kernel
theorem dL_law_641 : decode cL_law 641 = .ok (.iaload, 1) := by decide +kernel
theorem dL_law_642 : decode cL_law 642 = .ok (.invokevirtual 80, 3) := by decide +kernel
theorem dL_law_645 : decode cL_law 645 = .ok (.if_icmp .eq 256, 3) := by decide +kernel
theorem dL_law_648 : decode cL_law 648 = .ok (.iconst 0, 1) := by decide +kernel
theorem dL_law_649 : decode cL_law 649 = .ok (.ireturn, 1) := by decide +kernel
theorem dL_law_650 : decode cL_law 650 = .ok (.aload_n 1, 1) := by decide +kernel
theorem dL_law_651 : decode cL_law 651 = .ok (.aload_n 0, 1) := by decide +kernel
theorem dL_law_652 : decode cL_law 652 = .ok (.iload_n 3, 1) := by decide +kernel
theorem dL_law_653 : decode cL_law 653 = .ok (.iconst 1, 1) := by decide +kernel
theorem dL_law_654 : decode cL_law 654 = .ok (.iadd, 1) := by decide +kernel
theorem dL_law_655 : decode cL_law 655 = .ok (.iaload, 1) := by decide +kernel
theorem dL_law_656 : decode cL_law 656 = .ok (.aload_n 0, 1) := by decide +kernel
theorem dL_law_657 : decode cL_law 657 = .ok (.iload_n 3, 1) := by decide +kernel
theorem dL_law_658 : decode cL_law 658 = .ok (.iconst 2, 1) := by decide +kernel
theorem dL_law_659 : decode cL_law 659 = .ok (.iadd, 1) := by decide +kernel
theorem dL_law_660 : decode cL_law 660 = .ok (.iaload, 1) := by decide +kernel
theorem dL_law_661 : decode cL_law 661 = .ok (.invokevirtual 81, 3) := by decide +kernel
theorem dL_law_664 : decode cL_law 664 = .ok (.aload_n 2, 1) := by decide +kernel
theorem dL_law_665 : decode cL_law 665 = .ok (.aload_n 0, 1) := by decide +kernel
theorem dL_law_666 : decode cL_law 666 = .ok (.iload_n 3, 1) := by decide +kernel
theorem dL_law_667 : decode cL_law 667 = .ok (.iconst 1, 1) := by decide +kernel
theorem dL_law_668 : decode cL_law 668 = .ok (.iadd, 1) := by decide +kernel
theorem dL_law_669 : decode cL_law 669 = .ok (.iaload, 1) := by decide +kernel
theorem dL_law_670 : decode cL_law 670 = .ok (.aload_n 0, 1) := by decide +kernel
theorem dL_law_671 : decode cL_law 671 = .ok (.iload_n 3, 1) := by decide +kernel
theorem dL_law_672 : decode cL_law 672 = .ok (.iconst 2, 1) := by decide +kernel
theorem dL_law_673 : decode cL_law 673 = .ok (.iadd, 1) := by decide +kernel
theorem dL_law_674 : decode cL_law 674 = .ok (.iaload, 1) := by decide +kernel
theorem dL_law_675 : decode cL_law 675 = .ok (.invokevirtual 84, 3) := by decide +kernel
theorem dL_law_678 : decode cL_law 678 = .ok (.if_icmp .eq 223, 3) := by decide +kernel
theorem dL_law_681 : decode cL_law 681 = .ok (.iconst 0, 1) := by decide +kernel
theorem dL_law_682 : decode cL_law 682 = .ok (.ireturn, 1) := by decide +kernel
theorem dL_law_683 : decode cL_law 683 = .ok (.aload_n 1, 1) := by decide +kernel
theorem dL_law_684 : decode cL_law 684 = .ok (.aload_n 0, 1) := by decide +kernel
theorem dL_law_685 : decode cL_law 685 = .ok (.iload_n 3, 1) := by decide +kernel
theorem dL_law_686 : decode cL_law 686 = .ok (.iconst 1, 1) := by decide +kernel
theorem dL_law_687 : decode cL_law 687 = .ok (.iadd, 1) := by decide +kernel
theorem dL_law_688 : decode cL_law 688 = .ok (.iaload, 1) := by decide +kernel
theorem dL_law_689 : decode cL_law 689 = .ok (.invokevirtual 85, 3) := by decide +kernel
theorem dL_law_692 : decode cL_law 692 = .ok (.aload_n 2, 1) := by decide +kernel
theorem dL_law_693 : decode cL_law 693 = .ok (.aload_n 0, 1) := by decide +kernel
theorem dL_law_694 : decode cL_law 694 = .ok (.iload_n 3, 1) := by decide +kernel
theorem dL_law_695 : decode cL_law 695 = .ok (.iconst 1, 1) := by decide +kernel
theorem dL_law_696 : decode cL_law 696 = .ok (.iadd, 1) := by decide +kernel
theorem dL_law_697 : decode cL_law 697 = .ok (.iaload, 1) := by decide +kernel
theorem dL_law_698 : decode cL_law 698 = .ok (.invokevirtual 88, 3) := by decide +kernel
theorem dL_law_701 : decode cL_law 701 = .ok (.if_icmp .eq 200, 3) := by decide +kernel
theorem dL_law_704 : decode cL_law 704 = .ok (.iconst 0, 1) := by decide +kernel
theorem dL_law_705 : decode cL_law 705 = .ok (.ireturn, 1) := by decide +kernel
theorem dL_law_706 : decode cL_law 706 = .ok (.aload_n 1, 1) := by decide +kernel
theorem dL_law_707 : decode cL_law 707 = .ok (.aload_n 0, 1) := by decide +kernel
theorem dL_law_708 : decode cL_law 708 = .ok (.iload_n 3, 1) := by decide +kernel
theorem dL_law_709 : decode cL_law 709 = .ok (.iconst 1, 1) := by decide +kernel
theorem dL_law_710 : decode cL_law 710 = .ok (.iadd, 1) := by decide +kernel
theorem dL_law_711 : decode cL_law 711 = .ok (.iaload, 1) := by decide +kernel
theorem dL_law_712 : decode cL_law 712 = .ok (.aload_n 0, 1) := by decide +kernel
theorem dL_law_713 : decode cL_law 713 = .ok (.iload_n 3, 1) := by decide +kernel
theorem dL_law_714 : decode cL_law 714 = .ok (.iconst 2, 1) := by decide +kernel
theorem dL_law_715 : decode cL_law 715 = .ok (.iadd, 1) := by decide +kernel
theorem dL_law_716 : decode cL_law 716 = .ok (.iaload, 1) := by decide +kernel
theorem dL_law_717 : decode cL_law 717 = .ok (.aload_n 0, 1) := by decide +kernel
theorem dL_law_718 : decode cL_law 718 = .ok (.iload_n 3, 1) := by decide +kernel
theorem dL_law_719 : decode cL_law 719 = .ok (.iconst 3, 1) := by decide +kernel
theorem dL_law_720 : decode cL_law 720 = .ok (.iadd, 1) := by decide +kernel
theorem dL_law_721 : decode cL_law 721 = .ok (.iaload, 1) := by decide +kernel
theorem dL_law_722 : decode cL_law 722 = .ok (.aload_n 0, 1) := by decide +kernel
theorem dL_law_723 : decode cL_law 723 = .ok (.iload_n 3, 1) := by decide +kernel
theorem dL_law_724 : decode cL_law 724 = .ok (.iconst 4, 1) := by decide +kernel
theorem dL_law_725 : decode cL_law 725 = .ok (.iadd, 1) := by decide +kernel
theorem dL_law_726 : decode cL_law 726 = .ok (.iaload, 1) := by decide +kernel
theorem dL_law_727 : decode cL_law 727 = .ok (.invokevirtual 89, 3) := by decide +kernel
theorem dL_law_730 : decode cL_law 730 = .ok (.aload_n 2, 1) := by decide +kernel
theorem dL_law_731 : decode cL_law 731 = .ok (.aload_n 0, 1) := by decide +kernel
theorem dL_law_732 : decode cL_law 732 = .ok (.iload_n 3, 1) := by decide +kernel
theorem dL_law_733 : decode cL_law 733 = .ok (.iconst 1, 1) := by decide +kernel
theorem dL_law_734 : decode cL_law 734 = .ok (.iadd, 1) := by decide +kernel
theorem dL_law_735 : decode cL_law 735 = .ok (.iaload, 1) := by decide +kernel
theorem dL_law_736 : decode cL_law 736 = .ok (.aload_n 0, 1) := by decide +kernel
theorem dL_law_737 : decode cL_law 737 = .ok (.iload_n 3, 1) := by decide +kernel
theorem dL_law_738 : decode cL_law 738 = .ok (.iconst 2, 1) := by decide +kernel
theorem dL_law_739 : decode cL_law 739 = .ok (.iadd, 1) := by decide +kernel
theorem dL_law_740 : decode cL_law 740 = .ok (.iaload, 1) := by decide +kernel
theorem dL_law_741 : decode cL_law 741 = .ok (.aload_n 0, 1) := by decide +kernel
theorem dL_law_742 : decode cL_law 742 = .ok (.iload_n 3, 1) := by decide +kernel
theorem dL_law_743 : decode cL_law 743 = .ok (.iconst 3, 1) := by decide +kernel
theorem dL_law_744 : decode cL_law 744 = .ok (.iadd, 1) := by decide +kernel
theorem dL_law_745 : decode cL_law 745 = .ok (.iaload, 1) := by decide +kernel
theorem dL_law_746 : decode cL_law 746 = .ok (.aload_n 0, 1) := by decide +kernel
theorem dL_law_747 : decode cL_law 747 = .ok (.iload_n 3, 1) := by decide +kernel
theorem dL_law_748 : decode cL_law 748 = .ok (.iconst 4, 1) := by decide +kernel
theorem dL_law_749 : decode cL_law 749 = .ok (.iadd, 1) := by decide +kernel
theorem dL_law_750 : decode cL_law 750 = .ok (.iaload, 1) := by decide +kernel
theorem dL_law_751 : decode cL_law 751 = .ok (.invokevirtual 93, 3) := by decide +kernel
theorem dL_law_754 : decode cL_law 754 = .ok (.if_icmp .eq 147, 3) := by decide +kernel
theorem dL_law_757 : decode cL_law 757 = .ok (.iconst 0, 1) := by decide +kernel
theorem dL_law_758 : decode cL_law 758 = .ok (.ireturn, 1) := by decide +kernel
theorem dL_law_759 : decode cL_law 759 = .ok (.aload_n 1, 1) := by decide +kernel
theorem dL_law_760 : decode cL_law 760 = .ok (.aload_n 0, 1) := by decide +kernel
theorem dL_law_761 : decode cL_law 761 = .ok (.iload_n 3, 1) := by decide +kernel
theorem dL_law_762 : decode cL_law 762 = .ok (.iconst 1, 1) := by decide +kernel
theorem dL_law_763 : decode cL_law 763 = .ok (.iadd, 1) := by decide +kernel
theorem dL_law_764 : decode cL_law 764 = .ok (.iaload, 1) := by decide +kernel
theorem dL_law_765 : decode cL_law 765 = .ok (.invokevirtual 94, 3) := by decide +kernel
theorem dL_law_768 : decode cL_law 768 = .ok (.aload_n 2, 1) := by decide +kernel
theorem dL_law_769 : decode cL_law 769 = .ok (.aload_n 0, 1) := by decide +kernel
theorem dL_law_770 : decode cL_law 770 = .ok (.iload_n 3, 1) := by decide +kernel
theorem dL_law_771 : decode cL_law 771 = .ok (.iconst 1, 1) := by decide +kernel
theorem dL_law_772 : decode cL_law 772 = .ok (.iadd, 1) := by decide +kernel
theorem dL_law_773 : decode cL_law 773 = .ok (.iaload, 1) := by decide +kernel
theorem dL_law_774 : decode cL_law 774 = .ok (.invokevirtual 97, 3) := by decide +kernel
theorem dL_law_777 : decode cL_law 777 = .ok (.if_icmp .eq 124, 3) := by decide +kernel
theorem dL_law_780 : decode cL_law 780 = .ok (.iconst 0, 1) := by decide +kernel
theorem dL_law_781 : decode cL_law 781 = .ok (.ireturn, 1) := by decide +kernel
theorem dL_law_782 : decode cL_law 782 = .ok (.aload_n 1, 1) := by decide +kernel
theorem dL_law_783 : decode cL_law 783 = .ok (.aload_n 0, 1) := by decide +kernel
theorem dL_law_784 : decode cL_law 784 = .ok (.iload_n 3, 1) := by decide +kernel
theorem dL_law_785 : decode cL_law 785 = .ok (.iconst 1, 1) := by decide +kernel
theorem dL_law_786 : decode cL_law 786 = .ok (.iadd, 1) := by decide +kernel
theorem dL_law_787 : decode cL_law 787 = .ok (.iaload, 1) := by decide +kernel
theorem dL_law_788 : decode cL_law 788 = .ok (.invokevirtual 98, 3) := by decide +kernel
theorem dL_law_791 : decode cL_law 791 = .ok (.aload_n 2, 1) := by decide +kernel
theorem dL_law_792 : decode cL_law 792 = .ok (.aload_n 0, 1) := by decide +kernel
theorem dL_law_793 : decode cL_law 793 = .ok (.iload_n 3, 1) := by decide +kernel
theorem dL_law_794 : decode cL_law 794 = .ok (.iconst 1, 1) := by decide +kernel
theorem dL_law_795 : decode cL_law 795 = .ok (.iadd, 1) := by decide +kernel
theorem dL_law_796 : decode cL_law 796 = .ok (.iaload, 1) := by decide +kernel
theorem dL_law_797 : decode cL_law 797 = .ok (.invokevirtual 101, 3) := by decide +kernel
theorem dL_law_800 : decode cL_law 800 = .ok (.if_icmp .eq 101, 3) := by decide +kernel
theorem dL_law_803 : decode cL_law 803 = .ok (.iconst 0, 1) := by decide +kernel
theorem dL_law_804 : decode cL_law 804 = .ok (.ireturn, 1) := by decide +kernel
theorem dL_law_805 : decode cL_law 805 = .ok (.aload_n 1, 1) := by decide +kernel
theorem dL_law_806 : decode cL_law 806 = .ok (.aload_n 0, 1) := by decide +kernel
theorem dL_law_807 : decode cL_law 807 = .ok (.iload_n 3, 1) := by decide +kernel
theorem dL_law_808 : decode cL_law 808 = .ok (.iconst 1, 1) := by decide +kernel
theorem dL_law_809 : decode cL_law 809 = .ok (.iadd, 1) := by decide +kernel
theorem dL_law_810 : decode cL_law 810 = .ok (.iaload, 1) := by decide +kernel
theorem dL_law_811 : decode cL_law 811 = .ok (.invokevirtual 102, 3) := by decide +kernel
theorem dL_law_814 : decode cL_law 814 = .ok (.aload_n 2, 1) := by decide +kernel
theorem dL_law_815 : decode cL_law 815 = .ok (.aload_n 0, 1) := by decide +kernel
theorem dL_law_816 : decode cL_law 816 = .ok (.iload_n 3, 1) := by decide +kernel
theorem dL_law_817 : decode cL_law 817 = .ok (.iconst 1, 1) := by decide +kernel
theorem dL_law_818 : decode cL_law 818 = .ok (.iadd, 1) := by decide +kernel
theorem dL_law_819 : decode cL_law 819 = .ok (.iaload, 1) := by decide +kernel
theorem dL_law_820 : decode cL_law 820 = .ok (.invokevirtual 105, 3) := by decide +kernel
theorem dL_law_823 : decode cL_law 823 = .ok (.if_icmp .eq 78, 3) := by decide +kernel
theorem dL_law_826 : decode cL_law 826 = .ok (.iconst 0, 1) := by decide +kernel
theorem dL_law_827 : decode cL_law 827 = .ok (.ireturn, 1) := by decide +kernel
theorem dL_law_828 : decode cL_law 828 = .ok (.aload_n 1, 1) := by decide +kernel
theorem dL_law_829 : decode cL_law 829 = .ok (.aload_n 0, 1) := by decide +kernel
theorem dL_law_830 : decode cL_law 830 = .ok (.iload_n 3, 1) := by decide +kernel
theorem dL_law_831 : decode cL_law 831 = .ok (.iconst 1, 1) := by decide +kernel
theorem dL_law_832 : decode cL_law 832 = .ok (.iadd, 1) := by decide +kernel
theorem dL_law_833 : decode cL_law 833 = .ok (.iaload, 1) := by decide +kernel
theorem dL_law_834 : decode cL_law 834 = .ok (.invokevirtual 106, 3) := by decide +kernel
theorem dL_law_837 : decode cL_law 837 = .ok (.aload_n 2, 1) := by decide +kernel
theorem dL_law_838 : decode cL_law 838 = .ok (.aload_n 0, 1) := by decide +kernel
theorem dL_law_839 : decode cL_law 839 = .ok (.iload_n 3, 1) := by decide +kernel
theorem dL_law_840 : decode cL_law 840 = .ok (.iconst 1, 1) := by decide +kernel
theorem dL_law_841 : decode cL_law 841 = .ok (.iadd, 1) := by decide +kernel
theorem dL_law_842 : decode cL_law 842 = .ok (.iaload, 1) := by decide +kernel
theorem dL_law_843 : decode cL_law 843 = .ok (.invokevirtual 109, 3) := by decide +kernel
theorem dL_law_846 : decode cL_law 846 = .ok (.if_icmp .eq 55, 3) := by decide +kernel
theorem dL_law_849 : decode cL_law 849 = .ok (.iconst 0, 1) := by decide +kernel
theorem dL_law_850 : decode cL_law 850 = .ok (.ireturn, 1) := by decide +kernel
theorem dL_law_851 : decode cL_law 851 = .ok (.aload_n 1, 1) := by decide +kernel
theorem dL_law_852 : decode cL_law 852 = .ok (.invokevirtual 110, 3) := by decide +kernel
theorem dL_law_855 : decode cL_law 855 = .ok (.aload_n 2, 1) := by decide +kernel
theorem dL_law_856 : decode cL_law 856 = .ok (.invokevirtual 113, 3) := by decide +kernel
theorem dL_law_859 : decode cL_law 859 = .ok (.if_icmp .eq 42, 3) := by decide +kernel
theorem dL_law_862 : decode cL_law 862 = .ok (.iconst 0, 1) := by decide +kernel
theorem dL_law_863 : decode cL_law 863 = .ok (.ireturn, 1) := by decide +kernel
theorem dL_law_864 : decode cL_law 864 = .ok (.aload_n 1, 1) := by decide +kernel
theorem dL_law_865 : decode cL_law 865 = .ok (.aload_n 0, 1) := by decide +kernel
theorem dL_law_866 : decode cL_law 866 = .ok (.iload_n 3, 1) := by decide +kernel
theorem dL_law_867 : decode cL_law 867 = .ok (.iconst 1, 1) := by decide +kernel
theorem dL_law_868 : decode cL_law 868 = .ok (.iadd, 1) := by decide +kernel
theorem dL_law_869 : decode cL_law 869 = .ok (.iaload, 1) := by decide +kernel
theorem dL_law_870 : decode cL_law 870 = .ok (.invokevirtual 114, 3) := by decide +kernel
theorem dL_law_873 : decode cL_law 873 = .ok (.aload_n 2, 1) := by decide +kernel
theorem dL_law_874 : decode cL_law 874 = .ok (.aload_n 0, 1) := by decide +kernel
theorem dL_law_875 : decode cL_law 875 = .ok (.iload_n 3, 1) := by decide +kernel
theorem dL_law_876 : decode cL_law 876 = .ok (.iconst 1, 1) := by decide +kernel
theorem dL_law_877 : decode cL_law 877 = .ok (.iadd, 1) := by decide +kernel
theorem dL_law_878 : decode cL_law 878 = .ok (.iaload, 1) := by decide +kernel
theorem dL_law_879 : decode cL_law 879 = .ok (.invokevirtual 117, 3) := by decide +kernel
theorem dL_law_882 : decode cL_law 882 = .ok (.if_icmp .eq 19, 3) := by decide +kernel
theorem dL_law_885 : decode cL_law 885 = .ok (.iconst 0, 1) := by decide +kernel
theorem dL_law_886 : decode cL_law 886 = .ok (.ireturn, 1) := by decide +kernel
theorem dL_law_887 : decode cL_law 887 = .ok (.aload_n 1, 1) := by decide +kernel
theorem dL_law_888 : decode cL_law 888 = .ok (.invokevirtual 118, 3) := by decide +kernel
theorem dL_law_891 : decode cL_law 891 = .ok (.aload_n 2, 1) := by decide +kernel
theorem dL_law_892 : decode cL_law 892 = .ok (.invokevirtual 122, 3) := by decide +kernel
theorem dL_law_895 : decode cL_law 895 = .ok (.lcmp, 1) := by decide +kernel
theorem dL_law_896 : decode cL_law 896 = .ok (.ifCond .eq 5, 3) := by decide +kernel
theorem dL_law_899 : decode cL_law 899 = .ok (.iconst 0, 1) := by decide +kernel
theorem dL_law_900 : decode cL_law 900 = .ok (.ireturn, 1) := by decide +kernel
theorem dL_law_901 : decode cL_law 901 = .ok (.iinc 3 5, 3) := by decide +kernel
theorem dL_law_904 : decode cL_law 904 = .ok (.goto (-886), 3) := by decide +kernel
theorem dL_law_907 : decode cL_law 907 = .ok (.iconst 1, 1) := by decide +kernel
theorem dL_law_908 : decode cL_law 908 = .ok (.ireturn, 1) := by decide +kernel

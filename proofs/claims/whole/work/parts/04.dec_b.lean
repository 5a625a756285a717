theorem dX9_init_0 : decode cX9_init 0 = .ok (.aload_n 0, 1) := by decide +kernel
theorem dX9_init_1 : decode cX9_init 1 = .ok (.invokespecial 1, 3) := by decide +kernel
theorem dX9_init_4 : decode cX9_init 4 = .ok (.aload_n 0, 1) := by decide +kernel
theorem dX9_init_5 : decode cX9_init 5 = .ok (.new 7, 3) := by decide +kernel
theorem dX9_init_8 : decode cX9_init 8 = .ok (.dup, 1) := by decide +kernel
theorem dX9_init_9 : decode cX9_init 9 = .ok (.bipush 6, 2) := by decide +kernel
theorem dX9_init_11 : decode cX9_init 11 = .ok (.bipush 40, 2) := by decide +kernel
theorem dX9_init_13 : decode cX9_init 13 = .ok (.iconst 0, 1) := by decide +kernel
theorem dX9_init_14 : decode cX9_init 14 = .ok (.invokespecial 11, 3) := by decide +kernel
theorem dX9_init_17 : decode cX9_init 17 = .ok (.putfield 14, 3) := by decide +kernel
theorem dX9_init_20 : decode cX9_init 20 = .ok (.aload_n 0, 1) := by decide +kernel
theorem dX9_init_21 : decode cX9_init 21 = .ok (.new 7, 3) := by decide +kernel
theorem dX9_init_24 : decode cX9_init 24 = .ok (.dup, 1) := by decide +kernel
theorem dX9_init_25 : decode cX9_init 25 = .ok (.iconst 4, 1) := by decide +kernel
theorem dX9_init_26 : decode cX9_init 26 = .ok (.bipush 60, 2) := by decide +kernel
theorem dX9_init_28 : decode cX9_init 28 = .ok (.bipush 32, 2) := by decide +kernel
theorem dX9_init_30 : decode cX9_init 30 = .ok (.invokespecial 11, 3) := by decide +kernel
theorem dX9_init_33 : decode cX9_init 33 = .ok (.putfield 18, 3) := by decide +kernel
theorem dX9_init_36 : decode cX9_init 36 = .ok (.aload_n 0, 1) := by decide +kernel
theorem dX9_init_37 : decode cX9_init 37 = .ok (.new 21, 3) := by decide +kernel
theorem dX9_init_40 : decode cX9_init 40 = .ok (.dup, 1) := by decide +kernel
theorem dX9_init_41 : decode cX9_init 41 = .ok (.invokespecial 23, 3) := by decide +kernel
theorem dX9_init_44 : decode cX9_init 44 = .ok (.putfield 24, 3) := by decide +kernel
theorem dX9_init_47 : decode cX9_init 47 = .ok (.aload_n 0, 1) := by decide +kernel
theorem dX9_init_48 : decode cX9_init 48 = .ok (.new 28, 3) := by decide +kernel
theorem dX9_init_51 : decode cX9_init 51 = .ok (.dup, 1) := by decide +kernel
theorem dX9_init_52 : decode cX9_init 52 = .ok (.invokespecial 30, 3) := by decide +kernel
theorem dX9_init_55 : decode cX9_init 55 = .ok (.putfield 31, 3) := by decide +kernel
theorem dX9_init_58 : decode cX9_init 58 = .ok (.aload_n 0, 1) := by decide +kernel
theorem dX9_init_59 : decode cX9_init 59 = .ok (.new 35, 3) := by decide +kernel
theorem dX9_init_62 : decode cX9_init 62 = .ok (.dup, 1) := by decide +kernel
theorem dX9_init_63 : decode cX9_init 63 = .ok (.aload_n 0, 1) := by decide +kernel
theorem dX9_init_64 : decode cX9_init 64 = .ok (.getfield 31, 3) := by decide +kernel
theorem dX9_init_67 : decode cX9_init 67 = .ok (.invokespecial 37, 3) := by decide +kernel
theorem dX9_init_70 : decode cX9_init 70 = .ok (.putfield 40, 3) := by decide +kernel
theorem dX9_init_73 : decode cX9_init 73 = .ok (.aload_n 0, 1) := by decide +kernel
theorem dX9_init_74 : decode cX9_init 74 = .ok (.new 44, 3) := by decide +kernel
theorem dX9_init_77 : decode cX9_init 77 = .ok (.dup, 1) := by decide +kernel
theorem dX9_init_78 : decode cX9_init 78 = .ok (.aload_n 0, 1) := by decide +kernel
theorem dX9_init_79 : decode cX9_init 79 = .ok (.getfield 40, 3) := by decide +kernel
theorem dX9_init_82 : decode cX9_init 82 = .ok (.invokespecial 46, 3) := by decide +kernel
theorem dX9_init_85 : decode cX9_init 85 = .ok (.putfield 49, 3) := by decide +kernel
theorem dX9_init_88 : decode cX9_init 88 = .ok (.aload_n 0, 1) := by decide +kernel
theorem dX9_init_89 : decode cX9_init 89 = .ok (.new 53, 3) := by decide +kernel
theorem dX9_init_92 : decode cX9_init 92 = .ok (.dup, 1) := by decide +kernel
theorem dX9_init_93 : decode cX9_init 93 = .ok (.aload_n 0, 1) := by decide +kernel
theorem dX9_init_94 : decode cX9_init 94 = .ok (.getfield 40, 3) := by decide +kernel
theorem dX9_init_97 : decode cX9_init 97 = .ok (.aload_n 0, 1) := by decide +kernel
theorem dX9_init_98 : decode cX9_init 98 = .ok (.getfield 49, 3) := by decide +kernel
theorem dX9_init_101 : decode cX9_init 101 = .ok (.invokespecial 55, 3) := by decide +kernel
theorem dX9_init_104 : decode cX9_init 104 = .ok (.putfield 58, 3) := by decide +kernel
theorem dX9_init_107 : decode cX9_init 107 = .ok (.aload_n 0, 1) := by decide +kernel
theorem dX9_init_108 : decode cX9_init 108 = .ok (.new 62, 3) := by decide +kernel
theorem dX9_init_111 : decode cX9_init 111 = .ok (.dup, 1) := by decide +kernel
theorem dX9_init_112 : decode cX9_init 112 = .ok (.aload_n 0, 1) := by decide +kernel
theorem dX9_init_113 : decode cX9_init 113 = .ok (.getfield 40, 3) := by decide +kernel
theorem dX9_init_116 : decode cX9_init 116 = .ok (.aload_n 0, 1) := by decide +kernel
theorem dX9_init_117 : decode cX9_init 117 = .ok (.getfield 49, 3) := by decide +kernel
theorem dX9_init_120 : decode cX9_init 120 = .ok (.aload_n 0, 1) := by decide +kernel
theorem dX9_init_121 : decode cX9_init 121 = .ok (.getfield 58, 3) := by decide +kernel
theorem dX9_init_124 : decode cX9_init 124 = .ok (.invokespecial 64, 3) := by decide +kernel
theorem dX9_init_127 : decode cX9_init 127 = .ok (.putfield 67, 3) := by decide +kernel
theorem dX9_init_130 : decode cX9_init 130 = .ok (.aload_n 0, 1) := by decide +kernel
theorem dX9_init_131 : decode cX9_init 131 = .ok (.new 71, 3) := by decide +kernel
theorem dX9_init_134 : decode cX9_init 134 = .ok (.dup, 1) := by decide +kernel
theorem dX9_init_135 : decode cX9_init 135 = .ok (.invokespecial 73, 3) := by decide +kernel
theorem dX9_init_138 : decode cX9_init 138 = .ok (.putfield 74, 3) := by decide +kernel
theorem dX9_init_141 : decode cX9_init 141 = .ok (.aload_n 0, 1) := by decide +kernel
theorem dX9_init_142 : decode cX9_init 142 = .ok (.new 78, 3) := by decide +kernel
theorem dX9_init_145 : decode cX9_init 145 = .ok (.dup, 1) := by decide +kernel
theorem dX9_init_146 : decode cX9_init 146 = .ok (.aload_n 0, 1) := by decide +kernel
theorem dX9_init_147 : decode cX9_init 147 = .ok (.getfield 40, 3) := by decide +kernel
theorem dX9_init_150 : decode cX9_init 150 = .ok (.aload_n 0, 1) := by decide +kernel
theorem dX9_init_151 : decode cX9_init 151 = .ok (.getfield 31, 3) := by decide +kernel
theorem dX9_init_154 : decode cX9_init 154 = .ok (.aload_n 0, 1) := by decide +kernel
theorem dX9_init_155 : decode cX9_init 155 = .ok (.getfield 58, 3) := by decide +kernel
theorem dX9_init_158 : decode cX9_init 158 = .ok (.invokespecial 80, 3) := by decide +kernel
theorem dX9_init_161 : decode cX9_init 161 = .ok (.putfield 83, 3) := by decide +kernel
theorem dX9_init_164 : decode cX9_init 164 = .ok (.aload_n 0, 1) := by decide +kernel
theorem dX9_init_165 : decode cX9_init 165 = .ok (.bipush 6, 2) := by decide +kernel
theorem dX9_init_167 : decode cX9_init 167 = .ok (.newarray .int, 2) := by decide +kernel
theorem dX9_init_169 : decode cX9_init 169 = .ok (.putfield 87, 3) := by decide +kernel
theorem dX9_init_172 : decode cX9_init 172 = .ok (.aload_n 0, 1) := by decide +kernel
theorem dX9_init_173 : decode cX9_init 173 = .ok (.iconst 0, 1) := by decide +kernel
theorem dX9_init_174 : decode cX9_init 174 = .ok (.putfield 91, 3) := by decide +kernel
theorem dX9_init_177 : decode cX9_init 177 = .ok (.aload_n 0, 1) := by decide +kernel
theorem dX9_init_178 : decode cX9_init 178 = .ok (.iconst 0, 1) := by decide +kernel
theorem dX9_init_179 : decode cX9_init 179 = .ok (.putfield 95, 3) := by decide +kernel
theorem dX9_init_182 : decode cX9_init 182 = .ok (.aload_n 0, 1) := by decide +kernel
theorem dX9_init_183 : decode cX9_init 183 = .ok (.lconst 0, 1) := by decide +kernel
theorem dX9_init_184 : decode cX9_init 184 = .ok (.putfield 98, 3) := by decide +kernel
theorem dX9_init_187 : decode cX9_init 187 = .ok (.aload_n 0, 1) := by decide +kernel
theorem dX9_init_188 : decode cX9_init 188 = .ok (.lconst 1, 1) := by decide +kernel
theorem dX9_init_189 : decode cX9_init 189 = .ok (.putfield 102, 3) := by decide +kernel
theorem dX9_init_192 : decode cX9_init 192 = .ok (.return_, 1) := by decide +kernel
theorem dX9_row_0 : decode cX9_row 0 = .ok (.iload_n 1, 1) := by decide +kernel
theorem dX9_row_1 : decode cX9_row 1 = .ok (.invokestatic 105, 3) := by decide +kernel
theorem dX9_row_4 : decode cX9_row 4 = .ok (.ifCond .eq 9, 3) := by decide +kernel
theorem dX9_row_7 : decode cX9_row 7 = .ok (.iload_n 2, 1) := by decide +kernel
theorem dX9_row_8 : decode cX9_row 8 = .ok (.bipush 40, 2) := by decide +kernel
theorem dX9_row_10 : decode cX9_row 10 = .ok (.if_icmp .le 5, 3) := by decide +kernel
theorem dX9_row_13 : decode cX9_row 13 = .ok (.iconst (-1), 1) := by decide +kernel
theorem dX9_row_14 : decode cX9_row 14 = .ok (.ireturn, 1) := by decide +kernel
theorem dX9_row_15 : decode cX9_row 15 = .ok (.iload_n 2, 1) := by decide +kernel
theorem dX9_row_16 : decode cX9_row 16 = .ok (.ifCond .ge 9, 3) := by decide +kernel
theorem dX9_row_19 : decode cX9_row 19 = .ok (.aload_n 0, 1) := by decide +kernel
theorem dX9_row_20 : decode cX9_row 20 = .ok (.iconst 5, 1) := by decide +kernel
theorem dX9_row_21 : decode cX9_row 21 = .ok (.invokevirtual 109, 3) := by decide +kernel
theorem dX9_row_24 : decode cX9_row 24 = .ok (.ireturn, 1) := by decide +kernel
theorem dX9_row_25 : decode cX9_row 25 = .ok (.aload_n 0, 1) := by decide +kernel
theorem dX9_row_26 : decode cX9_row 26 = .ok (.getfield 14, 3) := by decide +kernel
theorem dX9_row_29 : decode cX9_row 29 = .ok (.iload_n 1, 1) := by decide +kernel
theorem dX9_row_30 : decode cX9_row 30 = .ok (.iload_n 2, 1) := by decide +kernel
theorem dX9_row_31 : decode cX9_row 31 = .ok (.invokevirtual 113, 3) := by decide +kernel
theorem dX9_row_34 : decode cX9_row 34 = .ok (.iload_n 2, 1) := by decide +kernel
theorem dX9_row_35 : decode cX9_row 35 = .ok (.ireturn, 1) := by decide +kernel
theorem dX9_lay_0 : decode cX9_lay 0 = .ok (.aload_n 0, 1) := by decide +kernel
theorem dX9_lay_1 : decode cX9_lay 1 = .ok (.iload_n 1, 1) := by decide +kernel
theorem dX9_lay_2 : decode cX9_lay 2 = .ok (.iload_n 2, 1) := by decide +kernel
theorem dX9_lay_3 : decode cX9_lay 3 = .ok (.invokevirtual 117, 3) := by decide +kernel
theorem dX9_lay_6 : decode cX9_lay 6 = .ok (.istore 4, 2) := by decide +kernel
theorem dX9_lay_8 : decode cX9_lay 8 = .ok (.iload 4, 2) := by decide +kernel
theorem dX9_lay_10 : decode cX9_lay 10 = .ok (.ifCond .eq 6, 3) := by decide +kernel
theorem dX9_lay_13 : decode cX9_lay 13 = .ok (.iload 4, 2) := by decide +kernel
theorem dX9_lay_15 : decode cX9_lay 15 = .ok (.ireturn, 1) := by decide +kernel
theorem dX9_lay_16 : decode cX9_lay 16 = .ok (.aload_n 0, 1) := by decide +kernel
theorem dX9_lay_17 : decode cX9_lay 17 = .ok (.aload_n 0, 1) := by decide +kernel
theorem dX9_lay_18 : decode cX9_lay 18 = .ok (.getfield 14, 3) := by decide +kernel
theorem dX9_lay_21 : decode cX9_lay 21 = .ok (.iload_n 1, 1) := by decide +kernel
theorem dX9_lay_22 : decode cX9_lay 22 = .ok (.iload_n 2, 1) := by decide +kernel
theorem dX9_lay_23 : decode cX9_lay 23 = .ok (.invokevirtual 121, 3) := by decide +kernel
theorem dX9_lay_26 : decode cX9_lay 26 = .ok (.putfield 95, 3) := by decide +kernel
theorem dX9_lay_29 : decode cX9_lay 29 = .ok (.aload_n 0, 1) := by decide +kernel
theorem dX9_lay_30 : decode cX9_lay 30 = .ok (.getfield 14, 3) := by decide +kernel
theorem dX9_lay_33 : decode cX9_lay 33 = .ok (.iload_n 1, 1) := by decide +kernel
theorem dX9_lay_34 : decode cX9_lay 34 = .ok (.iload_n 2, 1) := by decide +kernel
theorem dX9_lay_35 : decode cX9_lay 35 = .ok (.iload_n 3, 1) := by decide +kernel
theorem dX9_lay_36 : decode cX9_lay 36 = .ok (.invokevirtual 124, 3) := by decide +kernel
theorem dX9_lay_39 : decode cX9_lay 39 = .ok (.iconst 1, 1) := by decide +kernel
theorem dX9_lay_40 : decode cX9_lay 40 = .ok (.ireturn, 1) := by decide +kernel
theorem dX9_at_0 : decode cX9_at 0 = .ok (.aload_n 0, 1) := by decide +kernel
theorem dX9_at_1 : decode cX9_at 1 = .ok (.iload_n 1, 1) := by decide +kernel
theorem dX9_at_2 : decode cX9_at 2 = .ok (.iload_n 2, 1) := by decide +kernel
theorem dX9_at_3 : decode cX9_at 3 = .ok (.invokevirtual 117, 3) := by decide +kernel
theorem dX9_at_6 : decode cX9_at 6 = .ok (.istore_n 3, 1) := by decide +kernel
theorem dX9_at_7 : decode cX9_at 7 = .ok (.iload_n 3, 1) := by decide +kernel
theorem dX9_at_8 : decode cX9_at 8 = .ok (.ifCond .eq 5, 3) := by decide +kernel
theorem dX9_at_11 : decode cX9_at 11 = .ok (.iload_n 3, 1) := by decide +kernel
theorem dX9_at_12 : decode cX9_at 12 = .ok (.ireturn, 1) := by decide +kernel
theorem dX9_at_13 : decode cX9_at 13 = .ok (.aload_n 0, 1) := by decide +kernel
theorem dX9_at_14 : decode cX9_at 14 = .ok (.aload_n 0, 1) := by decide +kernel
theorem dX9_at_15 : decode cX9_at 15 = .ok (.getfield 14, 3) := by decide +kernel
theorem dX9_at_18 : decode cX9_at 18 = .ok (.iload_n 1, 1) := by decide +kernel
theorem dX9_at_19 : decode cX9_at 19 = .ok (.iload_n 2, 1) := by decide +kernel
theorem dX9_at_20 : decode cX9_at 20 = .ok (.invokevirtual 121, 3) := by decide +kernel
theorem dX9_at_23 : decode cX9_at 23 = .ok (.putfield 95, 3) := by decide +kernel
theorem dX9_at_26 : decode cX9_at 26 = .ok (.iconst 1, 1) := by decide +kernel
theorem dX9_at_27 : decode cX9_at 27 = .ok (.ireturn, 1) := by decide +kernel
theorem dX9_tear_0 : decode cX9_tear 0 = .ok (.aload_n 0, 1) := by decide +kernel
theorem dX9_tear_1 : decode cX9_tear 1 = .ok (.iload_n 1, 1) := by decide +kernel
theorem dX9_tear_2 : decode cX9_tear 2 = .ok (.invokevirtual 127, 3) := by decide +kernel
theorem dX9_tear_5 : decode cX9_tear 5 = .ok (.istore_n 2, 1) := by decide +kernel
theorem dX9_tear_6 : decode cX9_tear 6 = .ok (.iload_n 2, 1) := by decide +kernel
theorem dX9_tear_7 : decode cX9_tear 7 = .ok (.ifCond .eq 5, 3) := by decide +kernel
theorem dX9_tear_10 : decode cX9_tear 10 = .ok (.iload_n 2, 1) := by decide +kernel
theorem dX9_tear_11 : decode cX9_tear 11 = .ok (.ireturn, 1) := by decide +kernel
theorem dX9_tear_12 : decode cX9_tear 12 = .ok (.aload_n 0, 1) := by decide +kernel
theorem dX9_tear_13 : decode cX9_tear 13 = .ok (.getfield 14, 3) := by decide +kernel
theorem dX9_tear_16 : decode cX9_tear 16 = .ok (.iload_n 1, 1) := by decide +kernel
theorem dX9_tear_17 : decode cX9_tear 17 = .ok (.invokevirtual 130, 3) := by decide +kernel
theorem dX9_tear_20 : decode cX9_tear 20 = .ok (.iconst 1, 1) := by decide +kernel
theorem dX9_tear_21 : decode cX9_tear 21 = .ok (.ireturn, 1) := by decide +kernel
theorem dX9_copy_0 : decode cX9_copy 0 = .ok (.iload_n 1, 1) := by decide +kernel
theorem dX9_copy_1 : decode cX9_copy 1 = .ok (.invokestatic 105, 3) := by decide +kernel
theorem dX9_copy_4 : decode cX9_copy 4 = .ok (.ifCond .eq 10, 3) := by decide +kernel
theorem dX9_copy_7 : decode cX9_copy 7 = .ok (.iload_n 3, 1) := by decide +kernel
theorem dX9_copy_8 : decode cX9_copy 8 = .ok (.invokestatic 105, 3) := by decide +kernel
theorem dX9_copy_11 : decode cX9_copy 11 = .ok (.ifCond .ne 5, 3) := by decide +kernel
theorem dX9_copy_14 : decode cX9_copy 14 = .ok (.iconst (-1), 1) := by decide +kernel
theorem dX9_copy_15 : decode cX9_copy 15 = .ok (.ireturn, 1) := by decide +kernel
theorem dX9_copy_16 : decode cX9_copy 16 = .ok (.iload 5, 2) := by decide +kernel
theorem dX9_copy_18 : decode cX9_copy 18 = .ok (.ifCond .ge 9, 3) := by decide +kernel
theorem dX9_copy_21 : decode cX9_copy 21 = .ok (.aload_n 0, 1) := by decide +kernel
theorem dX9_copy_22 : decode cX9_copy 22 = .ok (.iconst 5, 1) := by decide +kernel
theorem dX9_copy_23 : decode cX9_copy 23 = .ok (.invokevirtual 109, 3) := by decide +kernel
theorem dX9_copy_26 : decode cX9_copy 26 = .ok (.ireturn, 1) := by decide +kernel
theorem dX9_copy_27 : decode cX9_copy 27 = .ok (.aload_n 0, 1) := by decide +kernel
theorem dX9_copy_28 : decode cX9_copy 28 = .ok (.getfield 14, 3) := by decide +kernel
theorem dX9_copy_31 : decode cX9_copy 31 = .ok (.iload_n 1, 1) := by decide +kernel
theorem dX9_copy_32 : decode cX9_copy 32 = .ok (.invokevirtual 134, 3) := by decide +kernel
theorem dX9_copy_35 : decode cX9_copy 35 = .ok (.ifCond .eq 14, 3) := by decide +kernel
theorem dX9_copy_38 : decode cX9_copy 38 = .ok (.aload_n 0, 1) := by decide +kernel
theorem dX9_copy_39 : decode cX9_copy 39 = .ok (.getfield 14, 3) := by decide +kernel
theorem dX9_copy_42 : decode cX9_copy 42 = .ok (.iload_n 3, 1) := by decide +kernel
theorem dX9_copy_43 : decode cX9_copy 43 = .ok (.invokevirtual 134, 3) := by decide +kernel
theorem dX9_copy_46 : decode cX9_copy 46 = .ok (.ifCond .ne 9, 3) := by decide +kernel
theorem dX9_copy_49 : decode cX9_copy 49 = .ok (.aload_n 0, 1) := by decide +kernel
theorem dX9_copy_50 : decode cX9_copy 50 = .ok (.iconst 1, 1) := by decide +kernel
theorem dX9_copy_51 : decode cX9_copy 51 = .ok (.invokevirtual 109, 3) := by decide +kernel
theorem dX9_copy_54 : decode cX9_copy 54 = .ok (.ireturn, 1) := by decide +kernel
theorem dX9_copy_55 : decode cX9_copy 55 = .ok (.aload_n 0, 1) := by decide +kernel
theorem dX9_copy_56 : decode cX9_copy 56 = .ok (.getfield 14, 3) := by decide +kernel
theorem dX9_copy_59 : decode cX9_copy 59 = .ok (.iload_n 1, 1) := by decide +kernel
theorem dX9_copy_60 : decode cX9_copy 60 = .ok (.iload_n 2, 1) := by decide +kernel
theorem dX9_copy_61 : decode cX9_copy 61 = .ok (.iload 5, 2) := by decide +kernel
theorem dX9_copy_63 : decode cX9_copy 63 = .ok (.invokevirtual 137, 3) := by decide +kernel
theorem dX9_copy_66 : decode cX9_copy 66 = .ok (.ifCond .eq 18, 3) := by decide +kernel
theorem dX9_copy_69 : decode cX9_copy 69 = .ok (.aload_n 0, 1) := by decide +kernel
theorem dX9_copy_70 : decode cX9_copy 70 = .ok (.getfield 14, 3) := by decide +kernel
theorem dX9_copy_73 : decode cX9_copy 73 = .ok (.iload_n 3, 1) := by decide +kernel
theorem dX9_copy_74 : decode cX9_copy 74 = .ok (.iload 4, 2) := by decide +kernel
theorem dX9_copy_76 : decode cX9_copy 76 = .ok (.iload 5, 2) := by decide +kernel
theorem dX9_copy_78 : decode cX9_copy 78 = .ok (.invokevirtual 137, 3) := by decide +kernel
theorem dX9_copy_81 : decode cX9_copy 81 = .ok (.ifCond .ne 9, 3) := by decide +kernel
theorem dX9_copy_84 : decode cX9_copy 84 = .ok (.aload_n 0, 1) := by decide +kernel
theorem dX9_copy_85 : decode cX9_copy 85 = .ok (.iconst 2, 1) := by decide +kernel
theorem dX9_copy_86 : decode cX9_copy 86 = .ok (.invokevirtual 109, 3) := by decide +kernel
theorem dX9_copy_89 : decode cX9_copy 89 = .ok (.ireturn, 1) := by decide +kernel
theorem dX9_copy_90 : decode cX9_copy 90 = .ok (.aload_n 0, 1) := by decide +kernel
theorem dX9_copy_91 : decode cX9_copy 91 = .ok (.getfield 14, 3) := by decide +kernel
theorem dX9_copy_94 : decode cX9_copy 94 = .ok (.iload_n 1, 1) := by decide +kernel
theorem dX9_copy_95 : decode cX9_copy 95 = .ok (.iload_n 2, 1) := by decide +kernel
theorem dX9_copy_96 : decode cX9_copy 96 = .ok (.iload_n 3, 1) := by decide +kernel
theorem dX9_copy_97 : decode cX9_copy 97 = .ok (.iload 4, 2) := by decide +kernel
theorem dX9_copy_99 : decode cX9_copy 99 = .ok (.iload 5, 2) := by decide +kernel
theorem dX9_copy_101 : decode cX9_copy 101 = .ok (.invokevirtual 141, 3) := by decide +kernel
theorem dX9_copy_104 : decode cX9_copy 104 = .ok (.iconst 1, 1) := by decide +kernel
theorem dX9_copy_105 : decode cX9_copy 105 = .ok (.ireturn, 1) := by decide +kernel
theorem dX9_mean_0 : decode cX9_mean 0 = .ok (.aload_n 0, 1) := by decide +kernel
theorem dX9_mean_1 : decode cX9_mean 1 = .ok (.iload_n 1, 1) := by decide +kernel
theorem dX9_mean_2 : decode cX9_mean 2 = .ok (.invokevirtual 127, 3) := by decide +kernel
theorem dX9_mean_5 : decode cX9_mean 5 = .ok (.istore_n 2, 1) := by decide +kernel
theorem dX9_mean_6 : decode cX9_mean 6 = .ok (.iload_n 2, 1) := by decide +kernel
theorem dX9_mean_7 : decode cX9_mean 7 = .ok (.ifCond .eq 5, 3) := by decide +kernel
theorem dX9_mean_10 : decode cX9_mean 10 = .ok (.iload_n 2, 1) := by decide +kernel
theorem dX9_mean_11 : decode cX9_mean 11 = .ok (.ireturn, 1) := by decide +kernel
theorem dX9_mean_12 : decode cX9_mean 12 = .ok (.aload_n 0, 1) := by decide +kernel
theorem dX9_mean_13 : decode cX9_mean 13 = .ok (.getfield 14, 3) := by decide +kernel
theorem dX9_mean_16 : decode cX9_mean 16 = .ok (.iload_n 1, 1) := by decide +kernel
theorem dX9_mean_17 : decode cX9_mean 17 = .ok (.invokevirtual 145, 3) := by decide +kernel
theorem dX9_mean_20 : decode cX9_mean 20 = .ok (.istore_n 3, 1) := by decide +kernel
theorem dX9_mean_21 : decode cX9_mean 21 = .ok (.iload_n 3, 1) := by decide +kernel
theorem dX9_mean_22 : decode cX9_mean 22 = .ok (.ifCond .gt 9, 3) := by decide +kernel
theorem dX9_mean_25 : decode cX9_mean 25 = .ok (.aload_n 0, 1) := by decide +kernel
theorem dX9_mean_26 : decode cX9_mean 26 = .ok (.iconst 4, 1) := by decide +kernel
theorem dX9_mean_27 : decode cX9_mean 27 = .ok (.invokevirtual 109, 3) := by decide +kernel
theorem dX9_mean_30 : decode cX9_mean 30 = .ok (.ireturn, 1) := by decide +kernel
theorem dX9_mean_31 : decode cX9_mean 31 = .ok (.aload_n 0, 1) := by decide +kernel
theorem dX9_mean_32 : decode cX9_mean 32 = .ok (.aload_n 0, 1) := by decide +kernel
theorem dX9_mean_33 : decode cX9_mean 33 = .ok (.getfield 14, 3) := by decide +kernel
theorem dX9_mean_36 : decode cX9_mean 36 = .ok (.iload_n 1, 1) := by decide +kernel
theorem dX9_mean_37 : decode cX9_mean 37 = .ok (.invokevirtual 148, 3) := by decide +kernel
theorem dX9_mean_40 : decode cX9_mean 40 = .ok (.iload_n 3, 1) := by decide +kernel
theorem dX9_mean_41 : decode cX9_mean 41 = .ok (.i2l, 1) := by decide +kernel
theorem dX9_mean_42 : decode cX9_mean 42 = .ok (.ldiv, 1) := by decide +kernel
theorem dX9_mean_43 : decode cX9_mean 43 = .ok (.l2i, 1) := by decide +kernel
theorem dX9_mean_44 : decode cX9_mean 44 = .ok (.putfield 95, 3) := by decide +kernel
theorem dX9_mean_47 : decode cX9_mean 47 = .ok (.iconst 1, 1) := by decide +kernel
theorem dX9_mean_48 : decode cX9_mean 48 = .ok (.ireturn, 1) := by decide +kernel
theorem dX9_text_0 : decode cX9_text 0 = .ok (.iload_n 1, 1) := by decide +kernel
theorem dX9_text_1 : decode cX9_text 1 = .ok (.invokestatic 152, 3) := by decide +kernel
theorem dX9_text_4 : decode cX9_text 4 = .ok (.ifCond .eq 9, 3) := by decide +kernel
theorem dX9_text_7 : decode cX9_text 7 = .ok (.iload_n 2, 1) := by decide +kernel
theorem dX9_text_8 : decode cX9_text 8 = .ok (.bipush 60, 2) := by decide +kernel
theorem dX9_text_10 : decode cX9_text 10 = .ok (.if_icmp .le 5, 3) := by decide +kernel
theorem dX9_text_13 : decode cX9_text 13 = .ok (.iconst (-1), 1) := by decide +kernel
theorem dX9_text_14 : decode cX9_text 14 = .ok (.ireturn, 1) := by decide +kernel
theorem dX9_text_15 : decode cX9_text 15 = .ok (.iload_n 2, 1) := by decide +kernel
theorem dX9_text_16 : decode cX9_text 16 = .ok (.ifCond .ge 9, 3) := by decide +kernel
theorem dX9_text_19 : decode cX9_text 19 = .ok (.aload_n 0, 1) := by decide +kernel
theorem dX9_text_20 : decode cX9_text 20 = .ok (.iconst 5, 1) := by decide +kernel
theorem dX9_text_21 : decode cX9_text 21 = .ok (.invokevirtual 109, 3) := by decide +kernel
theorem dX9_text_24 : decode cX9_text 24 = .ok (.ireturn, 1) := by decide +kernel
theorem dX9_text_25 : decode cX9_text 25 = .ok (.aload_n 0, 1) := by decide +kernel
theorem dX9_text_26 : decode cX9_text 26 = .ok (.getfield 18, 3) := by decide +kernel
theorem dX9_text_29 : decode cX9_text 29 = .ok (.iload_n 1, 1) := by decide +kernel
theorem dX9_text_30 : decode cX9_text 30 = .ok (.iload_n 2, 1) := by decide +kernel
theorem dX9_text_31 : decode cX9_text 31 = .ok (.invokevirtual 113, 3) := by decide +kernel
theorem dX9_text_34 : decode cX9_text 34 = .ok (.iload_n 2, 1) := by decide +kernel
theorem dX9_text_35 : decode cX9_text 35 = .ok (.ireturn, 1) := by decide +kernel
theorem dX9_put_0 : decode cX9_put 0 = .ok (.aload_n 0, 1) := by decide +kernel
theorem dX9_put_1 : decode cX9_put 1 = .ok (.iload_n 1, 1) := by decide +kernel
theorem dX9_put_2 : decode cX9_put 2 = .ok (.invokevirtual 155, 3) := by decide +kernel
theorem dX9_put_5 : decode cX9_put 5 = .ok (.istore 4, 2) := by decide +kernel
theorem dX9_put_7 : decode cX9_put 7 = .ok (.iload 4, 2) := by decide +kernel
theorem dX9_put_9 : decode cX9_put 9 = .ok (.ifCond .eq 6, 3) := by decide +kernel
theorem dX9_put_12 : decode cX9_put 12 = .ok (.iload 4, 2) := by decide +kernel
theorem dX9_put_14 : decode cX9_put 14 = .ok (.ireturn, 1) := by decide +kernel
theorem dX9_put_15 : decode cX9_put 15 = .ok (.iload_n 2, 1) := by decide +kernel
theorem dX9_put_16 : decode cX9_put 16 = .ok (.ifCond .lt 15, 3) := by decide +kernel
theorem dX9_put_19 : decode cX9_put 19 = .ok (.iload_n 2, 1) := by decide +kernel
theorem dX9_put_20 : decode cX9_put 20 = .ok (.aload_n 0, 1) := by decide +kernel
theorem dX9_put_21 : decode cX9_put 21 = .ok (.getfield 18, 3) := by decide +kernel
theorem dX9_put_24 : decode cX9_put 24 = .ok (.iload_n 1, 1) := by decide +kernel
theorem dX9_put_25 : decode cX9_put 25 = .ok (.invokevirtual 145, 3) := by decide +kernel
theorem dX9_put_28 : decode cX9_put 28 = .ok (.if_icmp .lt 9, 3) := by decide +kernel
theorem dX9_put_31 : decode cX9_put 31 = .ok (.aload_n 0, 1) := by decide +kernel
theorem dX9_put_32 : decode cX9_put 32 = .ok (.iconst 2, 1) := by decide +kernel
theorem dX9_put_33 : decode cX9_put 33 = .ok (.invokevirtual 109, 3) := by decide +kernel
theorem dX9_put_36 : decode cX9_put 36 = .ok (.ireturn, 1) := by decide +kernel
theorem dX9_put_37 : decode cX9_put 37 = .ok (.aload_n 0, 1) := by decide +kernel
theorem dX9_put_38 : decode cX9_put 38 = .ok (.getfield 18, 3) := by decide +kernel
theorem dX9_put_41 : decode cX9_put 41 = .ok (.iload_n 1, 1) := by decide +kernel
theorem dX9_put_42 : decode cX9_put 42 = .ok (.iload_n 2, 1) := by decide +kernel
theorem dX9_put_43 : decode cX9_put 43 = .ok (.invokevirtual 121, 3) := by decide +kernel
theorem dX9_put_46 : decode cX9_put 46 = .ok (.istore 5, 2) := by decide +kernel
theorem dX9_put_48 : decode cX9_put 48 = .ok (.aload_n 0, 1) := by decide +kernel
theorem dX9_put_49 : decode cX9_put 49 = .ok (.getfield 18, 3) := by decide +kernel
theorem dX9_put_52 : decode cX9_put 52 = .ok (.iload_n 1, 1) := by decide +kernel
theorem dX9_put_53 : decode cX9_put 53 = .ok (.iload_n 2, 1) := by decide +kernel
theorem dX9_put_54 : decode cX9_put 54 = .ok (.iload_n 3, 1) := by decide +kernel
theorem dX9_put_55 : decode cX9_put 55 = .ok (.i2b, 1) := by decide +kernel
theorem dX9_put_56 : decode cX9_put 56 = .ok (.invokevirtual 124, 3) := by decide +kernel
theorem dX9_put_59 : decode cX9_put 59 = .ok (.iload 5, 2) := by decide +kernel
theorem dX9_put_61 : decode cX9_put 61 = .ok (.sipush 1000, 3) := by decide +kernel
theorem dX9_put_64 : decode cX9_put 64 = .ok (.iadd, 1) := by decide +kernel
theorem dX9_put_65 : decode cX9_put 65 = .ok (.ireturn, 1) := by decide +kernel
theorem dX9_fault_0 : decode cX9_fault 0 = .ok (.aload_n 0, 1) := by decide +kernel
theorem dX9_fault_1 : decode cX9_fault 1 = .ok (.iload_n 1, 1) := by decide +kernel
theorem dX9_fault_2 : decode cX9_fault 2 = .ok (.invokevirtual 155, 3) := by decide +kernel
theorem dX9_fault_5 : decode cX9_fault 5 = .ok (.istore_n 2, 1) := by decide +kernel
theorem dX9_fault_6 : decode cX9_fault 6 = .ok (.iload_n 2, 1) := by decide +kernel
theorem dX9_fault_7 : decode cX9_fault 7 = .ok (.ifCond .eq 5, 3) := by decide +kernel
theorem dX9_fault_10 : decode cX9_fault 10 = .ok (.iload_n 2, 1) := by decide +kernel
theorem dX9_fault_11 : decode cX9_fault 11 = .ok (.ireturn, 1) := by decide +kernel
theorem dX9_fault_12 : decode cX9_fault 12 = .ok (.aload_n 0, 1) := by decide +kernel
theorem dX9_fault_13 : decode cX9_fault 13 = .ok (.getfield 24, 3) := by decide +kernel
theorem dX9_fault_16 : decode cX9_fault 16 = .ok (.aload_n 0, 1) := by decide +kernel
theorem dX9_fault_17 : decode cX9_fault 17 = .ok (.getfield 18, 3) := by decide +kernel
theorem dX9_fault_20 : decode cX9_fault 20 = .ok (.iload_n 1, 1) := by decide +kernel
theorem dX9_fault_21 : decode cX9_fault 21 = .ok (.invokevirtual 158, 3) := by decide +kernel
theorem dX9_fault_24 : decode cX9_fault 24 = .ok (.ireturn, 1) := by decide +kernel
theorem dX9_book_0 : decode cX9_book 0 = .ok (.aload_n 0, 1) := by decide +kernel
theorem dX9_book_1 : decode cX9_book 1 = .ok (.iload_n 1, 1) := by decide +kernel
theorem dX9_book_2 : decode cX9_book 2 = .ok (.invokevirtual 155, 3) := by decide +kernel
theorem dX9_book_5 : decode cX9_book 5 = .ok (.istore_n 2, 1) := by decide +kernel
theorem dX9_book_6 : decode cX9_book 6 = .ok (.iload_n 2, 1) := by decide +kernel
theorem dX9_book_7 : decode cX9_book 7 = .ok (.ifCond .eq 5, 3) := by decide +kernel
theorem dX9_book_10 : decode cX9_book 10 = .ok (.iload_n 2, 1) := by decide +kernel
theorem dX9_book_11 : decode cX9_book 11 = .ok (.ireturn, 1) := by decide +kernel
theorem dX9_book_12 : decode cX9_book 12 = .ok (.aload_n 0, 1) := by decide +kernel
theorem dX9_book_13 : decode cX9_book 13 = .ok (.getfield 24, 3) := by decide +kernel
theorem dX9_book_16 : decode cX9_book 16 = .ok (.aload_n 0, 1) := by decide +kernel
theorem dX9_book_17 : decode cX9_book 17 = .ok (.getfield 18, 3) := by decide +kernel
theorem dX9_book_20 : decode cX9_book 20 = .ok (.iload_n 1, 1) := by decide +kernel
theorem dX9_book_21 : decode cX9_book 21 = .ok (.invokevirtual 158, 3) := by decide +kernel
theorem dX9_book_24 : decode cX9_book 24 = .ok (.bipush (-9), 2) := by decide +kernel
theorem dX9_book_26 : decode cX9_book 26 = .ok (.if_icmp .eq 6, 3) := by decide +kernel
theorem dX9_book_29 : decode cX9_book 29 = .ok (.bipush (-4), 2) := by decide +kernel
theorem dX9_book_31 : decode cX9_book 31 = .ok (.ireturn, 1) := by decide +kernel
theorem dX9_book_32 : decode cX9_book 32 = .ok (.aload_n 0, 1) := by decide +kernel
theorem dX9_book_33 : decode cX9_book 33 = .ok (.getfield 24, 3) := by decide +kernel
theorem dX9_book_36 : decode cX9_book 36 = .ok (.aload_n 0, 1) := by decide +kernel
theorem dX9_book_37 : decode cX9_book 37 = .ok (.getfield 40, 3) := by decide +kernel
theorem dX9_book_40 : decode cX9_book 40 = .ok (.invokevirtual 162, 3) := by decide +kernel
theorem dX9_book_43 : decode cX9_book 43 = .ok (.aload_n 0, 1) := by decide +kernel
theorem dX9_book_44 : decode cX9_book 44 = .ok (.getfield 40, 3) := by decide +kernel
theorem dX9_book_47 : decode cX9_book 47 = .ok (.invokevirtual 165, 3) := by decide +kernel
theorem dX9_book_50 : decode cX9_book 50 = .ok (.ireturn, 1) := by decide +kernel
theorem dX9_sum_0 : decode cX9_sum 0 = .ok (.iload_n 1, 1) := by decide +kernel
theorem dX9_sum_1 : decode cX9_sum 1 = .ok (.invokestatic 169, 3) := by decide +kernel
theorem dX9_sum_4 : decode cX9_sum 4 = .ok (.ifCond .eq 22, 3) := by decide +kernel
theorem dX9_sum_7 : decode cX9_sum 7 = .ok (.iload_n 2, 1) := by decide +kernel
theorem dX9_sum_8 : decode cX9_sum 8 = .ok (.invokestatic 169, 3) := by decide +kernel
theorem dX9_sum_11 : decode cX9_sum 11 = .ok (.ifCond .eq 15, 3) := by decide +kernel
theorem dX9_sum_14 : decode cX9_sum 14 = .ok (.iload_n 1, 1) := by decide +kernel
theorem dX9_sum_15 : decode cX9_sum 15 = .ok (.iload_n 2, 1) := by decide +kernel
theorem dX9_sum_16 : decode cX9_sum 16 = .ok (.ior, 1) := by decide +kernel
theorem dX9_sum_17 : decode cX9_sum 17 = .ok (.ifCond .eq 9, 3) := by decide +kernel
theorem dX9_sum_20 : decode cX9_sum 20 = .ok (.iload_n 1, 1) := by decide +kernel
theorem dX9_sum_21 : decode cX9_sum 21 = .ok (.iload_n 2, 1) := by decide +kernel
theorem dX9_sum_22 : decode cX9_sum 22 = .ok (.iand, 1) := by decide +kernel
theorem dX9_sum_23 : decode cX9_sum 23 = .ok (.ifCond .eq 5, 3) := by decide +kernel
theorem dX9_sum_26 : decode cX9_sum 26 = .ok (.iconst (-1), 1) := by decide +kernel
theorem dX9_sum_27 : decode cX9_sum 27 = .ok (.ireturn, 1) := by decide +kernel
theorem dX9_sum_28 : decode cX9_sum 28 = .ok (.iload_n 3, 1) := by decide +kernel
theorem dX9_sum_29 : decode cX9_sum 29 = .ok (.invokestatic 172, 3) := by decide +kernel
theorem dX9_sum_32 : decode cX9_sum 32 = .ok (.ifCond .ne 5, 3) := by decide +kernel
theorem dX9_sum_35 : decode cX9_sum 35 = .ok (.iconst (-1), 1) := by decide +kernel
theorem dX9_sum_36 : decode cX9_sum 36 = .ok (.ireturn, 1) := by decide +kernel
theorem dX9_sum_37 : decode cX9_sum 37 = .ok (.aload_n 0, 1) := by decide +kernel
theorem dX9_sum_38 : decode cX9_sum 38 = .ok (.getfield 49, 3) := by decide +kernel
theorem dX9_sum_41 : decode cX9_sum 41 = .ok (.invokevirtual 175, 3) := by decide +kernel
theorem dX9_sum_44 : decode cX9_sum 44 = .ok (.bipush 8, 2) := by decide +kernel
theorem dX9_sum_46 : decode cX9_sum 46 = .ok (.if_icmp .lt 6, 3) := by decide +kernel
theorem dX9_sum_49 : decode cX9_sum 49 = .ok (.bipush (-2), 2) := by decide +kernel
theorem dX9_sum_51 : decode cX9_sum 51 = .ok (.ireturn, 1) := by decide +kernel
theorem dX9_sum_52 : decode cX9_sum 52 = .ok (.aload_n 0, 1) := by decide +kernel
theorem dX9_sum_53 : decode cX9_sum 53 = .ok (.getfield 49, 3) := by decide +kernel
theorem dX9_sum_56 : decode cX9_sum 56 = .ok (.iload_n 1, 1) := by decide +kernel
theorem dX9_sum_57 : decode cX9_sum 57 = .ok (.iload_n 2, 1) := by decide +kernel
theorem dX9_sum_58 : decode cX9_sum 58 = .ok (.iload_n 3, 1) := by decide +kernel
theorem dX9_sum_59 : decode cX9_sum 59 = .ok (.invokevirtual 176, 3) := by decide +kernel
theorem dX9_sum_62 : decode cX9_sum 62 = .ok (.aload_n 0, 1) := by decide +kernel
theorem dX9_sum_63 : decode cX9_sum 63 = .ok (.getfield 49, 3) := by decide +kernel
theorem dX9_sum_66 : decode cX9_sum 66 = .ok (.invokevirtual 175, 3) := by decide +kernel
theorem dX9_sum_69 : decode cX9_sum 69 = .ok (.ireturn, 1) := by decide +kernel
theorem dX9_total_0 : decode cX9_total 0 = .ok (.iload_n 1, 1) := by decide +kernel
theorem dX9_total_1 : decode cX9_total 1 = .ok (.ifCond .lt 21, 3) := by decide +kernel
theorem dX9_total_4 : decode cX9_total 4 = .ok (.iload_n 1, 1) := by decide +kernel
theorem dX9_total_5 : decode cX9_total 5 = .ok (.aload_n 0, 1) := by decide +kernel
theorem dX9_total_6 : decode cX9_total 6 = .ok (.getfield 49, 3) := by decide +kernel
theorem dX9_total_9 : decode cX9_total 9 = .ok (.invokevirtual 175, 3) := by decide +kernel
theorem dX9_total_12 : decode cX9_total 12 = .ok (.if_icmp .ge 10, 3) := by decide +kernel
theorem dX9_total_15 : decode cX9_total 15 = .ok (.iload_n 2, 1) := by decide +kernel
theorem dX9_total_16 : decode cX9_total 16 = .ok (.invokestatic 172, 3) := by decide +kernel
theorem dX9_total_19 : decode cX9_total 19 = .ok (.ifCond .ne 5, 3) := by decide +kernel
theorem dX9_total_22 : decode cX9_total 22 = .ok (.iconst (-1), 1) := by decide +kernel
theorem dX9_total_23 : decode cX9_total 23 = .ok (.ireturn, 1) := by decide +kernel
theorem dX9_total_24 : decode cX9_total 24 = .ok (.aload_n 0, 1) := by decide +kernel
theorem dX9_total_25 : decode cX9_total 25 = .ok (.getfield 49, 3) := by decide +kernel
theorem dX9_total_28 : decode cX9_total 28 = .ok (.iload_n 1, 1) := by decide +kernel
theorem dX9_total_29 : decode cX9_total 29 = .ok (.invokevirtual 179, 3) := by decide +kernel
theorem dX9_total_32 : decode cX9_total 32 = .ok (.istore_n 3, 1) := by decide +kernel
theorem dX9_total_33 : decode cX9_total 33 = .ok (.aload_n 0, 1) := by decide +kernel
theorem dX9_total_34 : decode cX9_total 34 = .ok (.getfield 49, 3) := by decide +kernel
theorem dX9_total_37 : decode cX9_total 37 = .ok (.iload_n 1, 1) := by decide +kernel
theorem dX9_total_38 : decode cX9_total 38 = .ok (.iload_n 2, 1) := by decide +kernel
theorem dX9_total_39 : decode cX9_total 39 = .ok (.invokevirtual 182, 3) := by decide +kernel
theorem dX9_total_42 : decode cX9_total 42 = .ok (.iload_n 3, 1) := by decide +kernel
theorem dX9_total_43 : decode cX9_total 43 = .ok (.ireturn, 1) := by decide +kernel
theorem dX9_clear_0 : decode cX9_clear 0 = .ok (.aload_n 0, 1) := by decide +kernel
theorem dX9_clear_1 : decode cX9_clear 1 = .ok (.getfield 49, 3) := by decide +kernel
theorem dX9_clear_4 : decode cX9_clear 4 = .ok (.invokevirtual 175, 3) := by decide +kernel
theorem dX9_clear_7 : decode cX9_clear 7 = .ok (.istore_n 1, 1) := by decide +kernel
theorem dX9_clear_8 : decode cX9_clear 8 = .ok (.aload_n 0, 1) := by decide +kernel
theorem dX9_clear_9 : decode cX9_clear 9 = .ok (.getfield 49, 3) := by decide +kernel
theorem dX9_clear_12 : decode cX9_clear 12 = .ok (.invokevirtual 185, 3) := by decide +kernel
theorem dX9_clear_15 : decode cX9_clear 15 = .ok (.iload_n 1, 1) := by decide +kernel
theorem dX9_clear_16 : decode cX9_clear 16 = .ok (.ireturn, 1) := by decide +kernel
theorem dX9_heap_0 : decode cX9_heap 0 = .ok (.aload_n 0, 1) := by decide +kernel
theorem dX9_heap_1 : decode cX9_heap 1 = .ok (.iload_n 1, 1) := by decide +kernel
theorem dX9_heap_2 : decode cX9_heap 2 = .ok (.invokevirtual 127, 3) := by decide +kernel
theorem dX9_heap_5 : decode cX9_heap 5 = .ok (.istore_n 2, 1) := by decide +kernel
theorem dX9_heap_6 : decode cX9_heap 6 = .ok (.iload_n 2, 1) := by decide +kernel
theorem dX9_heap_7 : decode cX9_heap 7 = .ok (.ifCond .eq 5, 3) := by decide +kernel
theorem dX9_heap_10 : decode cX9_heap 10 = .ok (.iload_n 2, 1) := by decide +kernel
theorem dX9_heap_11 : decode cX9_heap 11 = .ok (.ireturn, 1) := by decide +kernel
theorem dX9_heap_12 : decode cX9_heap 12 = .ok (.aload_n 0, 1) := by decide +kernel
theorem dX9_heap_13 : decode cX9_heap 13 = .ok (.getfield 14, 3) := by decide +kernel
theorem dX9_heap_16 : decode cX9_heap 16 = .ok (.iload_n 1, 1) := by decide +kernel
theorem dX9_heap_17 : decode cX9_heap 17 = .ok (.invokevirtual 145, 3) := by decide +kernel
theorem dX9_heap_20 : decode cX9_heap 20 = .ok (.bipush 12, 2) := by decide +kernel
theorem dX9_heap_22 : decode cX9_heap 22 = .ok (.if_icmp .le 9, 3) := by decide +kernel
theorem dX9_heap_25 : decode cX9_heap 25 = .ok (.aload_n 0, 1) := by decide +kernel
theorem dX9_heap_26 : decode cX9_heap 26 = .ok (.iconst 5, 1) := by decide +kernel
theorem dX9_heap_27 : decode cX9_heap 27 = .ok (.invokevirtual 109, 3) := by decide +kernel
theorem dX9_heap_30 : decode cX9_heap 30 = .ok (.ireturn, 1) := by decide +kernel
theorem dX9_heap_31 : decode cX9_heap 31 = .ok (.aload_n 0, 1) := by decide +kernel
theorem dX9_heap_32 : decode cX9_heap 32 = .ok (.getfield 14, 3) := by decide +kernel
theorem dX9_heap_35 : decode cX9_heap 35 = .ok (.iload_n 1, 1) := by decide +kernel
theorem dX9_heap_36 : decode cX9_heap 36 = .ok (.iconst 0, 1) := by decide +kernel
theorem dX9_heap_37 : decode cX9_heap 37 = .ok (.bipush 99, 2) := by decide +kernel
theorem dX9_heap_39 : decode cX9_heap 39 = .ok (.invokevirtual 188, 3) := by decide +kernel
theorem dX9_heap_42 : decode cX9_heap 42 = .ok (.ifCond .ne 9, 3) := by decide +kernel
theorem dX9_heap_45 : decode cX9_heap 45 = .ok (.aload_n 0, 1) := by decide +kernel
theorem dX9_heap_46 : decode cX9_heap 46 = .ok (.iconst 3, 1) := by decide +kernel
theorem dX9_heap_47 : decode cX9_heap 47 = .ok (.invokevirtual 109, 3) := by decide +kernel
theorem dX9_heap_50 : decode cX9_heap 50 = .ok (.ireturn, 1) := by decide +kernel
theorem dX9_heap_51 : decode cX9_heap 51 = .ok (.aload_n 0, 1) := by decide +kernel
theorem dX9_heap_52 : decode cX9_heap 52 = .ok (.getfield 31, 3) := by decide +kernel
theorem dX9_heap_55 : decode cX9_heap 55 = .ok (.aload_n 0, 1) := by decide +kernel
theorem dX9_heap_56 : decode cX9_heap 56 = .ok (.getfield 14, 3) := by decide +kernel
theorem dX9_heap_59 : decode cX9_heap 59 = .ok (.iload_n 1, 1) := by decide +kernel
theorem dX9_heap_60 : decode cX9_heap 60 = .ok (.invokevirtual 191, 3) := by decide +kernel
theorem dX9_heap_63 : decode cX9_heap 63 = .ok (.aload_n 0, 1) := by decide +kernel
theorem dX9_heap_64 : decode cX9_heap 64 = .ok (.getfield 31, 3) := by decide +kernel
theorem dX9_heap_67 : decode cX9_heap 67 = .ok (.invokevirtual 195, 3) := by decide +kernel
theorem dX9_heap_70 : decode cX9_heap 70 = .ok (.ireturn, 1) := by decide +kernel
theorem dX9_read_0 : decode cX9_read 0 = .ok (.iload_n 2, 1) := by decide +kernel
theorem dX9_read_1 : decode cX9_read 1 = .ok (.invokestatic 196, 3) := by decide +kernel
theorem dX9_read_4 : decode cX9_read 4 = .ok (.ifCond .ne 5, 3) := by decide +kernel
theorem dX9_read_7 : decode cX9_read 7 = .ok (.iconst (-1), 1) := by decide +kernel
theorem dX9_read_8 : decode cX9_read 8 = .ok (.ireturn, 1) := by decide +kernel
theorem dX9_read_9 : decode cX9_read 9 = .ok (.aload_n 0, 1) := by decide +kernel
theorem dX9_read_10 : decode cX9_read 10 = .ok (.iload_n 1, 1) := by decide +kernel
theorem dX9_read_11 : decode cX9_read 11 = .ok (.invokevirtual 199, 3) := by decide +kernel
theorem dX9_read_14 : decode cX9_read 14 = .ok (.istore_n 3, 1) := by decide +kernel
theorem dX9_read_15 : decode cX9_read 15 = .ok (.iload_n 3, 1) := by decide +kernel
theorem dX9_read_16 : decode cX9_read 16 = .ok (.ifCond .eq 5, 3) := by decide +kernel
theorem dX9_read_19 : decode cX9_read 19 = .ok (.iload_n 3, 1) := by decide +kernel
theorem dX9_read_20 : decode cX9_read 20 = .ok (.ireturn, 1) := by decide +kernel
theorem dX9_read_21 : decode cX9_read 21 = .ok (.aload_n 0, 1) := by decide +kernel
theorem dX9_read_22 : decode cX9_read 22 = .ok (.getfield 40, 3) := by decide +kernel
theorem dX9_read_25 : decode cX9_read 25 = .ok (.iload_n 1, 1) := by decide +kernel
theorem dX9_read_26 : decode cX9_read 26 = .ok (.invokevirtual 202, 3) := by decide +kernel
theorem dX9_read_29 : decode cX9_read 29 = .ok (.istore 4, 2) := by decide +kernel
theorem dX9_read_31 : decode cX9_read 31 = .ok (.aload_n 0, 1) := by decide +kernel
theorem dX9_read_32 : decode cX9_read 32 = .ok (.getfield 40, 3) := by decide +kernel
theorem dX9_read_35 : decode cX9_read 35 = .ok (.iload_n 1, 1) := by decide +kernel
theorem dX9_read_36 : decode cX9_read 36 = .ok (.iconst 0, 1) := by decide +kernel
theorem dX9_read_37 : decode cX9_read 37 = .ok (.iload_n 2, 1) := by decide +kernel
theorem dX9_read_38 : decode cX9_read 38 = .ok (.iload_n 2, 1) := by decide +kernel
theorem dX9_read_39 : decode cX9_read 39 = .ok (.invokevirtual 205, 3) := by decide +kernel
theorem dX9_read_42 : decode cX9_read 42 = .ok (.iload 4, 2) := by decide +kernel
theorem dX9_read_44 : decode cX9_read 44 = .ok (.ireturn, 1) := by decide +kernel
theorem dX9_kind_0 : decode cX9_kind 0 = .ok (.aload_n 0, 1) := by decide +kernel
theorem dX9_kind_1 : decode cX9_kind 1 = .ok (.iload_n 1, 1) := by decide +kernel
theorem dX9_kind_2 : decode cX9_kind 2 = .ok (.invokevirtual 199, 3) := by decide +kernel
theorem dX9_kind_5 : decode cX9_kind 5 = .ok (.istore_n 2, 1) := by decide +kernel
theorem dX9_kind_6 : decode cX9_kind 6 = .ok (.iload_n 2, 1) := by decide +kernel
theorem dX9_kind_7 : decode cX9_kind 7 = .ok (.ifCond .eq 5, 3) := by decide +kernel
theorem dX9_kind_10 : decode cX9_kind 10 = .ok (.iload_n 2, 1) := by decide +kernel
theorem dX9_kind_11 : decode cX9_kind 11 = .ok (.ireturn, 1) := by decide +kernel
theorem dX9_kind_12 : decode cX9_kind 12 = .ok (.aload_n 0, 1) := by decide +kernel
theorem dX9_kind_13 : decode cX9_kind 13 = .ok (.getfield 40, 3) := by decide +kernel
theorem dX9_kind_16 : decode cX9_kind 16 = .ok (.iload_n 1, 1) := by decide +kernel
theorem dX9_kind_17 : decode cX9_kind 17 = .ok (.invokevirtual 202, 3) := by decide +kernel
theorem dX9_kind_20 : decode cX9_kind 20 = .ok (.ireturn, 1) := by decide +kernel
theorem dX9_mark_0 : decode cX9_mark 0 = .ok (.iload_n 2, 1) := by decide +kernel
theorem dX9_mark_1 : decode cX9_mark 1 = .ok (.ifCond .le 8, 3) := by decide +kernel
theorem dX9_mark_4 : decode cX9_mark 4 = .ok (.iload_n 2, 1) := by decide +kernel
theorem dX9_mark_5 : decode cX9_mark 5 = .ok (.iconst 5, 1) := by decide +kernel
theorem dX9_mark_6 : decode cX9_mark 6 = .ok (.if_icmp .le 5, 3) := by decide +kernel
theorem dX9_mark_9 : decode cX9_mark 9 = .ok (.iconst (-1), 1) := by decide +kernel
theorem dX9_mark_10 : decode cX9_mark 10 = .ok (.ireturn, 1) := by decide +kernel
theorem dX9_mark_11 : decode cX9_mark 11 = .ok (.aload_n 0, 1) := by decide +kernel
theorem dX9_mark_12 : decode cX9_mark 12 = .ok (.iload_n 1, 1) := by decide +kernel
theorem dX9_mark_13 : decode cX9_mark 13 = .ok (.invokevirtual 199, 3) := by decide +kernel
theorem dX9_mark_16 : decode cX9_mark 16 = .ok (.istore_n 3, 1) := by decide +kernel
theorem dX9_mark_17 : decode cX9_mark 17 = .ok (.iload_n 3, 1) := by decide +kernel
theorem dX9_mark_18 : decode cX9_mark 18 = .ok (.ifCond .eq 5, 3) := by decide +kernel
theorem dX9_mark_21 : decode cX9_mark 21 = .ok (.iload_n 3, 1) := by decide +kernel
theorem dX9_mark_22 : decode cX9_mark 22 = .ok (.ireturn, 1) := by decide +kernel
theorem dX9_mark_23 : decode cX9_mark 23 = .ok (.aload_n 0, 1) := by decide +kernel
theorem dX9_mark_24 : decode cX9_mark 24 = .ok (.getfield 40, 3) := by decide +kernel
theorem dX9_mark_27 : decode cX9_mark 27 = .ok (.iload_n 1, 1) := by decide +kernel
theorem dX9_mark_28 : decode cX9_mark 28 = .ok (.invokevirtual 202, 3) := by decide +kernel
theorem dX9_mark_31 : decode cX9_mark 31 = .ok (.iload_n 2, 1) := by decide +kernel
theorem dX9_mark_32 : decode cX9_mark 32 = .ok (.if_icmp .eq 9, 3) := by decide +kernel
theorem dX9_mark_35 : decode cX9_mark 35 = .ok (.aload_n 0, 1) := by decide +kernel
theorem dX9_mark_36 : decode cX9_mark 36 = .ok (.iconst 3, 1) := by decide +kernel
theorem dX9_mark_37 : decode cX9_mark 37 = .ok (.invokevirtual 109, 3) := by decide +kernel
theorem dX9_mark_40 : decode cX9_mark 40 = .ok (.ireturn, 1) := by decide +kernel
theorem dX9_mark_41 : decode cX9_mark 41 = .ok (.aload_n 0, 1) := by decide +kernel
theorem dX9_mark_42 : decode cX9_mark 42 = .ok (.getfield 40, 3) := by decide +kernel
theorem dX9_mark_45 : decode cX9_mark 45 = .ok (.iload_n 1, 1) := by decide +kernel
theorem dX9_mark_46 : decode cX9_mark 46 = .ok (.invokevirtual 209, 3) := by decide +kernel
theorem dX9_mark_49 : decode cX9_mark 49 = .ok (.ireturn, 1) := by decide +kernel
theorem dX9_left_0 : decode cX9_left 0 = .ok (.iload_n 2, 1) := by decide +kernel
theorem dX9_left_1 : decode cX9_left 1 = .ok (.ifCond .eq 10, 3) := by decide +kernel
theorem dX9_left_4 : decode cX9_left 4 = .ok (.iload_n 2, 1) := by decide +kernel
theorem dX9_left_5 : decode cX9_left 5 = .ok (.iconst 1, 1) := by decide +kernel
theorem dX9_left_6 : decode cX9_left 6 = .ok (.if_icmp .eq 5, 3) := by decide +kernel
theorem dX9_left_9 : decode cX9_left 9 = .ok (.iconst (-1), 1) := by decide +kernel
theorem dX9_left_10 : decode cX9_left 10 = .ok (.ireturn, 1) := by decide +kernel
theorem dX9_left_11 : decode cX9_left 11 = .ok (.aload_n 0, 1) := by decide +kernel
theorem dX9_left_12 : decode cX9_left 12 = .ok (.iload_n 1, 1) := by decide +kernel
theorem dX9_left_13 : decode cX9_left 13 = .ok (.invokevirtual 199, 3) := by decide +kernel
theorem dX9_left_16 : decode cX9_left 16 = .ok (.istore_n 3, 1) := by decide +kernel
theorem dX9_left_17 : decode cX9_left 17 = .ok (.iload_n 3, 1) := by decide +kernel
theorem dX9_left_18 : decode cX9_left 18 = .ok (.ifCond .eq 5, 3) := by decide +kernel
theorem dX9_left_21 : decode cX9_left 21 = .ok (.iload_n 3, 1) := by decide +kernel
theorem dX9_left_22 : decode cX9_left 22 = .ok (.ireturn, 1) := by decide +kernel
theorem dX9_left_23 : decode cX9_left 23 = .ok (.iload_n 2, 1) := by decide +kernel
theorem dX9_left_24 : decode cX9_left 24 = .ok (.ifCond .ne 13, 3) := by decide +kernel
theorem dX9_left_27 : decode cX9_left 27 = .ok (.aload_n 0, 1) := by decide +kernel
theorem dX9_left_28 : decode cX9_left 28 = .ok (.getfield 58, 3) := by decide +kernel
theorem dX9_left_31 : decode cX9_left 31 = .ok (.invokevirtual 212, 3) := by decide +kernel
theorem dX9_left_34 : decode cX9_left 34 = .ok (.goto 7, 3) := by decide +kernel
theorem dX9_left_37 : decode cX9_left 37 = .ok (.aload_n 0, 1) := by decide +kernel
theorem dX9_left_38 : decode cX9_left 38 = .ok (.invokevirtual 215, 3) := by decide +kernel
theorem dX9_left_41 : decode cX9_left 41 = .ok (.aload_n 0, 1) := by decide +kernel
theorem dX9_left_42 : decode cX9_left 42 = .ok (.getfield 58, 3) := by decide +kernel
theorem dX9_left_45 : decode cX9_left 45 = .ok (.iload_n 1, 1) := by decide +kernel
theorem dX9_left_46 : decode cX9_left 46 = .ok (.invokevirtual 218, 3) := by decide +kernel
theorem dX9_left_49 : decode cX9_left 49 = .ok (.ireturn, 1) := by decide +kernel
theorem dX9_ends_0 : decode cX9_ends 0 = .ok (.aload_n 0, 1) := by decide +kernel
theorem dX9_ends_1 : decode cX9_ends 1 = .ok (.iload_n 1, 1) := by decide +kernel
theorem dX9_ends_2 : decode cX9_ends 2 = .ok (.invokevirtual 199, 3) := by decide +kernel
theorem dX9_ends_5 : decode cX9_ends 5 = .ok (.istore_n 2, 1) := by decide +kernel
theorem dX9_ends_6 : decode cX9_ends 6 = .ok (.iload_n 2, 1) := by decide +kernel
theorem dX9_ends_7 : decode cX9_ends 7 = .ok (.ifCond .eq 5, 3) := by decide +kernel
theorem dX9_ends_10 : decode cX9_ends 10 = .ok (.iload_n 2, 1) := by decide +kernel
theorem dX9_ends_11 : decode cX9_ends 11 = .ok (.ireturn, 1) := by decide +kernel
theorem dX9_ends_12 : decode cX9_ends 12 = .ok (.aload_n 0, 1) := by decide +kernel
theorem dX9_ends_13 : decode cX9_ends 13 = .ok (.invokevirtual 215, 3) := by decide +kernel
theorem dX9_ends_16 : decode cX9_ends 16 = .ok (.aload_n 0, 1) := by decide +kernel
theorem dX9_ends_17 : decode cX9_ends 17 = .ok (.getfield 58, 3) := by decide +kernel
theorem dX9_ends_20 : decode cX9_ends 20 = .ok (.iload_n 1, 1) := by decide +kernel
theorem dX9_ends_21 : decode cX9_ends 21 = .ok (.invokevirtual 220, 3) := by decide +kernel
theorem dX9_ends_24 : decode cX9_ends 24 = .ok (.ifCond .ne 6, 3) := by decide +kernel
theorem dX9_ends_27 : decode cX9_ends 27 = .ok (.bipush (-9), 2) := by decide +kernel
theorem dX9_ends_29 : decode cX9_ends 29 = .ok (.ireturn, 1) := by decide +kernel
theorem dX9_ends_30 : decode cX9_ends 30 = .ok (.aload_n 0, 1) := by decide +kernel
theorem dX9_ends_31 : decode cX9_ends 31 = .ok (.aload_n 0, 1) := by decide +kernel
theorem dX9_ends_32 : decode cX9_ends 32 = .ok (.getfield 58, 3) := by decide +kernel
theorem dX9_ends_35 : decode cX9_ends 35 = .ok (.iload_n 1, 1) := by decide +kernel
theorem dX9_ends_36 : decode cX9_ends 36 = .ok (.invokevirtual 223, 3) := by decide +kernel
theorem dX9_ends_39 : decode cX9_ends 39 = .ok (.putfield 95, 3) := by decide +kernel
theorem dX9_ends_42 : decode cX9_ends 42 = .ok (.aload_n 0, 1) := by decide +kernel
theorem dX9_ends_43 : decode cX9_ends 43 = .ok (.getfield 58, 3) := by decide +kernel
theorem dX9_ends_46 : decode cX9_ends 46 = .ok (.iload_n 1, 1) := by decide +kernel
theorem dX9_ends_47 : decode cX9_ends 47 = .ok (.invokevirtual 226, 3) := by decide +kernel
theorem dX9_ends_50 : decode cX9_ends 50 = .ok (.ireturn, 1) := by decide +kernel
theorem dX9_may_0 : decode cX9_may 0 = .ok (.iload_n 2, 1) := by decide +kernel
theorem dX9_may_1 : decode cX9_may 1 = .ok (.invokestatic 196, 3) := by decide +kernel
theorem dX9_may_4 : decode cX9_may 4 = .ok (.ifCond .ne 5, 3) := by decide +kernel
theorem dX9_may_7 : decode cX9_may 7 = .ok (.iconst (-1), 1) := by decide +kernel
theorem dX9_may_8 : decode cX9_may 8 = .ok (.ireturn, 1) := by decide +kernel
theorem dX9_may_9 : decode cX9_may 9 = .ok (.aload_n 0, 1) := by decide +kernel
theorem dX9_may_10 : decode cX9_may 10 = .ok (.iload_n 1, 1) := by decide +kernel
theorem dX9_may_11 : decode cX9_may 11 = .ok (.invokevirtual 199, 3) := by decide +kernel
theorem dX9_may_14 : decode cX9_may 14 = .ok (.istore_n 3, 1) := by decide +kernel
theorem dX9_may_15 : decode cX9_may 15 = .ok (.iload_n 3, 1) := by decide +kernel
theorem dX9_may_16 : decode cX9_may 16 = .ok (.ifCond .eq 5, 3) := by decide +kernel
theorem dX9_may_19 : decode cX9_may 19 = .ok (.iload_n 3, 1) := by decide +kernel
theorem dX9_may_20 : decode cX9_may 20 = .ok (.ireturn, 1) := by decide +kernel
theorem dX9_may_21 : decode cX9_may 21 = .ok (.aload_n 0, 1) := by decide +kernel
theorem dX9_may_22 : decode cX9_may 22 = .ok (.invokevirtual 215, 3) := by decide +kernel
theorem dX9_may_25 : decode cX9_may 25 = .ok (.aload_n 0, 1) := by decide +kernel
theorem dX9_may_26 : decode cX9_may 26 = .ok (.getfield 58, 3) := by decide +kernel
theorem dX9_may_29 : decode cX9_may 29 = .ok (.iload_n 1, 1) := by decide +kernel
theorem dX9_may_30 : decode cX9_may 30 = .ok (.iload_n 2, 1) := by decide +kernel
theorem dX9_may_31 : decode cX9_may 31 = .ok (.invokevirtual 229, 3) := by decide +kernel
theorem dX9_may_34 : decode cX9_may 34 = .ok (.ifCond .eq 7, 3) := by decide +kernel
theorem dX9_may_37 : decode cX9_may 37 = .ok (.iconst 1, 1) := by decide +kernel
theorem dX9_may_38 : decode cX9_may 38 = .ok (.goto 4, 3) := by decide +kernel
theorem dX9_may_41 : decode cX9_may 41 = .ok (.iconst 0, 1) := by decide +kernel
theorem dX9_may_42 : decode cX9_may 42 = .ok (.ireturn, 1) := by decide +kernel
theorem dX9_burnt_0 : decode cX9_burnt 0 = .ok (.aload_n 0, 1) := by decide +kernel
theorem dX9_burnt_1 : decode cX9_burnt 1 = .ok (.getfield 58, 3) := by decide +kernel
theorem dX9_burnt_4 : decode cX9_burnt 4 = .ok (.invokevirtual 212, 3) := by decide +kernel
theorem dX9_burnt_7 : decode cX9_burnt 7 = .ok (.iconst 0, 1) := by decide +kernel
theorem dX9_burnt_8 : decode cX9_burnt 8 = .ok (.istore_n 1, 1) := by decide +kernel
theorem dX9_burnt_9 : decode cX9_burnt 9 = .ok (.iload_n 1, 1) := by decide +kernel
theorem dX9_burnt_10 : decode cX9_burnt 10 = .ok (.aload_n 0, 1) := by decide +kernel
theorem dX9_burnt_11 : decode cX9_burnt 11 = .ok (.getfield 49, 3) := by decide +kernel
theorem dX9_burnt_14 : decode cX9_burnt 14 = .ok (.invokevirtual 175, 3) := by decide +kernel
theorem dX9_burnt_17 : decode cX9_burnt 17 = .ok (.if_icmp .ge 22, 3) := by decide +kernel
theorem dX9_burnt_20 : decode cX9_burnt 20 = .ok (.aload_n 0, 1) := by decide +kernel
theorem dX9_burnt_21 : decode cX9_burnt 21 = .ok (.getfield 58, 3) := by decide +kernel
theorem dX9_burnt_24 : decode cX9_burnt 24 = .ok (.iload_n 1, 1) := by decide +kernel
theorem dX9_burnt_25 : decode cX9_burnt 25 = .ok (.invokevirtual 233, 3) := by decide +kernel
theorem dX9_burnt_28 : decode cX9_burnt 28 = .ok (.ifCond .ne 5, 3) := by decide +kernel
theorem dX9_burnt_31 : decode cX9_burnt 31 = .ok (.iload_n 1, 1) := by decide +kernel
theorem dX9_burnt_32 : decode cX9_burnt 32 = .ok (.ireturn, 1) := by decide +kernel
theorem dX9_burnt_33 : decode cX9_burnt 33 = .ok (.iinc 1 1, 3) := by decide +kernel
theorem dX9_burnt_36 : decode cX9_burnt 36 = .ok (.goto (-27), 3) := by decide +kernel
theorem dX9_burnt_39 : decode cX9_burnt 39 = .ok (.bipush (-9), 2) := by decide +kernel
theorem dX9_burnt_41 : decode cX9_burnt 41 = .ok (.ireturn, 1) := by decide +kernel
theorem dX9_count_0 : decode cX9_count 0 = .ok (.aload_n 0, 1) := by decide +kernel
theorem dX9_count_1 : decode cX9_count 1 = .ok (.iload_n 1, 1) := by decide +kernel
theorem dX9_count_2 : decode cX9_count 2 = .ok (.invokevirtual 236, 3) := by decide +kernel
theorem dX9_count_5 : decode cX9_count 5 = .ok (.istore_n 2, 1) := by decide +kernel
theorem dX9_count_6 : decode cX9_count 6 = .ok (.iload_n 2, 1) := by decide +kernel
theorem dX9_count_7 : decode cX9_count 7 = .ok (.ifCond .eq 5, 3) := by decide +kernel
theorem dX9_count_10 : decode cX9_count 10 = .ok (.iload_n 2, 1) := by decide +kernel
theorem dX9_count_11 : decode cX9_count 11 = .ok (.ireturn, 1) := by decide +kernel
theorem dX9_count_12 : decode cX9_count 12 = .ok (.aload_n 0, 1) := by decide +kernel
theorem dX9_count_13 : decode cX9_count 13 = .ok (.aload_n 0, 1) := by decide +kernel
theorem dX9_count_14 : decode cX9_count 14 = .ok (.getfield 67, 3) := by decide +kernel
theorem dX9_count_17 : decode cX9_count 17 = .ok (.invokevirtual 239, 3) := by decide +kernel
theorem dX9_count_20 : decode cX9_count 20 = .ok (.putfield 95, 3) := by decide +kernel
theorem dX9_count_23 : decode cX9_count 23 = .ok (.aload_n 0, 1) := by decide +kernel
theorem dX9_count_24 : decode cX9_count 24 = .ok (.getfield 67, 3) := by decide +kernel
theorem dX9_count_27 : decode cX9_count 27 = .ok (.invokevirtual 242, 3) := by decide +kernel
theorem dX9_count_30 : decode cX9_count 30 = .ok (.ireturn, 1) := by decide +kernel
theorem dX9_fill_0 : decode cX9_fill 0 = .ok (.iload_n 1, 1) := by decide +kernel
theorem dX9_fill_1 : decode cX9_fill 1 = .ok (.ifCond .lt 17, 3) := by decide +kernel
theorem dX9_fill_4 : decode cX9_fill 4 = .ok (.iload_n 2, 1) := by decide +kernel
theorem dX9_fill_5 : decode cX9_fill 5 = .ok (.invokestatic 105, 3) := by decide +kernel
theorem dX9_fill_8 : decode cX9_fill 8 = .ok (.ifCond .eq 10, 3) := by decide +kernel
theorem dX9_fill_11 : decode cX9_fill 11 = .ok (.iload_n 3, 1) := by decide +kernel
theorem dX9_fill_12 : decode cX9_fill 12 = .ok (.invokestatic 245, 3) := by decide +kernel
theorem dX9_fill_15 : decode cX9_fill 15 = .ok (.ifCond .ne 5, 3) := by decide +kernel
theorem dX9_fill_18 : decode cX9_fill 18 = .ok (.iconst (-1), 1) := by decide +kernel
theorem dX9_fill_19 : decode cX9_fill 19 = .ok (.ireturn, 1) := by decide +kernel
theorem dX9_fill_20 : decode cX9_fill 20 = .ok (.aload_n 0, 1) := by decide +kernel
theorem dX9_fill_21 : decode cX9_fill 21 = .ok (.invokevirtual 215, 3) := by decide +kernel
theorem dX9_fill_24 : decode cX9_fill 24 = .ok (.aload_n 0, 1) := by decide +kernel
theorem dX9_fill_25 : decode cX9_fill 25 = .ok (.getfield 67, 3) := by decide +kernel
theorem dX9_fill_28 : decode cX9_fill 28 = .ok (.iload_n 1, 1) := by decide +kernel
theorem dX9_fill_29 : decode cX9_fill 29 = .ok (.iload_n 3, 1) := by decide +kernel
theorem dX9_fill_30 : decode cX9_fill 30 = .ok (.iconst 0, 1) := by decide +kernel
theorem dX9_fill_31 : decode cX9_fill 31 = .ok (.invokevirtual 248, 3) := by decide +kernel
theorem dX9_fill_34 : decode cX9_fill 34 = .ok (.aload_n 0, 1) := by decide +kernel
theorem dX9_fill_35 : decode cX9_fill 35 = .ok (.getfield 67, 3) := by decide +kernel
theorem dX9_fill_38 : decode cX9_fill 38 = .ok (.invokevirtual 251, 3) := by decide +kernel
theorem dX9_fill_41 : decode cX9_fill 41 = .ok (.ifCond .eq 6, 3) := by decide +kernel
theorem dX9_fill_44 : decode cX9_fill 44 = .ok (.bipush (-6), 2) := by decide +kernel
theorem dX9_fill_46 : decode cX9_fill 46 = .ok (.ireturn, 1) := by decide +kernel
theorem dX9_fill_47 : decode cX9_fill 47 = .ok (.aload_n 0, 1) := by decide +kernel
theorem dX9_fill_48 : decode cX9_fill 48 = .ok (.getfield 67, 3) := by decide +kernel
theorem dX9_fill_51 : decode cX9_fill 51 = .ok (.invokevirtual 255, 3) := by decide +kernel
theorem dX9_fill_54 : decode cX9_fill 54 = .ok (.ifCond .ne 6, 3) := by decide +kernel
theorem dX9_fill_57 : decode cX9_fill 57 = .ok (.bipush (-9), 2) := by decide +kernel
theorem dX9_fill_59 : decode cX9_fill 59 = .ok (.ireturn, 1) := by decide +kernel
theorem dX9_fill_60 : decode cX9_fill 60 = .ok (.aload_n 0, 1) := by decide +kernel
theorem dX9_fill_61 : decode cX9_fill 61 = .ok (.getfield 67, 3) := by decide +kernel
theorem dX9_fill_64 : decode cX9_fill 64 = .ok (.aload_n 0, 1) := by decide +kernel
theorem dX9_fill_65 : decode cX9_fill 65 = .ok (.getfield 14, 3) := by decide +kernel
theorem dX9_fill_68 : decode cX9_fill 68 = .ok (.iload_n 2, 1) := by decide +kernel
theorem dX9_fill_69 : decode cX9_fill 69 = .ok (.invokevirtual 258, 3) := by decide +kernel
theorem dX9_fill_72 : decode cX9_fill 72 = .ok (.iconst 1, 1) := by decide +kernel
theorem dX9_fill_73 : decode cX9_fill 73 = .ok (.ireturn, 1) := by decide +kernel
theorem dX9_could_0 : decode cX9_could 0 = .ok (.iload_n 2, 1) := by decide +kernel
theorem dX9_could_1 : decode cX9_could 1 = .ok (.invokestatic 196, 3) := by decide +kernel
theorem dX9_could_4 : decode cX9_could 4 = .ok (.ifCond .eq 10, 3) := by decide +kernel
theorem dX9_could_7 : decode cX9_could 7 = .ok (.iload_n 3, 1) := by decide +kernel
theorem dX9_could_8 : decode cX9_could 8 = .ok (.invokestatic 245, 3) := by decide +kernel
theorem dX9_could_11 : decode cX9_could 11 = .ok (.ifCond .ne 5, 3) := by decide +kernel
theorem dX9_could_14 : decode cX9_could 14 = .ok (.iconst (-1), 1) := by decide +kernel
theorem dX9_could_15 : decode cX9_could 15 = .ok (.ireturn, 1) := by decide +kernel
theorem dX9_could_16 : decode cX9_could 16 = .ok (.aload_n 0, 1) := by decide +kernel
theorem dX9_could_17 : decode cX9_could 17 = .ok (.iload_n 1, 1) := by decide +kernel
theorem dX9_could_18 : decode cX9_could 18 = .ok (.invokevirtual 199, 3) := by decide +kernel
theorem dX9_could_21 : decode cX9_could 21 = .ok (.istore 4, 2) := by decide +kernel
theorem dX9_could_23 : decode cX9_could 23 = .ok (.iload 4, 2) := by decide +kernel
theorem dX9_could_25 : decode cX9_could 25 = .ok (.ifCond .eq 6, 3) := by decide +kernel
theorem dX9_could_28 : decode cX9_could 28 = .ok (.iload 4, 2) := by decide +kernel
theorem dX9_could_30 : decode cX9_could 30 = .ok (.ireturn, 1) := by decide +kernel
theorem dX9_could_31 : decode cX9_could 31 = .ok (.aload_n 0, 1) := by decide +kernel
theorem dX9_could_32 : decode cX9_could 32 = .ok (.iload_n 3, 1) := by decide +kernel
theorem dX9_could_33 : decode cX9_could 33 = .ok (.invokevirtual 236, 3) := by decide +kernel
theorem dX9_could_36 : decode cX9_could 36 = .ok (.istore 4, 2) := by decide +kernel
theorem dX9_could_38 : decode cX9_could 38 = .ok (.iload 4, 2) := by decide +kernel
theorem dX9_could_40 : decode cX9_could 40 = .ok (.ifCond .eq 6, 3) := by decide +kernel
theorem dX9_could_43 : decode cX9_could 43 = .ok (.iload 4, 2) := by decide +kernel
theorem dX9_could_45 : decode cX9_could 45 = .ok (.ireturn, 1) := by decide +kernel
theorem dX9_could_46 : decode cX9_could 46 = .ok (.aload_n 0, 1) := by decide +kernel
theorem dX9_could_47 : decode cX9_could 47 = .ok (.getfield 67, 3) := by decide +kernel
theorem dX9_could_50 : decode cX9_could 50 = .ok (.iload_n 1, 1) := by decide +kernel
theorem dX9_could_51 : decode cX9_could 51 = .ok (.iload_n 2, 1) := by decide +kernel
theorem dX9_could_52 : decode cX9_could 52 = .ok (.invokevirtual 261, 3) := by decide +kernel
theorem dX9_could_55 : decode cX9_could 55 = .ok (.istore 5, 2) := by decide +kernel
theorem dX9_could_57 : decode cX9_could 57 = .ok (.aload_n 0, 1) := by decide +kernel
theorem dX9_could_58 : decode cX9_could 58 = .ok (.iload 5, 2) := by decide +kernel
theorem dX9_could_60 : decode cX9_could 60 = .ok (.aload_n 0, 1) := by decide +kernel
theorem dX9_could_61 : decode cX9_could 61 = .ok (.getfield 67, 3) := by decide +kernel
theorem dX9_could_64 : decode cX9_could 64 = .ok (.invokevirtual 242, 3) := by decide +kernel
theorem dX9_could_67 : decode cX9_could 67 = .ok (.invokevirtual 264, 3) := by decide +kernel
theorem dX9_could_70 : decode cX9_could 70 = .ok (.iload 5, 2) := by decide +kernel
theorem dX9_could_72 : decode cX9_could 72 = .ok (.ireturn, 1) := by decide +kernel
theorem dX9_must_0 : decode cX9_must 0 = .ok (.iload_n 2, 1) := by decide +kernel
theorem dX9_must_1 : decode cX9_must 1 = .ok (.invokestatic 245, 3) := by decide +kernel
theorem dX9_must_4 : decode cX9_must 4 = .ok (.ifCond .ne 5, 3) := by decide +kernel
theorem dX9_must_7 : decode cX9_must 7 = .ok (.iconst (-1), 1) := by decide +kernel
theorem dX9_must_8 : decode cX9_must 8 = .ok (.ireturn, 1) := by decide +kernel
theorem dX9_must_9 : decode cX9_must 9 = .ok (.aload_n 0, 1) := by decide +kernel
theorem dX9_must_10 : decode cX9_must 10 = .ok (.iload_n 1, 1) := by decide +kernel
theorem dX9_must_11 : decode cX9_must 11 = .ok (.invokevirtual 199, 3) := by decide +kernel
theorem dX9_must_14 : decode cX9_must 14 = .ok (.istore_n 3, 1) := by decide +kernel
theorem dX9_must_15 : decode cX9_must 15 = .ok (.iload_n 3, 1) := by decide +kernel
theorem dX9_must_16 : decode cX9_must 16 = .ok (.ifCond .eq 5, 3) := by decide +kernel
theorem dX9_must_19 : decode cX9_must 19 = .ok (.iload_n 3, 1) := by decide +kernel
theorem dX9_must_20 : decode cX9_must 20 = .ok (.ireturn, 1) := by decide +kernel
theorem dX9_must_21 : decode cX9_must 21 = .ok (.aload_n 0, 1) := by decide +kernel
theorem dX9_must_22 : decode cX9_must 22 = .ok (.iload_n 2, 1) := by decide +kernel
theorem dX9_must_23 : decode cX9_must 23 = .ok (.invokevirtual 236, 3) := by decide +kernel
theorem dX9_must_26 : decode cX9_must 26 = .ok (.istore_n 3, 1) := by decide +kernel
theorem dX9_must_27 : decode cX9_must 27 = .ok (.iload_n 3, 1) := by decide +kernel
theorem dX9_must_28 : decode cX9_must 28 = .ok (.ifCond .eq 5, 3) := by decide +kernel
theorem dX9_must_31 : decode cX9_must 31 = .ok (.iload_n 3, 1) := by decide +kernel
theorem dX9_must_32 : decode cX9_must 32 = .ok (.ireturn, 1) := by decide +kernel
theorem dX9_must_33 : decode cX9_must 33 = .ok (.aload_n 0, 1) := by decide +kernel
theorem dX9_must_34 : decode cX9_must 34 = .ok (.getfield 67, 3) := by decide +kernel
theorem dX9_must_37 : decode cX9_must 37 = .ok (.invokevirtual 242, 3) := by decide +kernel
theorem dX9_must_40 : decode cX9_must 40 = .ok (.ifCond .ne 6, 3) := by decide +kernel
theorem dX9_must_43 : decode cX9_must 43 = .ok (.bipush (-9), 2) := by decide +kernel
theorem dX9_must_45 : decode cX9_must 45 = .ok (.ireturn, 1) := by decide +kernel
theorem dX9_must_46 : decode cX9_must 46 = .ok (.aload_n 0, 1) := by decide +kernel
theorem dX9_must_47 : decode cX9_must 47 = .ok (.aload_n 0, 1) := by decide +kernel
theorem dX9_must_48 : decode cX9_must 48 = .ok (.getfield 67, 3) := by decide +kernel
theorem dX9_must_51 : decode cX9_must 51 = .ok (.iload_n 1, 1) := by decide +kernel
theorem dX9_must_52 : decode cX9_must 52 = .ok (.invokevirtual 267, 3) := by decide +kernel
theorem dX9_must_55 : decode cX9_must 55 = .ok (.putfield 95, 3) := by decide +kernel
theorem dX9_must_58 : decode cX9_must 58 = .ok (.aload_n 0, 1) := by decide +kernel
theorem dX9_must_59 : decode cX9_must 59 = .ok (.getfield 67, 3) := by decide +kernel
theorem dX9_must_62 : decode cX9_must 62 = .ok (.iload_n 1, 1) := by decide +kernel
theorem dX9_must_63 : decode cX9_must 63 = .ok (.invokevirtual 270, 3) := by decide +kernel
theorem dX9_must_66 : decode cX9_must 66 = .ok (.ireturn, 1) := by decide +kernel
theorem dX9_sure_0 : decode cX9_sure 0 = .ok (.aload_n 0, 1) := by decide +kernel
theorem dX9_sure_1 : decode cX9_sure 1 = .ok (.iload_n 1, 1) := by decide +kernel
theorem dX9_sure_2 : decode cX9_sure 2 = .ok (.invokevirtual 236, 3) := by decide +kernel
theorem dX9_sure_5 : decode cX9_sure 5 = .ok (.istore_n 2, 1) := by decide +kernel
theorem dX9_sure_6 : decode cX9_sure 6 = .ok (.iload_n 2, 1) := by decide +kernel
theorem dX9_sure_7 : decode cX9_sure 7 = .ok (.ifCond .eq 5, 3) := by decide +kernel
theorem dX9_sure_10 : decode cX9_sure 10 = .ok (.iload_n 2, 1) := by decide +kernel
theorem dX9_sure_11 : decode cX9_sure 11 = .ok (.ireturn, 1) := by decide +kernel
theorem dX9_sure_12 : decode cX9_sure 12 = .ok (.aload_n 0, 1) := by decide +kernel
theorem dX9_sure_13 : decode cX9_sure 13 = .ok (.getfield 67, 3) := by decide +kernel
theorem dX9_sure_16 : decode cX9_sure 16 = .ok (.invokevirtual 242, 3) := by decide +kernel
theorem dX9_sure_19 : decode cX9_sure 19 = .ok (.ifCond .ne 5, 3) := by decide +kernel
theorem dX9_sure_22 : decode cX9_sure 22 = .ok (.iconst 0, 1) := by decide +kernel
theorem dX9_sure_23 : decode cX9_sure 23 = .ok (.ireturn, 1) := by decide +kernel
theorem dX9_sure_24 : decode cX9_sure 24 = .ok (.iconst 0, 1) := by decide +kernel
theorem dX9_sure_25 : decode cX9_sure 25 = .ok (.istore_n 3, 1) := by decide +kernel
theorem dX9_sure_26 : decode cX9_sure 26 = .ok (.iconst 0, 1) := by decide +kernel
theorem dX9_sure_27 : decode cX9_sure 27 = .ok (.istore 4, 2) := by decide +kernel
theorem dX9_sure_29 : decode cX9_sure 29 = .ok (.iload 4, 2) := by decide +kernel
theorem dX9_sure_31 : decode cX9_sure 31 = .ok (.bipush 12, 2) := by decide +kernel
theorem dX9_sure_33 : decode cX9_sure 33 = .ok (.if_icmp .ge 47, 3) := by decide +kernel
theorem dX9_sure_36 : decode cX9_sure 36 = .ok (.aload_n 0, 1) := by decide +kernel
theorem dX9_sure_37 : decode cX9_sure 37 = .ok (.getfield 40, 3) := by decide +kernel
theorem dX9_sure_40 : decode cX9_sure 40 = .ok (.iload 4, 2) := by decide +kernel
theorem dX9_sure_42 : decode cX9_sure 42 = .ok (.invokevirtual 273, 3) := by decide +kernel
theorem dX9_sure_45 : decode cX9_sure 45 = .ok (.ifCond .eq 29, 3) := by decide +kernel
theorem dX9_sure_48 : decode cX9_sure 48 = .ok (.aload_n 0, 1) := by decide +kernel
theorem dX9_sure_49 : decode cX9_sure 49 = .ok (.getfield 67, 3) := by decide +kernel
theorem dX9_sure_52 : decode cX9_sure 52 = .ok (.iload 4, 2) := by decide +kernel
theorem dX9_sure_54 : decode cX9_sure 54 = .ok (.invokevirtual 274, 3) := by decide +kernel
theorem dX9_sure_57 : decode cX9_sure 57 = .ok (.aload_n 0, 1) := by decide +kernel
theorem dX9_sure_58 : decode cX9_sure 58 = .ok (.getfield 67, 3) := by decide +kernel
theorem dX9_sure_61 : decode cX9_sure 61 = .ok (.invokevirtual 242, 3) := by decide +kernel
theorem dX9_sure_64 : decode cX9_sure 64 = .ok (.if_icmp .ne 10, 3) := by decide +kernel
theorem dX9_sure_67 : decode cX9_sure 67 = .ok (.iload_n 3, 1) := by decide +kernel
theorem dX9_sure_68 : decode cX9_sure 68 = .ok (.iconst 1, 1) := by decide +kernel
theorem dX9_sure_69 : decode cX9_sure 69 = .ok (.iload 4, 2) := by decide +kernel
theorem dX9_sure_71 : decode cX9_sure 71 = .ok (.ishl, 1) := by decide +kernel
theorem dX9_sure_72 : decode cX9_sure 72 = .ok (.ior, 1) := by decide +kernel
theorem dX9_sure_73 : decode cX9_sure 73 = .ok (.istore_n 3, 1) := by decide +kernel
theorem dX9_sure_74 : decode cX9_sure 74 = .ok (.iinc 4 1, 3) := by decide +kernel
theorem dX9_sure_77 : decode cX9_sure 77 = .ok (.goto (-48), 3) := by decide +kernel
theorem dX9_sure_80 : decode cX9_sure 80 = .ok (.iload_n 3, 1) := by decide +kernel
theorem dX9_sure_81 : decode cX9_sure 81 = .ok (.ireturn, 1) := by decide +kernel
theorem dX9_like_0 : decode cX9_like 0 = .ok (.iload_n 2, 1) := by decide +kernel
theorem dX9_like_1 : decode cX9_like 1 = .ok (.invokestatic 105, 3) := by decide +kernel
theorem dX9_like_4 : decode cX9_like 4 = .ok (.ifCond .eq 10, 3) := by decide +kernel
theorem dX9_like_7 : decode cX9_like 7 = .ok (.iload_n 3, 1) := by decide +kernel
theorem dX9_like_8 : decode cX9_like 8 = .ok (.invokestatic 245, 3) := by decide +kernel
theorem dX9_like_11 : decode cX9_like 11 = .ok (.ifCond .ne 5, 3) := by decide +kernel
theorem dX9_like_14 : decode cX9_like 14 = .ok (.iconst (-1), 1) := by decide +kernel
theorem dX9_like_15 : decode cX9_like 15 = .ok (.ireturn, 1) := by decide +kernel
theorem dX9_like_16 : decode cX9_like 16 = .ok (.aload_n 0, 1) := by decide +kernel
theorem dX9_like_17 : decode cX9_like 17 = .ok (.iload_n 1, 1) := by decide +kernel
theorem dX9_like_18 : decode cX9_like 18 = .ok (.invokevirtual 127, 3) := by decide +kernel
theorem dX9_like_21 : decode cX9_like 21 = .ok (.istore 4, 2) := by decide +kernel
theorem dX9_like_23 : decode cX9_like 23 = .ok (.iload 4, 2) := by decide +kernel
theorem dX9_like_25 : decode cX9_like 25 = .ok (.ifCond .eq 6, 3) := by decide +kernel
theorem dX9_like_28 : decode cX9_like 28 = .ok (.iload 4, 2) := by decide +kernel
theorem dX9_like_30 : decode cX9_like 30 = .ok (.ireturn, 1) := by decide +kernel
theorem dX9_like_31 : decode cX9_like 31 = .ok (.aload_n 0, 1) := by decide +kernel
theorem dX9_like_32 : decode cX9_like 32 = .ok (.getfield 14, 3) := by decide +kernel
theorem dX9_like_35 : decode cX9_like 35 = .ok (.iload_n 1, 1) := by decide +kernel
theorem dX9_like_36 : decode cX9_like 36 = .ok (.invokevirtual 145, 3) := by decide +kernel
theorem dX9_like_39 : decode cX9_like 39 = .ok (.bipush 10, 2) := by decide +kernel
theorem dX9_like_41 : decode cX9_like 41 = .ok (.if_icmp .eq 9, 3) := by decide +kernel
theorem dX9_like_44 : decode cX9_like 44 = .ok (.aload_n 0, 1) := by decide +kernel
theorem dX9_like_45 : decode cX9_like 45 = .ok (.iconst 5, 1) := by decide +kernel
theorem dX9_like_46 : decode cX9_like 46 = .ok (.invokevirtual 109, 3) := by decide +kernel
theorem dX9_like_49 : decode cX9_like 49 = .ok (.ireturn, 1) := by decide +kernel
theorem dX9_like_50 : decode cX9_like 50 = .ok (.aload_n 0, 1) := by decide +kernel
theorem dX9_like_51 : decode cX9_like 51 = .ok (.getfield 14, 3) := by decide +kernel
theorem dX9_like_54 : decode cX9_like 54 = .ok (.iload_n 1, 1) := by decide +kernel
theorem dX9_like_55 : decode cX9_like 55 = .ok (.iconst 0, 1) := by decide +kernel
theorem dX9_like_56 : decode cX9_like 56 = .ok (.bipush 99, 2) := by decide +kernel
theorem dX9_like_58 : decode cX9_like 58 = .ok (.invokevirtual 188, 3) := by decide +kernel
theorem dX9_like_61 : decode cX9_like 61 = .ok (.ifCond .ne 9, 3) := by decide +kernel
theorem dX9_like_64 : decode cX9_like 64 = .ok (.aload_n 0, 1) := by decide +kernel
theorem dX9_like_65 : decode cX9_like 65 = .ok (.iconst 3, 1) := by decide +kernel
theorem dX9_like_66 : decode cX9_like 66 = .ok (.invokevirtual 109, 3) := by decide +kernel
theorem dX9_like_69 : decode cX9_like 69 = .ok (.ireturn, 1) := by decide +kernel
theorem dX9_like_70 : decode cX9_like 70 = .ok (.aload_n 0, 1) := by decide +kernel
theorem dX9_like_71 : decode cX9_like 71 = .ok (.getfield 67, 3) := by decide +kernel
theorem dX9_like_74 : decode cX9_like 74 = .ok (.aload_n 0, 1) := by decide +kernel
theorem dX9_like_75 : decode cX9_like 75 = .ok (.getfield 14, 3) := by decide +kernel
theorem dX9_like_78 : decode cX9_like 78 = .ok (.iload_n 1, 1) := by decide +kernel
theorem dX9_like_79 : decode cX9_like 79 = .ok (.invokevirtual 277, 3) := by decide +kernel
theorem dX9_like_82 : decode cX9_like 82 = .ok (.aload_n 0, 1) := by decide +kernel
theorem dX9_like_83 : decode cX9_like 83 = .ok (.iload_n 3, 1) := by decide +kernel
theorem dX9_like_84 : decode cX9_like 84 = .ok (.invokevirtual 236, 3) := by decide +kernel
theorem dX9_like_87 : decode cX9_like 87 = .ok (.istore 4, 2) := by decide +kernel
theorem dX9_like_89 : decode cX9_like 89 = .ok (.iload 4, 2) := by decide +kernel
theorem dX9_like_91 : decode cX9_like 91 = .ok (.ifCond .eq 6, 3) := by decide +kernel
theorem dX9_like_94 : decode cX9_like 94 = .ok (.iload 4, 2) := by decide +kernel
theorem dX9_like_96 : decode cX9_like 96 = .ok (.ireturn, 1) := by decide +kernel
theorem dX9_like_97 : decode cX9_like 97 = .ok (.aload_n 0, 1) := by decide +kernel
theorem dX9_like_98 : decode cX9_like 98 = .ok (.getfield 67, 3) := by decide +kernel
theorem dX9_like_101 : decode cX9_like 101 = .ok (.invokevirtual 242, 3) := by decide +kernel
theorem dX9_like_104 : decode cX9_like 104 = .ok (.ifCond .ne 6, 3) := by decide +kernel
theorem dX9_like_107 : decode cX9_like 107 = .ok (.bipush (-9), 2) := by decide +kernel
theorem dX9_like_109 : decode cX9_like 109 = .ok (.ireturn, 1) := by decide +kernel
theorem dX9_like_110 : decode cX9_like 110 = .ok (.aload_n 0, 1) := by decide +kernel
theorem dX9_like_111 : decode cX9_like 111 = .ok (.getfield 67, 3) := by decide +kernel
theorem dX9_like_114 : decode cX9_like 114 = .ok (.aload_n 0, 1) := by decide +kernel
theorem dX9_like_115 : decode cX9_like 115 = .ok (.getfield 14, 3) := by decide +kernel
theorem dX9_like_118 : decode cX9_like 118 = .ok (.iload_n 2, 1) := by decide +kernel
theorem dX9_like_119 : decode cX9_like 119 = .ok (.invokevirtual 280, 3) := by decide +kernel
theorem dX9_like_122 : decode cX9_like 122 = .ok (.aload_n 0, 1) := by decide +kernel
theorem dX9_like_123 : decode cX9_like 123 = .ok (.getfield 67, 3) := by decide +kernel
theorem dX9_like_126 : decode cX9_like 126 = .ok (.invokevirtual 283, 3) := by decide +kernel
theorem dX9_like_129 : decode cX9_like 129 = .ok (.ireturn, 1) := by decide +kernel
theorem dX9_wrong_0 : decode cX9_wrong 0 = .ok (.iload_n 1, 1) := by decide +kernel
theorem dX9_wrong_1 : decode cX9_wrong 1 = .ok (.invokestatic 245, 3) := by decide +kernel
theorem dX9_wrong_4 : decode cX9_wrong 4 = .ok (.ifCond .ne 5, 3) := by decide +kernel
theorem dX9_wrong_7 : decode cX9_wrong 7 = .ok (.iconst (-1), 1) := by decide +kernel
theorem dX9_wrong_8 : decode cX9_wrong 8 = .ok (.ireturn, 1) := by decide +kernel
theorem dX9_wrong_9 : decode cX9_wrong 9 = .ok (.aload_n 0, 1) := by decide +kernel
theorem dX9_wrong_10 : decode cX9_wrong 10 = .ok (.getfield 58, 3) := by decide +kernel
theorem dX9_wrong_13 : decode cX9_wrong 13 = .ok (.invokevirtual 212, 3) := by decide +kernel
theorem dX9_wrong_16 : decode cX9_wrong 16 = .ok (.iconst 1, 1) := by decide +kernel
theorem dX9_wrong_17 : decode cX9_wrong 17 = .ok (.aload_n 0, 1) := by decide +kernel
theorem dX9_wrong_18 : decode cX9_wrong 18 = .ok (.getfield 49, 3) := by decide +kernel
theorem dX9_wrong_21 : decode cX9_wrong 21 = .ok (.invokevirtual 175, 3) := by decide +kernel
theorem dX9_wrong_24 : decode cX9_wrong 24 = .ok (.ishl, 1) := by decide +kernel
theorem dX9_wrong_25 : decode cX9_wrong 25 = .ok (.istore_n 2, 1) := by decide +kernel
theorem dX9_wrong_26 : decode cX9_wrong 26 = .ok (.iconst 0, 1) := by decide +kernel
theorem dX9_wrong_27 : decode cX9_wrong 27 = .ok (.istore_n 3, 1) := by decide +kernel
theorem dX9_wrong_28 : decode cX9_wrong 28 = .ok (.iload_n 3, 1) := by decide +kernel
theorem dX9_wrong_29 : decode cX9_wrong 29 = .ok (.aload_n 0, 1) := by decide +kernel
theorem dX9_wrong_30 : decode cX9_wrong 30 = .ok (.getfield 49, 3) := by decide +kernel
theorem dX9_wrong_33 : decode cX9_wrong 33 = .ok (.invokevirtual 175, 3) := by decide +kernel
theorem dX9_wrong_36 : decode cX9_wrong 36 = .ok (.if_icmp .gt 82, 3) := by decide +kernel
theorem dX9_wrong_39 : decode cX9_wrong 39 = .ok (.iconst 0, 1) := by decide +kernel
theorem dX9_wrong_40 : decode cX9_wrong 40 = .ok (.istore 4, 2) := by decide +kernel
theorem dX9_wrong_42 : decode cX9_wrong 42 = .ok (.iload 4, 2) := by decide +kernel
theorem dX9_wrong_44 : decode cX9_wrong 44 = .ok (.iload_n 2, 1) := by decide +kernel
theorem dX9_wrong_45 : decode cX9_wrong 45 = .ok (.if_icmp .ge 67, 3) := by decide +kernel
theorem dX9_wrong_48 : decode cX9_wrong 48 = .ok (.iload 4, 2) := by decide +kernel
theorem dX9_wrong_50 : decode cX9_wrong 50 = .ok (.invokestatic 286, 3) := by decide +kernel
theorem dX9_wrong_53 : decode cX9_wrong 53 = .ok (.iload_n 3, 1) := by decide +kernel
theorem dX9_wrong_54 : decode cX9_wrong 54 = .ok (.if_icmp .eq 6, 3) := by decide +kernel
theorem dX9_wrong_57 : decode cX9_wrong 57 = .ok (.goto 49, 3) := by decide +kernel
theorem dX9_wrong_60 : decode cX9_wrong 60 = .ok (.aload_n 0, 1) := by decide +kernel
theorem dX9_wrong_61 : decode cX9_wrong 61 = .ok (.getfield 58, 3) := by decide +kernel
theorem dX9_wrong_64 : decode cX9_wrong 64 = .ok (.iload 4, 2) := by decide +kernel
theorem dX9_wrong_66 : decode cX9_wrong 66 = .ok (.invokevirtual 291, 3) := by decide +kernel
theorem dX9_wrong_69 : decode cX9_wrong 69 = .ok (.aload_n 0, 1) := by decide +kernel
theorem dX9_wrong_70 : decode cX9_wrong 70 = .ok (.getfield 67, 3) := by decide +kernel
theorem dX9_wrong_73 : decode cX9_wrong 73 = .ok (.iconst 0, 1) := by decide +kernel
theorem dX9_wrong_74 : decode cX9_wrong 74 = .ok (.iload_n 1, 1) := by decide +kernel
theorem dX9_wrong_75 : decode cX9_wrong 75 = .ok (.iload 4, 2) := by decide +kernel
theorem dX9_wrong_77 : decode cX9_wrong 77 = .ok (.invokevirtual 248, 3) := by decide +kernel
theorem dX9_wrong_80 : decode cX9_wrong 80 = .ok (.aload_n 0, 1) := by decide +kernel
theorem dX9_wrong_81 : decode cX9_wrong 81 = .ok (.getfield 67, 3) := by decide +kernel
theorem dX9_wrong_84 : decode cX9_wrong 84 = .ok (.invokevirtual 251, 3) := by decide +kernel
theorem dX9_wrong_87 : decode cX9_wrong 87 = .ok (.ifCond .eq 6, 3) := by decide +kernel
theorem dX9_wrong_90 : decode cX9_wrong 90 = .ok (.bipush (-6), 2) := by decide +kernel
theorem dX9_wrong_92 : decode cX9_wrong 92 = .ok (.ireturn, 1) := by decide +kernel
theorem dX9_wrong_93 : decode cX9_wrong 93 = .ok (.aload_n 0, 1) := by decide +kernel
theorem dX9_wrong_94 : decode cX9_wrong 94 = .ok (.getfield 67, 3) := by decide +kernel
theorem dX9_wrong_97 : decode cX9_wrong 97 = .ok (.invokevirtual 255, 3) := by decide +kernel
theorem dX9_wrong_100 : decode cX9_wrong 100 = .ok (.ifCond .eq 6, 3) := by decide +kernel
theorem dX9_wrong_103 : decode cX9_wrong 103 = .ok (.iload 4, 2) := by decide +kernel
theorem dX9_wrong_105 : decode cX9_wrong 105 = .ok (.ireturn, 1) := by decide +kernel
theorem dX9_wrong_106 : decode cX9_wrong 106 = .ok (.iinc 4 1, 3) := by decide +kernel
theorem dX9_wrong_109 : decode cX9_wrong 109 = .ok (.goto (-67), 3) := by decide +kernel
theorem dX9_wrong_112 : decode cX9_wrong 112 = .ok (.iinc 3 1, 3) := by decide +kernel
theorem dX9_wrong_115 : decode cX9_wrong 115 = .ok (.goto (-87), 3) := by decide +kernel
theorem dX9_wrong_118 : decode cX9_wrong 118 = .ok (.bipush (-9), 2) := by decide +kernel
theorem dX9_wrong_120 : decode cX9_wrong 120 = .ok (.ireturn, 1) := by decide +kernel
theorem dX9_next_0 : decode cX9_next 0 = .ok (.aload_n 0, 1) := by decide +kernel
theorem dX9_next_1 : decode cX9_next 1 = .ok (.iload_n 1, 1) := by decide +kernel
theorem dX9_next_2 : decode cX9_next 2 = .ok (.invokevirtual 236, 3) := by decide +kernel
theorem dX9_next_5 : decode cX9_next 5 = .ok (.istore_n 2, 1) := by decide +kernel
theorem dX9_next_6 : decode cX9_next 6 = .ok (.iload_n 2, 1) := by decide +kernel
theorem dX9_next_7 : decode cX9_next 7 = .ok (.ifCond .eq 5, 3) := by decide +kernel
theorem dX9_next_10 : decode cX9_next 10 = .ok (.iload_n 2, 1) := by decide +kernel
theorem dX9_next_11 : decode cX9_next 11 = .ok (.ireturn, 1) := by decide +kernel
theorem dX9_next_12 : decode cX9_next 12 = .ok (.aload_n 0, 1) := by decide +kernel
theorem dX9_next_13 : decode cX9_next 13 = .ok (.getfield 67, 3) := by decide +kernel
theorem dX9_next_16 : decode cX9_next 16 = .ok (.invokevirtual 242, 3) := by decide +kernel
theorem dX9_next_19 : decode cX9_next 19 = .ok (.ifCond .ne 6, 3) := by decide +kernel
theorem dX9_next_22 : decode cX9_next 22 = .ok (.bipush (-9), 2) := by decide +kernel
theorem dX9_next_24 : decode cX9_next 24 = .ok (.ireturn, 1) := by decide +kernel
theorem dX9_next_25 : decode cX9_next 25 = .ok (.bipush (-9), 2) := by decide +kernel
theorem dX9_next_27 : decode cX9_next 27 = .ok (.istore_n 3, 1) := by decide +kernel
theorem dX9_next_28 : decode cX9_next 28 = .ok (.iconst 0, 1) := by decide +kernel
theorem dX9_next_29 : decode cX9_next 29 = .ok (.istore 4, 2) := by decide +kernel
theorem dX9_next_31 : decode cX9_next 31 = .ok (.iconst 0, 1) := by decide +kernel
theorem dX9_next_32 : decode cX9_next 32 = .ok (.istore 5, 2) := by decide +kernel
theorem dX9_next_34 : decode cX9_next 34 = .ok (.iload 5, 2) := by decide +kernel
theorem dX9_next_36 : decode cX9_next 36 = .ok (.bipush 12, 2) := by decide +kernel
theorem dX9_next_38 : decode cX9_next 38 = .ok (.if_icmp .ge 55, 3) := by decide +kernel
theorem dX9_next_41 : decode cX9_next 41 = .ok (.aload_n 0, 1) := by decide +kernel
theorem dX9_next_42 : decode cX9_next 42 = .ok (.getfield 40, 3) := by decide +kernel
theorem dX9_next_45 : decode cX9_next 45 = .ok (.iload 5, 2) := by decide +kernel
theorem dX9_next_47 : decode cX9_next 47 = .ok (.invokevirtual 273, 3) := by decide +kernel
theorem dX9_next_50 : decode cX9_next 50 = .ok (.ifCond .eq 37, 3) := by decide +kernel
theorem dX9_next_53 : decode cX9_next 53 = .ok (.iload_n 3, 1) := by decide +kernel
theorem dX9_next_54 : decode cX9_next 54 = .ok (.bipush (-9), 2) := by decide +kernel
theorem dX9_next_56 : decode cX9_next 56 = .ok (.if_icmp .eq 17, 3) := by decide +kernel
theorem dX9_next_59 : decode cX9_next 59 = .ok (.aload_n 0, 1) := by decide +kernel
theorem dX9_next_60 : decode cX9_next 60 = .ok (.getfield 67, 3) := by decide +kernel
theorem dX9_next_63 : decode cX9_next 63 = .ok (.iload 5, 2) := by decide +kernel
theorem dX9_next_65 : decode cX9_next 65 = .ok (.invokevirtual 274, 3) := by decide +kernel
theorem dX9_next_68 : decode cX9_next 68 = .ok (.iload 4, 2) := by decide +kernel
theorem dX9_next_70 : decode cX9_next 70 = .ok (.if_icmp .ge 17, 3) := by decide +kernel
theorem dX9_next_73 : decode cX9_next 73 = .ok (.iload 5, 2) := by decide +kernel
theorem dX9_next_75 : decode cX9_next 75 = .ok (.istore_n 3, 1) := by decide +kernel
theorem dX9_next_76 : decode cX9_next 76 = .ok (.aload_n 0, 1) := by decide +kernel
theorem dX9_next_77 : decode cX9_next 77 = .ok (.getfield 67, 3) := by decide +kernel
theorem dX9_next_80 : decode cX9_next 80 = .ok (.iload 5, 2) := by decide +kernel
theorem dX9_next_82 : decode cX9_next 82 = .ok (.invokevirtual 274, 3) := by decide +kernel
theorem dX9_next_85 : decode cX9_next 85 = .ok (.istore 4, 2) := by decide +kernel
theorem dX9_next_87 : decode cX9_next 87 = .ok (.iinc 5 1, 3) := by decide +kernel
theorem dX9_next_90 : decode cX9_next 90 = .ok (.goto (-56), 3) := by decide +kernel
theorem dX9_next_93 : decode cX9_next 93 = .ok (.iload_n 3, 1) := by decide +kernel
theorem dX9_next_94 : decode cX9_next 94 = .ok (.bipush (-9), 2) := by decide +kernel
theorem dX9_next_96 : decode cX9_next 96 = .ok (.if_icmp .eq 9, 3) := by decide +kernel
theorem dX9_next_99 : decode cX9_next 99 = .ok (.aload_n 0, 1) := by decide +kernel
theorem dX9_next_100 : decode cX9_next 100 = .ok (.iload 4, 2) := by decide +kernel
theorem dX9_next_102 : decode cX9_next 102 = .ok (.putfield 95, 3) := by decide +kernel
theorem dX9_next_105 : decode cX9_next 105 = .ok (.iload_n 3, 1) := by decide +kernel
theorem dX9_next_106 : decode cX9_next 106 = .ok (.ireturn, 1) := by decide +kernel
theorem dX9_judge_0 : decode cX9_judge 0 = .ok (.aload_n 0, 1) := by decide +kernel
theorem dX9_judge_1 : decode cX9_judge 1 = .ok (.iload_n 1, 1) := by decide +kernel
theorem dX9_judge_2 : decode cX9_judge 2 = .ok (.invokevirtual 127, 3) := by decide +kernel
theorem dX9_judge_5 : decode cX9_judge 5 = .ok (.istore_n 2, 1) := by decide +kernel
theorem dX9_judge_6 : decode cX9_judge 6 = .ok (.iload_n 2, 1) := by decide +kernel
theorem dX9_judge_7 : decode cX9_judge 7 = .ok (.ifCond .eq 5, 3) := by decide +kernel
theorem dX9_judge_10 : decode cX9_judge 10 = .ok (.iload_n 2, 1) := by decide +kernel
theorem dX9_judge_11 : decode cX9_judge 11 = .ok (.ireturn, 1) := by decide +kernel
theorem dX9_judge_12 : decode cX9_judge 12 = .ok (.aload_n 0, 1) := by decide +kernel
theorem dX9_judge_13 : decode cX9_judge 13 = .ok (.getfield 14, 3) := by decide +kernel
theorem dX9_judge_16 : decode cX9_judge 16 = .ok (.iload_n 1, 1) := by decide +kernel
theorem dX9_judge_17 : decode cX9_judge 17 = .ok (.invokevirtual 145, 3) := by decide +kernel
theorem dX9_judge_20 : decode cX9_judge 20 = .ok (.bipush 12, 2) := by decide +kernel
theorem dX9_judge_22 : decode cX9_judge 22 = .ok (.if_icmp .eq 9, 3) := by decide +kernel
theorem dX9_judge_25 : decode cX9_judge 25 = .ok (.aload_n 0, 1) := by decide +kernel
theorem dX9_judge_26 : decode cX9_judge 26 = .ok (.iconst 5, 1) := by decide +kernel
theorem dX9_judge_27 : decode cX9_judge 27 = .ok (.invokevirtual 109, 3) := by decide +kernel
theorem dX9_judge_30 : decode cX9_judge 30 = .ok (.ireturn, 1) := by decide +kernel
theorem dX9_judge_31 : decode cX9_judge 31 = .ok (.aload_n 0, 1) := by decide +kernel
theorem dX9_judge_32 : decode cX9_judge 32 = .ok (.getfield 14, 3) := by decide +kernel
theorem dX9_judge_35 : decode cX9_judge 35 = .ok (.iload_n 1, 1) := by decide +kernel
theorem dX9_judge_36 : decode cX9_judge 36 = .ok (.invokevirtual 294, 3) := by decide +kernel
theorem dX9_judge_39 : decode cX9_judge 39 = .ok (.astore_n 3, 1) := by decide +kernel
theorem dX9_judge_40 : decode cX9_judge 40 = .ok (.iconst 0, 1) := by decide +kernel
theorem dX9_judge_41 : decode cX9_judge 41 = .ok (.istore 4, 2) := by decide +kernel
theorem dX9_judge_43 : decode cX9_judge 43 = .ok (.iload 4, 2) := by decide +kernel
theorem dX9_judge_45 : decode cX9_judge 45 = .ok (.bipush 12, 2) := by decide +kernel
theorem dX9_judge_47 : decode cX9_judge 47 = .ok (.if_icmp .ge 28, 3) := by decide +kernel
theorem dX9_judge_50 : decode cX9_judge 50 = .ok (.aload_n 0, 1) := by decide +kernel
theorem dX9_judge_51 : decode cX9_judge 51 = .ok (.getfield 40, 3) := by decide +kernel
theorem dX9_judge_54 : decode cX9_judge 54 = .ok (.iload 4, 2) := by decide +kernel
theorem dX9_judge_56 : decode cX9_judge 56 = .ok (.aload_n 3, 1) := by decide +kernel
theorem dX9_judge_57 : decode cX9_judge 57 = .ok (.invokevirtual 298, 3) := by decide +kernel
theorem dX9_judge_60 : decode cX9_judge 60 = .ok (.ifCond .ne 9, 3) := by decide +kernel
theorem dX9_judge_63 : decode cX9_judge 63 = .ok (.bipush 100, 2) := by decide +kernel
theorem dX9_judge_65 : decode cX9_judge 65 = .ok (.iload 4, 2) := by decide +kernel
theorem dX9_judge_67 : decode cX9_judge 67 = .ok (.iadd, 1) := by decide +kernel
theorem dX9_judge_68 : decode cX9_judge 68 = .ok (.ireturn, 1) := by decide +kernel
theorem dX9_judge_69 : decode cX9_judge 69 = .ok (.iinc 4 1, 3) := by decide +kernel
theorem dX9_judge_72 : decode cX9_judge 72 = .ok (.goto (-29), 3) := by decide +kernel
theorem dX9_judge_75 : decode cX9_judge 75 = .ok (.iconst 0, 1) := by decide +kernel
theorem dX9_judge_76 : decode cX9_judge 76 = .ok (.istore 4, 2) := by decide +kernel
theorem dX9_judge_78 : decode cX9_judge 78 = .ok (.iload 4, 2) := by decide +kernel
theorem dX9_judge_80 : decode cX9_judge 80 = .ok (.aload_n 0, 1) := by decide +kernel
theorem dX9_judge_81 : decode cX9_judge 81 = .ok (.getfield 49, 3) := by decide +kernel
theorem dX9_judge_84 : decode cX9_judge 84 = .ok (.invokevirtual 175, 3) := by decide +kernel
theorem dX9_judge_87 : decode cX9_judge 87 = .ok (.if_icmp .ge 29, 3) := by decide +kernel
theorem dX9_judge_90 : decode cX9_judge 90 = .ok (.aload_n 0, 1) := by decide +kernel
theorem dX9_judge_91 : decode cX9_judge 91 = .ok (.getfield 49, 3) := by decide +kernel
theorem dX9_judge_94 : decode cX9_judge 94 = .ok (.iload 4, 2) := by decide +kernel
theorem dX9_judge_96 : decode cX9_judge 96 = .ok (.aload_n 3, 1) := by decide +kernel
theorem dX9_judge_97 : decode cX9_judge 97 = .ok (.invokevirtual 302, 3) := by decide +kernel
theorem dX9_judge_100 : decode cX9_judge 100 = .ok (.ifCond .ne 10, 3) := by decide +kernel
theorem dX9_judge_103 : decode cX9_judge 103 = .ok (.sipush 200, 3) := by decide +kernel
theorem dX9_judge_106 : decode cX9_judge 106 = .ok (.iload 4, 2) := by decide +kernel
theorem dX9_judge_108 : decode cX9_judge 108 = .ok (.iadd, 1) := by decide +kernel
theorem dX9_judge_109 : decode cX9_judge 109 = .ok (.ireturn, 1) := by decide +kernel
theorem dX9_judge_110 : decode cX9_judge 110 = .ok (.iinc 4 1, 3) := by decide +kernel
theorem dX9_judge_113 : decode cX9_judge 113 = .ok (.goto (-35), 3) := by decide +kernel
theorem dX9_judge_116 : decode cX9_judge 116 = .ok (.bipush (-9), 2) := by decide +kernel
theorem dX9_judge_118 : decode cX9_judge 118 = .ok (.ireturn, 1) := by decide +kernel
theorem dX9_orders_0 : decode cX9_orders 0 = .ok (.aload_n 0, 1) := by decide +kernel
theorem dX9_orders_1 : decode cX9_orders 1 = .ok (.iload_n 1, 1) := by decide +kernel
theorem dX9_orders_2 : decode cX9_orders 2 = .ok (.invokevirtual 127, 3) := by decide +kernel
theorem dX9_orders_5 : decode cX9_orders 5 = .ok (.istore_n 2, 1) := by decide +kernel
theorem dX9_orders_6 : decode cX9_orders 6 = .ok (.iload_n 2, 1) := by decide +kernel
theorem dX9_orders_7 : decode cX9_orders 7 = .ok (.ifCond .eq 5, 3) := by decide +kernel
theorem dX9_orders_10 : decode cX9_orders 10 = .ok (.iload_n 2, 1) := by decide +kernel
theorem dX9_orders_11 : decode cX9_orders 11 = .ok (.ireturn, 1) := by decide +kernel
theorem dX9_orders_12 : decode cX9_orders 12 = .ok (.aload_n 0, 1) := by decide +kernel
theorem dX9_orders_13 : decode cX9_orders 13 = .ok (.getfield 14, 3) := by decide +kernel
theorem dX9_orders_16 : decode cX9_orders 16 = .ok (.iload_n 1, 1) := by decide +kernel
theorem dX9_orders_17 : decode cX9_orders 17 = .ok (.invokevirtual 145, 3) := by decide +kernel
theorem dX9_orders_20 : decode cX9_orders 20 = .ok (.istore_n 3, 1) := by decide +kernel
theorem dX9_orders_21 : decode cX9_orders 21 = .ok (.iload_n 3, 1) := by decide +kernel
theorem dX9_orders_22 : decode cX9_orders 22 = .ok (.iconst 2, 1) := by decide +kernel
theorem dX9_orders_23 : decode cX9_orders 23 = .ok (.if_icmp .lt 15, 3) := by decide +kernel
theorem dX9_orders_26 : decode cX9_orders 26 = .ok (.iload_n 3, 1) := by decide +kernel
theorem dX9_orders_27 : decode cX9_orders 27 = .ok (.bipush 12, 2) := by decide +kernel
theorem dX9_orders_29 : decode cX9_orders 29 = .ok (.if_icmp .gt 9, 3) := by decide +kernel
theorem dX9_orders_32 : decode cX9_orders 32 = .ok (.iload_n 3, 1) := by decide +kernel
theorem dX9_orders_33 : decode cX9_orders 33 = .ok (.iconst 2, 1) := by decide +kernel
theorem dX9_orders_34 : decode cX9_orders 34 = .ok (.irem, 1) := by decide +kernel
theorem dX9_orders_35 : decode cX9_orders 35 = .ok (.ifCond .eq 9, 3) := by decide +kernel
theorem dX9_orders_38 : decode cX9_orders 38 = .ok (.aload_n 0, 1) := by decide +kernel
theorem dX9_orders_39 : decode cX9_orders 39 = .ok (.iconst 5, 1) := by decide +kernel
theorem dX9_orders_40 : decode cX9_orders 40 = .ok (.invokevirtual 109, 3) := by decide +kernel
theorem dX9_orders_43 : decode cX9_orders 43 = .ok (.ireturn, 1) := by decide +kernel
theorem dX9_orders_44 : decode cX9_orders 44 = .ok (.iconst 0, 1) := by decide +kernel
theorem dX9_orders_45 : decode cX9_orders 45 = .ok (.istore 4, 2) := by decide +kernel
theorem dX9_orders_47 : decode cX9_orders 47 = .ok (.iload 4, 2) := by decide +kernel
theorem dX9_orders_49 : decode cX9_orders 49 = .ok (.iload_n 3, 1) := by decide +kernel
theorem dX9_orders_50 : decode cX9_orders 50 = .ok (.if_icmp .ge 47, 3) := by decide +kernel
theorem dX9_orders_53 : decode cX9_orders 53 = .ok (.aload_n 0, 1) := by decide +kernel
theorem dX9_orders_54 : decode cX9_orders 54 = .ok (.getfield 14, 3) := by decide +kernel
theorem dX9_orders_57 : decode cX9_orders 57 = .ok (.iload_n 1, 1) := by decide +kernel
theorem dX9_orders_58 : decode cX9_orders 58 = .ok (.iload 4, 2) := by decide +kernel
theorem dX9_orders_60 : decode cX9_orders 60 = .ok (.invokevirtual 121, 3) := by decide +kernel
theorem dX9_orders_63 : decode cX9_orders 63 = .ok (.istore 5, 2) := by decide +kernel
theorem dX9_orders_65 : decode cX9_orders 65 = .ok (.iload 5, 2) := by decide +kernel
theorem dX9_orders_67 : decode cX9_orders 67 = .ok (.bipush (-9), 2) := by decide +kernel
theorem dX9_orders_69 : decode cX9_orders 69 = .ok (.if_icmp .eq 22, 3) := by decide +kernel
theorem dX9_orders_72 : decode cX9_orders 72 = .ok (.iload 5, 2) := by decide +kernel
theorem dX9_orders_74 : decode cX9_orders 74 = .ok (.ifCond .lt 11, 3) := by decide +kernel
theorem dX9_orders_77 : decode cX9_orders 77 = .ok (.iload 5, 2) := by decide +kernel
theorem dX9_orders_79 : decode cX9_orders 79 = .ok (.sipush 9999, 3) := by decide +kernel
theorem dX9_orders_82 : decode cX9_orders 82 = .ok (.if_icmp .le 9, 3) := by decide +kernel
theorem dX9_orders_85 : decode cX9_orders 85 = .ok (.aload_n 0, 1) := by decide +kernel
theorem dX9_orders_86 : decode cX9_orders 86 = .ok (.iconst 3, 1) := by decide +kernel
theorem dX9_orders_87 : decode cX9_orders 87 = .ok (.invokevirtual 109, 3) := by decide +kernel
theorem dX9_orders_90 : decode cX9_orders 90 = .ok (.ireturn, 1) := by decide +kernel
theorem dX9_orders_91 : decode cX9_orders 91 = .ok (.iinc 4 1, 3) := by decide +kernel
theorem dX9_orders_94 : decode cX9_orders 94 = .ok (.goto (-47), 3) := by decide +kernel
theorem dX9_orders_97 : decode cX9_orders 97 = .ok (.aload_n 0, 1) := by decide +kernel
theorem dX9_orders_98 : decode cX9_orders 98 = .ok (.getfield 74, 3) := by decide +kernel
theorem dX9_orders_101 : decode cX9_orders 101 = .ok (.aload_n 0, 1) := by decide +kernel
theorem dX9_orders_102 : decode cX9_orders 102 = .ok (.getfield 14, 3) := by decide +kernel
theorem dX9_orders_105 : decode cX9_orders 105 = .ok (.iload_n 1, 1) := by decide +kernel
theorem dX9_orders_106 : decode cX9_orders 106 = .ok (.invokevirtual 305, 3) := by decide +kernel
theorem dX9_orders_109 : decode cX9_orders 109 = .ok (.aload_n 0, 1) := by decide +kernel
theorem dX9_orders_110 : decode cX9_orders 110 = .ok (.aload_n 0, 1) := by decide +kernel
theorem dX9_orders_111 : decode cX9_orders 111 = .ok (.getfield 74, 3) := by decide +kernel
theorem dX9_orders_114 : decode cX9_orders 114 = .ok (.invokevirtual 308, 3) := by decide +kernel
theorem dX9_orders_117 : decode cX9_orders 117 = .ok (.putfield 95, 3) := by decide +kernel
theorem dX9_orders_120 : decode cX9_orders 120 = .ok (.aload_n 0, 1) := by decide +kernel
theorem dX9_orders_121 : decode cX9_orders 121 = .ok (.getfield 74, 3) := by decide +kernel
theorem dX9_orders_124 : decode cX9_orders 124 = .ok (.invokevirtual 311, 3) := by decide +kernel
theorem dX9_orders_127 : decode cX9_orders 127 = .ok (.ireturn, 1) := by decide +kernel
theorem dX9_matches_0 : decode cX9_matches 0 = .ok (.aload_n 0, 1) := by decide +kernel
theorem dX9_matches_1 : decode cX9_matches 1 = .ok (.invokevirtual 215, 3) := by decide +kernel
theorem dX9_matches_4 : decode cX9_matches 4 = .ok (.aload_n 0, 1) := by decide +kernel
theorem dX9_matches_5 : decode cX9_matches 5 = .ok (.getfield 83, 3) := by decide +kernel
theorem dX9_matches_8 : decode cX9_matches 8 = .ok (.invokevirtual 314, 3) := by decide +kernel
theorem dX9_matches_11 : decode cX9_matches 11 = .ok (.aload_n 0, 1) := by decide +kernel
theorem dX9_matches_12 : decode cX9_matches 12 = .ok (.aload_n 0, 1) := by decide +kernel
theorem dX9_matches_13 : decode cX9_matches 13 = .ok (.getfield 83, 3) := by decide +kernel
theorem dX9_matches_16 : decode cX9_matches 16 = .ok (.invokevirtual 317, 3) := by decide +kernel
theorem dX9_matches_19 : decode cX9_matches 19 = .ok (.putfield 95, 3) := by decide +kernel
theorem dX9_matches_22 : decode cX9_matches 22 = .ok (.aload_n 0, 1) := by decide +kernel
theorem dX9_matches_23 : decode cX9_matches 23 = .ok (.getfield 83, 3) := by decide +kernel
theorem dX9_matches_26 : decode cX9_matches 26 = .ok (.invokevirtual 320, 3) := by decide +kernel
theorem dX9_matches_29 : decode cX9_matches 29 = .ok (.ireturn, 1) := by decide +kernel
theorem dX9_asked_0 : decode cX9_asked 0 = .ok (.aload_n 0, 1) := by decide +kernel
theorem dX9_asked_1 : decode cX9_asked 1 = .ok (.getfield 95, 3) := by decide +kernel
theorem dX9_asked_4 : decode cX9_asked 4 = .ok (.ireturn, 1) := by decide +kernel
theorem dX9_upper_0 : decode cX9_upper 0 = .ok (.aload_n 0, 1) := by decide +kernel
theorem dX9_upper_1 : decode cX9_upper 1 = .ok (.getfield 98, 3) := by decide +kernel
theorem dX9_upper_4 : decode cX9_upper 4 = .ok (.lreturn, 1) := by decide +kernel
theorem dX9_lower_0 : decode cX9_lower 0 = .ok (.aload_n 0, 1) := by decide +kernel
theorem dX9_lower_1 : decode cX9_lower 1 = .ok (.getfield 102, 3) := by decide +kernel
theorem dX9_lower_4 : decode cX9_lower 4 = .ok (.lreturn, 1) := by decide +kernel
theorem dX9_there_0 : decode cX9_there 0 = .ok (.iload_n 1, 1) := by decide +kernel
theorem dX9_there_1 : decode cX9_there 1 = .ok (.tableswitch 75 0 4 #[35, 43, 51, 59, 67], 35) := by decide +kernel
theorem dX9_there_36 : decode cX9_there 36 = .ok (.aload_n 0, 1) := by decide +kernel
theorem dX9_there_37 : decode cX9_there 37 = .ok (.getfield 40, 3) := by decide +kernel
theorem dX9_there_40 : decode cX9_there 40 = .ok (.invokevirtual 165, 3) := by decide +kernel
theorem dX9_there_43 : decode cX9_there 43 = .ok (.ireturn, 1) := by decide +kernel
theorem dX9_there_44 : decode cX9_there 44 = .ok (.aload_n 0, 1) := by decide +kernel
theorem dX9_there_45 : decode cX9_there 45 = .ok (.getfield 49, 3) := by decide +kernel
theorem dX9_there_48 : decode cX9_there 48 = .ok (.invokevirtual 175, 3) := by decide +kernel
theorem dX9_there_51 : decode cX9_there 51 = .ok (.ireturn, 1) := by decide +kernel
theorem dX9_there_52 : decode cX9_there 52 = .ok (.aload_n 0, 1) := by decide +kernel
theorem dX9_there_53 : decode cX9_there 53 = .ok (.getfield 31, 3) := by decide +kernel
theorem dX9_there_56 : decode cX9_there 56 = .ok (.invokevirtual 195, 3) := by decide +kernel
theorem dX9_there_59 : decode cX9_there 59 = .ok (.ireturn, 1) := by decide +kernel
theorem dX9_there_60 : decode cX9_there 60 = .ok (.aload_n 0, 1) := by decide +kernel
theorem dX9_there_61 : decode cX9_there 61 = .ok (.getfield 14, 3) := by decide +kernel
theorem dX9_there_64 : decode cX9_there 64 = .ok (.invokevirtual 323, 3) := by decide +kernel
theorem dX9_there_67 : decode cX9_there 67 = .ok (.ireturn, 1) := by decide +kernel
theorem dX9_there_68 : decode cX9_there 68 = .ok (.aload_n 0, 1) := by decide +kernel
theorem dX9_there_69 : decode cX9_there 69 = .ok (.getfield 18, 3) := by decide +kernel
theorem dX9_there_72 : decode cX9_there 72 = .ok (.invokevirtual 323, 3) := by decide +kernel
theorem dX9_there_75 : decode cX9_there 75 = .ok (.ireturn, 1) := by decide +kernel
theorem dX9_there_76 : decode cX9_there 76 = .ok (.iconst (-1), 1) := by decide +kernel
theorem dX9_there_77 : decode cX9_there 77 = .ok (.ireturn, 1) := by decide +kernel
theorem dX9_finding_0 : decode cX9_finding 0 = .ok (.aload_n 0, 1) := by decide +kernel
theorem dX9_finding_1 : decode cX9_finding 1 = .ok (.getfield 91, 3) := by decide +kernel
theorem dX9_finding_4 : decode cX9_finding 4 = .ok (.ireturn, 1) := by decide +kernel
theorem dX9_findings_0 : decode cX9_findings 0 = .ok (.iload_n 1, 1) := by decide +kernel
theorem dX9_findings_1 : decode cX9_findings 1 = .ok (.iconst 1, 1) := by decide +kernel
theorem dX9_findings_2 : decode cX9_findings 2 = .ok (.if_icmp .lt 8, 3) := by decide +kernel
theorem dX9_findings_5 : decode cX9_findings 5 = .ok (.iload_n 1, 1) := by decide +kernel
theorem dX9_findings_6 : decode cX9_findings 6 = .ok (.iconst 5, 1) := by decide +kernel
theorem dX9_findings_7 : decode cX9_findings 7 = .ok (.if_icmp .le 5, 3) := by decide +kernel
theorem dX9_findings_10 : decode cX9_findings 10 = .ok (.iconst (-1), 1) := by decide +kernel
theorem dX9_findings_11 : decode cX9_findings 11 = .ok (.ireturn, 1) := by decide +kernel
theorem dX9_findings_12 : decode cX9_findings 12 = .ok (.aload_n 0, 1) := by decide +kernel
theorem dX9_findings_13 : decode cX9_findings 13 = .ok (.getfield 87, 3) := by decide +kernel
theorem dX9_findings_16 : decode cX9_findings 16 = .ok (.iload_n 1, 1) := by decide +kernel
theorem dX9_findings_17 : decode cX9_findings 17 = .ok (.iaload, 1) := by decide +kernel
theorem dX9_findings_18 : decode cX9_findings 18 = .ok (.ireturn, 1) := by decide +kernel
theorem dX9_digest_0 : decode cX9_digest 0 = .ok (.ldc2_w 324, 3) := by decide +kernel
theorem dX9_digest_3 : decode cX9_digest 3 = .ok (.lstore_n 1, 1) := by decide +kernel
theorem dX9_digest_4 : decode cX9_digest 4 = .ok (.iconst 0, 1) := by decide +kernel
theorem dX9_digest_5 : decode cX9_digest 5 = .ok (.istore_n 3, 1) := by decide +kernel
theorem dX9_digest_6 : decode cX9_digest 6 = .ok (.iload_n 3, 1) := by decide +kernel
theorem dX9_digest_7 : decode cX9_digest 7 = .ok (.iconst 4, 1) := by decide +kernel
theorem dX9_digest_8 : decode cX9_digest 8 = .ok (.if_icmp .gt 22, 3) := by decide +kernel
theorem dX9_digest_11 : decode cX9_digest 11 = .ok (.ldc2_w 326, 3) := by decide +kernel
theorem dX9_digest_14 : decode cX9_digest 14 = .ok (.lload_n 1, 1) := by decide +kernel
theorem dX9_digest_15 : decode cX9_digest 15 = .ok (.lmul, 1) := by decide +kernel
theorem dX9_digest_16 : decode cX9_digest 16 = .ok (.aload_n 0, 1) := by decide +kernel
theorem dX9_digest_17 : decode cX9_digest 17 = .ok (.iload_n 3, 1) := by decide +kernel
theorem dX9_digest_18 : decode cX9_digest 18 = .ok (.invokevirtual 328, 3) := by decide +kernel
theorem dX9_digest_21 : decode cX9_digest 21 = .ok (.i2l, 1) := by decide +kernel
theorem dX9_digest_22 : decode cX9_digest 22 = .ok (.ladd, 1) := by decide +kernel
theorem dX9_digest_23 : decode cX9_digest 23 = .ok (.lstore_n 1, 1) := by decide +kernel
theorem dX9_digest_24 : decode cX9_digest 24 = .ok (.iinc 3 1, 3) := by decide +kernel
theorem dX9_digest_27 : decode cX9_digest 27 = .ok (.goto (-21), 3) := by decide +kernel
theorem dX9_digest_30 : decode cX9_digest 30 = .ok (.aload_n 0, 1) := by decide +kernel
theorem dX9_digest_31 : decode cX9_digest 31 = .ok (.getfield 58, 3) := by decide +kernel
theorem dX9_digest_34 : decode cX9_digest 34 = .ok (.invokevirtual 212, 3) := by decide +kernel
theorem dX9_digest_37 : decode cX9_digest 37 = .ok (.iconst 0, 1) := by decide +kernel
theorem dX9_digest_38 : decode cX9_digest 38 = .ok (.istore_n 3, 1) := by decide +kernel
theorem dX9_digest_39 : decode cX9_digest 39 = .ok (.iload_n 3, 1) := by decide +kernel
theorem dX9_digest_40 : decode cX9_digest 40 = .ok (.bipush 12, 2) := by decide +kernel
theorem dX9_digest_42 : decode cX9_digest 42 = .ok (.if_icmp .ge 68, 3) := by decide +kernel
theorem dX9_digest_45 : decode cX9_digest 45 = .ok (.ldc2_w 326, 3) := by decide +kernel
theorem dX9_digest_48 : decode cX9_digest 48 = .ok (.lload_n 1, 1) := by decide +kernel
theorem dX9_digest_49 : decode cX9_digest 49 = .ok (.lmul, 1) := by decide +kernel
theorem dX9_digest_50 : decode cX9_digest 50 = .ok (.aload_n 0, 1) := by decide +kernel
theorem dX9_digest_51 : decode cX9_digest 51 = .ok (.getfield 40, 3) := by decide +kernel
theorem dX9_digest_54 : decode cX9_digest 54 = .ok (.iload_n 3, 1) := by decide +kernel
theorem dX9_digest_55 : decode cX9_digest 55 = .ok (.invokevirtual 202, 3) := by decide +kernel
theorem dX9_digest_58 : decode cX9_digest 58 = .ok (.i2l, 1) := by decide +kernel
theorem dX9_digest_59 : decode cX9_digest 59 = .ok (.ladd, 1) := by decide +kernel
theorem dX9_digest_60 : decode cX9_digest 60 = .ok (.lstore_n 1, 1) := by decide +kernel
theorem dX9_digest_61 : decode cX9_digest 61 = .ok (.aload_n 0, 1) := by decide +kernel
theorem dX9_digest_62 : decode cX9_digest 62 = .ok (.getfield 40, 3) := by decide +kernel
theorem dX9_digest_65 : decode cX9_digest 65 = .ok (.iload_n 3, 1) := by decide +kernel
theorem dX9_digest_66 : decode cX9_digest 66 = .ok (.invokevirtual 273, 3) := by decide +kernel
theorem dX9_digest_69 : decode cX9_digest 69 = .ok (.ifCond .eq 35, 3) := by decide +kernel
theorem dX9_digest_72 : decode cX9_digest 72 = .ok (.ldc2_w 326, 3) := by decide +kernel
theorem dX9_digest_75 : decode cX9_digest 75 = .ok (.lload_n 1, 1) := by decide +kernel
theorem dX9_digest_76 : decode cX9_digest 76 = .ok (.lmul, 1) := by decide +kernel
theorem dX9_digest_77 : decode cX9_digest 77 = .ok (.aload_n 0, 1) := by decide +kernel
theorem dX9_digest_78 : decode cX9_digest 78 = .ok (.getfield 40, 3) := by decide +kernel
theorem dX9_digest_81 : decode cX9_digest 81 = .ok (.iload_n 3, 1) := by decide +kernel
theorem dX9_digest_82 : decode cX9_digest 82 = .ok (.invokevirtual 209, 3) := by decide +kernel
theorem dX9_digest_85 : decode cX9_digest 85 = .ok (.i2l, 1) := by decide +kernel
theorem dX9_digest_86 : decode cX9_digest 86 = .ok (.ladd, 1) := by decide +kernel
theorem dX9_digest_87 : decode cX9_digest 87 = .ok (.lstore_n 1, 1) := by decide +kernel
theorem dX9_digest_88 : decode cX9_digest 88 = .ok (.ldc2_w 326, 3) := by decide +kernel
theorem dX9_digest_91 : decode cX9_digest 91 = .ok (.lload_n 1, 1) := by decide +kernel
theorem dX9_digest_92 : decode cX9_digest 92 = .ok (.lmul, 1) := by decide +kernel
theorem dX9_digest_93 : decode cX9_digest 93 = .ok (.aload_n 0, 1) := by decide +kernel
theorem dX9_digest_94 : decode cX9_digest 94 = .ok (.getfield 58, 3) := by decide +kernel
theorem dX9_digest_97 : decode cX9_digest 97 = .ok (.iload_n 3, 1) := by decide +kernel
theorem dX9_digest_98 : decode cX9_digest 98 = .ok (.invokevirtual 218, 3) := by decide +kernel
theorem dX9_digest_101 : decode cX9_digest 101 = .ok (.i2l, 1) := by decide +kernel
theorem dX9_digest_102 : decode cX9_digest 102 = .ok (.ladd, 1) := by decide +kernel
theorem dX9_digest_103 : decode cX9_digest 103 = .ok (.lstore_n 1, 1) := by decide +kernel
theorem dX9_digest_104 : decode cX9_digest 104 = .ok (.iinc 3 1, 3) := by decide +kernel
theorem dX9_digest_107 : decode cX9_digest 107 = .ok (.goto (-68), 3) := by decide +kernel
theorem dX9_digest_110 : decode cX9_digest 110 = .ok (.aload_n 0, 1) := by decide +kernel
theorem dX9_digest_111 : decode cX9_digest 111 = .ok (.getfield 49, 3) := by decide +kernel
theorem dX9_digest_114 : decode cX9_digest 114 = .ok (.lload_n 1, 1) := by decide +kernel
theorem dX9_digest_115 : decode cX9_digest 115 = .ok (.invokevirtual 331, 3) := by decide +kernel
theorem dX9_digest_118 : decode cX9_digest 118 = .ok (.lstore_n 1, 1) := by decide +kernel
theorem dX9_digest_119 : decode cX9_digest 119 = .ok (.aload_n 0, 1) := by decide +kernel
theorem dX9_digest_120 : decode cX9_digest 120 = .ok (.getfield 31, 3) := by decide +kernel
theorem dX9_digest_123 : decode cX9_digest 123 = .ok (.lload_n 1, 1) := by decide +kernel
theorem dX9_digest_124 : decode cX9_digest 124 = .ok (.invokevirtual 335, 3) := by decide +kernel
theorem dX9_digest_127 : decode cX9_digest 127 = .ok (.lstore_n 1, 1) := by decide +kernel
theorem dX9_digest_128 : decode cX9_digest 128 = .ok (.aload_n 0, 1) := by decide +kernel
theorem dX9_digest_129 : decode cX9_digest 129 = .ok (.getfield 14, 3) := by decide +kernel
theorem dX9_digest_132 : decode cX9_digest 132 = .ok (.lload_n 1, 1) := by decide +kernel
theorem dX9_digest_133 : decode cX9_digest 133 = .ok (.invokevirtual 336, 3) := by decide +kernel
theorem dX9_digest_136 : decode cX9_digest 136 = .ok (.lstore_n 1, 1) := by decide +kernel
theorem dX9_digest_137 : decode cX9_digest 137 = .ok (.aload_n 0, 1) := by decide +kernel
theorem dX9_digest_138 : decode cX9_digest 138 = .ok (.getfield 18, 3) := by decide +kernel
theorem dX9_digest_141 : decode cX9_digest 141 = .ok (.lload_n 1, 1) := by decide +kernel
theorem dX9_digest_142 : decode cX9_digest 142 = .ok (.invokevirtual 336, 3) := by decide +kernel
theorem dX9_digest_145 : decode cX9_digest 145 = .ok (.lreturn, 1) := by decide +kernel
theorem dX9_found_0 : decode cX9_found 0 = .ok (.aload_n 0, 1) := by decide +kernel
theorem dX9_found_1 : decode cX9_found 1 = .ok (.iload_n 1, 1) := by decide +kernel
theorem dX9_found_2 : decode cX9_found 2 = .ok (.putfield 91, 3) := by decide +kernel
theorem dX9_found_5 : decode cX9_found 5 = .ok (.aload_n 0, 1) := by decide +kernel
theorem dX9_found_6 : decode cX9_found 6 = .ok (.getfield 87, 3) := by decide +kernel
theorem dX9_found_9 : decode cX9_found 9 = .ok (.iload_n 1, 1) := by decide +kernel
theorem dX9_found_10 : decode cX9_found 10 = .ok (.dup2, 1) := by decide +kernel
theorem dX9_found_11 : decode cX9_found 11 = .ok (.iaload, 1) := by decide +kernel
theorem dX9_found_12 : decode cX9_found 12 = .ok (.iconst 1, 1) := by decide +kernel
theorem dX9_found_13 : decode cX9_found 13 = .ok (.iadd, 1) := by decide +kernel
theorem dX9_found_14 : decode cX9_found 14 = .ok (.iastore, 1) := by decide +kernel
theorem dX9_found_15 : decode cX9_found 15 = .ok (.bipush (-3), 2) := by decide +kernel
theorem dX9_found_17 : decode cX9_found 17 = .ok (.ireturn, 1) := by decide +kernel
theorem dX9_isRow_0 : decode cX9_isRow 0 = .ok (.iload_n 0, 1) := by decide +kernel
theorem dX9_isRow_1 : decode cX9_isRow 1 = .ok (.ifCond .lt 13, 3) := by decide +kernel
theorem dX9_isRow_4 : decode cX9_isRow 4 = .ok (.iload_n 0, 1) := by decide +kernel
theorem dX9_isRow_5 : decode cX9_isRow 5 = .ok (.bipush 6, 2) := by decide +kernel
theorem dX9_isRow_7 : decode cX9_isRow 7 = .ok (.if_icmp .ge 7, 3) := by decide +kernel
theorem dX9_isRow_10 : decode cX9_isRow 10 = .ok (.iconst 1, 1) := by decide +kernel
theorem dX9_isRow_11 : decode cX9_isRow 11 = .ok (.goto 4, 3) := by decide +kernel
theorem dX9_isRow_14 : decode cX9_isRow 14 = .ok (.iconst 0, 1) := by decide +kernel
theorem dX9_isRow_15 : decode cX9_isRow 15 = .ok (.ireturn, 1) := by decide +kernel
theorem dX9_isText_0 : decode cX9_isText 0 = .ok (.iload_n 0, 1) := by decide +kernel
theorem dX9_isText_1 : decode cX9_isText 1 = .ok (.ifCond .lt 12, 3) := by decide +kernel
theorem dX9_isText_4 : decode cX9_isText 4 = .ok (.iload_n 0, 1) := by decide +kernel
theorem dX9_isText_5 : decode cX9_isText 5 = .ok (.iconst 4, 1) := by decide +kernel
theorem dX9_isText_6 : decode cX9_isText 6 = .ok (.if_icmp .ge 7, 3) := by decide +kernel
theorem dX9_isText_9 : decode cX9_isText 9 = .ok (.iconst 1, 1) := by decide +kernel
theorem dX9_isText_10 : decode cX9_isText 10 = .ok (.goto 4, 3) := by decide +kernel
theorem dX9_isText_13 : decode cX9_isText 13 = .ok (.iconst 0, 1) := by decide +kernel
theorem dX9_isText_14 : decode cX9_isText 14 = .ok (.ireturn, 1) := by decide +kernel
theorem dX9_isCell_0 : decode cX9_isCell 0 = .ok (.iload_n 0, 1) := by decide +kernel
theorem dX9_isCell_1 : decode cX9_isCell 1 = .ok (.ifCond .lt 13, 3) := by decide +kernel
theorem dX9_isCell_4 : decode cX9_isCell 4 = .ok (.iload_n 0, 1) := by decide +kernel
theorem dX9_isCell_5 : decode cX9_isCell 5 = .ok (.bipush 12, 2) := by decide +kernel
theorem dX9_isCell_7 : decode cX9_isCell 7 = .ok (.if_icmp .ge 7, 3) := by decide +kernel
theorem dX9_isCell_10 : decode cX9_isCell 10 = .ok (.iconst 1, 1) := by decide +kernel
theorem dX9_isCell_11 : decode cX9_isCell 11 = .ok (.goto 4, 3) := by decide +kernel
theorem dX9_isCell_14 : decode cX9_isCell 14 = .ok (.iconst 0, 1) := by decide +kernel
theorem dX9_isCell_15 : decode cX9_isCell 15 = .ok (.ireturn, 1) := by decide +kernel
theorem dX9_isNumber_0 : decode cX9_isNumber 0 = .ok (.iload_n 0, 1) := by decide +kernel
theorem dX9_isNumber_1 : decode cX9_isNumber 1 = .ok (.ifCond .lt 13, 3) := by decide +kernel
theorem dX9_isNumber_4 : decode cX9_isNumber 4 = .ok (.iload_n 0, 1) := by decide +kernel
theorem dX9_isNumber_5 : decode cX9_isNumber 5 = .ok (.bipush 100, 2) := by decide +kernel
theorem dX9_isNumber_7 : decode cX9_isNumber 7 = .ok (.if_icmp .ge 7, 3) := by decide +kernel
theorem dX9_isNumber_10 : decode cX9_isNumber 10 = .ok (.iconst 1, 1) := by decide +kernel
theorem dX9_isNumber_11 : decode cX9_isNumber 11 = .ok (.goto 4, 3) := by decide +kernel
theorem dX9_isNumber_14 : decode cX9_isNumber 14 = .ok (.iconst 0, 1) := by decide +kernel
theorem dX9_isNumber_15 : decode cX9_isNumber 15 = .ok (.ireturn, 1) := by decide +kernel
theorem dX9_isCellBits_0 : decode cX9_isCellBits 0 = .ok (.iload_n 0, 1) := by decide +kernel
theorem dX9_isCellBits_1 : decode cX9_isCellBits 1 = .ok (.ifCond .lt 14, 3) := by decide +kernel
theorem dX9_isCellBits_4 : decode cX9_isCellBits 4 = .ok (.iload_n 0, 1) := by decide +kernel
theorem dX9_isCellBits_5 : decode cX9_isCellBits 5 = .ok (.sipush 4096, 3) := by decide +kernel
theorem dX9_isCellBits_8 : decode cX9_isCellBits 8 = .ok (.if_icmp .ge 7, 3) := by decide +kernel
theorem dX9_isCellBits_11 : decode cX9_isCellBits 11 = .ok (.iconst 1, 1) := by decide +kernel
theorem dX9_isCellBits_12 : decode cX9_isCellBits 12 = .ok (.goto 4, 3) := by decide +kernel
theorem dX9_isCellBits_15 : decode cX9_isCellBits 15 = .ok (.iconst 0, 1) := by decide +kernel
theorem dX9_isCellBits_16 : decode cX9_isCellBits 16 = .ok (.ireturn, 1) := by decide +kernel
theorem dX9_isTotal_0 : decode cX9_isTotal 0 = .ok (.iload_n 0, 1) := by decide +kernel
theorem dX9_isTotal_1 : decode cX9_isTotal 1 = .ok (.sipush (-999), 3) := by decide +kernel
theorem dX9_isTotal_4 : decode cX9_isTotal 4 = .ok (.if_icmp .lt 14, 3) := by decide +kernel
theorem dX9_isTotal_7 : decode cX9_isTotal 7 = .ok (.iload_n 0, 1) := by decide +kernel
theorem dX9_isTotal_8 : decode cX9_isTotal 8 = .ok (.sipush 9999, 3) := by decide +kernel
theorem dX9_isTotal_11 : decode cX9_isTotal 11 = .ok (.if_icmp .gt 7, 3) := by decide +kernel
theorem dX9_isTotal_14 : decode cX9_isTotal 14 = .ok (.iconst 1, 1) := by decide +kernel
theorem dX9_isTotal_15 : decode cX9_isTotal 15 = .ok (.goto 4, 3) := by decide +kernel
theorem dX9_isTotal_18 : decode cX9_isTotal 18 = .ok (.iconst 0, 1) := by decide +kernel
theorem dX9_isTotal_19 : decode cX9_isTotal 19 = .ok (.ireturn, 1) := by decide +kernel
theorem dX9_isTurns_0 : decode cX9_isTurns 0 = .ok (.iload_n 0, 1) := by decide +kernel
theorem dX9_isTurns_1 : decode cX9_isTurns 1 = .ok (.iconst 1, 1) := by decide +kernel
theorem dX9_isTurns_2 : decode cX9_isTurns 2 = .ok (.if_icmp .lt 14, 3) := by decide +kernel
theorem dX9_isTurns_5 : decode cX9_isTurns 5 = .ok (.iload_n 0, 1) := by decide +kernel
theorem dX9_isTurns_6 : decode cX9_isTurns 6 = .ok (.sipush 20000, 3) := by decide +kernel
theorem dX9_isTurns_9 : decode cX9_isTurns 9 = .ok (.if_icmp .gt 7, 3) := by decide +kernel
theorem dX9_isTurns_12 : decode cX9_isTurns 12 = .ok (.iconst 1, 1) := by decide +kernel
theorem dX9_isTurns_13 : decode cX9_isTurns 13 = .ok (.goto 4, 3) := by decide +kernel
theorem dX9_isTurns_16 : decode cX9_isTurns 16 = .ok (.iconst 0, 1) := by decide +kernel
theorem dX9_isTurns_17 : decode cX9_isTurns 17 = .ok (.ireturn, 1) := by decide +kernel
theorem dX9_refuseRow_0 : decode cX9_refuseRow 0 = .ok (.iload_n 1, 1) := by decide +kernel
theorem dX9_refuseRow_1 : decode cX9_refuseRow 1 = .ok (.invokestatic 105, 3) := by decide +kernel
theorem dX9_refuseRow_4 : decode cX9_refuseRow 4 = .ok (.ifCond .ne 5, 3) := by decide +kernel
theorem dX9_refuseRow_7 : decode cX9_refuseRow 7 = .ok (.iconst (-1), 1) := by decide +kernel
theorem dX9_refuseRow_8 : decode cX9_refuseRow 8 = .ok (.ireturn, 1) := by decide +kernel
theorem dX9_refuseRow_9 : decode cX9_refuseRow 9 = .ok (.aload_n 0, 1) := by decide +kernel
theorem dX9_refuseRow_10 : decode cX9_refuseRow 10 = .ok (.getfield 14, 3) := by decide +kernel
theorem dX9_refuseRow_13 : decode cX9_refuseRow 13 = .ok (.iload_n 1, 1) := by decide +kernel
theorem dX9_refuseRow_14 : decode cX9_refuseRow 14 = .ok (.invokevirtual 134, 3) := by decide +kernel
theorem dX9_refuseRow_17 : decode cX9_refuseRow 17 = .ok (.ifCond .eq 7, 3) := by decide +kernel
theorem dX9_refuseRow_20 : decode cX9_refuseRow 20 = .ok (.iconst 0, 1) := by decide +kernel
theorem dX9_refuseRow_21 : decode cX9_refuseRow 21 = .ok (.goto 8, 3) := by decide +kernel
theorem dX9_refuseRow_24 : decode cX9_refuseRow 24 = .ok (.aload_n 0, 1) := by decide +kernel
theorem dX9_refuseRow_25 : decode cX9_refuseRow 25 = .ok (.iconst 1, 1) := by decide +kernel
theorem dX9_refuseRow_26 : decode cX9_refuseRow 26 = .ok (.invokevirtual 109, 3) := by decide +kernel
theorem dX9_refuseRow_29 : decode cX9_refuseRow 29 = .ok (.ireturn, 1) := by decide +kernel
theorem dX9_refusePlace_0 : decode cX9_refusePlace 0 = .ok (.aload_n 0, 1) := by decide +kernel
theorem dX9_refusePlace_1 : decode cX9_refusePlace 1 = .ok (.iload_n 1, 1) := by decide +kernel
theorem dX9_refusePlace_2 : decode cX9_refusePlace 2 = .ok (.invokevirtual 127, 3) := by decide +kernel
theorem dX9_refusePlace_5 : decode cX9_refusePlace 5 = .ok (.istore_n 3, 1) := by decide +kernel
theorem dX9_refusePlace_6 : decode cX9_refusePlace 6 = .ok (.iload_n 3, 1) := by decide +kernel
theorem dX9_refusePlace_7 : decode cX9_refusePlace 7 = .ok (.ifCond .eq 5, 3) := by decide +kernel
theorem dX9_refusePlace_10 : decode cX9_refusePlace 10 = .ok (.iload_n 3, 1) := by decide +kernel
theorem dX9_refusePlace_11 : decode cX9_refusePlace 11 = .ok (.ireturn, 1) := by decide +kernel
theorem dX9_refusePlace_12 : decode cX9_refusePlace 12 = .ok (.iload_n 2, 1) := by decide +kernel
theorem dX9_refusePlace_13 : decode cX9_refusePlace 13 = .ok (.ifCond .lt 19, 3) := by decide +kernel
theorem dX9_refusePlace_16 : decode cX9_refusePlace 16 = .ok (.iload_n 2, 1) := by decide +kernel
theorem dX9_refusePlace_17 : decode cX9_refusePlace 17 = .ok (.aload_n 0, 1) := by decide +kernel
theorem dX9_refusePlace_18 : decode cX9_refusePlace 18 = .ok (.getfield 14, 3) := by decide +kernel
theorem dX9_refusePlace_21 : decode cX9_refusePlace 21 = .ok (.iload_n 1, 1) := by decide +kernel
theorem dX9_refusePlace_22 : decode cX9_refusePlace 22 = .ok (.invokevirtual 145, 3) := by decide +kernel
theorem dX9_refusePlace_25 : decode cX9_refusePlace 25 = .ok (.if_icmp .ge 7, 3) := by decide +kernel
theorem dX9_refusePlace_28 : decode cX9_refusePlace 28 = .ok (.iconst 0, 1) := by decide +kernel
theorem dX9_refusePlace_29 : decode cX9_refusePlace 29 = .ok (.goto 8, 3) := by decide +kernel
theorem dX9_refusePlace_32 : decode cX9_refusePlace 32 = .ok (.aload_n 0, 1) := by decide +kernel
theorem dX9_refusePlace_33 : decode cX9_refusePlace 33 = .ok (.iconst 2, 1) := by decide +kernel
theorem dX9_refusePlace_34 : decode cX9_refusePlace 34 = .ok (.invokevirtual 109, 3) := by decide +kernel
theorem dX9_refusePlace_37 : decode cX9_refusePlace 37 = .ok (.ireturn, 1) := by decide +kernel
theorem dX9_refuseText_0 : decode cX9_refuseText 0 = .ok (.iload_n 1, 1) := by decide +kernel
theorem dX9_refuseText_1 : decode cX9_refuseText 1 = .ok (.invokestatic 152, 3) := by decide +kernel
theorem dX9_refuseText_4 : decode cX9_refuseText 4 = .ok (.ifCond .ne 5, 3) := by decide +kernel
theorem dX9_refuseText_7 : decode cX9_refuseText 7 = .ok (.iconst (-1), 1) := by decide +kernel
theorem dX9_refuseText_8 : decode cX9_refuseText 8 = .ok (.ireturn, 1) := by decide +kernel
theorem dX9_refuseText_9 : decode cX9_refuseText 9 = .ok (.aload_n 0, 1) := by decide +kernel
theorem dX9_refuseText_10 : decode cX9_refuseText 10 = .ok (.getfield 18, 3) := by decide +kernel
theorem dX9_refuseText_13 : decode cX9_refuseText 13 = .ok (.iload_n 1, 1) := by decide +kernel
theorem dX9_refuseText_14 : decode cX9_refuseText 14 = .ok (.invokevirtual 134, 3) := by decide +kernel
theorem dX9_refuseText_17 : decode cX9_refuseText 17 = .ok (.ifCond .eq 7, 3) := by decide +kernel
theorem dX9_refuseText_20 : decode cX9_refuseText 20 = .ok (.iconst 0, 1) := by decide +kernel
theorem dX9_refuseText_21 : decode cX9_refuseText 21 = .ok (.goto 8, 3) := by decide +kernel
theorem dX9_refuseText_24 : decode cX9_refuseText 24 = .ok (.aload_n 0, 1) := by decide +kernel
theorem dX9_refuseText_25 : decode cX9_refuseText 25 = .ok (.iconst 1, 1) := by decide +kernel
theorem dX9_refuseText_26 : decode cX9_refuseText 26 = .ok (.invokevirtual 109, 3) := by decide +kernel
theorem dX9_refuseText_29 : decode cX9_refuseText 29 = .ok (.ireturn, 1) := by decide +kernel
theorem dX9_refuseCell_0 : decode cX9_refuseCell 0 = .ok (.iload_n 1, 1) := by decide +kernel
theorem dX9_refuseCell_1 : decode cX9_refuseCell 1 = .ok (.invokestatic 337, 3) := by decide +kernel
theorem dX9_refuseCell_4 : decode cX9_refuseCell 4 = .ok (.ifCond .ne 5, 3) := by decide +kernel
theorem dX9_refuseCell_7 : decode cX9_refuseCell 7 = .ok (.iconst (-1), 1) := by decide +kernel
theorem dX9_refuseCell_8 : decode cX9_refuseCell 8 = .ok (.ireturn, 1) := by decide +kernel
theorem dX9_refuseCell_9 : decode cX9_refuseCell 9 = .ok (.aload_n 0, 1) := by decide +kernel
theorem dX9_refuseCell_10 : decode cX9_refuseCell 10 = .ok (.getfield 40, 3) := by decide +kernel
theorem dX9_refuseCell_13 : decode cX9_refuseCell 13 = .ok (.iload_n 1, 1) := by decide +kernel
theorem dX9_refuseCell_14 : decode cX9_refuseCell 14 = .ok (.invokevirtual 273, 3) := by decide +kernel
theorem dX9_refuseCell_17 : decode cX9_refuseCell 17 = .ok (.ifCond .eq 7, 3) := by decide +kernel
theorem dX9_refuseCell_20 : decode cX9_refuseCell 20 = .ok (.iconst 0, 1) := by decide +kernel
theorem dX9_refuseCell_21 : decode cX9_refuseCell 21 = .ok (.goto 8, 3) := by decide +kernel
theorem dX9_refuseCell_24 : decode cX9_refuseCell 24 = .ok (.aload_n 0, 1) := by decide +kernel
theorem dX9_refuseCell_25 : decode cX9_refuseCell 25 = .ok (.iconst 1, 1) := by decide +kernel
theorem dX9_refuseCell_26 : decode cX9_refuseCell 26 = .ok (.invokevirtual 109, 3) := by decide +kernel
theorem dX9_refuseCell_29 : decode cX9_refuseCell 29 = .ok (.ireturn, 1) := by decide +kernel
theorem dX9_narrowAll_0 : decode cX9_narrowAll 0 = .ok (.aload_n 0, 1) := by decide +kernel
theorem dX9_narrowAll_1 : decode cX9_narrowAll 1 = .ok (.getfield 58, 3) := by decide +kernel
theorem dX9_narrowAll_4 : decode cX9_narrowAll 4 = .ok (.invokevirtual 212, 3) := by decide +kernel
theorem dX9_narrowAll_7 : decode cX9_narrowAll 7 = .ok (.aload_n 0, 1) := by decide +kernel
theorem dX9_narrowAll_8 : decode cX9_narrowAll 8 = .ok (.getfield 58, 3) := by decide +kernel
theorem dX9_narrowAll_11 : decode cX9_narrowAll 11 = .ok (.iconst 0, 1) := by decide +kernel
theorem dX9_narrowAll_12 : decode cX9_narrowAll 12 = .ok (.invokevirtual 291, 3) := by decide +kernel
theorem dX9_narrowAll_15 : decode cX9_narrowAll 15 = .ok (.return_, 1) := by decide +kernel
theorem dX9_goThroughAll_0 : decode cX9_goThroughAll 0 = .ok (.iload_n 1, 1) := by decide +kernel
theorem dX9_goThroughAll_1 : decode cX9_goThroughAll 1 = .ok (.invokestatic 245, 3) := by decide +kernel
theorem dX9_goThroughAll_4 : decode cX9_goThroughAll 4 = .ok (.ifCond .ne 5, 3) := by decide +kernel
theorem dX9_goThroughAll_7 : decode cX9_goThroughAll 7 = .ok (.iconst (-1), 1) := by decide +kernel
theorem dX9_goThroughAll_8 : decode cX9_goThroughAll 8 = .ok (.ireturn, 1) := by decide +kernel
theorem dX9_goThroughAll_9 : decode cX9_goThroughAll 9 = .ok (.aload_n 0, 1) := by decide +kernel
theorem dX9_goThroughAll_10 : decode cX9_goThroughAll 10 = .ok (.invokevirtual 215, 3) := by decide +kernel
theorem dX9_goThroughAll_13 : decode cX9_goThroughAll 13 = .ok (.aload_n 0, 1) := by decide +kernel
theorem dX9_goThroughAll_14 : decode cX9_goThroughAll 14 = .ok (.getfield 67, 3) := by decide +kernel
theorem dX9_goThroughAll_17 : decode cX9_goThroughAll 17 = .ok (.invokevirtual 340, 3) := by decide +kernel
theorem dX9_goThroughAll_20 : decode cX9_goThroughAll 20 = .ok (.aload_n 0, 1) := by decide +kernel
theorem dX9_goThroughAll_21 : decode cX9_goThroughAll 21 = .ok (.getfield 67, 3) := by decide +kernel
theorem dX9_goThroughAll_24 : decode cX9_goThroughAll 24 = .ok (.iconst (-1), 1) := by decide +kernel
theorem dX9_goThroughAll_25 : decode cX9_goThroughAll 25 = .ok (.iload_n 1, 1) := by decide +kernel
theorem dX9_goThroughAll_26 : decode cX9_goThroughAll 26 = .ok (.iconst 0, 1) := by decide +kernel
theorem dX9_goThroughAll_27 : decode cX9_goThroughAll 27 = .ok (.invokevirtual 248, 3) := by decide +kernel
theorem dX9_goThroughAll_30 : decode cX9_goThroughAll 30 = .ok (.aload_n 0, 1) := by decide +kernel
theorem dX9_goThroughAll_31 : decode cX9_goThroughAll 31 = .ok (.getfield 67, 3) := by decide +kernel
theorem dX9_goThroughAll_34 : decode cX9_goThroughAll 34 = .ok (.invokevirtual 251, 3) := by decide +kernel
theorem dX9_goThroughAll_37 : decode cX9_goThroughAll 37 = .ok (.ifCond .eq 8, 3) := by decide +kernel
theorem dX9_goThroughAll_40 : decode cX9_goThroughAll 40 = .ok (.bipush (-6), 2) := by decide +kernel
theorem dX9_goThroughAll_42 : decode cX9_goThroughAll 42 = .ok (.goto 4, 3) := by decide +kernel
theorem dX9_goThroughAll_45 : decode cX9_goThroughAll 45 = .ok (.iconst 0, 1) := by decide +kernel
theorem dX9_goThroughAll_46 : decode cX9_goThroughAll 46 = .ok (.ireturn, 1) := by decide +kernel
theorem dX9_tellFraction_0 : decode cX9_tellFraction 0 = .ok (.iload_n 1, 1) := by decide +kernel
theorem dX9_tellFraction_1 : decode cX9_tellFraction 1 = .ok (.ifCond .le 7, 3) := by decide +kernel
theorem dX9_tellFraction_4 : decode cX9_tellFraction 4 = .ok (.iload_n 2, 1) := by decide +kernel
theorem dX9_tellFraction_5 : decode cX9_tellFraction 5 = .ok (.ifCond .gt 14, 3) := by decide +kernel
theorem dX9_tellFraction_8 : decode cX9_tellFraction 8 = .ok (.aload_n 0, 1) := by decide +kernel
theorem dX9_tellFraction_9 : decode cX9_tellFraction 9 = .ok (.lconst 0, 1) := by decide +kernel
theorem dX9_tellFraction_10 : decode cX9_tellFraction 10 = .ok (.putfield 98, 3) := by decide +kernel
theorem dX9_tellFraction_13 : decode cX9_tellFraction 13 = .ok (.aload_n 0, 1) := by decide +kernel
theorem dX9_tellFraction_14 : decode cX9_tellFraction 14 = .ok (.lconst 1, 1) := by decide +kernel
theorem dX9_tellFraction_15 : decode cX9_tellFraction 15 = .ok (.putfield 102, 3) := by decide +kernel
theorem dX9_tellFraction_18 : decode cX9_tellFraction 18 = .ok (.return_, 1) := by decide +kernel
theorem dX9_tellFraction_19 : decode cX9_tellFraction 19 = .ok (.iload_n 1, 1) := by decide +kernel
theorem dX9_tellFraction_20 : decode cX9_tellFraction 20 = .ok (.iload_n 2, 1) := by decide +kernel
theorem dX9_tellFraction_21 : decode cX9_tellFraction 21 = .ok (.invokestatic 343, 3) := by decide +kernel
theorem dX9_tellFraction_24 : decode cX9_tellFraction 24 = .ok (.istore_n 3, 1) := by decide +kernel
theorem dX9_tellFraction_25 : decode cX9_tellFraction 25 = .ok (.aload_n 0, 1) := by decide +kernel
theorem dX9_tellFraction_26 : decode cX9_tellFraction 26 = .ok (.iload_n 1, 1) := by decide +kernel
theorem dX9_tellFraction_27 : decode cX9_tellFraction 27 = .ok (.iload_n 3, 1) := by decide +kernel
theorem dX9_tellFraction_28 : decode cX9_tellFraction 28 = .ok (.idiv, 1) := by decide +kernel
theorem dX9_tellFraction_29 : decode cX9_tellFraction 29 = .ok (.i2l, 1) := by decide +kernel
theorem dX9_tellFraction_30 : decode cX9_tellFraction 30 = .ok (.putfield 98, 3) := by decide +kernel
theorem dX9_tellFraction_33 : decode cX9_tellFraction 33 = .ok (.aload_n 0, 1) := by decide +kernel
theorem dX9_tellFraction_34 : decode cX9_tellFraction 34 = .ok (.iload_n 2, 1) := by decide +kernel
theorem dX9_tellFraction_35 : decode cX9_tellFraction 35 = .ok (.iload_n 3, 1) := by decide +kernel
theorem dX9_tellFraction_36 : decode cX9_tellFraction 36 = .ok (.idiv, 1) := by decide +kernel
theorem dX9_tellFraction_37 : decode cX9_tellFraction 37 = .ok (.i2l, 1) := by decide +kernel
theorem dX9_tellFraction_38 : decode cX9_tellFraction 38 = .ok (.putfield 102, 3) := by decide +kernel
theorem dX9_tellFraction_41 : decode cX9_tellFraction 41 = .ok (.return_, 1) := by decide +kernel
theorem dX9_commonDivisor_0 : decode cX9_commonDivisor 0 = .ok (.iconst 0, 1) := by decide +kernel
theorem dX9_commonDivisor_1 : decode cX9_commonDivisor 1 = .ok (.istore_n 2, 1) := by decide +kernel
theorem dX9_commonDivisor_2 : decode cX9_commonDivisor 2 = .ok (.iload_n 2, 1) := by decide +kernel
theorem dX9_commonDivisor_3 : decode cX9_commonDivisor 3 = .ok (.bipush 50, 2) := by decide +kernel
theorem dX9_commonDivisor_5 : decode cX9_commonDivisor 5 = .ok (.if_icmp .ge 21, 3) := by decide +kernel
theorem dX9_commonDivisor_8 : decode cX9_commonDivisor 8 = .ok (.iload_n 1, 1) := by decide +kernel
theorem dX9_commonDivisor_9 : decode cX9_commonDivisor 9 = .ok (.ifCond .le 17, 3) := by decide +kernel
theorem dX9_commonDivisor_12 : decode cX9_commonDivisor 12 = .ok (.iload_n 0, 1) := by decide +kernel
theorem dX9_commonDivisor_13 : decode cX9_commonDivisor 13 = .ok (.iload_n 1, 1) := by decide +kernel
theorem dX9_commonDivisor_14 : decode cX9_commonDivisor 14 = .ok (.irem, 1) := by decide +kernel
theorem dX9_commonDivisor_15 : decode cX9_commonDivisor 15 = .ok (.istore_n 3, 1) := by decide +kernel
theorem dX9_commonDivisor_16 : decode cX9_commonDivisor 16 = .ok (.iload_n 1, 1) := by decide +kernel
theorem dX9_commonDivisor_17 : decode cX9_commonDivisor 17 = .ok (.istore_n 0, 1) := by decide +kernel
theorem dX9_commonDivisor_18 : decode cX9_commonDivisor 18 = .ok (.iload_n 3, 1) := by decide +kernel
theorem dX9_commonDivisor_19 : decode cX9_commonDivisor 19 = .ok (.istore_n 1, 1) := by decide +kernel
theorem dX9_commonDivisor_20 : decode cX9_commonDivisor 20 = .ok (.iinc 2 1, 3) := by decide +kernel
theorem dX9_commonDivisor_23 : decode cX9_commonDivisor 23 = .ok (.goto (-21), 3) := by decide +kernel
theorem dX9_commonDivisor_26 : decode cX9_commonDivisor 26 = .ok (.iload_n 0, 1) := by decide +kernel
theorem dX9_commonDivisor_27 : decode cX9_commonDivisor 27 = .ok (.iconst 1, 1) := by decide +kernel
theorem dX9_commonDivisor_28 : decode cX9_commonDivisor 28 = .ok (.invokestatic 346, 3) := by decide +kernel
theorem dX9_commonDivisor_31 : decode cX9_commonDivisor 31 = .ok (.ireturn, 1) := by decide +kernel
theorem dL_law_0 : decode cL_law 0 = .ok (.new 7, 3) := by decide +kernel
theorem dL_law_3 : decode cL_law 3 = .ok (.dup, 1) := by decide +kernel
theorem dL_law_4 : decode cL_law 4 = .ok (.invokespecial 9, 3) := by decide +kernel
theorem dL_law_7 : decode cL_law 7 = .ok (.astore_n 1, 1) := by decide +kernel
theorem dL_law_8 : decode cL_law 8 = .ok (.new 10, 3) := by decide +kernel
theorem dL_law_11 : decode cL_law 11 = .ok (.dup, 1) := by decide +kernel
theorem dL_law_12 : decode cL_law 12 = .ok (.invokespecial 12, 3) := by decide +kernel
theorem dL_law_15 : decode cL_law 15 = .ok (.astore_n 2, 1) := by decide +kernel
theorem dL_law_16 : decode cL_law 16 = .ok (.iconst 0, 1) := by decide +kernel
theorem dL_law_17 : decode cL_law 17 = .ok (.istore_n 3, 1) := by decide +kernel
theorem dL_law_18 : decode cL_law 18 = .ok (.iload_n 3, 1) := by decide +kernel
theorem dL_law_19 : decode cL_law 19 = .ok (.aload_n 0, 1) := by decide +kernel
theorem dL_law_20 : decode cL_law 20 = .ok (.arraylength, 1) := by decide +kernel
theorem dL_law_21 : decode cL_law 21 = .ok (.bipush 6, 2) := by decide +kernel
theorem dL_law_23 : decode cL_law 23 = .ok (.isub, 1) := by decide +kernel
theorem dL_law_24 : decode cL_law 24 = .ok (.if_icmp .gt 1256, 3) := by decide +kernel
theorem dL_law_27 : decode cL_law 27 = .ok (.aload_n 0, 1) := by decide +kernel
theorem dL_law_28 : decode cL_law 28 = .ok (.iload_n 3, 1) := by decide +kernel
theorem dL_law_29 : decode cL_law 29 = .ok (.iaload, 1) := by decide +kernel
theorem dL_law_30 : decode cL_law 30 = .ok (.bipush 63, 2) := by decide +kernel
theorem dL_law_32 : decode cL_law 32 = .ok (.iand, 1) := by decide +kernel
theorem dL_law_33 : decode cL_law 33 = .ok (.tableswitch 1241 0 38 #[171, 204, 247, 280, 303, 366, 389, 422, 465, 488, 511, 554, 587, 600, 623, 656, 679, 712, 745, 768, 801, 814, 837, 880, 923, 956, 979, 1022, 1045, 1068, 1091, 1114, 1127, 1140, 1154, 1168, 1191, 1204, 1227], 171) := by decide +kernel
theorem dL_law_204 : decode cL_law 204 = .ok (.aload_n 1, 1) := by decide +kernel
theorem dL_law_205 : decode cL_law 205 = .ok (.aload_n 0, 1) := by decide +kernel
theorem dL_law_206 : decode cL_law 206 = .ok (.iload_n 3, 1) := by decide +kernel
theorem dL_law_207 : decode cL_law 207 = .ok (.iconst 1, 1) := by decide +kernel
theorem dL_law_208 : decode cL_law 208 = .ok (.iadd, 1) := by decide +kernel
theorem dL_law_209 : decode cL_law 209 = .ok (.iaload, 1) := by decide +kernel
theorem dL_law_210 : decode cL_law 210 = .ok (.aload_n 0, 1) := by decide +kernel
theorem dL_law_211 : decode cL_law 211 = .ok (.iload_n 3, 1) := by decide +kernel
theorem dL_law_212 : decode cL_law 212 = .ok (.iconst 2, 1) := by decide +kernel
theorem dL_law_213 : decode cL_law 213 = .ok (.iadd, 1) := by decide +kernel
theorem dL_law_214 : decode cL_law 214 = .ok (.iaload, 1) := by decide +kernel
theorem dL_law_215 : decode cL_law 215 = .ok (.invokevirtual 13, 3) := by decide +kernel
theorem dL_law_218 : decode cL_law 218 = .ok (.aload_n 2, 1) := by decide +kernel
theorem dL_law_219 : decode cL_law 219 = .ok (.aload_n 0, 1) := by decide +kernel
theorem dL_law_220 : decode cL_law 220 = .ok (.iload_n 3, 1) := by decide +kernel
theorem dL_law_221 : decode cL_law 221 = .ok (.iconst 1, 1) := by decide +kernel
theorem dL_law_222 : decode cL_law 222 = .ok (.iadd, 1) := by decide +kernel
theorem dL_law_223 : decode cL_law 223 = .ok (.iaload, 1) := by decide +kernel
theorem dL_law_224 : decode cL_law 224 = .ok (.aload_n 0, 1) := by decide +kernel
theorem dL_law_225 : decode cL_law 225 = .ok (.iload_n 3, 1) := by decide +kernel
theorem dL_law_226 : decode cL_law 226 = .ok (.iconst 2, 1) := by decide +kernel
theorem dL_law_227 : decode cL_law 227 = .ok (.iadd, 1) := by decide +kernel
theorem dL_law_228 : decode cL_law 228 = .ok (.iaload, 1) := by decide +kernel
theorem dL_law_229 : decode cL_law 229 = .ok (.invokevirtual 17, 3) := by decide +kernel
theorem dL_law_232 : decode cL_law 232 = .ok (.if_icmp .eq 1042, 3) := by decide +kernel
theorem dL_law_235 : decode cL_law 235 = .ok (.iconst 0, 1) := by decide +kernel
theorem dL_law_236 : decode cL_law 236 = .ok (.ireturn, 1) := by decide +kernel
theorem dL_law_237 : decode cL_law 237 = .ok (.aload_n 1, 1) := by decide +kernel
theorem dL_law_238 : decode cL_law 238 = .ok (.aload_n 0, 1) := by decide +kernel
theorem dL_law_239 : decode cL_law 239 = .ok (.iload_n 3, 1) := by decide +kernel
theorem dL_law_240 : decode cL_law 240 = .ok (.iconst 1, 1) := by decide +kernel
theorem dL_law_241 : decode cL_law 241 = .ok (.iadd, 1) := by decide +kernel
theorem dL_law_242 : decode cL_law 242 = .ok (.iaload, 1) := by decide +kernel
theorem dL_law_243 : decode cL_law 243 = .ok (.aload_n 0, 1) := by decide +kernel
theorem dL_law_244 : decode cL_law 244 = .ok (.iload_n 3, 1) := by decide +kernel
theorem dL_law_245 : decode cL_law 245 = .ok (.iconst 2, 1) := by decide +kernel
theorem dL_law_246 : decode cL_law 246 = .ok (.iadd, 1) := by decide +kernel
theorem dL_law_247 : decode cL_law 247 = .ok (.iaload, 1) := by decide +kernel
theorem dL_law_248 : decode cL_law 248 = .ok (.aload_n 0, 1) := by decide +kernel
theorem dL_law_249 : decode cL_law 249 = .ok (.iload_n 3, 1) := by decide +kernel
theorem dL_law_250 : decode cL_law 250 = .ok (.iconst 3, 1) := by decide +kernel
theorem dL_law_251 : decode cL_law 251 = .ok (.iadd, 1) := by decide +kernel
theorem dL_law_252 : decode cL_law 252 = .ok (.iaload, 1) := by decide +kernel
theorem dL_law_253 : decode cL_law 253 = .ok (.invokevirtual 18, 3) := by decide +kernel
theorem dL_law_256 : decode cL_law 256 = .ok (.aload_n 2, 1) := by decide +kernel
theorem dL_law_257 : decode cL_law 257 = .ok (.aload_n 0, 1) := by decide +kernel
theorem dL_law_258 : decode cL_law 258 = .ok (.iload_n 3, 1) := by decide +kernel
theorem dL_law_259 : decode cL_law 259 = .ok (.iconst 1, 1) := by decide +kernel
theorem dL_law_260 : decode cL_law 260 = .ok (.iadd, 1) := by decide +kernel
theorem dL_law_261 : decode cL_law 261 = .ok (.iaload, 1) := by decide +kernel
theorem dL_law_262 : decode cL_law 262 = .ok (.aload_n 0, 1) := by decide +kernel
theorem dL_law_263 : decode cL_law 263 = .ok (.iload_n 3, 1) := by decide +kernel
theorem dL_law_264 : decode cL_law 264 = .ok (.iconst 2, 1) := by decide +kernel
theorem dL_law_265 : decode cL_law 265 = .ok (.iadd, 1) := by decide +kernel
theorem dL_law_266 : decode cL_law 266 = .ok (.iaload, 1) := by decide +kernel
theorem dL_law_267 : decode cL_law 267 = .ok (.aload_n 0, 1) := by decide +kernel
theorem dL_law_268 : decode cL_law 268 = .ok (.iload_n 3, 1) := by decide +kernel
theorem dL_law_269 : decode cL_law 269 = .ok (.iconst 3, 1) := by decide +kernel
theorem dL_law_270 : decode cL_law 270 = .ok (.iadd, 1) := by decide +kernel
theorem dL_law_271 : decode cL_law 271 = .ok (.iaload, 1) := by decide +kernel
theorem dL_law_272 : decode cL_law 272 = .ok (.invokevirtual 22, 3) := by decide +kernel
theorem dL_law_275 : decode cL_law 275 = .ok (.if_icmp .eq 999, 3) := by decide +kernel
theorem dL_law_278 : decode cL_law 278 = .ok (.iconst 0, 1) := by decide +kernel
theorem dL_law_279 : decode cL_law 279 = .ok (.ireturn, 1) := by decide +kernel
theorem dL_law_280 : decode cL_law 280 = .ok (.aload_n 1, 1) := by decide +kernel
theorem dL_law_281 : decode cL_law 281 = .ok (.aload_n 0, 1) := by decide +kernel
theorem dL_law_282 : decode cL_law 282 = .ok (.iload_n 3, 1) := by decide +kernel
theorem dL_law_283 : decode cL_law 283 = .ok (.iconst 1, 1) := by decide +kernel
theorem dL_law_284 : decode cL_law 284 = .ok (.iadd, 1) := by decide +kernel
theorem dL_law_285 : decode cL_law 285 = .ok (.iaload, 1) := by decide +kernel
theorem dL_law_286 : decode cL_law 286 = .ok (.aload_n 0, 1) := by decide +kernel
theorem dL_law_287 : decode cL_law 287 = .ok (.iload_n 3, 1) := by decide +kernel
theorem dL_law_288 : decode cL_law 288 = .ok (.iconst 2, 1) := by decide +kernel
theorem dL_law_289 : decode cL_law 289 = .ok (.iadd, 1) := by decide +kernel
theorem dL_law_290 : decode cL_law 290 = .ok (.iaload, 1) := by decide +kernel
theorem dL_law_291 : decode cL_law 291 = .ok (.invokevirtual 23, 3) := by decide +kernel
theorem dL_law_294 : decode cL_law 294 = .ok (.aload_n 2, 1) := by decide +kernel
theorem dL_law_295 : decode cL_law 295 = .ok (.aload_n 0, 1) := by decide +kernel
theorem dL_law_296 : decode cL_law 296 = .ok (.iload_n 3, 1) := by decide +kernel
theorem dL_law_297 : decode cL_law 297 = .ok (.iconst 1, 1) := by decide +kernel
theorem dL_law_298 : decode cL_law 298 = .ok (.iadd, 1) := by decide +kernel
theorem dL_law_299 : decode cL_law 299 = .ok (.iaload, 1) := by decide +kernel
theorem dL_law_300 : decode cL_law 300 = .ok (.aload_n 0, 1) := by decide +kernel
theorem dL_law_301 : decode cL_law 301 = .ok (.iload_n 3, 1) := by decide +kernel
theorem dL_law_302 : decode cL_law 302 = .ok (.iconst 2, 1) := by decide +kernel
theorem dL_law_303 : decode cL_law 303 = .ok (.iadd, 1) := by decide +kernel
theorem dL_law_304 : decode cL_law 304 = .ok (.iaload, 1) := by decide +kernel
theorem dL_law_305 : decode cL_law 305 = .ok (.invokevirtual 26, 3) := by decide +kernel
theorem dL_law_308 : decode cL_law 308 = .ok (.if_icmp .eq 966, 3) := by decide +kernel
theorem dL_law_311 : decode cL_law 311 = .ok (.iconst 0, 1) := by decide +kernel
theorem dL_law_312 : decode cL_law 312 = .ok (.ireturn, 1) := by decide +kernel
theorem dL_law_313 : decode cL_law 313 = .ok (.aload_n 1, 1) := by decide +kernel
theorem dL_law_314 : decode cL_law 314 = .ok (.aload_n 0, 1) := by decide +kernel
theorem dL_law_315 : decode cL_law 315 = .ok (.iload_n 3, 1) := by decide +kernel
theorem dL_law_316 : decode cL_law 316 = .ok (.iconst 1, 1) := by decide +kernel
theorem dL_law_317 : decode cL_law 317 = .ok (.iadd, 1) := by decide +kernel
theorem dL_law_318 : decode cL_law 318 = .ok (.iaload, 1) := by decide +kernel
theorem dL_law_319 : decode cL_law 319 = .ok (.invokevirtual 27, 3) := by decide +kernel
theorem dL_law_322 : decode cL_law 322 = .ok (.aload_n 2, 1) := by decide +kernel
theorem dL_law_323 : decode cL_law 323 = .ok (.aload_n 0, 1) := by decide +kernel
theorem dL_law_324 : decode cL_law 324 = .ok (.iload_n 3, 1) := by decide +kernel
theorem dL_law_325 : decode cL_law 325 = .ok (.iconst 1, 1) := by decide +kernel
theorem dL_law_326 : decode cL_law 326 = .ok (.iadd, 1) := by decide +kernel
theorem dL_law_327 : decode cL_law 327 = .ok (.iaload, 1) := by decide +kernel
theorem dL_law_328 : decode cL_law 328 = .ok (.invokevirtual 31, 3) := by decide +kernel
theorem dL_law_331 : decode cL_law 331 = .ok (.if_icmp .eq 943, 3) := by decide +kernel
theorem dL_law_334 : decode cL_law 334 = .ok (.iconst 0, 1) := by decide +kernel
theorem dL_law_335 : decode cL_law 335 = .ok (.ireturn, 1) := by decide +kernel
theorem dL_law_336 : decode cL_law 336 = .ok (.aload_n 1, 1) := by decide +kernel
theorem dL_law_337 : decode cL_law 337 = .ok (.aload_n 0, 1) := by decide +kernel
theorem dL_law_338 : decode cL_law 338 = .ok (.iload_n 3, 1) := by decide +kernel
theorem dL_law_339 : decode cL_law 339 = .ok (.iconst 1, 1) := by decide +kernel
theorem dL_law_340 : decode cL_law 340 = .ok (.iadd, 1) := by decide +kernel
theorem dL_law_341 : decode cL_law 341 = .ok (.iaload, 1) := by decide +kernel
theorem dL_law_342 : decode cL_law 342 = .ok (.aload_n 0, 1) := by decide +kernel
theorem dL_law_343 : decode cL_law 343 = .ok (.iload_n 3, 1) := by decide +kernel
theorem dL_law_344 : decode cL_law 344 = .ok (.iconst 2, 1) := by decide +kernel
theorem dL_law_345 : decode cL_law 345 = .ok (.iadd, 1) := by decide +kernel
theorem dL_law_346 : decode cL_law 346 = .ok (.iaload, 1) := by decide +kernel
theorem dL_law_347 : decode cL_law 347 = .ok (.aload_n 0, 1) := by decide +kernel
theorem dL_law_348 : decode cL_law 348 = .ok (.iload_n 3, 1) := by decide +kernel
theorem dL_law_349 : decode cL_law 349 = .ok (.iconst 3, 1) := by decide +kernel
theorem dL_law_350 : decode cL_law 350 = .ok (.iadd, 1) := by decide +kernel
theorem dL_law_351 : decode cL_law 351 = .ok (.iaload, 1) := by decide +kernel
theorem dL_law_352 : decode cL_law 352 = .ok (.aload_n 0, 1) := by decide +kernel
theorem dL_law_353 : decode cL_law 353 = .ok (.iload_n 3, 1) := by decide +kernel
theorem dL_law_354 : decode cL_law 354 = .ok (.iconst 4, 1) := by decide +kernel
theorem dL_law_355 : decode cL_law 355 = .ok (.iadd, 1) := by decide +kernel
theorem dL_law_356 : decode cL_law 356 = .ok (.iaload, 1) := by decide +kernel
theorem dL_law_357 : decode cL_law 357 = .ok (.aload_n 0, 1) := by decide +kernel
theorem dL_law_358 : decode cL_law 358 = .ok (.iload_n 3, 1) := by decide +kernel
theorem dL_law_359 : decode cL_law 359 = .ok (.iconst 5, 1) := by decide +kernel
theorem dL_law_360 : decode cL_law 360 = .ok (.iadd, 1) := by decide +kernel
theorem dL_law_361 : decode cL_law 361 = .ok (.iaload, 1) := by decide +kernel
theorem dL_law_362 : decode cL_law 362 = .ok (.invokevirtual 32, 3) := by decide +kernel
theorem dL_law_365 : decode cL_law 365 = .ok (.aload_n 2, 1) := by decide +kernel
theorem dL_law_366 : decode cL_law 366 = .ok (.aload_n 0, 1) := by decide +kernel
theorem dL_law_367 : decode cL_law 367 = .ok (.iload_n 3, 1) := by decide +kernel
theorem dL_law_368 : decode cL_law 368 = .ok (.iconst 1, 1) := by decide +kernel
theorem dL_law_369 : decode cL_law 369 = .ok (.iadd, 1) := by decide +kernel
theorem dL_law_370 : decode cL_law 370 = .ok (.iaload, 1) := by decide +kernel
theorem dL_law_371 : decode cL_law 371 = .ok (.aload_n 0, 1) := by decide +kernel
theorem dL_law_372 : decode cL_law 372 = .ok (.iload_n 3, 1) := by decide +kernel
theorem dL_law_373 : decode cL_law 373 = .ok (.iconst 2, 1) := by decide +kernel
theorem dL_law_374 : decode cL_law 374 = .ok (.iadd, 1) := by decide +kernel
theorem dL_law_375 : decode cL_law 375 = .ok (.iaload, 1) := by decide +kernel
theorem dL_law_376 : decode cL_law 376 = .ok (.aload_n 0, 1) := by decide +kernel
theorem dL_law_377 : decode cL_law 377 = .ok (.iload_n 3, 1) := by decide +kernel
theorem dL_law_378 : decode cL_law 378 = .ok (.iconst 3, 1) := by decide +kernel
theorem dL_law_379 : decode cL_law 379 = .ok (.iadd, 1) := by decide +kernel
theorem dL_law_380 : decode cL_law 380 = .ok (.iaload, 1) := by decide +kernel
theorem dL_law_381 : decode cL_law 381 = .ok (.aload_n 0, 1) := by decide +kernel
theorem dL_law_382 : decode cL_law 382 = .ok (.iload_n 3, 1) := by decide +kernel
theorem dL_law_383 : decode cL_law 383 = .ok (.iconst 4, 1) := by decide +kernel
theorem dL_law_384 : decode cL_law 384 = .ok (.iadd, 1) := by decide +kernel
theorem dL_law_385 : decode cL_law 385 = .ok (.iaload, 1) := by decide +kernel
theorem dL_law_386 : decode cL_law 386 = .ok (.aload_n 0, 1) := by decide +kernel
theorem dL_law_387 : decode cL_law 387 = .ok (.iload_n 3, 1) := by decide +kernel
theorem dL_law_388 : decode cL_law 388 = .ok (.iconst 5, 1) := by decide +kernel
theorem dL_law_389 : decode cL_law 389 = .ok (.iadd, 1) := by decide +kernel
theorem dL_law_390 : decode cL_law 390 = .ok (.iaload, 1) := by decide +kernel
theorem dL_law_391 : decode cL_law 391 = .ok (.invokevirtual 36, 3) := by decide +kernel
theorem dL_law_394 : decode cL_law 394 = .ok (.if_icmp .eq 880, 3) := by decide +kernel
theorem dL_law_397 : decode cL_law 397 = .ok (.iconst 0, 1) := by decide +kernel
theorem dL_law_398 : decode cL_law 398 = .ok (.ireturn, 1) := by decide +kernel
theorem dL_law_399 : decode cL_law 399 = .ok (.aload_n 1, 1) := by decide +kernel
theorem dL_law_400 : decode cL_law 400 = .ok (.aload_n 0, 1) := by decide +kernel
theorem dL_law_401 : decode cL_law 401 = .ok (.iload_n 3, 1) := by decide +kernel
theorem dL_law_402 : decode cL_law 402 = .ok (.iconst 1, 1) := by decide +kernel
theorem dL_law_403 : decode cL_law 403 = .ok (.iadd, 1) := by decide +kernel
theorem dL_law_404 : decode cL_law 404 = .ok (.iaload, 1) := by decide +kernel
theorem dL_law_405 : decode cL_law 405 = .ok (.invokevirtual 37, 3) := by decide +kernel
theorem dL_law_408 : decode cL_law 408 = .ok (.aload_n 2, 1) := by decide +kernel
theorem dL_law_409 : decode cL_law 409 = .ok (.aload_n 0, 1) := by decide +kernel
theorem dL_law_410 : decode cL_law 410 = .ok (.iload_n 3, 1) := by decide +kernel
theorem dL_law_411 : decode cL_law 411 = .ok (.iconst 1, 1) := by decide +kernel
theorem dL_law_412 : decode cL_law 412 = .ok (.iadd, 1) := by decide +kernel
theorem dL_law_413 : decode cL_law 413 = .ok (.iaload, 1) := by decide +kernel
theorem dL_law_414 : decode cL_law 414 = .ok (.invokevirtual 40, 3) := by decide +kernel
theorem dL_law_417 : decode cL_law 417 = .ok (.if_icmp .eq 857, 3) := by decide +kernel
theorem dL_law_420 : decode cL_law 420 = .ok (.iconst 0, 1) := by decide +kernel
theorem dL_law_421 : decode cL_law 421 = .ok (.ireturn, 1) := by decide +kernel
theorem dL_law_422 : decode cL_law 422 = .ok (.aload_n 1, 1) := by decide +kernel
theorem dL_law_423 : decode cL_law 423 = .ok (.aload_n 0, 1) := by decide +kernel
theorem dL_law_424 : decode cL_law 424 = .ok (.iload_n 3, 1) := by decide +kernel
theorem dL_law_425 : decode cL_law 425 = .ok (.iconst 1, 1) := by decide +kernel
theorem dL_law_426 : decode cL_law 426 = .ok (.iadd, 1) := by decide +kernel
theorem dL_law_427 : decode cL_law 427 = .ok (.iaload, 1) := by decide +kernel
theorem dL_law_428 : decode cL_law 428 = .ok (.aload_n 0, 1) := by decide +kernel
theorem dL_law_429 : decode cL_law 429 = .ok (.iload_n 3, 1) := by decide +kernel
theorem dL_law_430 : decode cL_law 430 = .ok (.iconst 2, 1) := by decide +kernel
theorem dL_law_431 : decode cL_law 431 = .ok (.iadd, 1) := by decide +kernel
theorem dL_law_432 : decode cL_law 432 = .ok (.iaload, 1) := by decide +kernel
theorem dL_law_433 : decode cL_law 433 = .ok (.invokevirtual 41, 3) := by decide +kernel
theorem dL_law_436 : decode cL_law 436 = .ok (.aload_n 2, 1) := by decide +kernel
theorem dL_law_437 : decode cL_law 437 = .ok (.aload_n 0, 1) := by decide +kernel
theorem dL_law_438 : decode cL_law 438 = .ok (.iload_n 3, 1) := by decide +kernel
theorem dL_law_439 : decode cL_law 439 = .ok (.iconst 1, 1) := by decide +kernel
theorem dL_law_440 : decode cL_law 440 = .ok (.iadd, 1) := by decide +kernel
theorem dL_law_441 : decode cL_law 441 = .ok (.iaload, 1) := by decide +kernel
theorem dL_law_442 : decode cL_law 442 = .ok (.aload_n 0, 1) := by decide +kernel
theorem dL_law_443 : decode cL_law 443 = .ok (.iload_n 3, 1) := by decide +kernel
theorem dL_law_444 : decode cL_law 444 = .ok (.iconst 2, 1) := by decide +kernel
theorem dL_law_445 : decode cL_law 445 = .ok (.iadd, 1) := by decide +kernel
theorem dL_law_446 : decode cL_law 446 = .ok (.iaload, 1) := by decide +kernel
theorem dL_law_447 : decode cL_law 447 = .ok (.invokevirtual 44, 3) := by decide +kernel
theorem dL_law_450 : decode cL_law 450 = .ok (.if_icmp .eq 824, 3) := by decide +kernel
theorem dL_law_453 : decode cL_law 453 = .ok (.iconst 0, 1) := by decide +kernel
theorem dL_law_454 : decode cL_law 454 = .ok (.ireturn, 1) := by decide +kernel
theorem dL_law_455 : decode cL_law 455 = .ok (.aload_n 1, 1) := by decide +kernel
theorem dL_law_456 : decode cL_law 456 = .ok (.aload_n 0, 1) := by decide +kernel
theorem dL_law_457 : decode cL_law 457 = .ok (.iload_n 3, 1) := by decide +kernel
theorem dL_law_458 : decode cL_law 458 = .ok (.iconst 1, 1) := by decide +kernel
theorem dL_law_459 : decode cL_law 459 = .ok (.iadd, 1) := by decide +kernel
theorem dL_law_460 : decode cL_law 460 = .ok (.iaload, 1) := by decide +kernel
theorem dL_law_461 : decode cL_law 461 = .ok (.aload_n 0, 1) := by decide +kernel
theorem dL_law_462 : decode cL_law 462 = .ok (.iload_n 3, 1) := by decide +kernel
theorem dL_law_463 : decode cL_law 463 = .ok (.iconst 2, 1) := by decide +kernel
theorem dL_law_464 : decode cL_law 464 = .ok (.iadd, 1) := by decide +kernel
theorem dL_law_465 : decode cL_law 465 = .ok (.iaload, 1) := by decide +kernel
theorem dL_law_466 : decode cL_law 466 = .ok (.aload_n 0, 1) := by decide +kernel
theorem dL_law_467 : decode cL_law 467 = .ok (.iload_n 3, 1) := by decide +kernel
theorem dL_law_468 : decode cL_law 468 = .ok (.iconst 3, 1) := by decide +kernel
theorem dL_law_469 : decode cL_law 469 = .ok (.iadd, 1) := by decide +kernel
theorem dL_law_470 : decode cL_law 470 = .ok (.iaload, 1) := by decide +kernel
theorem dL_law_471 : decode cL_law 471 = .ok (.invokevirtual 45, 3) := by decide +kernel
theorem dL_law_474 : decode cL_law 474 = .ok (.aload_n 2, 1) := by decide +kernel
theorem dL_law_475 : decode cL_law 475 = .ok (.aload_n 0, 1) := by decide +kernel
theorem dL_law_476 : decode cL_law 476 = .ok (.iload_n 3, 1) := by decide +kernel
theorem dL_law_477 : decode cL_law 477 = .ok (.iconst 1, 1) := by decide +kernel
theorem dL_law_478 : decode cL_law 478 = .ok (.iadd, 1) := by decide +kernel
theorem dL_law_479 : decode cL_law 479 = .ok (.iaload, 1) := by decide +kernel
theorem dL_law_480 : decode cL_law 480 = .ok (.aload_n 0, 1) := by decide +kernel
theorem dL_law_481 : decode cL_law 481 = .ok (.iload_n 3, 1) := by decide +kernel
theorem dL_law_482 : decode cL_law 482 = .ok (.iconst 2, 1) := by decide +kernel
theorem dL_law_483 : decode cL_law 483 = .ok (.iadd, 1) := by decide +kernel
theorem dL_law_484 : decode cL_law 484 = .ok (.iaload, 1) := by decide +kernel
theorem dL_law_485 : decode cL_law 485 = .ok (.aload_n 0, 1) := by decide +kernel
theorem dL_law_486 : decode cL_law 486 = .ok (.iload_n 3, 1) := by decide +kernel
theorem dL_law_487 : decode cL_law 487 = .ok (.iconst 3, 1) := by decide +kernel
theorem dL_law_488 : decode cL_law 488 = .ok (.iadd, 1) := by decide +kernel
theorem dL_law_489 : decode cL_law 489 = .ok (.iaload, 1) := by decide +kernel
theorem dL_law_490 : decode cL_law 490 = .ok (.invokevirtual 48, 3) := by decide +kernel
theorem dL_law_493 : decode cL_law 493 = .ok (.if_icmp .eq 781, 3) := by decide +kernel
theorem dL_law_496 : decode cL_law 496 = .ok (.iconst 0, 1) := by decide +kernel
theorem dL_law_497 : decode cL_law 497 = .ok (.ireturn, 1) := by decide +kernel
theorem dL_law_498 : decode cL_law 498 = .ok (.aload_n 1, 1) := by decide +kernel
theorem dL_law_499 : decode cL_law 499 = .ok (.aload_n 0, 1) := by decide +kernel
theorem dL_law_500 : decode cL_law 500 = .ok (.iload_n 3, 1) := by decide +kernel
theorem dL_law_501 : decode cL_law 501 = .ok (.iconst 1, 1) := by decide +kernel
theorem dL_law_502 : decode cL_law 502 = .ok (.iadd, 1) := by decide +kernel
theorem dL_law_503 : decode cL_law 503 = .ok (.iaload, 1) := by decide +kernel
theorem dL_law_504 : decode cL_law 504 = .ok (.invokevirtual 49, 3) := by decide +kernel
theorem dL_law_507 : decode cL_law 507 = .ok (.aload_n 2, 1) := by decide +kernel
theorem dL_law_508 : decode cL_law 508 = .ok (.aload_n 0, 1) := by decide +kernel
theorem dL_law_509 : decode cL_law 509 = .ok (.iload_n 3, 1) := by decide +kernel
theorem dL_law_510 : decode cL_law 510 = .ok (.iconst 1, 1) := by decide +kernel
theorem dL_law_511 : decode cL_law 511 = .ok (.iadd, 1) := by decide +kernel
theorem dL_law_512 : decode cL_law 512 = .ok (.iaload, 1) := by decide +kernel
theorem dL_law_513 : decode cL_law 513 = .ok (.invokevirtual 52, 3) := by decide +kernel
theorem dL_law_516 : decode cL_law 516 = .ok (.if_icmp .eq 758, 3) := by decide +kernel
theorem dL_law_519 : decode cL_law 519 = .ok (.iconst 0, 1) := by decide +kernel
theorem dL_law_520 : decode cL_law 520 = .ok (.ireturn, 1) := by decide +kernel
theorem dL_law_521 : decode cL_law 521 = .ok (.aload_n 1, 1) := by decide +kernel
theorem dL_law_522 : decode cL_law 522 = .ok (.aload_n 0, 1) := by decide +kernel
theorem dL_law_523 : decode cL_law 523 = .ok (.iload_n 3, 1) := by decide +kernel
theorem dL_law_524 : decode cL_law 524 = .ok (.iconst 1, 1) := by decide +kernel
theorem dL_law_525 : decode cL_law 525 = .ok (.iadd, 1) := by decide +kernel
theorem dL_law_526 : decode cL_law 526 = .ok (.iaload, 1) := by decide +kernel
theorem dL_law_527 : decode cL_law 527 = .ok (.invokevirtual 53, 3) := by decide +kernel
theorem dL_law_530 : decode cL_law 530 = .ok (.aload_n 2, 1) := by decide +kernel
theorem dL_law_531 : decode cL_law 531 = .ok (.aload_n 0, 1) := by decide +kernel
theorem dL_law_532 : decode cL_law 532 = .ok (.iload_n 3, 1) := by decide +kernel
theorem dL_law_533 : decode cL_law 533 = .ok (.iconst 1, 1) := by decide +kernel
theorem dL_law_534 : decode cL_law 534 = .ok (.iadd, 1) := by decide +kernel
theorem dL_law_535 : decode cL_law 535 = .ok (.iaload, 1) := by decide +kernel
theorem dL_law_536 : decode cL_law 536 = .ok (.invokevirtual 56, 3) := by decide +kernel
theorem dL_law_539 : decode cL_law 539 = .ok (.if_icmp .eq 735, 3) := by decide +kernel
theorem dL_law_542 : decode cL_law 542 = .ok (.iconst 0, 1) := by decide +kernel
theorem dL_law_543 : decode cL_law 543 = .ok (.ireturn, 1) := by decide +kernel
theorem dL_law_544 : decode cL_law 544 = .ok (.aload_n 1, 1) := by decide +kernel
theorem dL_law_545 : decode cL_law 545 = .ok (.aload_n 0, 1) := by decide +kernel
theorem dL_law_546 : decode cL_law 546 = .ok (.iload_n 3, 1) := by decide +kernel
theorem dL_law_547 : decode cL_law 547 = .ok (.iconst 1, 1) := by decide +kernel
theorem dL_law_548 : decode cL_law 548 = .ok (.iadd, 1) := by decide +kernel
theorem dL_law_549 : decode cL_law 549 = .ok (.iaload, 1) := by decide +kernel
theorem dL_law_550 : decode cL_law 550 = .ok (.aload_n 0, 1) := by decide +kernel
theorem dL_law_551 : decode cL_law 551 = .ok (.iload_n 3, 1) := by decide +kernel
theorem dL_law_552 : decode cL_law 552 = .ok (.iconst 2, 1) := by decide +kernel
theorem dL_law_553 : decode cL_law 553 = .ok (.iadd, 1) := by decide +kernel
theorem dL_law_554 : decode cL_law 554 = .ok (.iaload, 1) := by decide +kernel
theorem dL_law_555 : decode cL_law 555 = .ok (.aload_n 0, 1) := by decide +kernel
theorem dL_law_556 : decode cL_law 556 = .ok (.iload_n 3, 1) := by decide +kernel
theorem dL_law_557 : decode cL_law 557 = .ok (.iconst 3, 1) := by decide +kernel
theorem dL_law_558 : decode cL_law 558 = .ok (.iadd, 1) := by decide +kernel
theorem dL_law_559 : decode cL_law 559 = .ok (.iaload, 1) := by decide +kernel
theorem dL_law_560 : decode cL_law 560 = .ok (.invokevirtual 57, 3) := by decide +kernel
theorem dL_law_563 : decode cL_law 563 = .ok (.aload_n 2, 1) := by decide +kernel
theorem dL_law_564 : decode cL_law 564 = .ok (.aload_n 0, 1) := by decide +kernel
theorem dL_law_565 : decode cL_law 565 = .ok (.iload_n 3, 1) := by decide +kernel
theorem dL_law_566 : decode cL_law 566 = .ok (.iconst 1, 1) := by decide +kernel
theorem dL_law_567 : decode cL_law 567 = .ok (.iadd, 1) := by decide +kernel
theorem dL_law_568 : decode cL_law 568 = .ok (.iaload, 1) := by decide +kernel
theorem dL_law_569 : decode cL_law 569 = .ok (.aload_n 0, 1) := by decide +kernel
theorem dL_law_570 : decode cL_law 570 = .ok (.iload_n 3, 1) := by decide +kernel
theorem dL_law_571 : decode cL_law 571 = .ok (.iconst 2, 1) := by decide +kernel
theorem dL_law_572 : decode cL_law 572 = .ok (.iadd, 1) := by decide +kernel
theorem dL_law_573 : decode cL_law 573 = .ok (.iaload, 1) := by decide +kernel
theorem dL_law_574 : decode cL_law 574 = .ok (.aload_n 0, 1) := by decide +kernel
theorem dL_law_575 : decode cL_law 575 = .ok (.iload_n 3, 1) := by decide +kernel
theorem dL_law_576 : decode cL_law 576 = .ok (.iconst 3, 1) := by decide +kernel
theorem dL_law_577 : decode cL_law 577 = .ok (.iadd, 1) := by decide +kernel
theorem dL_law_578 : decode cL_law 578 = .ok (.iaload, 1) := by decide +kernel
theorem dL_law_579 : decode cL_law 579 = .ok (.invokevirtual 60, 3) := by decide +kernel
theorem dL_law_582 : decode cL_law 582 = .ok (.if_icmp .eq 692, 3) := by decide +kernel
theorem dL_law_585 : decode cL_law 585 = .ok (.iconst 0, 1) := by decide +kernel
theorem dL_law_586 : decode cL_law 586 = .ok (.ireturn, 1) := by decide +kernel
theorem dL_law_587 : decode cL_law 587 = .ok (.aload_n 1, 1) := by decide +kernel
theorem dL_law_588 : decode cL_law 588 = .ok (.aload_n 0, 1) := by decide +kernel
theorem dL_law_589 : decode cL_law 589 = .ok (.iload_n 3, 1) := by decide +kernel
theorem dL_law_590 : decode cL_law 590 = .ok (.iconst 1, 1) := by decide +kernel
theorem dL_law_591 : decode cL_law 591 = .ok (.iadd, 1) := by decide +kernel
theorem dL_law_592 : decode cL_law 592 = .ok (.iaload, 1) := by decide +kernel
theorem dL_law_593 : decode cL_law 593 = .ok (.aload_n 0, 1) := by decide +kernel
theorem dL_law_594 : decode cL_law 594 = .ok (.iload_n 3, 1) := by decide +kernel
theorem dL_law_595 : decode cL_law 595 = .ok (.iconst 2, 1) := by decide +kernel
theorem dL_law_596 : decode cL_law 596 = .ok (.iadd, 1) := by decide +kernel
theorem dL_law_597 : decode cL_law 597 = .ok (.iaload, 1) := by decide +kernel
theorem dL_law_598 : decode cL_law 598 = .ok (.invokevirtual 61, 3) := by decide +kernel
theorem dL_law_601 : decode cL_law 601 = .ok (.aload_n 2, 1) := by decide +kernel
theorem dL_law_602 : decode cL_law 602 = .ok (.aload_n 0, 1) := by decide +kernel
theorem dL_law_603 : decode cL_law 603 = .ok (.iload_n 3, 1) := by decide +kernel
theorem dL_law_604 : decode cL_law 604 = .ok (.iconst 1, 1) := by decide +kernel
theorem dL_law_605 : decode cL_law 605 = .ok (.iadd, 1) := by decide +kernel
theorem dL_law_606 : decode cL_law 606 = .ok (.iaload, 1) := by decide +kernel
theorem dL_law_607 : decode cL_law 607 = .ok (.aload_n 0, 1) := by decide +kernel
theorem dL_law_608 : decode cL_law 608 = .ok (.iload_n 3, 1) := by decide +kernel
theorem dL_law_609 : decode cL_law 609 = .ok (.iconst 2, 1) := by decide +kernel
theorem dL_law_610 : decode cL_law 610 = .ok (.iadd, 1) := by decide +kernel
theorem dL_law_611 : decode cL_law 611 = .ok (.iaload, 1) := by decide +kernel
theorem dL_law_612 : decode cL_law 612 = .ok (.invokevirtual 64, 3) := by decide +kernel
theorem dL_law_615 : decode cL_law 615 = .ok (.if_icmp .eq 659, 3) := by decide +kernel
theorem dL_law_618 : decode cL_law 618 = .ok (.iconst 0, 1) := by decide +kernel
theorem dL_law_619 : decode cL_law 619 = .ok (.ireturn, 1) := by decide +kernel
theorem dL_law_620 : decode cL_law 620 = .ok (.aload_n 1, 1) := by decide +kernel
theorem dL_law_621 : decode cL_law 621 = .ok (.invokevirtual 65, 3) := by decide +kernel
theorem dL_law_624 : decode cL_law 624 = .ok (.aload_n 2, 1) := by decide +kernel
theorem dL_law_625 : decode cL_law 625 = .ok (.invokevirtual 69, 3) := by decide +kernel
theorem dL_law_628 : decode cL_law 628 = .ok (.if_icmp .eq 646, 3) := by decide +kernel
theorem dL_law_631 : decode cL_law 631 = .ok (.iconst 0, 1) := by decide +kernel
theorem dL_law_632 : decode cL_law 632 = .ok (.ireturn, 1) := by decide +kernel
theorem dL_law_633 : decode cL_law 633 = .ok (.aload_n 1, 1) := by decide +kernel
theorem dL_law_634 : decode cL_law 634 = .ok (.aload_n 0, 1) := by decide +kernel
theorem dL_law_635 : decode cL_law 635 = .ok (.iload_n 3, 1) := by decide +kernel
theorem dL_law_636 : decode cL_law 636 = .ok (.iconst 1, 1) := by decide +kernel
theorem dL_law_637 : decode cL_law 637 = .ok (.iadd, 1) := by decide +kernel
theorem dL_law_638 : decode cL_law 638 = .ok (.iaload, 1) := by decide +kernel
theorem dL_law_639 : decode cL_law 639 = .ok (.invokevirtual 70, 3) := by decide +kernel
theorem dL_law_642 : decode cL_law 642 = .ok (.aload_n 2, 1) := by decide +kernel
theorem dL_law_643 : decode cL_law 643 = .ok (.aload_n 0, 1) := by decide +kernel
theorem dL_law_644 : decode cL_law 644 = .ok (.iload_n 3, 1) := by decide +kernel
theorem dL_law_645 : decode cL_law 645 = .ok (.iconst 1, 1) := by decide +kernel
theorem dL_law_646 : decode cL_law 646 = .ok (.iadd, 1) := by decide +kernel
theorem dL_law_647 : decode cL_law 647 = .ok (.iaload, 1) := by decide +kernel
theorem dL_law_648 : decode cL_law 648 = .ok (.invokevirtual 73, 3) := by decide +kernel
theorem dL_law_651 : decode cL_law 651 = .ok (.if_icmp .eq 623, 3) := by decide +kernel
theorem dL_law_654 : decode cL_law 654 = .ok (.iconst 0, 1) := by decide +kernel
theorem dL_law_655 : decode cL_law 655 = .ok (.ireturn, 1) := by decide +kernel
theorem dL_law_656 : decode cL_law 656 = .ok (.aload_n 1, 1) := by decide +kernel
theorem dL_law_657 : decode cL_law 657 = .ok (.aload_n 0, 1) := by decide +kernel
theorem dL_law_658 : decode cL_law 658 = .ok (.iload_n 3, 1) := by decide +kernel
theorem dL_law_659 : decode cL_law 659 = .ok (.iconst 1, 1) := by decide +kernel
theorem dL_law_660 : decode cL_law 660 = .ok (.iadd, 1) := by decide +kernel
theorem dL_law_661 : decode cL_law 661 = .ok (.iaload, 1) := by decide +kernel
theorem dL_law_662 : decode cL_law 662 = .ok (.aload_n 0, 1) := by decide +kernel
theorem dL_law_663 : decode cL_law 663 = .ok (.iload_n 3, 1) := by decide +kernel
theorem dL_law_664 : decode cL_law 664 = .ok (.iconst 2, 1) := by decide +kernel
theorem dL_law_665 : decode cL_law 665 = .ok (.iadd, 1) := by decide +kernel
theorem dL_law_666 : decode cL_law 666 = .ok (.iaload, 1) := by decide +kernel
theorem dL_law_667 : decode cL_law 667 = .ok (.invokevirtual 74, 3) := by decide +kernel
theorem dL_law_670 : decode cL_law 670 = .ok (.aload_n 2, 1) := by decide +kernel
theorem dL_law_671 : decode cL_law 671 = .ok (.aload_n 0, 1) := by decide +kernel
theorem dL_law_672 : decode cL_law 672 = .ok (.iload_n 3, 1) := by decide +kernel
theorem dL_law_673 : decode cL_law 673 = .ok (.iconst 1, 1) := by decide +kernel
theorem dL_law_674 : decode cL_law 674 = .ok (.iadd, 1) := by decide +kernel
theorem dL_law_675 : decode cL_law 675 = .ok (.iaload, 1) := by decide +kernel
theorem dL_law_676 : decode cL_law 676 = .ok (.aload_n 0, 1) := by decide +kernel
theorem dL_law_677 : decode cL_law 677 = .ok (.iload_n 3, 1) := by decide +kernel
theorem dL_law_678 : decode cL_law 678 = .ok (.iconst 2, 1) := by decide +kernel
theorem dL_law_679 : decode cL_law 679 = .ok (.iadd, 1) := by decide +kernel
theorem dL_law_680 : decode cL_law 680 = .ok (.iaload, 1) := by decide +kernel
theorem dL_law_681 : decode cL_law 681 = .ok (.invokevirtual 77, 3) := by decide +kernel
theorem dL_law_684 : decode cL_law 684 = .ok (.if_icmp .eq 590, 3) := by decide +kernel
theorem dL_law_687 : decode cL_law 687 = .ok (.iconst 0, 1) := by decide +kernel
theorem dL_law_688 : decode cL_law 688 = .ok (.ireturn, 1) := by decide +kernel
theorem dL_law_689 : decode cL_law 689 = .ok (.aload_n 1, 1) := by decide +kernel
theorem dL_law_690 : decode cL_law 690 = .ok (.aload_n 0, 1) := by decide +kernel
theorem dL_law_691 : decode cL_law 691 = .ok (.iload_n 3, 1) := by decide +kernel
theorem dL_law_692 : decode cL_law 692 = .ok (.iconst 1, 1) := by decide +kernel
theorem dL_law_693 : decode cL_law 693 = .ok (.iadd, 1) := by decide +kernel
theorem dL_law_694 : decode cL_law 694 = .ok (.iaload, 1) := by decide +kernel
theorem dL_law_695 : decode cL_law 695 = .ok (.invokevirtual 78, 3) := by decide +kernel
theorem dL_law_698 : decode cL_law 698 = .ok (.aload_n 2, 1) := by decide +kernel
theorem dL_law_699 : decode cL_law 699 = .ok (.aload_n 0, 1) := by decide +kernel
theorem dL_law_700 : decode cL_law 700 = .ok (.iload_n 3, 1) := by decide +kernel
theorem dL_law_701 : decode cL_law 701 = .ok (.iconst 1, 1) := by decide +kernel
theorem dL_law_702 : decode cL_law 702 = .ok (.iadd, 1) := by decide +kernel
theorem dL_law_703 : decode cL_law 703 = .ok (.iaload, 1) := by decide +kernel
theorem dL_law_704 : decode cL_law 704 = .ok (.invokevirtual 81, 3) := by decide +kernel
theorem dL_law_707 : decode cL_law 707 = .ok (.if_icmp .eq 567, 3) := by decide +kernel
theorem dL_law_710 : decode cL_law 710 = .ok (.iconst 0, 1) := by decide +kernel
theorem dL_law_711 : decode cL_law 711 = .ok (.ireturn, 1) := by decide +kernel
theorem dL_law_712 : decode cL_law 712 = .ok (.aload_n 1, 1) := by decide +kernel
theorem dL_law_713 : decode cL_law 713 = .ok (.aload_n 0, 1) := by decide +kernel
theorem dL_law_714 : decode cL_law 714 = .ok (.iload_n 3, 1) := by decide +kernel
theorem dL_law_715 : decode cL_law 715 = .ok (.iconst 1, 1) := by decide +kernel
theorem dL_law_716 : decode cL_law 716 = .ok (.iadd, 1) := by decide +kernel
theorem dL_law_717 : decode cL_law 717 = .ok (.iaload, 1) := by decide +kernel
theorem dL_law_718 : decode cL_law 718 = .ok (.aload_n 0, 1) := by decide +kernel
theorem dL_law_719 : decode cL_law 719 = .ok (.iload_n 3, 1) := by decide +kernel
theorem dL_law_720 : decode cL_law 720 = .ok (.iconst 2, 1) := by decide +kernel
theorem dL_law_721 : decode cL_law 721 = .ok (.iadd, 1) := by decide +kernel
theorem dL_law_722 : decode cL_law 722 = .ok (.iaload, 1) := by decide +kernel
theorem dL_law_723 : decode cL_law 723 = .ok (.invokevirtual 82, 3) := by decide +kernel
theorem dL_law_726 : decode cL_law 726 = .ok (.aload_n 2, 1) := by decide +kernel
theorem dL_law_727 : decode cL_law 727 = .ok (.aload_n 0, 1) := by decide +kernel
theorem dL_law_728 : decode cL_law 728 = .ok (.iload_n 3, 1) := by decide +kernel
theorem dL_law_729 : decode cL_law 729 = .ok (.iconst 1, 1) := by decide +kernel
theorem dL_law_730 : decode cL_law 730 = .ok (.iadd, 1) := by decide +kernel
theorem dL_law_731 : decode cL_law 731 = .ok (.iaload, 1) := by decide +kernel
theorem dL_law_732 : decode cL_law 732 = .ok (.aload_n 0, 1) := by decide +kernel
theorem dL_law_733 : decode cL_law 733 = .ok (.iload_n 3, 1) := by decide +kernel
theorem dL_law_734 : decode cL_law 734 = .ok (.iconst 2, 1) := by decide +kernel
theorem dL_law_735 : decode cL_law 735 = .ok (.iadd, 1) := by decide +kernel
theorem dL_law_736 : decode cL_law 736 = .ok (.iaload, 1) := by decide +kernel
theorem dL_law_737 : decode cL_law 737 = .ok (.invokevirtual 85, 3) := by decide +kernel
theorem dL_law_740 : decode cL_law 740 = .ok (.if_icmp .eq 534, 3) := by decide +kernel
theorem dL_law_743 : decode cL_law 743 = .ok (.iconst 0, 1) := by decide +kernel
theorem dL_law_744 : decode cL_law 744 = .ok (.ireturn, 1) := by decide +kernel
theorem dL_law_745 : decode cL_law 745 = .ok (.aload_n 1, 1) := by decide +kernel
theorem dL_law_746 : decode cL_law 746 = .ok (.aload_n 0, 1) := by decide +kernel
theorem dL_law_747 : decode cL_law 747 = .ok (.iload_n 3, 1) := by decide +kernel
theorem dL_law_748 : decode cL_law 748 = .ok (.iconst 1, 1) := by decide +kernel
theorem dL_law_749 : decode cL_law 749 = .ok (.iadd, 1) := by decide +kernel
theorem dL_law_750 : decode cL_law 750 = .ok (.iaload, 1) := by decide +kernel
theorem dL_law_751 : decode cL_law 751 = .ok (.aload_n 0, 1) := by decide +kernel
theorem dL_law_752 : decode cL_law 752 = .ok (.iload_n 3, 1) := by decide +kernel
theorem dL_law_753 : decode cL_law 753 = .ok (.iconst 2, 1) := by decide +kernel
theorem dL_law_754 : decode cL_law 754 = .ok (.iadd, 1) := by decide +kernel
theorem dL_law_755 : decode cL_law 755 = .ok (.iaload, 1) := by decide +kernel
theorem dL_law_756 : decode cL_law 756 = .ok (.invokevirtual 86, 3) := by decide +kernel
theorem dL_law_759 : decode cL_law 759 = .ok (.aload_n 2, 1) := by decide +kernel
theorem dL_law_760 : decode cL_law 760 = .ok (.aload_n 0, 1) := by decide +kernel
theorem dL_law_761 : decode cL_law 761 = .ok (.iload_n 3, 1) := by decide +kernel
theorem dL_law_762 : decode cL_law 762 = .ok (.iconst 1, 1) := by decide +kernel
theorem dL_law_763 : decode cL_law 763 = .ok (.iadd, 1) := by decide +kernel
theorem dL_law_764 : decode cL_law 764 = .ok (.iaload, 1) := by decide +kernel
theorem dL_law_765 : decode cL_law 765 = .ok (.aload_n 0, 1) := by decide +kernel
theorem dL_law_766 : decode cL_law 766 = .ok (.iload_n 3, 1) := by decide +kernel
theorem dL_law_767 : decode cL_law 767 = .ok (.iconst 2, 1) := by decide +kernel
theorem dL_law_768 : decode cL_law 768 = .ok (.iadd, 1) := by decide +kernel
theorem dL_law_769 : decode cL_law 769 = .ok (.iaload, 1) := by decide +kernel
theorem dL_law_770 : decode cL_law 770 = .ok (.invokevirtual 89, 3) := by decide +kernel
theorem dL_law_773 : decode cL_law 773 = .ok (.if_icmp .eq 501, 3) := by decide +kernel
theorem dL_law_776 : decode cL_law 776 = .ok (.iconst 0, 1) := by decide +kernel
theorem dL_law_777 : decode cL_law 777 = .ok (.ireturn, 1) := by decide +kernel
theorem dL_law_778 : decode cL_law 778 = .ok (.aload_n 1, 1) := by decide +kernel
theorem dL_law_779 : decode cL_law 779 = .ok (.aload_n 0, 1) := by decide +kernel
theorem dL_law_780 : decode cL_law 780 = .ok (.iload_n 3, 1) := by decide +kernel
theorem dL_law_781 : decode cL_law 781 = .ok (.iconst 1, 1) := by decide +kernel
theorem dL_law_782 : decode cL_law 782 = .ok (.iadd, 1) := by decide +kernel
theorem dL_law_783 : decode cL_law 783 = .ok (.iaload, 1) := by decide +kernel
theorem dL_law_784 : decode cL_law 784 = .ok (.invokevirtual 90, 3) := by decide +kernel
theorem dL_law_787 : decode cL_law 787 = .ok (.aload_n 2, 1) := by decide +kernel
theorem dL_law_788 : decode cL_law 788 = .ok (.aload_n 0, 1) := by decide +kernel
theorem dL_law_789 : decode cL_law 789 = .ok (.iload_n 3, 1) := by decide +kernel
theorem dL_law_790 : decode cL_law 790 = .ok (.iconst 1, 1) := by decide +kernel
theorem dL_law_791 : decode cL_law 791 = .ok (.iadd, 1) := by decide +kernel
theorem dL_law_792 : decode cL_law 792 = .ok (.iaload, 1) := by decide +kernel
theorem dL_law_793 : decode cL_law 793 = .ok (.invokevirtual 93, 3) := by decide +kernel
theorem dL_law_796 : decode cL_law 796 = .ok (.if_icmp .eq 478, 3) := by decide +kernel
theorem dL_law_799 : decode cL_law 799 = .ok (.iconst 0, 1) := by decide +kernel
theorem dL_law_800 : decode cL_law 800 = .ok (.ireturn, 1) := by decide +kernel
theorem dL_law_801 : decode cL_law 801 = .ok (.aload_n 1, 1) := by decide +kernel
theorem dL_law_802 : decode cL_law 802 = .ok (.aload_n 0, 1) := by decide +kernel
theorem dL_law_803 : decode cL_law 803 = .ok (.iload_n 3, 1) := by decide +kernel
theorem dL_law_804 : decode cL_law 804 = .ok (.iconst 1, 1) := by decide +kernel
theorem dL_law_805 : decode cL_law 805 = .ok (.iadd, 1) := by decide +kernel
theorem dL_law_806 : decode cL_law 806 = .ok (.iaload, 1) := by decide +kernel
theorem dL_law_807 : decode cL_law 807 = .ok (.aload_n 0, 1) := by decide +kernel
theorem dL_law_808 : decode cL_law 808 = .ok (.iload_n 3, 1) := by decide +kernel
theorem dL_law_809 : decode cL_law 809 = .ok (.iconst 2, 1) := by decide +kernel
theorem dL_law_810 : decode cL_law 810 = .ok (.iadd, 1) := by decide +kernel
theorem dL_law_811 : decode cL_law 811 = .ok (.iaload, 1) := by decide +kernel
theorem dL_law_812 : decode cL_law 812 = .ok (.invokevirtual 94, 3) := by decide +kernel
theorem dL_law_815 : decode cL_law 815 = .ok (.aload_n 2, 1) := by decide +kernel
theorem dL_law_816 : decode cL_law 816 = .ok (.aload_n 0, 1) := by decide +kernel
theorem dL_law_817 : decode cL_law 817 = .ok (.iload_n 3, 1) := by decide +kernel
theorem dL_law_818 : decode cL_law 818 = .ok (.iconst 1, 1) := by decide +kernel
theorem dL_law_819 : decode cL_law 819 = .ok (.iadd, 1) := by decide +kernel
theorem dL_law_820 : decode cL_law 820 = .ok (.iaload, 1) := by decide +kernel
theorem dL_law_821 : decode cL_law 821 = .ok (.aload_n 0, 1) := by decide +kernel
theorem dL_law_822 : decode cL_law 822 = .ok (.iload_n 3, 1) := by decide +kernel
theorem dL_law_823 : decode cL_law 823 = .ok (.iconst 2, 1) := by decide +kernel
theorem dL_law_824 : decode cL_law 824 = .ok (.iadd, 1) := by decide +kernel
theorem dL_law_825 : decode cL_law 825 = .ok (.iaload, 1) := by decide +kernel
theorem dL_law_826 : decode cL_law 826 = .ok (.invokevirtual 97, 3) := by decide +kernel
theorem dL_law_829 : decode cL_law 829 = .ok (.if_icmp .eq 445, 3) := by decide +kernel
theorem dL_law_832 : decode cL_law 832 = .ok (.iconst 0, 1) := by decide +kernel
theorem dL_law_833 : decode cL_law 833 = .ok (.ireturn, 1) := by decide +kernel
theorem dL_law_834 : decode cL_law 834 = .ok (.aload_n 1, 1) := by decide +kernel
theorem dL_law_835 : decode cL_law 835 = .ok (.invokevirtual 98, 3) := by decide +kernel
theorem dL_law_838 : decode cL_law 838 = .ok (.aload_n 2, 1) := by decide +kernel
theorem dL_law_839 : decode cL_law 839 = .ok (.invokevirtual 101, 3) := by decide +kernel
theorem dL_law_842 : decode cL_law 842 = .ok (.if_icmp .eq 432, 3) := by decide +kernel
theorem dL_law_845 : decode cL_law 845 = .ok (.iconst 0, 1) := by decide +kernel
theorem dL_law_846 : decode cL_law 846 = .ok (.ireturn, 1) := by decide +kernel
theorem dL_law_847 : decode cL_law 847 = .ok (.aload_n 1, 1) := by decide +kernel
theorem dL_law_848 : decode cL_law 848 = .ok (.aload_n 0, 1) := by decide +kernel
theorem dL_law_849 : decode cL_law 849 = .ok (.iload_n 3, 1) := by decide +kernel
theorem dL_law_850 : decode cL_law 850 = .ok (.iconst 1, 1) := by decide +kernel
theorem dL_law_851 : decode cL_law 851 = .ok (.iadd, 1) := by decide +kernel
theorem dL_law_852 : decode cL_law 852 = .ok (.iaload, 1) := by decide +kernel
theorem dL_law_853 : decode cL_law 853 = .ok (.invokevirtual 102, 3) := by decide +kernel
theorem dL_law_856 : decode cL_law 856 = .ok (.aload_n 2, 1) := by decide +kernel
theorem dL_law_857 : decode cL_law 857 = .ok (.aload_n 0, 1) := by decide +kernel
theorem dL_law_858 : decode cL_law 858 = .ok (.iload_n 3, 1) := by decide +kernel
theorem dL_law_859 : decode cL_law 859 = .ok (.iconst 1, 1) := by decide +kernel
theorem dL_law_860 : decode cL_law 860 = .ok (.iadd, 1) := by decide +kernel
theorem dL_law_861 : decode cL_law 861 = .ok (.iaload, 1) := by decide +kernel
theorem dL_law_862 : decode cL_law 862 = .ok (.invokevirtual 105, 3) := by decide +kernel
theorem dL_law_865 : decode cL_law 865 = .ok (.if_icmp .eq 409, 3) := by decide +kernel
theorem dL_law_868 : decode cL_law 868 = .ok (.iconst 0, 1) := by decide +kernel
theorem dL_law_869 : decode cL_law 869 = .ok (.ireturn, 1) := by decide +kernel
theorem dL_law_870 : decode cL_law 870 = .ok (.aload_n 1, 1) := by decide +kernel
theorem dL_law_871 : decode cL_law 871 = .ok (.aload_n 0, 1) := by decide +kernel
theorem dL_law_872 : decode cL_law 872 = .ok (.iload_n 3, 1) := by decide +kernel
theorem dL_law_873 : decode cL_law 873 = .ok (.iconst 1, 1) := by decide +kernel
theorem dL_law_874 : decode cL_law 874 = .ok (.iadd, 1) := by decide +kernel
theorem dL_law_875 : decode cL_law 875 = .ok (.iaload, 1) := by decide +kernel
theorem dL_law_876 : decode cL_law 876 = .ok (.aload_n 0, 1) := by decide +kernel
theorem dL_law_877 : decode cL_law 877 = .ok (.iload_n 3, 1) := by decide +kernel
theorem dL_law_878 : decode cL_law 878 = .ok (.iconst 2, 1) := by decide +kernel
theorem dL_law_879 : decode cL_law 879 = .ok (.iadd, 1) := by decide +kernel
theorem dL_law_880 : decode cL_law 880 = .ok (.iaload, 1) := by decide +kernel
theorem dL_law_881 : decode cL_law 881 = .ok (.aload_n 0, 1) := by decide +kernel
theorem dL_law_882 : decode cL_law 882 = .ok (.iload_n 3, 1) := by decide +kernel
theorem dL_law_883 : decode cL_law 883 = .ok (.iconst 3, 1) := by decide +kernel
theorem dL_law_884 : decode cL_law 884 = .ok (.iadd, 1) := by decide +kernel
theorem dL_law_885 : decode cL_law 885 = .ok (.iaload, 1) := by decide +kernel
theorem dL_law_886 : decode cL_law 886 = .ok (.invokevirtual 106, 3) := by decide +kernel
theorem dL_law_889 : decode cL_law 889 = .ok (.aload_n 2, 1) := by decide +kernel
theorem dL_law_890 : decode cL_law 890 = .ok (.aload_n 0, 1) := by decide +kernel
theorem dL_law_891 : decode cL_law 891 = .ok (.iload_n 3, 1) := by decide +kernel
theorem dL_law_892 : decode cL_law 892 = .ok (.iconst 1, 1) := by decide +kernel
theorem dL_law_893 : decode cL_law 893 = .ok (.iadd, 1) := by decide +kernel
theorem dL_law_894 : decode cL_law 894 = .ok (.iaload, 1) := by decide +kernel
theorem dL_law_895 : decode cL_law 895 = .ok (.aload_n 0, 1) := by decide +kernel
theorem dL_law_896 : decode cL_law 896 = .ok (.iload_n 3, 1) := by decide +kernel
theorem dL_law_897 : decode cL_law 897 = .ok (.iconst 2, 1) := by decide +kernel
theorem dL_law_898 : decode cL_law 898 = .ok (.iadd, 1) := by decide +kernel
theorem dL_law_899 : decode cL_law 899 = .ok (.iaload, 1) := by decide +kernel
theorem dL_law_900 : decode cL_law 900 = .ok (.aload_n 0, 1) := by decide +kernel
theorem dL_law_901 : decode cL_law 901 = .ok (.iload_n 3, 1) := by decide +kernel
theorem dL_law_902 : decode cL_law 902 = .ok (.iconst 3, 1) := by decide +kernel
theorem dL_law_903 : decode cL_law 903 = .ok (.iadd, 1) := by decide +kernel
theorem dL_law_904 : decode cL_law 904 = .ok (.iaload, 1) := by decide +kernel
theorem dL_law_905 : decode cL_law 905 = .ok (.invokevirtual 109, 3) := by decide +kernel
theorem dL_law_908 : decode cL_law 908 = .ok (.if_icmp .eq 366, 3) := by decide +kernel
theorem dL_law_911 : decode cL_law 911 = .ok (.iconst 0, 1) := by decide +kernel
theorem dL_law_912 : decode cL_law 912 = .ok (.ireturn, 1) := by decide +kernel
theorem dL_law_913 : decode cL_law 913 = .ok (.aload_n 1, 1) := by decide +kernel
theorem dL_law_914 : decode cL_law 914 = .ok (.aload_n 0, 1) := by decide +kernel
theorem dL_law_915 : decode cL_law 915 = .ok (.iload_n 3, 1) := by decide +kernel
theorem dL_law_916 : decode cL_law 916 = .ok (.iconst 1, 1) := by decide +kernel
theorem dL_law_917 : decode cL_law 917 = .ok (.iadd, 1) := by decide +kernel
theorem dL_law_918 : decode cL_law 918 = .ok (.iaload, 1) := by decide +kernel
theorem dL_law_919 : decode cL_law 919 = .ok (.aload_n 0, 1) := by decide +kernel
theorem dL_law_920 : decode cL_law 920 = .ok (.iload_n 3, 1) := by decide +kernel
theorem dL_law_921 : decode cL_law 921 = .ok (.iconst 2, 1) := by decide +kernel
theorem dL_law_922 : decode cL_law 922 = .ok (.iadd, 1) := by decide +kernel
theorem dL_law_923 : decode cL_law 923 = .ok (.iaload, 1) := by decide +kernel
theorem dL_law_924 : decode cL_law 924 = .ok (.aload_n 0, 1) := by decide +kernel
theorem dL_law_925 : decode cL_law 925 = .ok (.iload_n 3, 1) := by decide +kernel
theorem dL_law_926 : decode cL_law 926 = .ok (.iconst 3, 1) := by decide +kernel
theorem dL_law_927 : decode cL_law 927 = .ok (.iadd, 1) := by decide +kernel
theorem dL_law_928 : decode cL_law 928 = .ok (.iaload, 1) := by decide +kernel
theorem dL_law_929 : decode cL_law 929 = .ok (.invokevirtual 110, 3) := by decide +kernel
theorem dL_law_932 : decode cL_law 932 = .ok (.aload_n 2, 1) := by decide +kernel
theorem dL_law_933 : decode cL_law 933 = .ok (.aload_n 0, 1) := by decide +kernel
theorem dL_law_934 : decode cL_law 934 = .ok (.iload_n 3, 1) := by decide +kernel
theorem dL_law_935 : decode cL_law 935 = .ok (.iconst 1, 1) := by decide +kernel
theorem dL_law_936 : decode cL_law 936 = .ok (.iadd, 1) := by decide +kernel
theorem dL_law_937 : decode cL_law 937 = .ok (.iaload, 1) := by decide +kernel
theorem dL_law_938 : decode cL_law 938 = .ok (.aload_n 0, 1) := by decide +kernel
theorem dL_law_939 : decode cL_law 939 = .ok (.iload_n 3, 1) := by decide +kernel
theorem dL_law_940 : decode cL_law 940 = .ok (.iconst 2, 1) := by decide +kernel
theorem dL_law_941 : decode cL_law 941 = .ok (.iadd, 1) := by decide +kernel
theorem dL_law_942 : decode cL_law 942 = .ok (.iaload, 1) := by decide +kernel
theorem dL_law_943 : decode cL_law 943 = .ok (.aload_n 0, 1) := by decide +kernel
theorem dL_law_944 : decode cL_law 944 = .ok (.iload_n 3, 1) := by decide +kernel
theorem dL_law_945 : decode cL_law 945 = .ok (.iconst 3, 1) := by decide +kernel
theorem dL_law_946 : decode cL_law 946 = .ok (.iadd, 1) := by decide +kernel
theorem dL_law_947 : decode cL_law 947 = .ok (.iaload, 1) := by decide +kernel
theorem dL_law_948 : decode cL_law 948 = .ok (.invokevirtual 113, 3) := by decide +kernel
theorem dL_law_951 : decode cL_law 951 = .ok (.if_icmp .eq 323, 3) := by decide +kernel
theorem dL_law_954 : decode cL_law 954 = .ok (.iconst 0, 1) := by decide +kernel
theorem dL_law_955 : decode cL_law 955 = .ok (.ireturn, 1) := by decide +kernel
theorem dL_law_956 : decode cL_law 956 = .ok (.aload_n 1, 1) := by decide +kernel
theorem dL_law_957 : decode cL_law 957 = .ok (.aload_n 0, 1) := by decide +kernel
theorem dL_law_958 : decode cL_law 958 = .ok (.iload_n 3, 1) := by decide +kernel
theorem dL_law_959 : decode cL_law 959 = .ok (.iconst 1, 1) := by decide +kernel
theorem dL_law_960 : decode cL_law 960 = .ok (.iadd, 1) := by decide +kernel
theorem dL_law_961 : decode cL_law 961 = .ok (.iaload, 1) := by decide +kernel
theorem dL_law_962 : decode cL_law 962 = .ok (.aload_n 0, 1) := by decide +kernel
theorem dL_law_963 : decode cL_law 963 = .ok (.iload_n 3, 1) := by decide +kernel
theorem dL_law_964 : decode cL_law 964 = .ok (.iconst 2, 1) := by decide +kernel
theorem dL_law_965 : decode cL_law 965 = .ok (.iadd, 1) := by decide +kernel
theorem dL_law_966 : decode cL_law 966 = .ok (.iaload, 1) := by decide +kernel
theorem dL_law_967 : decode cL_law 967 = .ok (.invokevirtual 114, 3) := by decide +kernel
theorem dL_law_970 : decode cL_law 970 = .ok (.aload_n 2, 1) := by decide +kernel
theorem dL_law_971 : decode cL_law 971 = .ok (.aload_n 0, 1) := by decide +kernel
theorem dL_law_972 : decode cL_law 972 = .ok (.iload_n 3, 1) := by decide +kernel
theorem dL_law_973 : decode cL_law 973 = .ok (.iconst 1, 1) := by decide +kernel
theorem dL_law_974 : decode cL_law 974 = .ok (.iadd, 1) := by decide +kernel
theorem dL_law_975 : decode cL_law 975 = .ok (.iaload, 1) := by decide +kernel
theorem dL_law_976 : decode cL_law 976 = .ok (.aload_n 0, 1) := by decide +kernel
theorem dL_law_977 : decode cL_law 977 = .ok (.iload_n 3, 1) := by decide +kernel
theorem dL_law_978 : decode cL_law 978 = .ok (.iconst 2, 1) := by decide +kernel
theorem dL_law_979 : decode cL_law 979 = .ok (.iadd, 1) := by decide +kernel
theorem dL_law_980 : decode cL_law 980 = .ok (.iaload, 1) := by decide +kernel
theorem dL_law_981 : decode cL_law 981 = .ok (.invokevirtual 117, 3) := by decide +kernel
theorem dL_law_984 : decode cL_law 984 = .ok (.if_icmp .eq 290, 3) := by decide +kernel
theorem dL_law_987 : decode cL_law 987 = .ok (.iconst 0, 1) := by decide +kernel
theorem dL_law_988 : decode cL_law 988 = .ok (.ireturn, 1) := by decide +kernel
theorem dL_law_989 : decode cL_law 989 = .ok (.aload_n 1, 1) := by decide +kernel
theorem dL_law_990 : decode cL_law 990 = .ok (.aload_n 0, 1) := by decide +kernel
theorem dL_law_991 : decode cL_law 991 = .ok (.iload_n 3, 1) := by decide +kernel
theorem dL_law_992 : decode cL_law 992 = .ok (.iconst 1, 1) := by decide +kernel
theorem dL_law_993 : decode cL_law 993 = .ok (.iadd, 1) := by decide +kernel
theorem dL_law_994 : decode cL_law 994 = .ok (.iaload, 1) := by decide +kernel
theorem dL_law_995 : decode cL_law 995 = .ok (.invokevirtual 118, 3) := by decide +kernel
theorem dL_law_998 : decode cL_law 998 = .ok (.aload_n 2, 1) := by decide +kernel
theorem dL_law_999 : decode cL_law 999 = .ok (.aload_n 0, 1) := by decide +kernel
theorem dL_law_1000 : decode cL_law 1000 = .ok (.iload_n 3, 1) := by decide +kernel
theorem dL_law_1001 : decode cL_law 1001 = .ok (.iconst 1, 1) := by decide +kernel
theorem dL_law_1002 : decode cL_law 1002 = .ok (.iadd, 1) := by decide +kernel
theorem dL_law_1003 : decode cL_law 1003 = .ok (.iaload, 1) := by decide +kernel
theorem dL_law_1004 : decode cL_law 1004 = .ok (.invokevirtual 121, 3) := by decide +kernel
theorem dL_law_1007 : decode cL_law 1007 = .ok (.if_icmp .eq 267, 3) := by decide +kernel
theorem dL_law_1010 : decode cL_law 1010 = .ok (.iconst 0, 1) := by decide +kernel
theorem dL_law_1011 : decode cL_law 1011 = .ok (.ireturn, 1) := by decide +kernel
theorem dL_law_1012 : decode cL_law 1012 = .ok (.aload_n 1, 1) := by decide +kernel
theorem dL_law_1013 : decode cL_law 1013 = .ok (.aload_n 0, 1) := by decide +kernel
theorem dL_law_1014 : decode cL_law 1014 = .ok (.iload_n 3, 1) := by decide +kernel
theorem dL_law_1015 : decode cL_law 1015 = .ok (.iconst 1, 1) := by decide +kernel
theorem dL_law_1016 : decode cL_law 1016 = .ok (.iadd, 1) := by decide +kernel
theorem dL_law_1017 : decode cL_law 1017 = .ok (.iaload, 1) := by decide +kernel
theorem dL_law_1018 : decode cL_law 1018 = .ok (.aload_n 0, 1) := by decide +kernel
theorem dL_law_1019 : decode cL_law 1019 = .ok (.iload_n 3, 1) := by decide +kernel
theorem dL_law_1020 : decode cL_law 1020 = .ok (.iconst 2, 1) := by decide +kernel
theorem dL_law_1021 : decode cL_law 1021 = .ok (.iadd, 1) := by decide +kernel
theorem dL_law_1022 : decode cL_law 1022 = .ok (.iaload, 1) := by decide +kernel
theorem dL_law_1023 : decode cL_law 1023 = .ok (.aload_n 0, 1) := by decide +kernel
theorem dL_law_1024 : decode cL_law 1024 = .ok (.iload_n 3, 1) := by decide +kernel
theorem dL_law_1025 : decode cL_law 1025 = .ok (.iconst 3, 1) := by decide +kernel
theorem dL_law_1026 : decode cL_law 1026 = .ok (.iadd, 1) := by decide +kernel
theorem dL_law_1027 : decode cL_law 1027 = .ok (.iaload, 1) := by decide +kernel
theorem dL_law_1028 : decode cL_law 1028 = .ok (.invokevirtual 122, 3) := by decide +kernel
theorem dL_law_1031 : decode cL_law 1031 = .ok (.aload_n 2, 1) := by decide +kernel
theorem dL_law_1032 : decode cL_law 1032 = .ok (.aload_n 0, 1) := by decide +kernel
theorem dL_law_1033 : decode cL_law 1033 = .ok (.iload_n 3, 1) := by decide +kernel
theorem dL_law_1034 : decode cL_law 1034 = .ok (.iconst 1, 1) := by decide +kernel
theorem dL_law_1035 : decode cL_law 1035 = .ok (.iadd, 1) := by decide +kernel
theorem dL_law_1036 : decode cL_law 1036 = .ok (.iaload, 1) := by decide +kernel
theorem dL_law_1037 : decode cL_law 1037 = .ok (.aload_n 0, 1) := by decide +kernel
theorem dL_law_1038 : decode cL_law 1038 = .ok (.iload_n 3, 1) := by decide +kernel
theorem dL_law_1039 : decode cL_law 1039 = .ok (.iconst 2, 1) := by decide +kernel
theorem dL_law_1040 : decode cL_law 1040 = .ok (.iadd, 1) := by decide +kernel
theorem dL_law_1041 : decode cL_law 1041 = .ok (.iaload, 1) := by decide +kernel
theorem dL_law_1042 : decode cL_law 1042 = .ok (.aload_n 0, 1) := by decide +kernel
theorem dL_law_1043 : decode cL_law 1043 = .ok (.iload_n 3, 1) := by decide +kernel
theorem dL_law_1044 : decode cL_law 1044 = .ok (.iconst 3, 1) := by decide +kernel
theorem dL_law_1045 : decode cL_law 1045 = .ok (.iadd, 1) := by decide +kernel
theorem dL_law_1046 : decode cL_law 1046 = .ok (.iaload, 1) := by decide +kernel
theorem dL_law_1047 : decode cL_law 1047 = .ok (.invokevirtual 125, 3) := by decide +kernel
theorem dL_law_1050 : decode cL_law 1050 = .ok (.if_icmp .eq 224, 3) := by decide +kernel
theorem dL_law_1053 : decode cL_law 1053 = .ok (.iconst 0, 1) := by decide +kernel
theorem dL_law_1054 : decode cL_law 1054 = .ok (.ireturn, 1) := by decide +kernel
theorem dL_law_1055 : decode cL_law 1055 = .ok (.aload_n 1, 1) := by decide +kernel
theorem dL_law_1056 : decode cL_law 1056 = .ok (.aload_n 0, 1) := by decide +kernel
theorem dL_law_1057 : decode cL_law 1057 = .ok (.iload_n 3, 1) := by decide +kernel
theorem dL_law_1058 : decode cL_law 1058 = .ok (.iconst 1, 1) := by decide +kernel
theorem dL_law_1059 : decode cL_law 1059 = .ok (.iadd, 1) := by decide +kernel
theorem dL_law_1060 : decode cL_law 1060 = .ok (.iaload, 1) := by decide +kernel
theorem dL_law_1061 : decode cL_law 1061 = .ok (.invokevirtual 126, 3) := by decide +kernel
theorem dL_law_1064 : decode cL_law 1064 = .ok (.aload_n 2, 1) := by decide +kernel
theorem dL_law_1065 : decode cL_law 1065 = .ok (.aload_n 0, 1) := by decide +kernel
theorem dL_law_1066 : decode cL_law 1066 = .ok (.iload_n 3, 1) := by decide +kernel
theorem dL_law_1067 : decode cL_law 1067 = .ok (.iconst 1, 1) := by decide +kernel
theorem dL_law_1068 : decode cL_law 1068 = .ok (.iadd, 1) := by decide +kernel
theorem dL_law_1069 : decode cL_law 1069 = .ok (.iaload, 1) := by decide +kernel
theorem dL_law_1070 : decode cL_law 1070 = .ok (.invokevirtual 129, 3) := by decide +kernel
theorem dL_law_1073 : decode cL_law 1073 = .ok (.if_icmp .eq 201, 3) := by decide +kernel
theorem dL_law_1076 : decode cL_law 1076 = .ok (.iconst 0, 1) := by decide +kernel
theorem dL_law_1077 : decode cL_law 1077 = .ok (.ireturn, 1) := by decide +kernel
theorem dL_law_1078 : decode cL_law 1078 = .ok (.aload_n 1, 1) := by decide +kernel
theorem dL_law_1079 : decode cL_law 1079 = .ok (.aload_n 0, 1) := by decide +kernel
theorem dL_law_1080 : decode cL_law 1080 = .ok (.iload_n 3, 1) := by decide +kernel
theorem dL_law_1081 : decode cL_law 1081 = .ok (.iconst 1, 1) := by decide +kernel
theorem dL_law_1082 : decode cL_law 1082 = .ok (.iadd, 1) := by decide +kernel
theorem dL_law_1083 : decode cL_law 1083 = .ok (.iaload, 1) := by decide +kernel
theorem dL_law_1084 : decode cL_law 1084 = .ok (.invokevirtual 130, 3) := by decide +kernel
theorem dL_law_1087 : decode cL_law 1087 = .ok (.aload_n 2, 1) := by decide +kernel
theorem dL_law_1088 : decode cL_law 1088 = .ok (.aload_n 0, 1) := by decide +kernel
theorem dL_law_1089 : decode cL_law 1089 = .ok (.iload_n 3, 1) := by decide +kernel
theorem dL_law_1090 : decode cL_law 1090 = .ok (.iconst 1, 1) := by decide +kernel
theorem dL_law_1091 : decode cL_law 1091 = .ok (.iadd, 1) := by decide +kernel
theorem dL_law_1092 : decode cL_law 1092 = .ok (.iaload, 1) := by decide +kernel
theorem dL_law_1093 : decode cL_law 1093 = .ok (.invokevirtual 133, 3) := by decide +kernel
theorem dL_law_1096 : decode cL_law 1096 = .ok (.if_icmp .eq 178, 3) := by decide +kernel
theorem dL_law_1099 : decode cL_law 1099 = .ok (.iconst 0, 1) := by decide +kernel
theorem dL_law_1100 : decode cL_law 1100 = .ok (.ireturn, 1) := by decide +kernel
theorem dL_law_1101 : decode cL_law 1101 = .ok (.aload_n 1, 1) := by decide +kernel
theorem dL_law_1102 : decode cL_law 1102 = .ok (.aload_n 0, 1) := by decide +kernel
theorem dL_law_1103 : decode cL_law 1103 = .ok (.iload_n 3, 1) := by decide +kernel
theorem dL_law_1104 : decode cL_law 1104 = .ok (.iconst 1, 1) := by decide +kernel
theorem dL_law_1105 : decode cL_law 1105 = .ok (.iadd, 1) := by decide +kernel
theorem dL_law_1106 : decode cL_law 1106 = .ok (.iaload, 1) := by decide +kernel
theorem dL_law_1107 : decode cL_law 1107 = .ok (.invokevirtual 134, 3) := by decide +kernel
theorem dL_law_1110 : decode cL_law 1110 = .ok (.aload_n 2, 1) := by decide +kernel
theorem dL_law_1111 : decode cL_law 1111 = .ok (.aload_n 0, 1) := by decide +kernel
theorem dL_law_1112 : decode cL_law 1112 = .ok (.iload_n 3, 1) := by decide +kernel
theorem dL_law_1113 : decode cL_law 1113 = .ok (.iconst 1, 1) := by decide +kernel
theorem dL_law_1114 : decode cL_law 1114 = .ok (.iadd, 1) := by decide +kernel
theorem dL_law_1115 : decode cL_law 1115 = .ok (.iaload, 1) := by decide +kernel
theorem dL_law_1116 : decode cL_law 1116 = .ok (.invokevirtual 137, 3) := by decide +kernel
theorem dL_law_1119 : decode cL_law 1119 = .ok (.if_icmp .eq 155, 3) := by decide +kernel
theorem dL_law_1122 : decode cL_law 1122 = .ok (.iconst 0, 1) := by decide +kernel
theorem dL_law_1123 : decode cL_law 1123 = .ok (.ireturn, 1) := by decide +kernel
theorem dL_law_1124 : decode cL_law 1124 = .ok (.aload_n 1, 1) := by decide +kernel
theorem dL_law_1125 : decode cL_law 1125 = .ok (.aload_n 0, 1) := by decide +kernel
theorem dL_law_1126 : decode cL_law 1126 = .ok (.iload_n 3, 1) := by decide +kernel
theorem dL_law_1127 : decode cL_law 1127 = .ok (.iconst 1, 1) := by decide +kernel
theorem dL_law_1128 : decode cL_law 1128 = .ok (.iadd, 1) := by decide +kernel
theorem dL_law_1129 : decode cL_law 1129 = .ok (.iaload, 1) := by decide +kernel
theorem dL_law_1130 : decode cL_law 1130 = .ok (.invokevirtual 138, 3) := by decide +kernel
theorem dL_law_1133 : decode cL_law 1133 = .ok (.aload_n 2, 1) := by decide +kernel
theorem dL_law_1134 : decode cL_law 1134 = .ok (.aload_n 0, 1) := by decide +kernel
theorem dL_law_1135 : decode cL_law 1135 = .ok (.iload_n 3, 1) := by decide +kernel
theorem dL_law_1136 : decode cL_law 1136 = .ok (.iconst 1, 1) := by decide +kernel
theorem dL_law_1137 : decode cL_law 1137 = .ok (.iadd, 1) := by decide +kernel
theorem dL_law_1138 : decode cL_law 1138 = .ok (.iaload, 1) := by decide +kernel
theorem dL_law_1139 : decode cL_law 1139 = .ok (.invokevirtual 141, 3) := by decide +kernel
theorem dL_law_1142 : decode cL_law 1142 = .ok (.if_icmp .eq 132, 3) := by decide +kernel
theorem dL_law_1145 : decode cL_law 1145 = .ok (.iconst 0, 1) := by decide +kernel
theorem dL_law_1146 : decode cL_law 1146 = .ok (.ireturn, 1) := by decide +kernel
theorem dL_law_1147 : decode cL_law 1147 = .ok (.aload_n 1, 1) := by decide +kernel
theorem dL_law_1148 : decode cL_law 1148 = .ok (.invokevirtual 142, 3) := by decide +kernel
theorem dL_law_1151 : decode cL_law 1151 = .ok (.aload_n 2, 1) := by decide +kernel
theorem dL_law_1152 : decode cL_law 1152 = .ok (.invokevirtual 145, 3) := by decide +kernel
theorem dL_law_1155 : decode cL_law 1155 = .ok (.if_icmp .eq 119, 3) := by decide +kernel
theorem dL_law_1158 : decode cL_law 1158 = .ok (.iconst 0, 1) := by decide +kernel
theorem dL_law_1159 : decode cL_law 1159 = .ok (.ireturn, 1) := by decide +kernel
theorem dL_law_1160 : decode cL_law 1160 = .ok (.aload_n 1, 1) := by decide +kernel
theorem dL_law_1161 : decode cL_law 1161 = .ok (.invokevirtual 146, 3) := by decide +kernel
theorem dL_law_1164 : decode cL_law 1164 = .ok (.aload_n 2, 1) := by decide +kernel
theorem dL_law_1165 : decode cL_law 1165 = .ok (.invokevirtual 149, 3) := by decide +kernel
theorem dL_law_1168 : decode cL_law 1168 = .ok (.if_icmp .eq 106, 3) := by decide +kernel
theorem dL_law_1171 : decode cL_law 1171 = .ok (.iconst 0, 1) := by decide +kernel
theorem dL_law_1172 : decode cL_law 1172 = .ok (.ireturn, 1) := by decide +kernel
theorem dL_law_1173 : decode cL_law 1173 = .ok (.aload_n 1, 1) := by decide +kernel
theorem dL_law_1174 : decode cL_law 1174 = .ok (.invokevirtual 150, 3) := by decide +kernel
theorem dL_law_1177 : decode cL_law 1177 = .ok (.aload_n 2, 1) := by decide +kernel
theorem dL_law_1178 : decode cL_law 1178 = .ok (.invokevirtual 154, 3) := by decide +kernel
theorem dL_law_1181 : decode cL_law 1181 = .ok (.lcmp, 1) := by decide +kernel
theorem dL_law_1182 : decode cL_law 1182 = .ok (.ifCond .eq 92, 3) := by decide +kernel
theorem dL_law_1185 : decode cL_law 1185 = .ok (.iconst 0, 1) := by decide +kernel
theorem dL_law_1186 : decode cL_law 1186 = .ok (.ireturn, 1) := by decide +kernel
theorem dL_law_1187 : decode cL_law 1187 = .ok (.aload_n 1, 1) := by decide +kernel
theorem dL_law_1188 : decode cL_law 1188 = .ok (.invokevirtual 155, 3) := by decide +kernel
theorem dL_law_1191 : decode cL_law 1191 = .ok (.aload_n 2, 1) := by decide +kernel
theorem dL_law_1192 : decode cL_law 1192 = .ok (.invokevirtual 158, 3) := by decide +kernel
theorem dL_law_1195 : decode cL_law 1195 = .ok (.lcmp, 1) := by decide +kernel
theorem dL_law_1196 : decode cL_law 1196 = .ok (.ifCond .eq 78, 3) := by decide +kernel
theorem dL_law_1199 : decode cL_law 1199 = .ok (.iconst 0, 1) := by decide +kernel
theorem dL_law_1200 : decode cL_law 1200 = .ok (.ireturn, 1) := by decide +kernel
theorem dL_law_1201 : decode cL_law 1201 = .ok (.aload_n 1, 1) := by decide +kernel
theorem dL_law_1202 : decode cL_law 1202 = .ok (.aload_n 0, 1) := by decide +kernel
theorem dL_law_1203 : decode cL_law 1203 = .ok (.iload_n 3, 1) := by decide +kernel
theorem dL_law_1204 : decode cL_law 1204 = .ok (.iconst 1, 1) := by decide +kernel
theorem dL_law_1205 : decode cL_law 1205 = .ok (.iadd, 1) := by decide +kernel
theorem dL_law_1206 : decode cL_law 1206 = .ok (.iaload, 1) := by decide +kernel
theorem dL_law_1207 : decode cL_law 1207 = .ok (.invokevirtual 159, 3) := by decide +kernel
theorem dL_law_1210 : decode cL_law 1210 = .ok (.aload_n 2, 1) := by decide +kernel
theorem dL_law_1211 : decode cL_law 1211 = .ok (.aload_n 0, 1) := by decide +kernel
theorem dL_law_1212 : decode cL_law 1212 = .ok (.iload_n 3, 1) := by decide +kernel
theorem dL_law_1213 : decode cL_law 1213 = .ok (.iconst 1, 1) := by decide +kernel
theorem dL_law_1214 : decode cL_law 1214 = .ok (.iadd, 1) := by decide +kernel
theorem dL_law_1215 : decode cL_law 1215 = .ok (.iaload, 1) := by decide +kernel
theorem dL_law_1216 : decode cL_law 1216 = .ok (.invokevirtual 162, 3) := by decide +kernel
theorem dL_law_1219 : decode cL_law 1219 = .ok (.if_icmp .eq 55, 3) := by decide +kernel
theorem dL_law_1222 : decode cL_law 1222 = .ok (.iconst 0, 1) := by decide +kernel
theorem dL_law_1223 : decode cL_law 1223 = .ok (.ireturn, 1) := by decide +kernel
theorem dL_law_1224 : decode cL_law 1224 = .ok (.aload_n 1, 1) := by decide +kernel
theorem dL_law_1225 : decode cL_law 1225 = .ok (.invokevirtual 163, 3) := by decide +kernel
theorem dL_law_1228 : decode cL_law 1228 = .ok (.aload_n 2, 1) := by decide +kernel
theorem dL_law_1229 : decode cL_law 1229 = .ok (.invokevirtual 166, 3) := by decide +kernel
theorem dL_law_1232 : decode cL_law 1232 = .ok (.if_icmp .eq 42, 3) := by decide +kernel
theorem dL_law_1235 : decode cL_law 1235 = .ok (.iconst 0, 1) := by decide +kernel
theorem dL_law_1236 : decode cL_law 1236 = .ok (.ireturn, 1) := by decide +kernel
theorem dL_law_1237 : decode cL_law 1237 = .ok (.aload_n 1, 1) := by decide +kernel
theorem dL_law_1238 : decode cL_law 1238 = .ok (.aload_n 0, 1) := by decide +kernel
theorem dL_law_1239 : decode cL_law 1239 = .ok (.iload_n 3, 1) := by decide +kernel
theorem dL_law_1240 : decode cL_law 1240 = .ok (.iconst 1, 1) := by decide +kernel
theorem dL_law_1241 : decode cL_law 1241 = .ok (.iadd, 1) := by decide +kernel
theorem dL_law_1242 : decode cL_law 1242 = .ok (.iaload, 1) := by decide +kernel
theorem dL_law_1243 : decode cL_law 1243 = .ok (.invokevirtual 167, 3) := by decide +kernel
theorem dL_law_1246 : decode cL_law 1246 = .ok (.aload_n 2, 1) := by decide +kernel
theorem dL_law_1247 : decode cL_law 1247 = .ok (.aload_n 0, 1) := by decide +kernel
theorem dL_law_1248 : decode cL_law 1248 = .ok (.iload_n 3, 1) := by decide +kernel
theorem dL_law_1249 : decode cL_law 1249 = .ok (.iconst 1, 1) := by decide +kernel
theorem dL_law_1250 : decode cL_law 1250 = .ok (.iadd, 1) := by decide +kernel
theorem dL_law_1251 : decode cL_law 1251 = .ok (.iaload, 1) := by decide +kernel
theorem dL_law_1252 : decode cL_law 1252 = .ok (.invokevirtual 170, 3) := by decide +kernel
theorem dL_law_1255 : decode cL_law 1255 = .ok (.if_icmp .eq 19, 3) := by decide +kernel
theorem dL_law_1258 : decode cL_law 1258 = .ok (.iconst 0, 1) := by decide +kernel
theorem dL_law_1259 : decode cL_law 1259 = .ok (.ireturn, 1) := by decide +kernel
theorem dL_law_1260 : decode cL_law 1260 = .ok (.aload_n 1, 1) := by decide +kernel
theorem dL_law_1261 : decode cL_law 1261 = .ok (.invokevirtual 171, 3) := by decide +kernel
theorem dL_law_1264 : decode cL_law 1264 = .ok (.aload_n 2, 1) := by decide +kernel
theorem dL_law_1265 : decode cL_law 1265 = .ok (.invokevirtual 174, 3) := by decide +kernel
theorem dL_law_1268 : decode cL_law 1268 = .ok (.lcmp, 1) := by decide +kernel
theorem dL_law_1269 : decode cL_law 1269 = .ok (.ifCond .eq 5, 3) := by decide +kernel
theorem dL_law_1272 : decode cL_law 1272 = .ok (.iconst 0, 1) := by decide +kernel
theorem dL_law_1273 : decode cL_law 1273 = .ok (.ireturn, 1) := by decide +kernel
theorem dL_law_1274 : decode cL_law 1274 = .ok (.iinc 3 6, 3) := by decide +kernel
theorem dL_law_1277 : decode cL_law 1277 = .ok (.goto (-1259), 3) := by decide +kernel
theorem dL_law_1280 : decode cL_law 1280 = .ok (.iconst 1, 1) := by decide +kernel
theorem dL_law_1281 : decode cL_law 1281 = .ok (.ireturn, 1) := by decide +kernel

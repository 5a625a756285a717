theorem dX10_left_2 : decode cX10_left 2 = .ok (.iconst 1, 1) := by decide +kernel
theorem dX10_left_3 : decode cX10_left 3 = .ok (.invokestatic 103, 3) := by decide +kernel
theorem dX10_left_6 : decode cX10_left 6 = .ok (.ifCond .ne 5, 3) := by decide +kernel
theorem dX10_left_9 : decode cX10_left 9 = .ok (.iconst (-1), 1) := by decide +kernel
theorem dX10_left_10 : decode cX10_left 10 = .ok (.ireturn, 1) := by decide +kernel
theorem dX10_left_11 : decode cX10_left 11 = .ok (.aload_n 0, 1) := by decide +kernel
theorem dX10_left_12 : decode cX10_left 12 = .ok (.iload_n 1, 1) := by decide +kernel
theorem dX10_left_13 : decode cX10_left 13 = .ok (.invokevirtual 184, 3) := by decide +kernel
theorem dX10_left_16 : decode cX10_left 16 = .ok (.istore_n 3, 1) := by decide +kernel
theorem dX10_left_17 : decode cX10_left 17 = .ok (.iload_n 3, 1) := by decide +kernel
theorem dX10_left_18 : decode cX10_left 18 = .ok (.ifCond .ge 5, 3) := by decide +kernel
theorem dX10_left_21 : decode cX10_left 21 = .ok (.iload_n 3, 1) := by decide +kernel
theorem dX10_left_22 : decode cX10_left 22 = .ok (.ireturn, 1) := by decide +kernel
theorem dX10_left_23 : decode cX10_left 23 = .ok (.iload_n 2, 1) := by decide +kernel
theorem dX10_left_24 : decode cX10_left 24 = .ok (.ifCond .ne 9, 3) := by decide +kernel
theorem dX10_left_27 : decode cX10_left 27 = .ok (.aload_n 0, 1) := by decide +kernel
theorem dX10_left_28 : decode cX10_left 28 = .ok (.iload_n 1, 1) := by decide +kernel
theorem dX10_left_29 : decode cX10_left 29 = .ok (.invokevirtual 199, 3) := by decide +kernel
theorem dX10_left_32 : decode cX10_left 32 = .ok (.ireturn, 1) := by decide +kernel
theorem dX10_left_33 : decode cX10_left 33 = .ok (.aload_n 0, 1) := by decide +kernel
theorem dX10_left_34 : decode cX10_left 34 = .ok (.iconst 0, 1) := by decide +kernel
theorem dX10_left_35 : decode cX10_left 35 = .ok (.invokevirtual 224, 3) := by decide +kernel
theorem dX10_left_38 : decode cX10_left 38 = .ok (.aload_n 0, 1) := by decide +kernel
theorem dX10_left_39 : decode cX10_left 39 = .ok (.iload_n 1, 1) := by decide +kernel
theorem dX10_left_40 : decode cX10_left 40 = .ok (.invokevirtual 228, 3) := by decide +kernel
theorem dX10_left_43 : decode cX10_left 43 = .ok (.ireturn, 1) := by decide +kernel
theorem dX10_ends_0 : decode cX10_ends 0 = .ok (.aload_n 0, 1) := by decide +kernel
theorem dX10_ends_1 : decode cX10_ends 1 = .ok (.iload_n 1, 1) := by decide +kernel
theorem dX10_ends_2 : decode cX10_ends 2 = .ok (.invokevirtual 184, 3) := by decide +kernel
theorem dX10_ends_5 : decode cX10_ends 5 = .ok (.istore_n 2, 1) := by decide +kernel
theorem dX10_ends_6 : decode cX10_ends 6 = .ok (.iload_n 2, 1) := by decide +kernel
theorem dX10_ends_7 : decode cX10_ends 7 = .ok (.ifCond .ge 5, 3) := by decide +kernel
theorem dX10_ends_10 : decode cX10_ends 10 = .ok (.iload_n 2, 1) := by decide +kernel
theorem dX10_ends_11 : decode cX10_ends 11 = .ok (.ireturn, 1) := by decide +kernel
theorem dX10_ends_12 : decode cX10_ends 12 = .ok (.aload_n 0, 1) := by decide +kernel
theorem dX10_ends_13 : decode cX10_ends 13 = .ok (.iconst 0, 1) := by decide +kernel
theorem dX10_ends_14 : decode cX10_ends 14 = .ok (.invokevirtual 224, 3) := by decide +kernel
theorem dX10_ends_17 : decode cX10_ends 17 = .ok (.aload_n 0, 1) := by decide +kernel
theorem dX10_ends_18 : decode cX10_ends 18 = .ok (.iload_n 1, 1) := by decide +kernel
theorem dX10_ends_19 : decode cX10_ends 19 = .ok (.invokevirtual 228, 3) := by decide +kernel
theorem dX10_ends_22 : decode cX10_ends 22 = .ok (.ifCond .ne 8, 3) := by decide +kernel
theorem dX10_ends_25 : decode cX10_ends 25 = .ok (.bipush (-9), 2) := by decide +kernel
theorem dX10_ends_27 : decode cX10_ends 27 = .ok (.goto 19, 3) := by decide +kernel
theorem dX10_ends_30 : decode cX10_ends 30 = .ok (.aload_n 0, 1) := by decide +kernel
theorem dX10_ends_31 : decode cX10_ends 31 = .ok (.aload_n 0, 1) := by decide +kernel
theorem dX10_ends_32 : decode cX10_ends 32 = .ok (.getfield 69, 3) := by decide +kernel
theorem dX10_ends_35 : decode cX10_ends 35 = .ok (.iload_n 1, 1) := by decide +kernel
theorem dX10_ends_36 : decode cX10_ends 36 = .ok (.iaload, 1) := by decide +kernel
theorem dX10_ends_37 : decode cX10_ends 37 = .ok (.aload_n 0, 1) := by decide +kernel
theorem dX10_ends_38 : decode cX10_ends 38 = .ok (.getfield 66, 3) := by decide +kernel
theorem dX10_ends_41 : decode cX10_ends 41 = .ok (.iload_n 1, 1) := by decide +kernel
theorem dX10_ends_42 : decode cX10_ends 42 = .ok (.iaload, 1) := by decide +kernel
theorem dX10_ends_43 : decode cX10_ends 43 = .ok (.invokevirtual 125, 3) := by decide +kernel
theorem dX10_ends_46 : decode cX10_ends 46 = .ok (.ireturn, 1) := by decide +kernel
theorem dX10_may_0 : decode cX10_may 0 = .ok (.iload_n 2, 1) := by decide +kernel
theorem dX10_may_1 : decode cX10_may 1 = .ok (.invokestatic 175, 3) := by decide +kernel
theorem dX10_may_4 : decode cX10_may 4 = .ok (.ifCond .ne 5, 3) := by decide +kernel
theorem dX10_may_7 : decode cX10_may 7 = .ok (.iconst (-1), 1) := by decide +kernel
theorem dX10_may_8 : decode cX10_may 8 = .ok (.ireturn, 1) := by decide +kernel
theorem dX10_may_9 : decode cX10_may 9 = .ok (.aload_n 0, 1) := by decide +kernel
theorem dX10_may_10 : decode cX10_may 10 = .ok (.iload_n 1, 1) := by decide +kernel
theorem dX10_may_11 : decode cX10_may 11 = .ok (.invokevirtual 184, 3) := by decide +kernel
theorem dX10_may_14 : decode cX10_may 14 = .ok (.istore_n 3, 1) := by decide +kernel
theorem dX10_may_15 : decode cX10_may 15 = .ok (.iload_n 3, 1) := by decide +kernel
theorem dX10_may_16 : decode cX10_may 16 = .ok (.ifCond .ge 5, 3) := by decide +kernel
theorem dX10_may_19 : decode cX10_may 19 = .ok (.iload_n 3, 1) := by decide +kernel
theorem dX10_may_20 : decode cX10_may 20 = .ok (.ireturn, 1) := by decide +kernel
theorem dX10_may_21 : decode cX10_may 21 = .ok (.aload_n 0, 1) := by decide +kernel
theorem dX10_may_22 : decode cX10_may 22 = .ok (.iconst 0, 1) := by decide +kernel
theorem dX10_may_23 : decode cX10_may 23 = .ok (.invokevirtual 224, 3) := by decide +kernel
theorem dX10_may_26 : decode cX10_may 26 = .ok (.aload_n 0, 1) := by decide +kernel
theorem dX10_may_27 : decode cX10_may 27 = .ok (.getfield 62, 3) := by decide +kernel
theorem dX10_may_30 : decode cX10_may 30 = .ok (.bipush 100, 2) := by decide +kernel
theorem dX10_may_32 : decode cX10_may 32 = .ok (.iload_n 1, 1) := by decide +kernel
theorem dX10_may_33 : decode cX10_may 33 = .ok (.imul, 1) := by decide +kernel
theorem dX10_may_34 : decode cX10_may 34 = .ok (.iload_n 2, 1) := by decide +kernel
theorem dX10_may_35 : decode cX10_may 35 = .ok (.iadd, 1) := by decide +kernel
theorem dX10_may_36 : decode cX10_may 36 = .ok (.baload, 1) := by decide +kernel
theorem dX10_may_37 : decode cX10_may 37 = .ok (.ifCond .eq 7, 3) := by decide +kernel
theorem dX10_may_40 : decode cX10_may 40 = .ok (.iconst 1, 1) := by decide +kernel
theorem dX10_may_41 : decode cX10_may 41 = .ok (.goto 4, 3) := by decide +kernel
theorem dX10_may_44 : decode cX10_may 44 = .ok (.iconst 0, 1) := by decide +kernel
theorem dX10_may_45 : decode cX10_may 45 = .ok (.ireturn, 1) := by decide +kernel
theorem dX10_burnt_0 : decode cX10_burnt 0 = .ok (.aload_n 0, 1) := by decide +kernel
theorem dX10_burnt_1 : decode cX10_burnt 1 = .ok (.invokevirtual 218, 3) := by decide +kernel
theorem dX10_burnt_4 : decode cX10_burnt 4 = .ok (.iconst 0, 1) := by decide +kernel
theorem dX10_burnt_5 : decode cX10_burnt 5 = .ok (.istore_n 1, 1) := by decide +kernel
theorem dX10_burnt_6 : decode cX10_burnt 6 = .ok (.iload_n 1, 1) := by decide +kernel
theorem dX10_burnt_7 : decode cX10_burnt 7 = .ok (.aload_n 0, 1) := by decide +kernel
theorem dX10_burnt_8 : decode cX10_burnt 8 = .ok (.getfield 172, 3) := by decide +kernel
theorem dX10_burnt_11 : decode cX10_burnt 11 = .ok (.if_icmp .ge 102, 3) := by decide +kernel
theorem dX10_burnt_14 : decode cX10_burnt 14 = .ok (.aload_n 0, 1) := by decide +kernel
theorem dX10_burnt_15 : decode cX10_burnt 15 = .ok (.getfield 56, 3) := by decide +kernel
theorem dX10_burnt_18 : decode cX10_burnt 18 = .ok (.iload_n 1, 1) := by decide +kernel
theorem dX10_burnt_19 : decode cX10_burnt 19 = .ok (.iaload, 1) := by decide +kernel
theorem dX10_burnt_20 : decode cX10_burnt 20 = .ok (.aload_n 0, 1) := by decide +kernel
theorem dX10_burnt_21 : decode cX10_burnt 21 = .ok (.iload_n 1, 1) := by decide +kernel
theorem dX10_burnt_22 : decode cX10_burnt 22 = .ok (.bipush (-9), 2) := by decide +kernel
theorem dX10_burnt_24 : decode cX10_burnt 24 = .ok (.iconst 0, 1) := by decide +kernel
theorem dX10_burnt_25 : decode cX10_burnt 25 = .ok (.invokevirtual 211, 3) := by decide +kernel
theorem dX10_burnt_28 : decode cX10_burnt 28 = .ok (.aload_n 0, 1) := by decide +kernel
theorem dX10_burnt_29 : decode cX10_burnt 29 = .ok (.iload_n 1, 1) := by decide +kernel
theorem dX10_burnt_30 : decode cX10_burnt 30 = .ok (.bipush (-9), 2) := by decide +kernel
theorem dX10_burnt_32 : decode cX10_burnt 32 = .ok (.iconst 1, 1) := by decide +kernel
theorem dX10_burnt_33 : decode cX10_burnt 33 = .ok (.invokevirtual 211, 3) := by decide +kernel
theorem dX10_burnt_36 : decode cX10_burnt 36 = .ok (.invokestatic 103, 3) := by decide +kernel
theorem dX10_burnt_39 : decode cX10_burnt 39 = .ok (.istore_n 2, 1) := by decide +kernel
theorem dX10_burnt_40 : decode cX10_burnt 40 = .ok (.iconst 0, 1) := by decide +kernel
theorem dX10_burnt_41 : decode cX10_burnt 41 = .ok (.istore_n 3, 1) := by decide +kernel
theorem dX10_burnt_42 : decode cX10_burnt 42 = .ok (.iload_n 3, 1) := by decide +kernel
theorem dX10_burnt_43 : decode cX10_burnt 43 = .ok (.bipush 12, 2) := by decide +kernel
theorem dX10_burnt_45 : decode cX10_burnt 45 = .ok (.if_icmp .ge 56, 3) := by decide +kernel
theorem dX10_burnt_48 : decode cX10_burnt 48 = .ok (.iload_n 2, 1) := by decide +kernel
theorem dX10_burnt_49 : decode cX10_burnt 49 = .ok (.ifCond .eq 44, 3) := by decide +kernel
theorem dX10_burnt_52 : decode cX10_burnt 52 = .ok (.aload_n 0, 1) := by decide +kernel
theorem dX10_burnt_53 : decode cX10_burnt 53 = .ok (.getfield 50, 3) := by decide +kernel
theorem dX10_burnt_56 : decode cX10_burnt 56 = .ok (.iload_n 1, 1) := by decide +kernel
theorem dX10_burnt_57 : decode cX10_burnt 57 = .ok (.iaload, 1) := by decide +kernel
theorem dX10_burnt_58 : decode cX10_burnt 58 = .ok (.aload_n 0, 1) := by decide +kernel
theorem dX10_burnt_59 : decode cX10_burnt 59 = .ok (.getfield 53, 3) := by decide +kernel
theorem dX10_burnt_62 : decode cX10_burnt 62 = .ok (.iload_n 1, 1) := by decide +kernel
theorem dX10_burnt_63 : decode cX10_burnt 63 = .ok (.iaload, 1) := by decide +kernel
theorem dX10_burnt_64 : decode cX10_burnt 64 = .ok (.ior, 1) := by decide +kernel
theorem dX10_burnt_65 : decode cX10_burnt 65 = .ok (.iload_n 3, 1) := by decide +kernel
theorem dX10_burnt_66 : decode cX10_burnt 66 = .ok (.invokestatic 208, 3) := by decide +kernel
theorem dX10_burnt_69 : decode cX10_burnt 69 = .ok (.ifCond .eq 20, 3) := by decide +kernel
theorem dX10_burnt_72 : decode cX10_burnt 72 = .ok (.aload_n 0, 1) := by decide +kernel
theorem dX10_burnt_73 : decode cX10_burnt 73 = .ok (.iload_n 3, 1) := by decide +kernel
theorem dX10_burnt_74 : decode cX10_burnt 74 = .ok (.invokevirtual 193, 3) := by decide +kernel
theorem dX10_burnt_77 : decode cX10_burnt 77 = .ok (.ifCond .eq 12, 3) := by decide +kernel
theorem dX10_burnt_80 : decode cX10_burnt 80 = .ok (.aload_n 0, 1) := by decide +kernel
theorem dX10_burnt_81 : decode cX10_burnt 81 = .ok (.getfield 69, 3) := by decide +kernel
theorem dX10_burnt_84 : decode cX10_burnt 84 = .ok (.iload_n 3, 1) := by decide +kernel
theorem dX10_burnt_85 : decode cX10_burnt 85 = .ok (.iaload, 1) := by decide +kernel
theorem dX10_burnt_86 : decode cX10_burnt 86 = .ok (.ifCond .lt 7, 3) := by decide +kernel
theorem dX10_burnt_89 : decode cX10_burnt 89 = .ok (.iconst 1, 1) := by decide +kernel
theorem dX10_burnt_90 : decode cX10_burnt 90 = .ok (.goto 4, 3) := by decide +kernel
theorem dX10_burnt_93 : decode cX10_burnt 93 = .ok (.iconst 0, 1) := by decide +kernel
theorem dX10_burnt_94 : decode cX10_burnt 94 = .ok (.istore_n 2, 1) := by decide +kernel
theorem dX10_burnt_95 : decode cX10_burnt 95 = .ok (.iinc 3 1, 3) := by decide +kernel
theorem dX10_burnt_98 : decode cX10_burnt 98 = .ok (.goto (-56), 3) := by decide +kernel
theorem dX10_burnt_101 : decode cX10_burnt 101 = .ok (.iload_n 2, 1) := by decide +kernel
theorem dX10_burnt_102 : decode cX10_burnt 102 = .ok (.ifCond .ne 5, 3) := by decide +kernel
theorem dX10_burnt_105 : decode cX10_burnt 105 = .ok (.iload_n 1, 1) := by decide +kernel
theorem dX10_burnt_106 : decode cX10_burnt 106 = .ok (.ireturn, 1) := by decide +kernel
theorem dX10_burnt_107 : decode cX10_burnt 107 = .ok (.iinc 1 1, 3) := by decide +kernel
theorem dX10_burnt_110 : decode cX10_burnt 110 = .ok (.goto (-104), 3) := by decide +kernel
theorem dX10_burnt_113 : decode cX10_burnt 113 = .ok (.bipush (-9), 2) := by decide +kernel
theorem dX10_burnt_115 : decode cX10_burnt 115 = .ok (.ireturn, 1) := by decide +kernel
theorem dX10_begin_0 : decode cX10_begin 0 = .ok (.aload_n 0, 1) := by decide +kernel
theorem dX10_begin_1 : decode cX10_begin 1 = .ok (.iload_n 2, 1) := by decide +kernel
theorem dX10_begin_2 : decode cX10_begin 2 = .ok (.invokevirtual 224, 3) := by decide +kernel
theorem dX10_begin_5 : decode cX10_begin 5 = .ok (.aload_n 0, 1) := by decide +kernel
theorem dX10_begin_6 : decode cX10_begin 6 = .ok (.iconst 0, 1) := by decide +kernel
theorem dX10_begin_7 : decode cX10_begin 7 = .ok (.putfield 231, 3) := by decide +kernel
theorem dX10_begin_10 : decode cX10_begin 10 = .ok (.iconst 0, 1) := by decide +kernel
theorem dX10_begin_11 : decode cX10_begin 11 = .ok (.istore_n 3, 1) := by decide +kernel
theorem dX10_begin_12 : decode cX10_begin 12 = .ok (.iload_n 3, 1) := by decide +kernel
theorem dX10_begin_13 : decode cX10_begin 13 = .ok (.bipush 12, 2) := by decide +kernel
theorem dX10_begin_15 : decode cX10_begin 15 = .ok (.if_icmp .ge 44, 3) := by decide +kernel
theorem dX10_begin_18 : decode cX10_begin 18 = .ok (.aload_n 0, 1) := by decide +kernel
theorem dX10_begin_19 : decode cX10_begin 19 = .ok (.getfield 78, 3) := by decide +kernel
theorem dX10_begin_22 : decode cX10_begin 22 = .ok (.iload_n 3, 1) := by decide +kernel
theorem dX10_begin_23 : decode cX10_begin 23 = .ok (.iconst (-1), 1) := by decide +kernel
theorem dX10_begin_24 : decode cX10_begin 24 = .ok (.iastore, 1) := by decide +kernel
theorem dX10_begin_25 : decode cX10_begin 25 = .ok (.aload_n 0, 1) := by decide +kernel
theorem dX10_begin_26 : decode cX10_begin 26 = .ok (.iload_n 3, 1) := by decide +kernel
theorem dX10_begin_27 : decode cX10_begin 27 = .ok (.invokevirtual 193, 3) := by decide +kernel
theorem dX10_begin_30 : decode cX10_begin 30 = .ok (.ifCond .eq 23, 3) := by decide +kernel
theorem dX10_begin_33 : decode cX10_begin 33 = .ok (.aload_n 0, 1) := by decide +kernel
theorem dX10_begin_34 : decode cX10_begin 34 = .ok (.getfield 72, 3) := by decide +kernel
theorem dX10_begin_37 : decode cX10_begin 37 = .ok (.aload_n 0, 1) := by decide +kernel
theorem dX10_begin_38 : decode cX10_begin 38 = .ok (.getfield 231, 3) := by decide +kernel
theorem dX10_begin_41 : decode cX10_begin 41 = .ok (.iload_n 3, 1) := by decide +kernel
theorem dX10_begin_42 : decode cX10_begin 42 = .ok (.iastore, 1) := by decide +kernel
theorem dX10_begin_43 : decode cX10_begin 43 = .ok (.aload_n 0, 1) := by decide +kernel
theorem dX10_begin_44 : decode cX10_begin 44 = .ok (.dup, 1) := by decide +kernel
theorem dX10_begin_45 : decode cX10_begin 45 = .ok (.getfield 231, 3) := by decide +kernel
theorem dX10_begin_48 : decode cX10_begin 48 = .ok (.iconst 1, 1) := by decide +kernel
theorem dX10_begin_49 : decode cX10_begin 49 = .ok (.iadd, 1) := by decide +kernel
theorem dX10_begin_50 : decode cX10_begin 50 = .ok (.putfield 231, 3) := by decide +kernel
theorem dX10_begin_53 : decode cX10_begin 53 = .ok (.iinc 3 1, 3) := by decide +kernel
theorem dX10_begin_56 : decode cX10_begin 56 = .ok (.goto (-44), 3) := by decide +kernel
theorem dX10_begin_59 : decode cX10_begin 59 = .ok (.aload_n 0, 1) := by decide +kernel
theorem dX10_begin_60 : decode cX10_begin 60 = .ok (.iconst 0, 1) := by decide +kernel
theorem dX10_begin_61 : decode cX10_begin 61 = .ok (.putfield 234, 3) := by decide +kernel
theorem dX10_begin_64 : decode cX10_begin 64 = .ok (.aload_n 0, 1) := by decide +kernel
theorem dX10_begin_65 : decode cX10_begin 65 = .ok (.getfield 75, 3) := by decide +kernel
theorem dX10_begin_68 : decode cX10_begin 68 = .ok (.iconst 0, 1) := by decide +kernel
theorem dX10_begin_69 : decode cX10_begin 69 = .ok (.iconst 0, 1) := by decide +kernel
theorem dX10_begin_70 : decode cX10_begin 70 = .ok (.iastore, 1) := by decide +kernel
theorem dX10_begin_71 : decode cX10_begin 71 = .ok (.aload_n 0, 1) := by decide +kernel
theorem dX10_begin_72 : decode cX10_begin 72 = .ok (.iconst 0, 1) := by decide +kernel
theorem dX10_begin_73 : decode cX10_begin 73 = .ok (.putfield 237, 3) := by decide +kernel
theorem dX10_begin_76 : decode cX10_begin 76 = .ok (.aload_n 0, 1) := by decide +kernel
theorem dX10_begin_77 : decode cX10_begin 77 = .ok (.iload_n 1, 1) := by decide +kernel
theorem dX10_begin_78 : decode cX10_begin 78 = .ok (.putfield 240, 3) := by decide +kernel
theorem dX10_begin_81 : decode cX10_begin 81 = .ok (.aload_n 0, 1) := by decide +kernel
theorem dX10_begin_82 : decode cX10_begin 82 = .ok (.iload_n 2, 1) := by decide +kernel
theorem dX10_begin_83 : decode cX10_begin 83 = .ok (.putfield 243, 3) := by decide +kernel
theorem dX10_begin_86 : decode cX10_begin 86 = .ok (.aload_n 0, 1) := by decide +kernel
theorem dX10_begin_87 : decode cX10_begin 87 = .ok (.iconst 0, 1) := by decide +kernel
theorem dX10_begin_88 : decode cX10_begin 88 = .ok (.putfield 246, 3) := by decide +kernel
theorem dX10_begin_91 : decode cX10_begin 91 = .ok (.aload_n 0, 1) := by decide +kernel
theorem dX10_begin_92 : decode cX10_begin 92 = .ok (.iconst 0, 1) := by decide +kernel
theorem dX10_begin_93 : decode cX10_begin 93 = .ok (.putfield 250, 3) := by decide +kernel
theorem dX10_begin_96 : decode cX10_begin 96 = .ok (.iconst 0, 1) := by decide +kernel
theorem dX10_begin_97 : decode cX10_begin 97 = .ok (.istore_n 3, 1) := by decide +kernel
theorem dX10_begin_98 : decode cX10_begin 98 = .ok (.iload_n 3, 1) := by decide +kernel
theorem dX10_begin_99 : decode cX10_begin 99 = .ok (.aload_n 0, 1) := by decide +kernel
theorem dX10_begin_100 : decode cX10_begin 100 = .ok (.getfield 172, 3) := by decide +kernel
theorem dX10_begin_103 : decode cX10_begin 103 = .ok (.if_icmp .ge 50, 3) := by decide +kernel
theorem dX10_begin_106 : decode cX10_begin 106 = .ok (.aload_n 0, 1) := by decide +kernel
theorem dX10_begin_107 : decode cX10_begin 107 = .ok (.aload_n 0, 1) := by decide +kernel
theorem dX10_begin_108 : decode cX10_begin 108 = .ok (.getfield 250, 3) := by decide +kernel
theorem dX10_begin_111 : decode cX10_begin 111 = .ok (.ifCond .ne 28, 3) := by decide +kernel
theorem dX10_begin_114 : decode cX10_begin 114 = .ok (.iload_n 2, 1) := by decide +kernel
theorem dX10_begin_115 : decode cX10_begin 115 = .ok (.iload_n 3, 1) := by decide +kernel
theorem dX10_begin_116 : decode cX10_begin 116 = .ok (.invokestatic 208, 3) := by decide +kernel
theorem dX10_begin_119 : decode cX10_begin 119 = .ok (.ifCond .ne 24, 3) := by decide +kernel
theorem dX10_begin_122 : decode cX10_begin 122 = .ok (.aload_n 0, 1) := by decide +kernel
theorem dX10_begin_123 : decode cX10_begin 123 = .ok (.iload_n 3, 1) := by decide +kernel
theorem dX10_begin_124 : decode cX10_begin 124 = .ok (.invokevirtual 253, 3) := by decide +kernel
theorem dX10_begin_127 : decode cX10_begin 127 = .ok (.ifCond .ge 16, 3) := by decide +kernel
theorem dX10_begin_130 : decode cX10_begin 130 = .ok (.aload_n 0, 1) := by decide +kernel
theorem dX10_begin_131 : decode cX10_begin 131 = .ok (.getfield 56, 3) := by decide +kernel
theorem dX10_begin_134 : decode cX10_begin 134 = .ok (.iload_n 3, 1) := by decide +kernel
theorem dX10_begin_135 : decode cX10_begin 135 = .ok (.iaload, 1) := by decide +kernel
theorem dX10_begin_136 : decode cX10_begin 136 = .ok (.ifCond .eq 7, 3) := by decide +kernel
theorem dX10_begin_139 : decode cX10_begin 139 = .ok (.iconst 1, 1) := by decide +kernel
theorem dX10_begin_140 : decode cX10_begin 140 = .ok (.goto 4, 3) := by decide +kernel
theorem dX10_begin_143 : decode cX10_begin 143 = .ok (.iconst 0, 1) := by decide +kernel
theorem dX10_begin_144 : decode cX10_begin 144 = .ok (.putfield 250, 3) := by decide +kernel
theorem dX10_begin_147 : decode cX10_begin 147 = .ok (.iinc 3 1, 3) := by decide +kernel
theorem dX10_begin_150 : decode cX10_begin 150 = .ok (.goto (-52), 3) := by decide +kernel
theorem dX10_begin_153 : decode cX10_begin 153 = .ok (.return_, 1) := by decide +kernel
theorem dX10_lastOf_0 : decode cX10_lastOf 0 = .ok (.bipush (-9), 2) := by decide +kernel
theorem dX10_lastOf_2 : decode cX10_lastOf 2 = .ok (.istore_n 2, 1) := by decide +kernel
theorem dX10_lastOf_3 : decode cX10_lastOf 3 = .ok (.iconst 0, 1) := by decide +kernel
theorem dX10_lastOf_4 : decode cX10_lastOf 4 = .ok (.istore_n 3, 1) := by decide +kernel
theorem dX10_lastOf_5 : decode cX10_lastOf 5 = .ok (.iload_n 3, 1) := by decide +kernel
theorem dX10_lastOf_6 : decode cX10_lastOf 6 = .ok (.bipush 12, 2) := by decide +kernel
theorem dX10_lastOf_8 : decode cX10_lastOf 8 = .ok (.if_icmp .ge 43, 3) := by decide +kernel
theorem dX10_lastOf_11 : decode cX10_lastOf 11 = .ok (.aload_n 0, 1) := by decide +kernel
theorem dX10_lastOf_12 : decode cX10_lastOf 12 = .ok (.getfield 50, 3) := by decide +kernel
theorem dX10_lastOf_15 : decode cX10_lastOf 15 = .ok (.iload_n 1, 1) := by decide +kernel
theorem dX10_lastOf_16 : decode cX10_lastOf 16 = .ok (.iaload, 1) := by decide +kernel
theorem dX10_lastOf_17 : decode cX10_lastOf 17 = .ok (.aload_n 0, 1) := by decide +kernel
theorem dX10_lastOf_18 : decode cX10_lastOf 18 = .ok (.getfield 53, 3) := by decide +kernel
theorem dX10_lastOf_21 : decode cX10_lastOf 21 = .ok (.iload_n 1, 1) := by decide +kernel
theorem dX10_lastOf_22 : decode cX10_lastOf 22 = .ok (.iaload, 1) := by decide +kernel
theorem dX10_lastOf_23 : decode cX10_lastOf 23 = .ok (.ior, 1) := by decide +kernel
theorem dX10_lastOf_24 : decode cX10_lastOf 24 = .ok (.iload_n 3, 1) := by decide +kernel
theorem dX10_lastOf_25 : decode cX10_lastOf 25 = .ok (.invokestatic 208, 3) := by decide +kernel
theorem dX10_lastOf_28 : decode cX10_lastOf 28 = .ok (.ifCond .eq 15, 3) := by decide +kernel
theorem dX10_lastOf_31 : decode cX10_lastOf 31 = .ok (.aload_n 0, 1) := by decide +kernel
theorem dX10_lastOf_32 : decode cX10_lastOf 32 = .ok (.iload_n 3, 1) := by decide +kernel
theorem dX10_lastOf_33 : decode cX10_lastOf 33 = .ok (.invokevirtual 193, 3) := by decide +kernel
theorem dX10_lastOf_36 : decode cX10_lastOf 36 = .ok (.ifCond .eq 7, 3) := by decide +kernel
theorem dX10_lastOf_39 : decode cX10_lastOf 39 = .ok (.iload_n 3, 1) := by decide +kernel
theorem dX10_lastOf_40 : decode cX10_lastOf 40 = .ok (.goto 4, 3) := by decide +kernel
theorem dX10_lastOf_43 : decode cX10_lastOf 43 = .ok (.iload_n 2, 1) := by decide +kernel
theorem dX10_lastOf_44 : decode cX10_lastOf 44 = .ok (.istore_n 2, 1) := by decide +kernel
theorem dX10_lastOf_45 : decode cX10_lastOf 45 = .ok (.iinc 3 1, 3) := by decide +kernel
theorem dX10_lastOf_48 : decode cX10_lastOf 48 = .ok (.goto (-43), 3) := by decide +kernel
theorem dX10_lastOf_51 : decode cX10_lastOf 51 = .ok (.iload_n 2, 1) := by decide +kernel
theorem dX10_lastOf_52 : decode cX10_lastOf 52 = .ok (.ireturn, 1) := by decide +kernel
theorem dX10_sumOf_0 : decode cX10_sumOf 0 = .ok (.iconst 0, 1) := by decide +kernel
theorem dX10_sumOf_1 : decode cX10_sumOf 1 = .ok (.istore_n 2, 1) := by decide +kernel
theorem dX10_sumOf_2 : decode cX10_sumOf 2 = .ok (.iconst 0, 1) := by decide +kernel
theorem dX10_sumOf_3 : decode cX10_sumOf 3 = .ok (.istore_n 3, 1) := by decide +kernel
theorem dX10_sumOf_4 : decode cX10_sumOf 4 = .ok (.iload_n 3, 1) := by decide +kernel
theorem dX10_sumOf_5 : decode cX10_sumOf 5 = .ok (.bipush 12, 2) := by decide +kernel
theorem dX10_sumOf_7 : decode cX10_sumOf 7 = .ok (.if_icmp .ge 70, 3) := by decide +kernel
theorem dX10_sumOf_10 : decode cX10_sumOf 10 = .ok (.aload_n 0, 1) := by decide +kernel
theorem dX10_sumOf_11 : decode cX10_sumOf 11 = .ok (.iload_n 3, 1) := by decide +kernel
theorem dX10_sumOf_12 : decode cX10_sumOf 12 = .ok (.invokevirtual 193, 3) := by decide +kernel
theorem dX10_sumOf_15 : decode cX10_sumOf 15 = .ok (.ifCond .eq 12, 3) := by decide +kernel
theorem dX10_sumOf_18 : decode cX10_sumOf 18 = .ok (.aload_n 0, 1) := by decide +kernel
theorem dX10_sumOf_19 : decode cX10_sumOf 19 = .ok (.getfield 78, 3) := by decide +kernel
theorem dX10_sumOf_22 : decode cX10_sumOf 22 = .ok (.iload_n 3, 1) := by decide +kernel
theorem dX10_sumOf_23 : decode cX10_sumOf 23 = .ok (.iaload, 1) := by decide +kernel
theorem dX10_sumOf_24 : decode cX10_sumOf 24 = .ok (.goto 4, 3) := by decide +kernel
theorem dX10_sumOf_27 : decode cX10_sumOf 27 = .ok (.iconst 0, 1) := by decide +kernel
theorem dX10_sumOf_28 : decode cX10_sumOf 28 = .ok (.istore 4, 2) := by decide +kernel
theorem dX10_sumOf_30 : decode cX10_sumOf 30 = .ok (.iload_n 2, 1) := by decide +kernel
theorem dX10_sumOf_31 : decode cX10_sumOf 31 = .ok (.aload_n 0, 1) := by decide +kernel
theorem dX10_sumOf_32 : decode cX10_sumOf 32 = .ok (.getfield 50, 3) := by decide +kernel
theorem dX10_sumOf_35 : decode cX10_sumOf 35 = .ok (.iload_n 1, 1) := by decide +kernel
theorem dX10_sumOf_36 : decode cX10_sumOf 36 = .ok (.iaload, 1) := by decide +kernel
theorem dX10_sumOf_37 : decode cX10_sumOf 37 = .ok (.iload_n 3, 1) := by decide +kernel
theorem dX10_sumOf_38 : decode cX10_sumOf 38 = .ok (.invokestatic 208, 3) := by decide +kernel
theorem dX10_sumOf_41 : decode cX10_sumOf 41 = .ok (.ifCond .eq 8, 3) := by decide +kernel
theorem dX10_sumOf_44 : decode cX10_sumOf 44 = .ok (.iload 4, 2) := by decide +kernel
theorem dX10_sumOf_46 : decode cX10_sumOf 46 = .ok (.goto 23, 3) := by decide +kernel
theorem dX10_sumOf_49 : decode cX10_sumOf 49 = .ok (.aload_n 0, 1) := by decide +kernel
theorem dX10_sumOf_50 : decode cX10_sumOf 50 = .ok (.getfield 53, 3) := by decide +kernel
theorem dX10_sumOf_53 : decode cX10_sumOf 53 = .ok (.iload_n 1, 1) := by decide +kernel
theorem dX10_sumOf_54 : decode cX10_sumOf 54 = .ok (.iaload, 1) := by decide +kernel
theorem dX10_sumOf_55 : decode cX10_sumOf 55 = .ok (.iload_n 3, 1) := by decide +kernel
theorem dX10_sumOf_56 : decode cX10_sumOf 56 = .ok (.invokestatic 208, 3) := by decide +kernel
theorem dX10_sumOf_59 : decode cX10_sumOf 59 = .ok (.ifCond .eq 9, 3) := by decide +kernel
theorem dX10_sumOf_62 : decode cX10_sumOf 62 = .ok (.iload 4, 2) := by decide +kernel
theorem dX10_sumOf_64 : decode cX10_sumOf 64 = .ok (.ineg, 1) := by decide +kernel
theorem dX10_sumOf_65 : decode cX10_sumOf 65 = .ok (.goto 4, 3) := by decide +kernel
theorem dX10_sumOf_68 : decode cX10_sumOf 68 = .ok (.iconst 0, 1) := by decide +kernel
theorem dX10_sumOf_69 : decode cX10_sumOf 69 = .ok (.iadd, 1) := by decide +kernel
theorem dX10_sumOf_70 : decode cX10_sumOf 70 = .ok (.istore_n 2, 1) := by decide +kernel
theorem dX10_sumOf_71 : decode cX10_sumOf 71 = .ok (.iinc 3 1, 3) := by decide +kernel
theorem dX10_sumOf_74 : decode cX10_sumOf 74 = .ok (.goto (-70), 3) := by decide +kernel
theorem dX10_sumOf_77 : decode cX10_sumOf 77 = .ok (.iload_n 2, 1) := by decide +kernel
theorem dX10_sumOf_78 : decode cX10_sumOf 78 = .ok (.ireturn, 1) := by decide +kernel
theorem dX10_isWell_0 : decode cX10_isWell 0 = .ok (.iconst 1, 1) := by decide +kernel
theorem dX10_isWell_1 : decode cX10_isWell 1 = .ok (.istore_n 2, 1) := by decide +kernel
theorem dX10_isWell_2 : decode cX10_isWell 2 = .ok (.iconst 0, 1) := by decide +kernel
theorem dX10_isWell_3 : decode cX10_isWell 3 = .ok (.istore_n 3, 1) := by decide +kernel
theorem dX10_isWell_4 : decode cX10_isWell 4 = .ok (.iconst 0, 1) := by decide +kernel
theorem dX10_isWell_5 : decode cX10_isWell 5 = .ok (.istore 4, 2) := by decide +kernel
theorem dX10_isWell_7 : decode cX10_isWell 7 = .ok (.iload 4, 2) := by decide +kernel
theorem dX10_isWell_9 : decode cX10_isWell 9 = .ok (.iload_n 1, 1) := by decide +kernel
theorem dX10_isWell_10 : decode cX10_isWell 10 = .ok (.if_icmp .gt 194, 3) := by decide +kernel
theorem dX10_isWell_13 : decode cX10_isWell 13 = .ok (.aload_n 0, 1) := by decide +kernel
theorem dX10_isWell_14 : decode cX10_isWell 14 = .ok (.getfield 44, 3) := by decide +kernel
theorem dX10_isWell_17 : decode cX10_isWell 17 = .ok (.iload 4, 2) := by decide +kernel
theorem dX10_isWell_19 : decode cX10_isWell 19 = .ok (.iaload, 1) := by decide +kernel
theorem dX10_isWell_20 : decode cX10_isWell 20 = .ok (.istore 5, 2) := by decide +kernel
theorem dX10_isWell_22 : decode cX10_isWell 22 = .ok (.aload_n 0, 1) := by decide +kernel
theorem dX10_isWell_23 : decode cX10_isWell 23 = .ok (.getfield 47, 3) := by decide +kernel
theorem dX10_isWell_26 : decode cX10_isWell 26 = .ok (.iload 4, 2) := by decide +kernel
theorem dX10_isWell_28 : decode cX10_isWell 28 = .ok (.iaload, 1) := by decide +kernel
theorem dX10_isWell_29 : decode cX10_isWell 29 = .ok (.istore 6, 2) := by decide +kernel
theorem dX10_isWell_31 : decode cX10_isWell 31 = .ok (.aload_n 0, 1) := by decide +kernel
theorem dX10_isWell_32 : decode cX10_isWell 32 = .ok (.getfield 41, 3) := by decide +kernel
theorem dX10_isWell_35 : decode cX10_isWell 35 = .ok (.iload 4, 2) := by decide +kernel
theorem dX10_isWell_37 : decode cX10_isWell 37 = .ok (.iaload, 1) := by decide +kernel
theorem dX10_isWell_38 : decode cX10_isWell 38 = .ok (.iconst 2, 1) := by decide +kernel
theorem dX10_isWell_39 : decode cX10_isWell 39 = .ok (.if_icmp .ne 68, 3) := by decide +kernel
theorem dX10_isWell_42 : decode cX10_isWell 42 = .ok (.iload 5, 2) := by decide +kernel
theorem dX10_isWell_44 : decode cX10_isWell 44 = .ok (.iload_n 1, 1) := by decide +kernel
theorem dX10_isWell_45 : decode cX10_isWell 45 = .ok (.if_icmp .gt 62, 3) := by decide +kernel
theorem dX10_isWell_48 : decode cX10_isWell 48 = .ok (.iload 6, 2) := by decide +kernel
theorem dX10_isWell_50 : decode cX10_isWell 50 = .ok (.iload_n 1, 1) := by decide +kernel
theorem dX10_isWell_51 : decode cX10_isWell 51 = .ok (.if_icmp .gt 56, 3) := by decide +kernel
theorem dX10_isWell_54 : decode cX10_isWell 54 = .ok (.iload 4, 2) := by decide +kernel
theorem dX10_isWell_56 : decode cX10_isWell 56 = .ok (.iload_n 1, 1) := by decide +kernel
theorem dX10_isWell_57 : decode cX10_isWell 57 = .ok (.if_icmp .eq 15, 3) := by decide +kernel
theorem dX10_isWell_60 : decode cX10_isWell 60 = .ok (.iload 5, 2) := by decide +kernel
theorem dX10_isWell_62 : decode cX10_isWell 62 = .ok (.iload_n 1, 1) := by decide +kernel
theorem dX10_isWell_63 : decode cX10_isWell 63 = .ok (.if_icmp .eq 9, 3) := by decide +kernel
theorem dX10_isWell_66 : decode cX10_isWell 66 = .ok (.iload 6, 2) := by decide +kernel
theorem dX10_isWell_68 : decode cX10_isWell 68 = .ok (.iload_n 1, 1) := by decide +kernel
theorem dX10_isWell_69 : decode cX10_isWell 69 = .ok (.if_icmp .ne 38, 3) := by decide +kernel
theorem dX10_isWell_72 : decode cX10_isWell 72 = .ok (.iload_n 2, 1) := by decide +kernel
theorem dX10_isWell_73 : decode cX10_isWell 73 = .ok (.ifCond .eq 32, 3) := by decide +kernel
theorem dX10_isWell_76 : decode cX10_isWell 76 = .ok (.aload_n 0, 1) := by decide +kernel
theorem dX10_isWell_77 : decode cX10_isWell 77 = .ok (.getfield 78, 3) := by decide +kernel
theorem dX10_isWell_80 : decode cX10_isWell 80 = .ok (.iload 4, 2) := by decide +kernel
theorem dX10_isWell_82 : decode cX10_isWell 82 = .ok (.iaload, 1) := by decide +kernel
theorem dX10_isWell_83 : decode cX10_isWell 83 = .ok (.aload_n 0, 1) := by decide +kernel
theorem dX10_isWell_84 : decode cX10_isWell 84 = .ok (.getfield 78, 3) := by decide +kernel
theorem dX10_isWell_87 : decode cX10_isWell 87 = .ok (.iload 5, 2) := by decide +kernel
theorem dX10_isWell_89 : decode cX10_isWell 89 = .ok (.iaload, 1) := by decide +kernel
theorem dX10_isWell_90 : decode cX10_isWell 90 = .ok (.aload_n 0, 1) := by decide +kernel
theorem dX10_isWell_91 : decode cX10_isWell 91 = .ok (.getfield 78, 3) := by decide +kernel
theorem dX10_isWell_94 : decode cX10_isWell 94 = .ok (.iload 6, 2) := by decide +kernel
theorem dX10_isWell_96 : decode cX10_isWell 96 = .ok (.iaload, 1) := by decide +kernel
theorem dX10_isWell_97 : decode cX10_isWell 97 = .ok (.imul, 1) := by decide +kernel
theorem dX10_isWell_98 : decode cX10_isWell 98 = .ok (.if_icmp .ne 7, 3) := by decide +kernel
theorem dX10_isWell_101 : decode cX10_isWell 101 = .ok (.iconst 1, 1) := by decide +kernel
theorem dX10_isWell_102 : decode cX10_isWell 102 = .ok (.goto 4, 3) := by decide +kernel
theorem dX10_isWell_105 : decode cX10_isWell 105 = .ok (.iconst 0, 1) := by decide +kernel
theorem dX10_isWell_106 : decode cX10_isWell 106 = .ok (.istore_n 2, 1) := by decide +kernel
theorem dX10_isWell_107 : decode cX10_isWell 107 = .ok (.aload_n 0, 1) := by decide +kernel
theorem dX10_isWell_108 : decode cX10_isWell 108 = .ok (.getfield 41, 3) := by decide +kernel
theorem dX10_isWell_111 : decode cX10_isWell 111 = .ok (.iload 4, 2) := by decide +kernel
theorem dX10_isWell_113 : decode cX10_isWell 113 = .ok (.iaload, 1) := by decide +kernel
theorem dX10_isWell_114 : decode cX10_isWell 114 = .ok (.iconst 4, 1) := by decide +kernel
theorem dX10_isWell_115 : decode cX10_isWell 115 = .ok (.if_icmp .ne 48, 3) := by decide +kernel
theorem dX10_isWell_118 : decode cX10_isWell 118 = .ok (.iload 5, 2) := by decide +kernel
theorem dX10_isWell_120 : decode cX10_isWell 120 = .ok (.iload_n 1, 1) := by decide +kernel
theorem dX10_isWell_121 : decode cX10_isWell 121 = .ok (.if_icmp .gt 42, 3) := by decide +kernel
theorem dX10_isWell_124 : decode cX10_isWell 124 = .ok (.iload 4, 2) := by decide +kernel
theorem dX10_isWell_126 : decode cX10_isWell 126 = .ok (.iload_n 1, 1) := by decide +kernel
theorem dX10_isWell_127 : decode cX10_isWell 127 = .ok (.if_icmp .eq 9, 3) := by decide +kernel
theorem dX10_isWell_130 : decode cX10_isWell 130 = .ok (.iload 5, 2) := by decide +kernel
theorem dX10_isWell_132 : decode cX10_isWell 132 = .ok (.iload_n 1, 1) := by decide +kernel
theorem dX10_isWell_133 : decode cX10_isWell 133 = .ok (.if_icmp .ne 30, 3) := by decide +kernel
theorem dX10_isWell_136 : decode cX10_isWell 136 = .ok (.iload_n 2, 1) := by decide +kernel
theorem dX10_isWell_137 : decode cX10_isWell 137 = .ok (.ifCond .eq 24, 3) := by decide +kernel
theorem dX10_isWell_140 : decode cX10_isWell 140 = .ok (.aload_n 0, 1) := by decide +kernel
theorem dX10_isWell_141 : decode cX10_isWell 141 = .ok (.getfield 78, 3) := by decide +kernel
theorem dX10_isWell_144 : decode cX10_isWell 144 = .ok (.iload 4, 2) := by decide +kernel
theorem dX10_isWell_146 : decode cX10_isWell 146 = .ok (.iaload, 1) := by decide +kernel
theorem dX10_isWell_147 : decode cX10_isWell 147 = .ok (.aload_n 0, 1) := by decide +kernel
theorem dX10_isWell_148 : decode cX10_isWell 148 = .ok (.getfield 78, 3) := by decide +kernel
theorem dX10_isWell_151 : decode cX10_isWell 151 = .ok (.iload 5, 2) := by decide +kernel
theorem dX10_isWell_153 : decode cX10_isWell 153 = .ok (.iaload, 1) := by decide +kernel
theorem dX10_isWell_154 : decode cX10_isWell 154 = .ok (.if_icmp .le 7, 3) := by decide +kernel
theorem dX10_isWell_157 : decode cX10_isWell 157 = .ok (.iconst 1, 1) := by decide +kernel
theorem dX10_isWell_158 : decode cX10_isWell 158 = .ok (.goto 4, 3) := by decide +kernel
theorem dX10_isWell_161 : decode cX10_isWell 161 = .ok (.iconst 0, 1) := by decide +kernel
theorem dX10_isWell_162 : decode cX10_isWell 162 = .ok (.istore_n 2, 1) := by decide +kernel
theorem dX10_isWell_163 : decode cX10_isWell 163 = .ok (.iload_n 3, 1) := by decide +kernel
theorem dX10_isWell_164 : decode cX10_isWell 164 = .ok (.aload_n 0, 1) := by decide +kernel
theorem dX10_isWell_165 : decode cX10_isWell 165 = .ok (.getfield 41, 3) := by decide +kernel
theorem dX10_isWell_168 : decode cX10_isWell 168 = .ok (.iload 4, 2) := by decide +kernel
theorem dX10_isWell_170 : decode cX10_isWell 170 = .ok (.iaload, 1) := by decide +kernel
theorem dX10_isWell_171 : decode cX10_isWell 171 = .ok (.iconst 3, 1) := by decide +kernel
theorem dX10_isWell_172 : decode cX10_isWell 172 = .ok (.if_icmp .ne 23, 3) := by decide +kernel
theorem dX10_isWell_175 : decode cX10_isWell 175 = .ok (.aload_n 0, 1) := by decide +kernel
theorem dX10_isWell_176 : decode cX10_isWell 176 = .ok (.getfield 78, 3) := by decide +kernel
theorem dX10_isWell_179 : decode cX10_isWell 179 = .ok (.iload 4, 2) := by decide +kernel
theorem dX10_isWell_181 : decode cX10_isWell 181 = .ok (.iaload, 1) := by decide +kernel
theorem dX10_isWell_182 : decode cX10_isWell 182 = .ok (.aload_n 0, 1) := by decide +kernel
theorem dX10_isWell_183 : decode cX10_isWell 183 = .ok (.getfield 78, 3) := by decide +kernel
theorem dX10_isWell_186 : decode cX10_isWell 186 = .ok (.iload_n 1, 1) := by decide +kernel
theorem dX10_isWell_187 : decode cX10_isWell 187 = .ok (.iaload, 1) := by decide +kernel
theorem dX10_isWell_188 : decode cX10_isWell 188 = .ok (.if_icmp .ne 7, 3) := by decide +kernel
theorem dX10_isWell_191 : decode cX10_isWell 191 = .ok (.iconst 1, 1) := by decide +kernel
theorem dX10_isWell_192 : decode cX10_isWell 192 = .ok (.goto 4, 3) := by decide +kernel
theorem dX10_isWell_195 : decode cX10_isWell 195 = .ok (.iconst 0, 1) := by decide +kernel
theorem dX10_isWell_196 : decode cX10_isWell 196 = .ok (.iadd, 1) := by decide +kernel
theorem dX10_isWell_197 : decode cX10_isWell 197 = .ok (.istore_n 3, 1) := by decide +kernel
theorem dX10_isWell_198 : decode cX10_isWell 198 = .ok (.iinc 4 1, 3) := by decide +kernel
theorem dX10_isWell_201 : decode cX10_isWell 201 = .ok (.goto (-194), 3) := by decide +kernel
theorem dX10_isWell_204 : decode cX10_isWell 204 = .ok (.iload_n 2, 1) := by decide +kernel
theorem dX10_isWell_205 : decode cX10_isWell 205 = .ok (.ifCond .eq 31, 3) := by decide +kernel
theorem dX10_isWell_208 : decode cX10_isWell 208 = .ok (.aload_n 0, 1) := by decide +kernel
theorem dX10_isWell_209 : decode cX10_isWell 209 = .ok (.getfield 41, 3) := by decide +kernel
theorem dX10_isWell_212 : decode cX10_isWell 212 = .ok (.iload_n 1, 1) := by decide +kernel
theorem dX10_isWell_213 : decode cX10_isWell 213 = .ok (.iaload, 1) := by decide +kernel
theorem dX10_isWell_214 : decode cX10_isWell 214 = .ok (.iconst 3, 1) := by decide +kernel
theorem dX10_isWell_215 : decode cX10_isWell 215 = .ok (.if_icmp .ne 17, 3) := by decide +kernel
theorem dX10_isWell_218 : decode cX10_isWell 218 = .ok (.iload_n 3, 1) := by decide +kernel
theorem dX10_isWell_219 : decode cX10_isWell 219 = .ok (.aload_n 0, 1) := by decide +kernel
theorem dX10_isWell_220 : decode cX10_isWell 220 = .ok (.aload_n 0, 1) := by decide +kernel
theorem dX10_isWell_221 : decode cX10_isWell 221 = .ok (.getfield 78, 3) := by decide +kernel
theorem dX10_isWell_224 : decode cX10_isWell 224 = .ok (.iload_n 1, 1) := by decide +kernel
theorem dX10_isWell_225 : decode cX10_isWell 225 = .ok (.iaload, 1) := by decide +kernel
theorem dX10_isWell_226 : decode cX10_isWell 226 = .ok (.invokevirtual 190, 3) := by decide +kernel
theorem dX10_isWell_229 : decode cX10_isWell 229 = .ok (.if_icmp .gt 7, 3) := by decide +kernel
theorem dX10_isWell_232 : decode cX10_isWell 232 = .ok (.iconst 1, 1) := by decide +kernel
theorem dX10_isWell_233 : decode cX10_isWell 233 = .ok (.goto 4, 3) := by decide +kernel
theorem dX10_isWell_236 : decode cX10_isWell 236 = .ok (.iconst 0, 1) := by decide +kernel
theorem dX10_isWell_237 : decode cX10_isWell 237 = .ok (.istore_n 2, 1) := by decide +kernel
theorem dX10_isWell_238 : decode cX10_isWell 238 = .ok (.iconst 0, 1) := by decide +kernel
theorem dX10_isWell_239 : decode cX10_isWell 239 = .ok (.istore 4, 2) := by decide +kernel
theorem dX10_isWell_241 : decode cX10_isWell 241 = .ok (.iload 4, 2) := by decide +kernel
theorem dX10_isWell_243 : decode cX10_isWell 243 = .ok (.aload_n 0, 1) := by decide +kernel
theorem dX10_isWell_244 : decode cX10_isWell 244 = .ok (.getfield 172, 3) := by decide +kernel
theorem dX10_isWell_247 : decode cX10_isWell 247 = .ok (.if_icmp .ge 57, 3) := by decide +kernel
theorem dX10_isWell_250 : decode cX10_isWell 250 = .ok (.iload_n 2, 1) := by decide +kernel
theorem dX10_isWell_251 : decode cX10_isWell 251 = .ok (.ifCond .eq 53, 3) := by decide +kernel
theorem dX10_isWell_254 : decode cX10_isWell 254 = .ok (.aload_n 0, 1) := by decide +kernel
theorem dX10_isWell_255 : decode cX10_isWell 255 = .ok (.getfield 243, 3) := by decide +kernel
theorem dX10_isWell_258 : decode cX10_isWell 258 = .ok (.iload 4, 2) := by decide +kernel
theorem dX10_isWell_260 : decode cX10_isWell 260 = .ok (.invokestatic 208, 3) := by decide +kernel
theorem dX10_isWell_263 : decode cX10_isWell 263 = .ok (.ifCond .ne 29, 3) := by decide +kernel
theorem dX10_isWell_266 : decode cX10_isWell 266 = .ok (.aload_n 0, 1) := by decide +kernel
theorem dX10_isWell_267 : decode cX10_isWell 267 = .ok (.iload 4, 2) := by decide +kernel
theorem dX10_isWell_269 : decode cX10_isWell 269 = .ok (.invokevirtual 253, 3) := by decide +kernel
theorem dX10_isWell_272 : decode cX10_isWell 272 = .ok (.iload_n 1, 1) := by decide +kernel
theorem dX10_isWell_273 : decode cX10_isWell 273 = .ok (.if_icmp .ne 19, 3) := by decide +kernel
theorem dX10_isWell_276 : decode cX10_isWell 276 = .ok (.aload_n 0, 1) := by decide +kernel
theorem dX10_isWell_277 : decode cX10_isWell 277 = .ok (.iload 4, 2) := by decide +kernel
theorem dX10_isWell_279 : decode cX10_isWell 279 = .ok (.invokevirtual 256, 3) := by decide +kernel
theorem dX10_isWell_282 : decode cX10_isWell 282 = .ok (.aload_n 0, 1) := by decide +kernel
theorem dX10_isWell_283 : decode cX10_isWell 283 = .ok (.getfield 56, 3) := by decide +kernel
theorem dX10_isWell_286 : decode cX10_isWell 286 = .ok (.iload 4, 2) := by decide +kernel
theorem dX10_isWell_288 : decode cX10_isWell 288 = .ok (.iaload, 1) := by decide +kernel
theorem dX10_isWell_289 : decode cX10_isWell 289 = .ok (.if_icmp .ne 7, 3) := by decide +kernel
theorem dX10_isWell_292 : decode cX10_isWell 292 = .ok (.iconst 1, 1) := by decide +kernel
theorem dX10_isWell_293 : decode cX10_isWell 293 = .ok (.goto 4, 3) := by decide +kernel
theorem dX10_isWell_296 : decode cX10_isWell 296 = .ok (.iconst 0, 1) := by decide +kernel
theorem dX10_isWell_297 : decode cX10_isWell 297 = .ok (.istore_n 2, 1) := by decide +kernel
theorem dX10_isWell_298 : decode cX10_isWell 298 = .ok (.iinc 4 1, 3) := by decide +kernel
theorem dX10_isWell_301 : decode cX10_isWell 301 = .ok (.goto (-60), 3) := by decide +kernel
theorem dX10_isWell_304 : decode cX10_isWell 304 = .ok (.iload_n 2, 1) := by decide +kernel
theorem dX10_isWell_305 : decode cX10_isWell 305 = .ok (.ireturn, 1) := by decide +kernel
theorem dX10_nextFilling_0 : decode cX10_nextFilling 0 = .ok (.aload_n 0, 1) := by decide +kernel
theorem dX10_nextFilling_1 : decode cX10_nextFilling 1 = .ok (.getfield 250, 3) := by decide +kernel
theorem dX10_nextFilling_4 : decode cX10_nextFilling 4 = .ok (.ifCond .ne 17, 3) := by decide +kernel
theorem dX10_nextFilling_7 : decode cX10_nextFilling 7 = .ok (.aload_n 0, 1) := by decide +kernel
theorem dX10_nextFilling_8 : decode cX10_nextFilling 8 = .ok (.getfield 231, 3) := by decide +kernel
theorem dX10_nextFilling_11 : decode cX10_nextFilling 11 = .ok (.ifCond .ne 10, 3) := by decide +kernel
theorem dX10_nextFilling_14 : decode cX10_nextFilling 14 = .ok (.aload_n 0, 1) := by decide +kernel
theorem dX10_nextFilling_15 : decode cX10_nextFilling 15 = .ok (.iconst 1, 1) := by decide +kernel
theorem dX10_nextFilling_16 : decode cX10_nextFilling 16 = .ok (.putfield 250, 3) := by decide +kernel
theorem dX10_nextFilling_19 : decode cX10_nextFilling 19 = .ok (.iconst 1, 1) := by decide +kernel
theorem dX10_nextFilling_20 : decode cX10_nextFilling 20 = .ok (.ireturn, 1) := by decide +kernel
theorem dX10_nextFilling_21 : decode cX10_nextFilling 21 = .ok (.aload_n 0, 1) := by decide +kernel
theorem dX10_nextFilling_22 : decode cX10_nextFilling 22 = .ok (.getfield 250, 3) := by decide +kernel
theorem dX10_nextFilling_25 : decode cX10_nextFilling 25 = .ok (.ifCond .ne 169, 3) := by decide +kernel
theorem dX10_nextFilling_28 : decode cX10_nextFilling 28 = .ok (.aload_n 0, 1) := by decide +kernel
theorem dX10_nextFilling_29 : decode cX10_nextFilling 29 = .ok (.getfield 234, 3) := by decide +kernel
theorem dX10_nextFilling_32 : decode cX10_nextFilling 32 = .ok (.ifCond .lt 162, 3) := by decide +kernel
theorem dX10_nextFilling_35 : decode cX10_nextFilling 35 = .ok (.aload_n 0, 1) := by decide +kernel
theorem dX10_nextFilling_36 : decode cX10_nextFilling 36 = .ok (.getfield 72, 3) := by decide +kernel
theorem dX10_nextFilling_39 : decode cX10_nextFilling 39 = .ok (.aload_n 0, 1) := by decide +kernel
theorem dX10_nextFilling_40 : decode cX10_nextFilling 40 = .ok (.getfield 234, 3) := by decide +kernel
theorem dX10_nextFilling_43 : decode cX10_nextFilling 43 = .ok (.iaload, 1) := by decide +kernel
theorem dX10_nextFilling_44 : decode cX10_nextFilling 44 = .ok (.istore_n 1, 1) := by decide +kernel
theorem dX10_nextFilling_45 : decode cX10_nextFilling 45 = .ok (.aload_n 0, 1) := by decide +kernel
theorem dX10_nextFilling_46 : decode cX10_nextFilling 46 = .ok (.getfield 75, 3) := by decide +kernel
theorem dX10_nextFilling_49 : decode cX10_nextFilling 49 = .ok (.aload_n 0, 1) := by decide +kernel
theorem dX10_nextFilling_50 : decode cX10_nextFilling 50 = .ok (.getfield 234, 3) := by decide +kernel
theorem dX10_nextFilling_53 : decode cX10_nextFilling 53 = .ok (.iaload, 1) := by decide +kernel
theorem dX10_nextFilling_54 : decode cX10_nextFilling 54 = .ok (.istore_n 2, 1) := by decide +kernel
theorem dX10_nextFilling_55 : decode cX10_nextFilling 55 = .ok (.iload_n 2, 1) := by decide +kernel
theorem dX10_nextFilling_56 : decode cX10_nextFilling 56 = .ok (.bipush 100, 2) := by decide +kernel
theorem dX10_nextFilling_58 : decode cX10_nextFilling 58 = .ok (.if_icmp .ge 23, 3) := by decide +kernel
theorem dX10_nextFilling_61 : decode cX10_nextFilling 61 = .ok (.aload_n 0, 1) := by decide +kernel
theorem dX10_nextFilling_62 : decode cX10_nextFilling 62 = .ok (.getfield 62, 3) := by decide +kernel
theorem dX10_nextFilling_65 : decode cX10_nextFilling 65 = .ok (.bipush 100, 2) := by decide +kernel
theorem dX10_nextFilling_67 : decode cX10_nextFilling 67 = .ok (.iload_n 1, 1) := by decide +kernel
theorem dX10_nextFilling_68 : decode cX10_nextFilling 68 = .ok (.imul, 1) := by decide +kernel
theorem dX10_nextFilling_69 : decode cX10_nextFilling 69 = .ok (.iload_n 2, 1) := by decide +kernel
theorem dX10_nextFilling_70 : decode cX10_nextFilling 70 = .ok (.iadd, 1) := by decide +kernel
theorem dX10_nextFilling_71 : decode cX10_nextFilling 71 = .ok (.baload, 1) := by decide +kernel
theorem dX10_nextFilling_72 : decode cX10_nextFilling 72 = .ok (.ifCond .ne 9, 3) := by decide +kernel
theorem dX10_nextFilling_75 : decode cX10_nextFilling 75 = .ok (.iinc 2 1, 3) := by decide +kernel
theorem dX10_nextFilling_78 : decode cX10_nextFilling 78 = .ok (.goto (-23), 3) := by decide +kernel
theorem dX10_nextFilling_81 : decode cX10_nextFilling 81 = .ok (.iload_n 2, 1) := by decide +kernel
theorem dX10_nextFilling_82 : decode cX10_nextFilling 82 = .ok (.bipush 100, 2) := by decide +kernel
theorem dX10_nextFilling_84 : decode cX10_nextFilling 84 = .ok (.if_icmp .ne 16, 3) := by decide +kernel
theorem dX10_nextFilling_87 : decode cX10_nextFilling 87 = .ok (.aload_n 0, 1) := by decide +kernel
theorem dX10_nextFilling_88 : decode cX10_nextFilling 88 = .ok (.dup, 1) := by decide +kernel
theorem dX10_nextFilling_89 : decode cX10_nextFilling 89 = .ok (.getfield 234, 3) := by decide +kernel
theorem dX10_nextFilling_92 : decode cX10_nextFilling 92 = .ok (.iconst 1, 1) := by decide +kernel
theorem dX10_nextFilling_93 : decode cX10_nextFilling 93 = .ok (.isub, 1) := by decide +kernel
theorem dX10_nextFilling_94 : decode cX10_nextFilling 94 = .ok (.putfield 234, 3) := by decide +kernel
theorem dX10_nextFilling_97 : decode cX10_nextFilling 97 = .ok (.goto (-76), 3) := by decide +kernel
theorem dX10_nextFilling_100 : decode cX10_nextFilling 100 = .ok (.aload_n 0, 1) := by decide +kernel
theorem dX10_nextFilling_101 : decode cX10_nextFilling 101 = .ok (.getfield 75, 3) := by decide +kernel
theorem dX10_nextFilling_104 : decode cX10_nextFilling 104 = .ok (.aload_n 0, 1) := by decide +kernel
theorem dX10_nextFilling_105 : decode cX10_nextFilling 105 = .ok (.getfield 234, 3) := by decide +kernel
theorem dX10_nextFilling_108 : decode cX10_nextFilling 108 = .ok (.iload_n 2, 1) := by decide +kernel
theorem dX10_nextFilling_109 : decode cX10_nextFilling 109 = .ok (.iconst 1, 1) := by decide +kernel
theorem dX10_nextFilling_110 : decode cX10_nextFilling 110 = .ok (.iadd, 1) := by decide +kernel
theorem dX10_nextFilling_111 : decode cX10_nextFilling 111 = .ok (.iastore, 1) := by decide +kernel
theorem dX10_nextFilling_112 : decode cX10_nextFilling 112 = .ok (.aload_n 0, 1) := by decide +kernel
theorem dX10_nextFilling_113 : decode cX10_nextFilling 113 = .ok (.dup, 1) := by decide +kernel
theorem dX10_nextFilling_114 : decode cX10_nextFilling 114 = .ok (.getfield 237, 3) := by decide +kernel
theorem dX10_nextFilling_117 : decode cX10_nextFilling 117 = .ok (.iconst 1, 1) := by decide +kernel
theorem dX10_nextFilling_118 : decode cX10_nextFilling 118 = .ok (.iadd, 1) := by decide +kernel
theorem dX10_nextFilling_119 : decode cX10_nextFilling 119 = .ok (.putfield 237, 3) := by decide +kernel
theorem dX10_nextFilling_122 : decode cX10_nextFilling 122 = .ok (.aload_n 0, 1) := by decide +kernel
theorem dX10_nextFilling_123 : decode cX10_nextFilling 123 = .ok (.getfield 237, 3) := by decide +kernel
theorem dX10_nextFilling_126 : decode cX10_nextFilling 126 = .ok (.aload_n 0, 1) := by decide +kernel
theorem dX10_nextFilling_127 : decode cX10_nextFilling 127 = .ok (.getfield 240, 3) := by decide +kernel
theorem dX10_nextFilling_130 : decode cX10_nextFilling 130 = .ok (.if_icmp .le 11, 3) := by decide +kernel
theorem dX10_nextFilling_133 : decode cX10_nextFilling 133 = .ok (.aload_n 0, 1) := by decide +kernel
theorem dX10_nextFilling_134 : decode cX10_nextFilling 134 = .ok (.iconst 1, 1) := by decide +kernel
theorem dX10_nextFilling_135 : decode cX10_nextFilling 135 = .ok (.putfield 246, 3) := by decide +kernel
theorem dX10_nextFilling_138 : decode cX10_nextFilling 138 = .ok (.goto 56, 3) := by decide +kernel
theorem dX10_nextFilling_141 : decode cX10_nextFilling 141 = .ok (.aload_n 0, 1) := by decide +kernel
theorem dX10_nextFilling_142 : decode cX10_nextFilling 142 = .ok (.getfield 78, 3) := by decide +kernel
theorem dX10_nextFilling_145 : decode cX10_nextFilling 145 = .ok (.iload_n 1, 1) := by decide +kernel
theorem dX10_nextFilling_146 : decode cX10_nextFilling 146 = .ok (.iload_n 2, 1) := by decide +kernel
theorem dX10_nextFilling_147 : decode cX10_nextFilling 147 = .ok (.iastore, 1) := by decide +kernel
theorem dX10_nextFilling_148 : decode cX10_nextFilling 148 = .ok (.aload_n 0, 1) := by decide +kernel
theorem dX10_nextFilling_149 : decode cX10_nextFilling 149 = .ok (.iload_n 1, 1) := by decide +kernel
theorem dX10_nextFilling_150 : decode cX10_nextFilling 150 = .ok (.invokevirtual 259, 3) := by decide +kernel
theorem dX10_nextFilling_153 : decode cX10_nextFilling 153 = .ok (.ifCond .eq 38, 3) := by decide +kernel
theorem dX10_nextFilling_156 : decode cX10_nextFilling 156 = .ok (.aload_n 0, 1) := by decide +kernel
theorem dX10_nextFilling_157 : decode cX10_nextFilling 157 = .ok (.getfield 234, 3) := by decide +kernel
theorem dX10_nextFilling_160 : decode cX10_nextFilling 160 = .ok (.aload_n 0, 1) := by decide +kernel
theorem dX10_nextFilling_161 : decode cX10_nextFilling 161 = .ok (.getfield 231, 3) := by decide +kernel
theorem dX10_nextFilling_164 : decode cX10_nextFilling 164 = .ok (.iconst 1, 1) := by decide +kernel
theorem dX10_nextFilling_165 : decode cX10_nextFilling 165 = .ok (.isub, 1) := by decide +kernel
theorem dX10_nextFilling_166 : decode cX10_nextFilling 166 = .ok (.if_icmp .ne 5, 3) := by decide +kernel
theorem dX10_nextFilling_169 : decode cX10_nextFilling 169 = .ok (.iconst 1, 1) := by decide +kernel
theorem dX10_nextFilling_170 : decode cX10_nextFilling 170 = .ok (.ireturn, 1) := by decide +kernel
theorem dX10_nextFilling_171 : decode cX10_nextFilling 171 = .ok (.aload_n 0, 1) := by decide +kernel
theorem dX10_nextFilling_172 : decode cX10_nextFilling 172 = .ok (.dup, 1) := by decide +kernel
theorem dX10_nextFilling_173 : decode cX10_nextFilling 173 = .ok (.getfield 234, 3) := by decide +kernel
theorem dX10_nextFilling_176 : decode cX10_nextFilling 176 = .ok (.iconst 1, 1) := by decide +kernel
theorem dX10_nextFilling_177 : decode cX10_nextFilling 177 = .ok (.iadd, 1) := by decide +kernel
theorem dX10_nextFilling_178 : decode cX10_nextFilling 178 = .ok (.putfield 234, 3) := by decide +kernel
theorem dX10_nextFilling_181 : decode cX10_nextFilling 181 = .ok (.aload_n 0, 1) := by decide +kernel
theorem dX10_nextFilling_182 : decode cX10_nextFilling 182 = .ok (.getfield 75, 3) := by decide +kernel
theorem dX10_nextFilling_185 : decode cX10_nextFilling 185 = .ok (.aload_n 0, 1) := by decide +kernel
theorem dX10_nextFilling_186 : decode cX10_nextFilling 186 = .ok (.getfield 234, 3) := by decide +kernel
theorem dX10_nextFilling_189 : decode cX10_nextFilling 189 = .ok (.iconst 0, 1) := by decide +kernel
theorem dX10_nextFilling_190 : decode cX10_nextFilling 190 = .ok (.iastore, 1) := by decide +kernel
theorem dX10_nextFilling_191 : decode cX10_nextFilling 191 = .ok (.goto (-170), 3) := by decide +kernel
theorem dX10_nextFilling_194 : decode cX10_nextFilling 194 = .ok (.aload_n 0, 1) := by decide +kernel
theorem dX10_nextFilling_195 : decode cX10_nextFilling 195 = .ok (.iconst 1, 1) := by decide +kernel
theorem dX10_nextFilling_196 : decode cX10_nextFilling 196 = .ok (.putfield 250, 3) := by decide +kernel
theorem dX10_nextFilling_199 : decode cX10_nextFilling 199 = .ok (.iconst 0, 1) := by decide +kernel
theorem dX10_nextFilling_200 : decode cX10_nextFilling 200 = .ok (.ireturn, 1) := by decide +kernel
theorem dX10_areTurns_0 : decode cX10_areTurns 0 = .ok (.iload_n 0, 1) := by decide +kernel
theorem dX10_areTurns_1 : decode cX10_areTurns 1 = .ok (.iconst 1, 1) := by decide +kernel
theorem dX10_areTurns_2 : decode cX10_areTurns 2 = .ok (.sipush 20000, 3) := by decide +kernel
theorem dX10_areTurns_5 : decode cX10_areTurns 5 = .ok (.invokestatic 103, 3) := by decide +kernel
theorem dX10_areTurns_8 : decode cX10_areTurns 8 = .ok (.ireturn, 1) := by decide +kernel
theorem dX10_goThrough_0 : decode cX10_goThrough 0 = .ok (.aload_n 0, 1) := by decide +kernel
theorem dX10_goThrough_1 : decode cX10_goThrough 1 = .ok (.iload_n 1, 1) := by decide +kernel
theorem dX10_goThrough_2 : decode cX10_goThrough 2 = .ok (.iconst 0, 1) := by decide +kernel
theorem dX10_goThrough_3 : decode cX10_goThrough 3 = .ok (.invokevirtual 262, 3) := by decide +kernel
theorem dX10_goThrough_6 : decode cX10_goThrough 6 = .ok (.aload_n 0, 1) := by decide +kernel
theorem dX10_goThrough_7 : decode cX10_goThrough 7 = .ok (.iconst 0, 1) := by decide +kernel
theorem dX10_goThrough_8 : decode cX10_goThrough 8 = .ok (.putfield 266, 3) := by decide +kernel
theorem dX10_goThrough_11 : decode cX10_goThrough 11 = .ok (.iconst 0, 1) := by decide +kernel
theorem dX10_goThrough_12 : decode cX10_goThrough 12 = .ok (.istore_n 2, 1) := by decide +kernel
theorem dX10_goThrough_13 : decode cX10_goThrough 13 = .ok (.iload_n 2, 1) := by decide +kernel
theorem dX10_goThrough_14 : decode cX10_goThrough 14 = .ok (.sipush 1200, 3) := by decide +kernel
theorem dX10_goThrough_17 : decode cX10_goThrough 17 = .ok (.if_icmp .ge 16, 3) := by decide +kernel
theorem dX10_goThrough_20 : decode cX10_goThrough 20 = .ok (.aload_n 0, 1) := by decide +kernel
theorem dX10_goThrough_21 : decode cX10_goThrough 21 = .ok (.getfield 81, 3) := by decide +kernel
theorem dX10_goThrough_24 : decode cX10_goThrough 24 = .ok (.iload_n 2, 1) := by decide +kernel
theorem dX10_goThrough_25 : decode cX10_goThrough 25 = .ok (.iconst 0, 1) := by decide +kernel
theorem dX10_goThrough_26 : decode cX10_goThrough 26 = .ok (.iastore, 1) := by decide +kernel
theorem dX10_goThrough_27 : decode cX10_goThrough 27 = .ok (.iinc 2 1, 3) := by decide +kernel
theorem dX10_goThrough_30 : decode cX10_goThrough 30 = .ok (.goto (-17), 3) := by decide +kernel
theorem dX10_goThrough_33 : decode cX10_goThrough 33 = .ok (.aload_n 0, 1) := by decide +kernel
theorem dX10_goThrough_34 : decode cX10_goThrough 34 = .ok (.invokevirtual 269, 3) := by decide +kernel
theorem dX10_goThrough_37 : decode cX10_goThrough 37 = .ok (.ifCond .eq 62, 3) := by decide +kernel
theorem dX10_goThrough_40 : decode cX10_goThrough 40 = .ok (.aload_n 0, 1) := by decide +kernel
theorem dX10_goThrough_41 : decode cX10_goThrough 41 = .ok (.dup, 1) := by decide +kernel
theorem dX10_goThrough_42 : decode cX10_goThrough 42 = .ok (.getfield 266, 3) := by decide +kernel
theorem dX10_goThrough_45 : decode cX10_goThrough 45 = .ok (.iconst 1, 1) := by decide +kernel
theorem dX10_goThrough_46 : decode cX10_goThrough 46 = .ok (.iadd, 1) := by decide +kernel
theorem dX10_goThrough_47 : decode cX10_goThrough 47 = .ok (.putfield 266, 3) := by decide +kernel
theorem dX10_goThrough_50 : decode cX10_goThrough 50 = .ok (.iconst 0, 1) := by decide +kernel
theorem dX10_goThrough_51 : decode cX10_goThrough 51 = .ok (.istore_n 2, 1) := by decide +kernel
theorem dX10_goThrough_52 : decode cX10_goThrough 52 = .ok (.iload_n 2, 1) := by decide +kernel
theorem dX10_goThrough_53 : decode cX10_goThrough 53 = .ok (.aload_n 0, 1) := by decide +kernel
theorem dX10_goThrough_54 : decode cX10_goThrough 54 = .ok (.getfield 231, 3) := by decide +kernel
theorem dX10_goThrough_57 : decode cX10_goThrough 57 = .ok (.if_icmp .ge 39, 3) := by decide +kernel
theorem dX10_goThrough_60 : decode cX10_goThrough 60 = .ok (.aload_n 0, 1) := by decide +kernel
theorem dX10_goThrough_61 : decode cX10_goThrough 61 = .ok (.getfield 81, 3) := by decide +kernel
theorem dX10_goThrough_64 : decode cX10_goThrough 64 = .ok (.bipush 100, 2) := by decide +kernel
theorem dX10_goThrough_66 : decode cX10_goThrough 66 = .ok (.aload_n 0, 1) := by decide +kernel
theorem dX10_goThrough_67 : decode cX10_goThrough 67 = .ok (.getfield 72, 3) := by decide +kernel
theorem dX10_goThrough_70 : decode cX10_goThrough 70 = .ok (.iload_n 2, 1) := by decide +kernel
theorem dX10_goThrough_71 : decode cX10_goThrough 71 = .ok (.iaload, 1) := by decide +kernel
theorem dX10_goThrough_72 : decode cX10_goThrough 72 = .ok (.imul, 1) := by decide +kernel
theorem dX10_goThrough_73 : decode cX10_goThrough 73 = .ok (.aload_n 0, 1) := by decide +kernel
theorem dX10_goThrough_74 : decode cX10_goThrough 74 = .ok (.getfield 78, 3) := by decide +kernel
theorem dX10_goThrough_77 : decode cX10_goThrough 77 = .ok (.aload_n 0, 1) := by decide +kernel
theorem dX10_goThrough_78 : decode cX10_goThrough 78 = .ok (.getfield 72, 3) := by decide +kernel
theorem dX10_goThrough_81 : decode cX10_goThrough 81 = .ok (.iload_n 2, 1) := by decide +kernel
theorem dX10_goThrough_82 : decode cX10_goThrough 82 = .ok (.iaload, 1) := by decide +kernel
theorem dX10_goThrough_83 : decode cX10_goThrough 83 = .ok (.iaload, 1) := by decide +kernel
theorem dX10_goThrough_84 : decode cX10_goThrough 84 = .ok (.iadd, 1) := by decide +kernel
theorem dX10_goThrough_85 : decode cX10_goThrough 85 = .ok (.dup2, 1) := by decide +kernel
theorem dX10_goThrough_86 : decode cX10_goThrough 86 = .ok (.iaload, 1) := by decide +kernel
theorem dX10_goThrough_87 : decode cX10_goThrough 87 = .ok (.iconst 1, 1) := by decide +kernel
theorem dX10_goThrough_88 : decode cX10_goThrough 88 = .ok (.iadd, 1) := by decide +kernel
theorem dX10_goThrough_89 : decode cX10_goThrough 89 = .ok (.iastore, 1) := by decide +kernel
theorem dX10_goThrough_90 : decode cX10_goThrough 90 = .ok (.iinc 2 1, 3) := by decide +kernel
theorem dX10_goThrough_93 : decode cX10_goThrough 93 = .ok (.goto (-41), 3) := by decide +kernel
theorem dX10_goThrough_96 : decode cX10_goThrough 96 = .ok (.goto (-63), 3) := by decide +kernel
theorem dX10_goThrough_99 : decode cX10_goThrough 99 = .ok (.aload_n 0, 1) := by decide +kernel
theorem dX10_goThrough_100 : decode cX10_goThrough 100 = .ok (.getfield 246, 3) := by decide +kernel
theorem dX10_goThrough_103 : decode cX10_goThrough 103 = .ok (.ifCond .ne 7, 3) := by decide +kernel
theorem dX10_goThrough_106 : decode cX10_goThrough 106 = .ok (.iconst 1, 1) := by decide +kernel
theorem dX10_goThrough_107 : decode cX10_goThrough 107 = .ok (.goto 4, 3) := by decide +kernel
theorem dX10_goThrough_110 : decode cX10_goThrough 110 = .ok (.iconst 0, 1) := by decide +kernel
theorem dX10_goThrough_111 : decode cX10_goThrough 111 = .ok (.ireturn, 1) := by decide +kernel
theorem dX10_count_0 : decode cX10_count 0 = .ok (.iload_n 1, 1) := by decide +kernel
theorem dX10_count_1 : decode cX10_count 1 = .ok (.invokestatic 273, 3) := by decide +kernel
theorem dX10_count_4 : decode cX10_count 4 = .ok (.ifCond .ne 5, 3) := by decide +kernel
theorem dX10_count_7 : decode cX10_count 7 = .ok (.iconst (-1), 1) := by decide +kernel
theorem dX10_count_8 : decode cX10_count 8 = .ok (.ireturn, 1) := by decide +kernel
theorem dX10_count_9 : decode cX10_count 9 = .ok (.aload_n 0, 1) := by decide +kernel
theorem dX10_count_10 : decode cX10_count 10 = .ok (.iload_n 1, 1) := by decide +kernel
theorem dX10_count_11 : decode cX10_count 11 = .ok (.invokevirtual 276, 3) := by decide +kernel
theorem dX10_count_14 : decode cX10_count 14 = .ok (.ifCond .eq 18, 3) := by decide +kernel
theorem dX10_count_17 : decode cX10_count 17 = .ok (.aload_n 0, 1) := by decide +kernel
theorem dX10_count_18 : decode cX10_count 18 = .ok (.aload_n 0, 1) := by decide +kernel
theorem dX10_count_19 : decode cX10_count 19 = .ok (.getfield 237, 3) := by decide +kernel
theorem dX10_count_22 : decode cX10_count 22 = .ok (.aload_n 0, 1) := by decide +kernel
theorem dX10_count_23 : decode cX10_count 23 = .ok (.getfield 266, 3) := by decide +kernel
theorem dX10_count_26 : decode cX10_count 26 = .ok (.invokevirtual 125, 3) := by decide +kernel
theorem dX10_count_29 : decode cX10_count 29 = .ok (.goto 5, 3) := by decide +kernel
theorem dX10_count_32 : decode cX10_count 32 = .ok (.bipush (-6), 2) := by decide +kernel
theorem dX10_count_34 : decode cX10_count 34 = .ok (.ireturn, 1) := by decide +kernel
theorem dX10_comeTo_0 : decode cX10_comeTo 0 = .ok (.aload_n 0, 1) := by decide +kernel
theorem dX10_comeTo_1 : decode cX10_comeTo 1 = .ok (.iload_n 1, 1) := by decide +kernel
theorem dX10_comeTo_2 : decode cX10_comeTo 2 = .ok (.bipush 12, 2) := by decide +kernel
theorem dX10_comeTo_4 : decode cX10_comeTo 4 = .ok (.invokevirtual 279, 3) := by decide +kernel
theorem dX10_comeTo_7 : decode cX10_comeTo 7 = .ok (.pop, 1) := by decide +kernel
theorem dX10_comeTo_8 : decode cX10_comeTo 8 = .ok (.iconst 0, 1) := by decide +kernel
theorem dX10_comeTo_9 : decode cX10_comeTo 9 = .ok (.istore_n 2, 1) := by decide +kernel
theorem dX10_comeTo_10 : decode cX10_comeTo 10 = .ok (.iload_n 2, 1) := by decide +kernel
theorem dX10_comeTo_11 : decode cX10_comeTo 11 = .ok (.bipush 12, 2) := by decide +kernel
theorem dX10_comeTo_13 : decode cX10_comeTo 13 = .ok (.if_icmp .ge 38, 3) := by decide +kernel
theorem dX10_comeTo_16 : decode cX10_comeTo 16 = .ok (.aload_n 0, 1) := by decide +kernel
theorem dX10_comeTo_17 : decode cX10_comeTo 17 = .ok (.getfield 20, 3) := by decide +kernel
theorem dX10_comeTo_20 : decode cX10_comeTo 20 = .ok (.bipush 40, 2) := by decide +kernel
theorem dX10_comeTo_22 : decode cX10_comeTo 22 = .ok (.iload_n 1, 1) := by decide +kernel
theorem dX10_comeTo_23 : decode cX10_comeTo 23 = .ok (.imul, 1) := by decide +kernel
theorem dX10_comeTo_24 : decode cX10_comeTo 24 = .ok (.iload_n 2, 1) := by decide +kernel
theorem dX10_comeTo_25 : decode cX10_comeTo 25 = .ok (.iadd, 1) := by decide +kernel
theorem dX10_comeTo_26 : decode cX10_comeTo 26 = .ok (.aload_n 0, 1) := by decide +kernel
theorem dX10_comeTo_27 : decode cX10_comeTo 27 = .ok (.iload_n 2, 1) := by decide +kernel
theorem dX10_comeTo_28 : decode cX10_comeTo 28 = .ok (.invokevirtual 193, 3) := by decide +kernel
theorem dX10_comeTo_31 : decode cX10_comeTo 31 = .ok (.ifCond .eq 12, 3) := by decide +kernel
theorem dX10_comeTo_34 : decode cX10_comeTo 34 = .ok (.aload_n 0, 1) := by decide +kernel
theorem dX10_comeTo_35 : decode cX10_comeTo 35 = .ok (.getfield 78, 3) := by decide +kernel
theorem dX10_comeTo_38 : decode cX10_comeTo 38 = .ok (.iload_n 2, 1) := by decide +kernel
theorem dX10_comeTo_39 : decode cX10_comeTo 39 = .ok (.iaload, 1) := by decide +kernel
theorem dX10_comeTo_40 : decode cX10_comeTo 40 = .ok (.goto 4, 3) := by decide +kernel
theorem dX10_comeTo_43 : decode cX10_comeTo 43 = .ok (.iconst (-1), 1) := by decide +kernel
theorem dX10_comeTo_44 : decode cX10_comeTo 44 = .ok (.iastore, 1) := by decide +kernel
theorem dX10_comeTo_45 : decode cX10_comeTo 45 = .ok (.iinc 2 1, 3) := by decide +kernel
theorem dX10_comeTo_48 : decode cX10_comeTo 48 = .ok (.goto (-38), 3) := by decide +kernel
theorem dX10_comeTo_51 : decode cX10_comeTo 51 = .ok (.return_, 1) := by decide +kernel
theorem dX10_fill_0 : decode cX10_fill 0 = .ok (.iload_n 1, 1) := by decide +kernel
theorem dX10_fill_1 : decode cX10_fill 1 = .ok (.ifCond .lt 17, 3) := by decide +kernel
theorem dX10_fill_4 : decode cX10_fill 4 = .ok (.iload_n 2, 1) := by decide +kernel
theorem dX10_fill_5 : decode cX10_fill 5 = .ok (.invokestatic 107, 3) := by decide +kernel
theorem dX10_fill_8 : decode cX10_fill 8 = .ok (.ifCond .eq 10, 3) := by decide +kernel
theorem dX10_fill_11 : decode cX10_fill 11 = .ok (.iload_n 3, 1) := by decide +kernel
theorem dX10_fill_12 : decode cX10_fill 12 = .ok (.invokestatic 273, 3) := by decide +kernel
theorem dX10_fill_15 : decode cX10_fill 15 = .ok (.ifCond .ne 5, 3) := by decide +kernel
theorem dX10_fill_18 : decode cX10_fill 18 = .ok (.iconst (-1), 1) := by decide +kernel
theorem dX10_fill_19 : decode cX10_fill 19 = .ok (.ireturn, 1) := by decide +kernel
theorem dX10_fill_20 : decode cX10_fill 20 = .ok (.aload_n 0, 1) := by decide +kernel
theorem dX10_fill_21 : decode cX10_fill 21 = .ok (.iload_n 3, 1) := by decide +kernel
theorem dX10_fill_22 : decode cX10_fill 22 = .ok (.iconst 0, 1) := by decide +kernel
theorem dX10_fill_23 : decode cX10_fill 23 = .ok (.invokevirtual 262, 3) := by decide +kernel
theorem dX10_fill_26 : decode cX10_fill 26 = .ok (.iconst 0, 1) := by decide +kernel
theorem dX10_fill_27 : decode cX10_fill 27 = .ok (.istore 4, 2) := by decide +kernel
theorem dX10_fill_29 : decode cX10_fill 29 = .ok (.iload 4, 2) := by decide +kernel
theorem dX10_fill_31 : decode cX10_fill 31 = .ok (.iload_n 1, 1) := by decide +kernel
theorem dX10_fill_32 : decode cX10_fill 32 = .ok (.if_icmp .gt 16, 3) := by decide +kernel
theorem dX10_fill_35 : decode cX10_fill 35 = .ok (.aload_n 0, 1) := by decide +kernel
theorem dX10_fill_36 : decode cX10_fill 36 = .ok (.invokevirtual 269, 3) := by decide +kernel
theorem dX10_fill_39 : decode cX10_fill 39 = .ok (.ifCond .eq 9, 3) := by decide +kernel
theorem dX10_fill_42 : decode cX10_fill 42 = .ok (.iinc 4 1, 3) := by decide +kernel
theorem dX10_fill_45 : decode cX10_fill 45 = .ok (.goto (-16), 3) := by decide +kernel
theorem dX10_fill_48 : decode cX10_fill 48 = .ok (.aload_n 0, 1) := by decide +kernel
theorem dX10_fill_49 : decode cX10_fill 49 = .ok (.getfield 246, 3) := by decide +kernel
theorem dX10_fill_52 : decode cX10_fill 52 = .ok (.ifCond .eq 6, 3) := by decide +kernel
theorem dX10_fill_55 : decode cX10_fill 55 = .ok (.bipush (-6), 2) := by decide +kernel
theorem dX10_fill_57 : decode cX10_fill 57 = .ok (.ireturn, 1) := by decide +kernel
theorem dX10_fill_58 : decode cX10_fill 58 = .ok (.iload 4, 2) := by decide +kernel
theorem dX10_fill_60 : decode cX10_fill 60 = .ok (.iload_n 1, 1) := by decide +kernel
theorem dX10_fill_61 : decode cX10_fill 61 = .ok (.if_icmp .gt 6, 3) := by decide +kernel
theorem dX10_fill_64 : decode cX10_fill 64 = .ok (.bipush (-9), 2) := by decide +kernel
theorem dX10_fill_66 : decode cX10_fill 66 = .ok (.ireturn, 1) := by decide +kernel
theorem dX10_fill_67 : decode cX10_fill 67 = .ok (.aload_n 0, 1) := by decide +kernel
theorem dX10_fill_68 : decode cX10_fill 68 = .ok (.iload_n 2, 1) := by decide +kernel
theorem dX10_fill_69 : decode cX10_fill 69 = .ok (.invokevirtual 282, 3) := by decide +kernel
theorem dX10_fill_72 : decode cX10_fill 72 = .ok (.iconst 1, 1) := by decide +kernel
theorem dX10_fill_73 : decode cX10_fill 73 = .ok (.ireturn, 1) := by decide +kernel
theorem dX10_could_0 : decode cX10_could 0 = .ok (.iload_n 2, 1) := by decide +kernel
theorem dX10_could_1 : decode cX10_could 1 = .ok (.invokestatic 175, 3) := by decide +kernel
theorem dX10_could_4 : decode cX10_could 4 = .ok (.ifCond .eq 10, 3) := by decide +kernel
theorem dX10_could_7 : decode cX10_could 7 = .ok (.iload_n 3, 1) := by decide +kernel
theorem dX10_could_8 : decode cX10_could 8 = .ok (.invokestatic 273, 3) := by decide +kernel
theorem dX10_could_11 : decode cX10_could 11 = .ok (.ifCond .ne 5, 3) := by decide +kernel
theorem dX10_could_14 : decode cX10_could 14 = .ok (.iconst (-1), 1) := by decide +kernel
theorem dX10_could_15 : decode cX10_could 15 = .ok (.ireturn, 1) := by decide +kernel
theorem dX10_could_16 : decode cX10_could 16 = .ok (.aload_n 0, 1) := by decide +kernel
theorem dX10_could_17 : decode cX10_could 17 = .ok (.iload_n 1, 1) := by decide +kernel
theorem dX10_could_18 : decode cX10_could 18 = .ok (.invokevirtual 184, 3) := by decide +kernel
theorem dX10_could_21 : decode cX10_could 21 = .ok (.istore 4, 2) := by decide +kernel
theorem dX10_could_23 : decode cX10_could 23 = .ok (.iload 4, 2) := by decide +kernel
theorem dX10_could_25 : decode cX10_could 25 = .ok (.ifCond .ge 6, 3) := by decide +kernel
theorem dX10_could_28 : decode cX10_could 28 = .ok (.iload 4, 2) := by decide +kernel
theorem dX10_could_30 : decode cX10_could 30 = .ok (.ireturn, 1) := by decide +kernel
theorem dX10_could_31 : decode cX10_could 31 = .ok (.aload_n 0, 1) := by decide +kernel
theorem dX10_could_32 : decode cX10_could 32 = .ok (.iload_n 3, 1) := by decide +kernel
theorem dX10_could_33 : decode cX10_could 33 = .ok (.invokevirtual 276, 3) := by decide +kernel
theorem dX10_could_36 : decode cX10_could 36 = .ok (.ifCond .ne 6, 3) := by decide +kernel
theorem dX10_could_39 : decode cX10_could 39 = .ok (.bipush (-6), 2) := by decide +kernel
theorem dX10_could_41 : decode cX10_could 41 = .ok (.ireturn, 1) := by decide +kernel
theorem dX10_could_42 : decode cX10_could 42 = .ok (.aload_n 0, 1) := by decide +kernel
theorem dX10_could_43 : decode cX10_could 43 = .ok (.getfield 81, 3) := by decide +kernel
theorem dX10_could_46 : decode cX10_could 46 = .ok (.bipush 100, 2) := by decide +kernel
theorem dX10_could_48 : decode cX10_could 48 = .ok (.iload_n 1, 1) := by decide +kernel
theorem dX10_could_49 : decode cX10_could 49 = .ok (.imul, 1) := by decide +kernel
theorem dX10_could_50 : decode cX10_could 50 = .ok (.iload_n 2, 1) := by decide +kernel
theorem dX10_could_51 : decode cX10_could 51 = .ok (.iadd, 1) := by decide +kernel
theorem dX10_could_52 : decode cX10_could 52 = .ok (.iaload, 1) := by decide +kernel
theorem dX10_could_53 : decode cX10_could 53 = .ok (.istore 5, 2) := by decide +kernel
theorem dX10_could_55 : decode cX10_could 55 = .ok (.iload 5, 2) := by decide +kernel
theorem dX10_could_57 : decode cX10_could 57 = .ok (.istore 6, 2) := by decide +kernel
theorem dX10_could_59 : decode cX10_could 59 = .ok (.aload_n 0, 1) := by decide +kernel
theorem dX10_could_60 : decode cX10_could 60 = .ok (.getfield 266, 3) := by decide +kernel
theorem dX10_could_63 : decode cX10_could 63 = .ok (.istore 7, 2) := by decide +kernel
theorem dX10_could_65 : decode cX10_could 65 = .ok (.iload 7, 2) := by decide +kernel
theorem dX10_could_67 : decode cX10_could 67 = .ok (.ifCond .eq 21, 3) := by decide +kernel
theorem dX10_could_70 : decode cX10_could 70 = .ok (.iload 6, 2) := by decide +kernel
theorem dX10_could_72 : decode cX10_could 72 = .ok (.iload 7, 2) := by decide +kernel
theorem dX10_could_74 : decode cX10_could 74 = .ok (.irem, 1) := by decide +kernel
theorem dX10_could_75 : decode cX10_could 75 = .ok (.istore 8, 2) := by decide +kernel
theorem dX10_could_77 : decode cX10_could 77 = .ok (.iload 7, 2) := by decide +kernel
theorem dX10_could_79 : decode cX10_could 79 = .ok (.istore 6, 2) := by decide +kernel
theorem dX10_could_81 : decode cX10_could 81 = .ok (.iload 8, 2) := by decide +kernel
theorem dX10_could_83 : decode cX10_could 83 = .ok (.istore 7, 2) := by decide +kernel
theorem dX10_could_85 : decode cX10_could 85 = .ok (.goto (-20), 3) := by decide +kernel
theorem dX10_could_88 : decode cX10_could 88 = .ok (.aload_n 0, 1) := by decide +kernel
theorem dX10_could_89 : decode cX10_could 89 = .ok (.iload 6, 2) := by decide +kernel
theorem dX10_could_91 : decode cX10_could 91 = .ok (.ifCond .ne 7, 3) := by decide +kernel
theorem dX10_could_94 : decode cX10_could 94 = .ok (.lconst 0, 1) := by decide +kernel
theorem dX10_could_95 : decode cX10_could 95 = .ok (.goto 9, 3) := by decide +kernel
theorem dX10_could_98 : decode cX10_could 98 = .ok (.iload 5, 2) := by decide +kernel
theorem dX10_could_100 : decode cX10_could 100 = .ok (.iload 6, 2) := by decide +kernel
theorem dX10_could_102 : decode cX10_could 102 = .ok (.idiv, 1) := by decide +kernel
theorem dX10_could_103 : decode cX10_could 103 = .ok (.i2l, 1) := by decide +kernel
theorem dX10_could_104 : decode cX10_could 104 = .ok (.putfield 285, 3) := by decide +kernel
theorem dX10_could_107 : decode cX10_could 107 = .ok (.aload_n 0, 1) := by decide +kernel
theorem dX10_could_108 : decode cX10_could 108 = .ok (.iload 6, 2) := by decide +kernel
theorem dX10_could_110 : decode cX10_could 110 = .ok (.ifCond .ne 7, 3) := by decide +kernel
theorem dX10_could_113 : decode cX10_could 113 = .ok (.lconst 1, 1) := by decide +kernel
theorem dX10_could_114 : decode cX10_could 114 = .ok (.goto 11, 3) := by decide +kernel
theorem dX10_could_117 : decode cX10_could 117 = .ok (.aload_n 0, 1) := by decide +kernel
theorem dX10_could_118 : decode cX10_could 118 = .ok (.getfield 266, 3) := by decide +kernel
theorem dX10_could_121 : decode cX10_could 121 = .ok (.iload 6, 2) := by decide +kernel
theorem dX10_could_123 : decode cX10_could 123 = .ok (.idiv, 1) := by decide +kernel
theorem dX10_could_124 : decode cX10_could 124 = .ok (.i2l, 1) := by decide +kernel
theorem dX10_could_125 : decode cX10_could 125 = .ok (.putfield 13, 3) := by decide +kernel
theorem dX10_could_128 : decode cX10_could 128 = .ok (.iload 5, 2) := by decide +kernel
theorem dX10_could_130 : decode cX10_could 130 = .ok (.ireturn, 1) := by decide +kernel
theorem dX10_must_0 : decode cX10_must 0 = .ok (.iload_n 2, 1) := by decide +kernel
theorem dX10_must_1 : decode cX10_must 1 = .ok (.invokestatic 273, 3) := by decide +kernel
theorem dX10_must_4 : decode cX10_must 4 = .ok (.ifCond .ne 5, 3) := by decide +kernel
theorem dX10_must_7 : decode cX10_must 7 = .ok (.iconst (-1), 1) := by decide +kernel
theorem dX10_must_8 : decode cX10_must 8 = .ok (.ireturn, 1) := by decide +kernel
theorem dX10_must_9 : decode cX10_must 9 = .ok (.aload_n 0, 1) := by decide +kernel
theorem dX10_must_10 : decode cX10_must 10 = .ok (.iload_n 1, 1) := by decide +kernel
theorem dX10_must_11 : decode cX10_must 11 = .ok (.invokevirtual 184, 3) := by decide +kernel
theorem dX10_must_14 : decode cX10_must 14 = .ok (.istore_n 3, 1) := by decide +kernel
theorem dX10_must_15 : decode cX10_must 15 = .ok (.iload_n 3, 1) := by decide +kernel
theorem dX10_must_16 : decode cX10_must 16 = .ok (.ifCond .ge 5, 3) := by decide +kernel
theorem dX10_must_19 : decode cX10_must 19 = .ok (.iload_n 3, 1) := by decide +kernel
theorem dX10_must_20 : decode cX10_must 20 = .ok (.ireturn, 1) := by decide +kernel
theorem dX10_must_21 : decode cX10_must 21 = .ok (.aload_n 0, 1) := by decide +kernel
theorem dX10_must_22 : decode cX10_must 22 = .ok (.iload_n 2, 1) := by decide +kernel
theorem dX10_must_23 : decode cX10_must 23 = .ok (.invokevirtual 276, 3) := by decide +kernel
theorem dX10_must_26 : decode cX10_must 26 = .ok (.ifCond .ne 6, 3) := by decide +kernel
theorem dX10_must_29 : decode cX10_must 29 = .ok (.bipush (-6), 2) := by decide +kernel
theorem dX10_must_31 : decode cX10_must 31 = .ok (.ireturn, 1) := by decide +kernel
theorem dX10_must_32 : decode cX10_must 32 = .ok (.bipush (-9), 2) := by decide +kernel
theorem dX10_must_34 : decode cX10_must 34 = .ok (.istore 4, 2) := by decide +kernel
theorem dX10_must_36 : decode cX10_must 36 = .ok (.bipush (-9), 2) := by decide +kernel
theorem dX10_must_38 : decode cX10_must 38 = .ok (.istore 5, 2) := by decide +kernel
theorem dX10_must_40 : decode cX10_must 40 = .ok (.iconst 0, 1) := by decide +kernel
theorem dX10_must_41 : decode cX10_must 41 = .ok (.istore 6, 2) := by decide +kernel
theorem dX10_must_43 : decode cX10_must 43 = .ok (.iload 6, 2) := by decide +kernel
theorem dX10_must_45 : decode cX10_must 45 = .ok (.bipush 100, 2) := by decide +kernel
theorem dX10_must_47 : decode cX10_must 47 = .ok (.if_icmp .ge 42, 3) := by decide +kernel
theorem dX10_must_50 : decode cX10_must 50 = .ok (.aload_n 0, 1) := by decide +kernel
theorem dX10_must_51 : decode cX10_must 51 = .ok (.getfield 81, 3) := by decide +kernel
theorem dX10_must_54 : decode cX10_must 54 = .ok (.bipush 100, 2) := by decide +kernel
theorem dX10_must_56 : decode cX10_must 56 = .ok (.iload_n 1, 1) := by decide +kernel
theorem dX10_must_57 : decode cX10_must 57 = .ok (.imul, 1) := by decide +kernel
theorem dX10_must_58 : decode cX10_must 58 = .ok (.iload 6, 2) := by decide +kernel
theorem dX10_must_60 : decode cX10_must 60 = .ok (.iadd, 1) := by decide +kernel
theorem dX10_must_61 : decode cX10_must 61 = .ok (.iaload, 1) := by decide +kernel
theorem dX10_must_62 : decode cX10_must 62 = .ok (.ifCond .le 21, 3) := by decide +kernel
theorem dX10_must_65 : decode cX10_must 65 = .ok (.iload 4, 2) := by decide +kernel
theorem dX10_must_67 : decode cX10_must 67 = .ok (.ifCond .ge 8, 3) := by decide +kernel
theorem dX10_must_70 : decode cX10_must 70 = .ok (.iload 6, 2) := by decide +kernel
theorem dX10_must_72 : decode cX10_must 72 = .ok (.goto 5, 3) := by decide +kernel
theorem dX10_must_75 : decode cX10_must 75 = .ok (.iload 4, 2) := by decide +kernel
theorem dX10_must_77 : decode cX10_must 77 = .ok (.istore 4, 2) := by decide +kernel
theorem dX10_must_79 : decode cX10_must 79 = .ok (.iload 6, 2) := by decide +kernel
theorem dX10_must_81 : decode cX10_must 81 = .ok (.istore 5, 2) := by decide +kernel
theorem dX10_must_83 : decode cX10_must 83 = .ok (.iinc 6 1, 3) := by decide +kernel
theorem dX10_must_86 : decode cX10_must 86 = .ok (.goto (-43), 3) := by decide +kernel
theorem dX10_must_89 : decode cX10_must 89 = .ok (.aload_n 0, 1) := by decide +kernel
theorem dX10_must_90 : decode cX10_must 90 = .ok (.getfield 266, 3) := by decide +kernel
theorem dX10_must_93 : decode cX10_must 93 = .ok (.ifCond .ne 8, 3) := by decide +kernel
theorem dX10_must_96 : decode cX10_must 96 = .ok (.bipush (-9), 2) := by decide +kernel
theorem dX10_must_98 : decode cX10_must 98 = .ok (.goto 11, 3) := by decide +kernel
theorem dX10_must_101 : decode cX10_must 101 = .ok (.aload_n 0, 1) := by decide +kernel
theorem dX10_must_102 : decode cX10_must 102 = .ok (.iload 5, 2) := by decide +kernel
theorem dX10_must_104 : decode cX10_must 104 = .ok (.iload 4, 2) := by decide +kernel
theorem dX10_must_106 : decode cX10_must 106 = .ok (.invokevirtual 125, 3) := by decide +kernel
theorem dX10_must_109 : decode cX10_must 109 = .ok (.ireturn, 1) := by decide +kernel
theorem dX10_worthOf_0 : decode cX10_worthOf 0 = .ok (.iconst 0, 1) := by decide +kernel
theorem dX10_worthOf_1 : decode cX10_worthOf 1 = .ok (.istore_n 2, 1) := by decide +kernel
theorem dX10_worthOf_2 : decode cX10_worthOf 2 = .ok (.iconst 0, 1) := by decide +kernel
theorem dX10_worthOf_3 : decode cX10_worthOf 3 = .ok (.istore_n 3, 1) := by decide +kernel
theorem dX10_worthOf_4 : decode cX10_worthOf 4 = .ok (.iload_n 3, 1) := by decide +kernel
theorem dX10_worthOf_5 : decode cX10_worthOf 5 = .ok (.bipush 100, 2) := by decide +kernel
theorem dX10_worthOf_7 : decode cX10_worthOf 7 = .ok (.if_icmp .ge 40, 3) := by decide +kernel
theorem dX10_worthOf_10 : decode cX10_worthOf 10 = .ok (.aload_n 0, 1) := by decide +kernel
theorem dX10_worthOf_11 : decode cX10_worthOf 11 = .ok (.getfield 81, 3) := by decide +kernel
theorem dX10_worthOf_14 : decode cX10_worthOf 14 = .ok (.bipush 100, 2) := by decide +kernel
theorem dX10_worthOf_16 : decode cX10_worthOf 16 = .ok (.iload_n 1, 1) := by decide +kernel
theorem dX10_worthOf_17 : decode cX10_worthOf 17 = .ok (.imul, 1) := by decide +kernel
theorem dX10_worthOf_18 : decode cX10_worthOf 18 = .ok (.iload_n 3, 1) := by decide +kernel
theorem dX10_worthOf_19 : decode cX10_worthOf 19 = .ok (.iadd, 1) := by decide +kernel
theorem dX10_worthOf_20 : decode cX10_worthOf 20 = .ok (.iaload, 1) := by decide +kernel
theorem dX10_worthOf_21 : decode cX10_worthOf 21 = .ok (.iload_n 2, 1) := by decide +kernel
theorem dX10_worthOf_22 : decode cX10_worthOf 22 = .ok (.if_icmp .le 17, 3) := by decide +kernel
theorem dX10_worthOf_25 : decode cX10_worthOf 25 = .ok (.aload_n 0, 1) := by decide +kernel
theorem dX10_worthOf_26 : decode cX10_worthOf 26 = .ok (.getfield 81, 3) := by decide +kernel
theorem dX10_worthOf_29 : decode cX10_worthOf 29 = .ok (.bipush 100, 2) := by decide +kernel
theorem dX10_worthOf_31 : decode cX10_worthOf 31 = .ok (.iload_n 1, 1) := by decide +kernel
theorem dX10_worthOf_32 : decode cX10_worthOf 32 = .ok (.imul, 1) := by decide +kernel
theorem dX10_worthOf_33 : decode cX10_worthOf 33 = .ok (.iload_n 3, 1) := by decide +kernel
theorem dX10_worthOf_34 : decode cX10_worthOf 34 = .ok (.iadd, 1) := by decide +kernel
theorem dX10_worthOf_35 : decode cX10_worthOf 35 = .ok (.iaload, 1) := by decide +kernel
theorem dX10_worthOf_36 : decode cX10_worthOf 36 = .ok (.goto 4, 3) := by decide +kernel
theorem dX10_worthOf_39 : decode cX10_worthOf 39 = .ok (.iload_n 2, 1) := by decide +kernel
theorem dX10_worthOf_40 : decode cX10_worthOf 40 = .ok (.istore_n 2, 1) := by decide +kernel
theorem dX10_worthOf_41 : decode cX10_worthOf 41 = .ok (.iinc 3 1, 3) := by decide +kernel
theorem dX10_worthOf_44 : decode cX10_worthOf 44 = .ok (.goto (-40), 3) := by decide +kernel
theorem dX10_worthOf_47 : decode cX10_worthOf 47 = .ok (.iload_n 2, 1) := by decide +kernel
theorem dX10_worthOf_48 : decode cX10_worthOf 48 = .ok (.ireturn, 1) := by decide +kernel
theorem dX10_sure_0 : decode cX10_sure 0 = .ok (.iload_n 1, 1) := by decide +kernel
theorem dX10_sure_1 : decode cX10_sure 1 = .ok (.invokestatic 273, 3) := by decide +kernel
theorem dX10_sure_4 : decode cX10_sure 4 = .ok (.ifCond .ne 5, 3) := by decide +kernel
theorem dX10_sure_7 : decode cX10_sure 7 = .ok (.iconst (-1), 1) := by decide +kernel
theorem dX10_sure_8 : decode cX10_sure 8 = .ok (.ireturn, 1) := by decide +kernel
theorem dX10_sure_9 : decode cX10_sure 9 = .ok (.aload_n 0, 1) := by decide +kernel
theorem dX10_sure_10 : decode cX10_sure 10 = .ok (.iload_n 1, 1) := by decide +kernel
theorem dX10_sure_11 : decode cX10_sure 11 = .ok (.invokevirtual 276, 3) := by decide +kernel
theorem dX10_sure_14 : decode cX10_sure 14 = .ok (.ifCond .ne 6, 3) := by decide +kernel
theorem dX10_sure_17 : decode cX10_sure 17 = .ok (.bipush (-6), 2) := by decide +kernel
theorem dX10_sure_19 : decode cX10_sure 19 = .ok (.ireturn, 1) := by decide +kernel
theorem dX10_sure_20 : decode cX10_sure 20 = .ok (.iconst 0, 1) := by decide +kernel
theorem dX10_sure_21 : decode cX10_sure 21 = .ok (.istore_n 2, 1) := by decide +kernel
theorem dX10_sure_22 : decode cX10_sure 22 = .ok (.iconst 0, 1) := by decide +kernel
theorem dX10_sure_23 : decode cX10_sure 23 = .ok (.istore_n 3, 1) := by decide +kernel
theorem dX10_sure_24 : decode cX10_sure 24 = .ok (.iload_n 3, 1) := by decide +kernel
theorem dX10_sure_25 : decode cX10_sure 25 = .ok (.aload_n 0, 1) := by decide +kernel
theorem dX10_sure_26 : decode cX10_sure 26 = .ok (.getfield 231, 3) := by decide +kernel
theorem dX10_sure_29 : decode cX10_sure 29 = .ok (.if_icmp .ge 48, 3) := by decide +kernel
theorem dX10_sure_32 : decode cX10_sure 32 = .ok (.aload_n 0, 1) := by decide +kernel
theorem dX10_sure_33 : decode cX10_sure 33 = .ok (.getfield 266, 3) := by decide +kernel
theorem dX10_sure_36 : decode cX10_sure 36 = .ok (.ifCond .le 41, 3) := by decide +kernel
theorem dX10_sure_39 : decode cX10_sure 39 = .ok (.iload_n 2, 1) := by decide +kernel
theorem dX10_sure_40 : decode cX10_sure 40 = .ok (.aload_n 0, 1) := by decide +kernel
theorem dX10_sure_41 : decode cX10_sure 41 = .ok (.aload_n 0, 1) := by decide +kernel
theorem dX10_sure_42 : decode cX10_sure 42 = .ok (.getfield 72, 3) := by decide +kernel
theorem dX10_sure_45 : decode cX10_sure 45 = .ok (.iload_n 3, 1) := by decide +kernel
theorem dX10_sure_46 : decode cX10_sure 46 = .ok (.iaload, 1) := by decide +kernel
theorem dX10_sure_47 : decode cX10_sure 47 = .ok (.invokevirtual 288, 3) := by decide +kernel
theorem dX10_sure_50 : decode cX10_sure 50 = .ok (.aload_n 0, 1) := by decide +kernel
theorem dX10_sure_51 : decode cX10_sure 51 = .ok (.getfield 266, 3) := by decide +kernel
theorem dX10_sure_54 : decode cX10_sure 54 = .ok (.if_icmp .ne 14, 3) := by decide +kernel
theorem dX10_sure_57 : decode cX10_sure 57 = .ok (.iconst 1, 1) := by decide +kernel
theorem dX10_sure_58 : decode cX10_sure 58 = .ok (.aload_n 0, 1) := by decide +kernel
theorem dX10_sure_59 : decode cX10_sure 59 = .ok (.getfield 72, 3) := by decide +kernel
theorem dX10_sure_62 : decode cX10_sure 62 = .ok (.iload_n 3, 1) := by decide +kernel
theorem dX10_sure_63 : decode cX10_sure 63 = .ok (.iaload, 1) := by decide +kernel
theorem dX10_sure_64 : decode cX10_sure 64 = .ok (.ishl, 1) := by decide +kernel
theorem dX10_sure_65 : decode cX10_sure 65 = .ok (.goto 4, 3) := by decide +kernel
theorem dX10_sure_68 : decode cX10_sure 68 = .ok (.iconst 0, 1) := by decide +kernel
theorem dX10_sure_69 : decode cX10_sure 69 = .ok (.ior, 1) := by decide +kernel
theorem dX10_sure_70 : decode cX10_sure 70 = .ok (.istore_n 2, 1) := by decide +kernel
theorem dX10_sure_71 : decode cX10_sure 71 = .ok (.iinc 3 1, 3) := by decide +kernel
theorem dX10_sure_74 : decode cX10_sure 74 = .ok (.goto (-50), 3) := by decide +kernel
theorem dX10_sure_77 : decode cX10_sure 77 = .ok (.iload_n 2, 1) := by decide +kernel
theorem dX10_sure_78 : decode cX10_sure 78 = .ok (.ireturn, 1) := by decide +kernel
theorem dX10_next_0 : decode cX10_next 0 = .ok (.iload_n 1, 1) := by decide +kernel
theorem dX10_next_1 : decode cX10_next 1 = .ok (.invokestatic 273, 3) := by decide +kernel
theorem dX10_next_4 : decode cX10_next 4 = .ok (.ifCond .ne 5, 3) := by decide +kernel
theorem dX10_next_7 : decode cX10_next 7 = .ok (.iconst (-1), 1) := by decide +kernel
theorem dX10_next_8 : decode cX10_next 8 = .ok (.ireturn, 1) := by decide +kernel
theorem dX10_next_9 : decode cX10_next 9 = .ok (.aload_n 0, 1) := by decide +kernel
theorem dX10_next_10 : decode cX10_next 10 = .ok (.iload_n 1, 1) := by decide +kernel
theorem dX10_next_11 : decode cX10_next 11 = .ok (.invokevirtual 276, 3) := by decide +kernel
theorem dX10_next_14 : decode cX10_next 14 = .ok (.ifCond .ne 6, 3) := by decide +kernel
theorem dX10_next_17 : decode cX10_next 17 = .ok (.bipush (-6), 2) := by decide +kernel
theorem dX10_next_19 : decode cX10_next 19 = .ok (.ireturn, 1) := by decide +kernel
theorem dX10_next_20 : decode cX10_next 20 = .ok (.bipush (-9), 2) := by decide +kernel
theorem dX10_next_22 : decode cX10_next 22 = .ok (.istore_n 2, 1) := by decide +kernel
theorem dX10_next_23 : decode cX10_next 23 = .ok (.iconst 0, 1) := by decide +kernel
theorem dX10_next_24 : decode cX10_next 24 = .ok (.istore_n 3, 1) := by decide +kernel
theorem dX10_next_25 : decode cX10_next 25 = .ok (.iconst 0, 1) := by decide +kernel
theorem dX10_next_26 : decode cX10_next 26 = .ok (.istore 4, 2) := by decide +kernel
theorem dX10_next_28 : decode cX10_next 28 = .ok (.iload 4, 2) := by decide +kernel
theorem dX10_next_30 : decode cX10_next 30 = .ok (.aload_n 0, 1) := by decide +kernel
theorem dX10_next_31 : decode cX10_next 31 = .ok (.getfield 231, 3) := by decide +kernel
theorem dX10_next_34 : decode cX10_next 34 = .ok (.if_icmp .ge 50, 3) := by decide +kernel
theorem dX10_next_37 : decode cX10_next 37 = .ok (.aload_n 0, 1) := by decide +kernel
theorem dX10_next_38 : decode cX10_next 38 = .ok (.getfield 266, 3) := by decide +kernel
theorem dX10_next_41 : decode cX10_next 41 = .ok (.ifCond .le 43, 3) := by decide +kernel
theorem dX10_next_44 : decode cX10_next 44 = .ok (.aload_n 0, 1) := by decide +kernel
theorem dX10_next_45 : decode cX10_next 45 = .ok (.aload_n 0, 1) := by decide +kernel
theorem dX10_next_46 : decode cX10_next 46 = .ok (.getfield 72, 3) := by decide +kernel
theorem dX10_next_49 : decode cX10_next 49 = .ok (.iload 4, 2) := by decide +kernel
theorem dX10_next_51 : decode cX10_next 51 = .ok (.iaload, 1) := by decide +kernel
theorem dX10_next_52 : decode cX10_next 52 = .ok (.invokevirtual 288, 3) := by decide +kernel
theorem dX10_next_55 : decode cX10_next 55 = .ok (.istore 5, 2) := by decide +kernel
theorem dX10_next_57 : decode cX10_next 57 = .ok (.iload_n 2, 1) := by decide +kernel
theorem dX10_next_58 : decode cX10_next 58 = .ok (.ifCond .lt 9, 3) := by decide +kernel
theorem dX10_next_61 : decode cX10_next 61 = .ok (.iload 5, 2) := by decide +kernel
theorem dX10_next_63 : decode cX10_next 63 = .ok (.iload_n 3, 1) := by decide +kernel
theorem dX10_next_64 : decode cX10_next 64 = .ok (.if_icmp .ge 14, 3) := by decide +kernel
theorem dX10_next_67 : decode cX10_next 67 = .ok (.aload_n 0, 1) := by decide +kernel
theorem dX10_next_68 : decode cX10_next 68 = .ok (.getfield 72, 3) := by decide +kernel
theorem dX10_next_71 : decode cX10_next 71 = .ok (.iload 4, 2) := by decide +kernel
theorem dX10_next_73 : decode cX10_next 73 = .ok (.iaload, 1) := by decide +kernel
theorem dX10_next_74 : decode cX10_next 74 = .ok (.istore_n 2, 1) := by decide +kernel
theorem dX10_next_75 : decode cX10_next 75 = .ok (.iload 5, 2) := by decide +kernel
theorem dX10_next_77 : decode cX10_next 77 = .ok (.istore_n 3, 1) := by decide +kernel
theorem dX10_next_78 : decode cX10_next 78 = .ok (.iinc 4 1, 3) := by decide +kernel
theorem dX10_next_81 : decode cX10_next 81 = .ok (.goto (-53), 3) := by decide +kernel
theorem dX10_next_84 : decode cX10_next 84 = .ok (.iload_n 2, 1) := by decide +kernel
theorem dX10_next_85 : decode cX10_next 85 = .ok (.ifCond .ge 8, 3) := by decide +kernel
theorem dX10_next_88 : decode cX10_next 88 = .ok (.bipush (-9), 2) := by decide +kernel
theorem dX10_next_90 : decode cX10_next 90 = .ok (.goto 9, 3) := by decide +kernel
theorem dX10_next_93 : decode cX10_next 93 = .ok (.aload_n 0, 1) := by decide +kernel
theorem dX10_next_94 : decode cX10_next 94 = .ok (.iload_n 3, 1) := by decide +kernel
theorem dX10_next_95 : decode cX10_next 95 = .ok (.iload_n 2, 1) := by decide +kernel
theorem dX10_next_96 : decode cX10_next 96 = .ok (.invokevirtual 125, 3) := by decide +kernel
theorem dX10_next_99 : decode cX10_next 99 = .ok (.ireturn, 1) := by decide +kernel
theorem dX10_like_0 : decode cX10_like 0 = .ok (.iload_n 1, 1) := by decide +kernel
theorem dX10_like_1 : decode cX10_like 1 = .ok (.invokestatic 107, 3) := by decide +kernel
theorem dX10_like_4 : decode cX10_like 4 = .ok (.ifCond .eq 17, 3) := by decide +kernel
theorem dX10_like_7 : decode cX10_like 7 = .ok (.iload_n 2, 1) := by decide +kernel
theorem dX10_like_8 : decode cX10_like 8 = .ok (.invokestatic 107, 3) := by decide +kernel
theorem dX10_like_11 : decode cX10_like 11 = .ok (.ifCond .eq 10, 3) := by decide +kernel
theorem dX10_like_14 : decode cX10_like 14 = .ok (.iload_n 3, 1) := by decide +kernel
theorem dX10_like_15 : decode cX10_like 15 = .ok (.invokestatic 273, 3) := by decide +kernel
theorem dX10_like_18 : decode cX10_like 18 = .ok (.ifCond .ne 5, 3) := by decide +kernel
theorem dX10_like_21 : decode cX10_like 21 = .ok (.iconst (-1), 1) := by decide +kernel
theorem dX10_like_22 : decode cX10_like 22 = .ok (.ireturn, 1) := by decide +kernel
theorem dX10_like_23 : decode cX10_like 23 = .ok (.aload_n 0, 1) := by decide +kernel
theorem dX10_like_24 : decode cX10_like 24 = .ok (.iload_n 1, 1) := by decide +kernel
theorem dX10_like_25 : decode cX10_like 25 = .ok (.invokevirtual 118, 3) := by decide +kernel
theorem dX10_like_28 : decode cX10_like 28 = .ok (.istore 4, 2) := by decide +kernel
theorem dX10_like_30 : decode cX10_like 30 = .ok (.iload 4, 2) := by decide +kernel
theorem dX10_like_32 : decode cX10_like 32 = .ok (.ifCond .ge 6, 3) := by decide +kernel
theorem dX10_like_35 : decode cX10_like 35 = .ok (.iload 4, 2) := by decide +kernel
theorem dX10_like_37 : decode cX10_like 37 = .ok (.ireturn, 1) := by decide +kernel
theorem dX10_like_38 : decode cX10_like 38 = .ok (.aload_n 0, 1) := by decide +kernel
theorem dX10_like_39 : decode cX10_like 39 = .ok (.getfield 17, 3) := by decide +kernel
theorem dX10_like_42 : decode cX10_like 42 = .ok (.iload_n 1, 1) := by decide +kernel
theorem dX10_like_43 : decode cX10_like 43 = .ok (.iaload, 1) := by decide +kernel
theorem dX10_like_44 : decode cX10_like 44 = .ok (.bipush 10, 2) := by decide +kernel
theorem dX10_like_46 : decode cX10_like 46 = .ok (.if_icmp .eq 9, 3) := by decide +kernel
theorem dX10_like_49 : decode cX10_like 49 = .ok (.aload_n 0, 1) := by decide +kernel
theorem dX10_like_50 : decode cX10_like 50 = .ok (.iconst 5, 1) := by decide +kernel
theorem dX10_like_51 : decode cX10_like 51 = .ok (.invokevirtual 111, 3) := by decide +kernel
theorem dX10_like_54 : decode cX10_like 54 = .ok (.ireturn, 1) := by decide +kernel
theorem dX10_like_55 : decode cX10_like 55 = .ok (.iconst 0, 1) := by decide +kernel
theorem dX10_like_56 : decode cX10_like 56 = .ok (.istore 5, 2) := by decide +kernel
theorem dX10_like_58 : decode cX10_like 58 = .ok (.iload 5, 2) := by decide +kernel
theorem dX10_like_60 : decode cX10_like 60 = .ok (.bipush 10, 2) := by decide +kernel
theorem dX10_like_62 : decode cX10_like 62 = .ok (.if_icmp .ge 42, 3) := by decide +kernel
theorem dX10_like_65 : decode cX10_like 65 = .ok (.aload_n 0, 1) := by decide +kernel
theorem dX10_like_66 : decode cX10_like 66 = .ok (.getfield 84, 3) := by decide +kernel
theorem dX10_like_69 : decode cX10_like 69 = .ok (.iload 5, 2) := by decide +kernel
theorem dX10_like_71 : decode cX10_like 71 = .ok (.aload_n 0, 1) := by decide +kernel
theorem dX10_like_72 : decode cX10_like 72 = .ok (.iload_n 1, 1) := by decide +kernel
theorem dX10_like_73 : decode cX10_like 73 = .ok (.iload 5, 2) := by decide +kernel
theorem dX10_like_75 : decode cX10_like 75 = .ok (.invokevirtual 121, 3) := by decide +kernel
theorem dX10_like_78 : decode cX10_like 78 = .ok (.iastore, 1) := by decide +kernel
theorem dX10_like_79 : decode cX10_like 79 = .ok (.aload_n 0, 1) := by decide +kernel
theorem dX10_like_80 : decode cX10_like 80 = .ok (.getfield 84, 3) := by decide +kernel
theorem dX10_like_83 : decode cX10_like 83 = .ok (.iload 5, 2) := by decide +kernel
theorem dX10_like_85 : decode cX10_like 85 = .ok (.iaload, 1) := by decide +kernel
theorem dX10_like_86 : decode cX10_like 86 = .ok (.invokestatic 175, 3) := by decide +kernel
theorem dX10_like_89 : decode cX10_like 89 = .ok (.ifCond .ne 9, 3) := by decide +kernel
theorem dX10_like_92 : decode cX10_like 92 = .ok (.aload_n 0, 1) := by decide +kernel
theorem dX10_like_93 : decode cX10_like 93 = .ok (.iconst 3, 1) := by decide +kernel
theorem dX10_like_94 : decode cX10_like 94 = .ok (.invokevirtual 111, 3) := by decide +kernel
theorem dX10_like_97 : decode cX10_like 97 = .ok (.ireturn, 1) := by decide +kernel
theorem dX10_like_98 : decode cX10_like 98 = .ok (.iinc 5 1, 3) := by decide +kernel
theorem dX10_like_101 : decode cX10_like 101 = .ok (.goto (-43), 3) := by decide +kernel
theorem dX10_like_104 : decode cX10_like 104 = .ok (.aload_n 0, 1) := by decide +kernel
theorem dX10_like_105 : decode cX10_like 105 = .ok (.iload_n 3, 1) := by decide +kernel
theorem dX10_like_106 : decode cX10_like 106 = .ok (.iconst 0, 1) := by decide +kernel
theorem dX10_like_107 : decode cX10_like 107 = .ok (.invokevirtual 262, 3) := by decide +kernel
theorem dX10_like_110 : decode cX10_like 110 = .ok (.bipush (-9), 2) := by decide +kernel
theorem dX10_like_112 : decode cX10_like 112 = .ok (.istore 5, 2) := by decide +kernel
theorem dX10_like_114 : decode cX10_like 114 = .ok (.aload_n 0, 1) := by decide +kernel
theorem dX10_like_115 : decode cX10_like 115 = .ok (.invokevirtual 269, 3) := by decide +kernel
theorem dX10_like_118 : decode cX10_like 118 = .ok (.ifCond .eq 93, 3) := by decide +kernel
theorem dX10_like_121 : decode cX10_like 121 = .ok (.iconst 0, 1) := by decide +kernel
theorem dX10_like_122 : decode cX10_like 122 = .ok (.istore 6, 2) := by decide +kernel
theorem dX10_like_124 : decode cX10_like 124 = .ok (.iconst 0, 1) := by decide +kernel
theorem dX10_like_125 : decode cX10_like 125 = .ok (.istore 7, 2) := by decide +kernel
theorem dX10_like_127 : decode cX10_like 127 = .ok (.iload 7, 2) := by decide +kernel
theorem dX10_like_129 : decode cX10_like 129 = .ok (.aload_n 0, 1) := by decide +kernel
theorem dX10_like_130 : decode cX10_like 130 = .ok (.getfield 231, 3) := by decide +kernel
theorem dX10_like_133 : decode cX10_like 133 = .ok (.if_icmp .ge 34, 3) := by decide +kernel
theorem dX10_like_136 : decode cX10_like 136 = .ok (.iload 6, 2) := by decide +kernel
theorem dX10_like_138 : decode cX10_like 138 = .ok (.aload_n 0, 1) := by decide +kernel
theorem dX10_like_139 : decode cX10_like 139 = .ok (.getfield 84, 3) := by decide +kernel
theorem dX10_like_142 : decode cX10_like 142 = .ok (.aload_n 0, 1) := by decide +kernel
theorem dX10_like_143 : decode cX10_like 143 = .ok (.getfield 78, 3) := by decide +kernel
theorem dX10_like_146 : decode cX10_like 146 = .ok (.aload_n 0, 1) := by decide +kernel
theorem dX10_like_147 : decode cX10_like 147 = .ok (.getfield 72, 3) := by decide +kernel
theorem dX10_like_150 : decode cX10_like 150 = .ok (.iload 7, 2) := by decide +kernel
theorem dX10_like_152 : decode cX10_like 152 = .ok (.iaload, 1) := by decide +kernel
theorem dX10_like_153 : decode cX10_like 153 = .ok (.iaload, 1) := by decide +kernel
theorem dX10_like_154 : decode cX10_like 154 = .ok (.bipush 10, 2) := by decide +kernel
theorem dX10_like_156 : decode cX10_like 156 = .ok (.irem, 1) := by decide +kernel
theorem dX10_like_157 : decode cX10_like 157 = .ok (.iaload, 1) := by decide +kernel
theorem dX10_like_158 : decode cX10_like 158 = .ok (.iadd, 1) := by decide +kernel
theorem dX10_like_159 : decode cX10_like 159 = .ok (.istore 6, 2) := by decide +kernel
theorem dX10_like_161 : decode cX10_like 161 = .ok (.iinc 7 1, 3) := by decide +kernel
theorem dX10_like_164 : decode cX10_like 164 = .ok (.goto (-37), 3) := by decide +kernel
theorem dX10_like_167 : decode cX10_like 167 = .ok (.iload 6, 2) := by decide +kernel
theorem dX10_like_169 : decode cX10_like 169 = .ok (.iload 5, 2) := by decide +kernel
theorem dX10_like_171 : decode cX10_like 171 = .ok (.if_icmp .le 37, 3) := by decide +kernel
theorem dX10_like_174 : decode cX10_like 174 = .ok (.iload 6, 2) := by decide +kernel
theorem dX10_like_176 : decode cX10_like 176 = .ok (.istore 5, 2) := by decide +kernel
theorem dX10_like_178 : decode cX10_like 178 = .ok (.iconst 0, 1) := by decide +kernel
theorem dX10_like_179 : decode cX10_like 179 = .ok (.istore 7, 2) := by decide +kernel
theorem dX10_like_181 : decode cX10_like 181 = .ok (.iload 7, 2) := by decide +kernel
theorem dX10_like_183 : decode cX10_like 183 = .ok (.bipush 12, 2) := by decide +kernel
theorem dX10_like_185 : decode cX10_like 185 = .ok (.if_icmp .ge 23, 3) := by decide +kernel
theorem dX10_like_188 : decode cX10_like 188 = .ok (.aload_n 0, 1) := by decide +kernel
theorem dX10_like_189 : decode cX10_like 189 = .ok (.getfield 87, 3) := by decide +kernel
theorem dX10_like_192 : decode cX10_like 192 = .ok (.iload 7, 2) := by decide +kernel
theorem dX10_like_194 : decode cX10_like 194 = .ok (.aload_n 0, 1) := by decide +kernel
theorem dX10_like_195 : decode cX10_like 195 = .ok (.getfield 78, 3) := by decide +kernel
theorem dX10_like_198 : decode cX10_like 198 = .ok (.iload 7, 2) := by decide +kernel
theorem dX10_like_200 : decode cX10_like 200 = .ok (.iaload, 1) := by decide +kernel
theorem dX10_like_201 : decode cX10_like 201 = .ok (.iastore, 1) := by decide +kernel
theorem dX10_like_202 : decode cX10_like 202 = .ok (.iinc 7 1, 3) := by decide +kernel
theorem dX10_like_205 : decode cX10_like 205 = .ok (.goto (-24), 3) := by decide +kernel
theorem dX10_like_208 : decode cX10_like 208 = .ok (.goto (-94), 3) := by decide +kernel
theorem dX10_like_211 : decode cX10_like 211 = .ok (.aload_n 0, 1) := by decide +kernel
theorem dX10_like_212 : decode cX10_like 212 = .ok (.getfield 246, 3) := by decide +kernel
theorem dX10_like_215 : decode cX10_like 215 = .ok (.ifCond .eq 6, 3) := by decide +kernel
theorem dX10_like_218 : decode cX10_like 218 = .ok (.bipush (-6), 2) := by decide +kernel
theorem dX10_like_220 : decode cX10_like 220 = .ok (.ireturn, 1) := by decide +kernel
theorem dX10_like_221 : decode cX10_like 221 = .ok (.iload 5, 2) := by decide +kernel
theorem dX10_like_223 : decode cX10_like 223 = .ok (.ifCond .ge 6, 3) := by decide +kernel
theorem dX10_like_226 : decode cX10_like 226 = .ok (.bipush (-9), 2) := by decide +kernel
theorem dX10_like_228 : decode cX10_like 228 = .ok (.ireturn, 1) := by decide +kernel
theorem dX10_like_229 : decode cX10_like 229 = .ok (.iconst 0, 1) := by decide +kernel
theorem dX10_like_230 : decode cX10_like 230 = .ok (.istore 6, 2) := by decide +kernel
theorem dX10_like_232 : decode cX10_like 232 = .ok (.iload 6, 2) := by decide +kernel
theorem dX10_like_234 : decode cX10_like 234 = .ok (.bipush 12, 2) := by decide +kernel
theorem dX10_like_236 : decode cX10_like 236 = .ok (.if_icmp .ge 23, 3) := by decide +kernel
theorem dX10_like_239 : decode cX10_like 239 = .ok (.aload_n 0, 1) := by decide +kernel
theorem dX10_like_240 : decode cX10_like 240 = .ok (.getfield 78, 3) := by decide +kernel
theorem dX10_like_243 : decode cX10_like 243 = .ok (.iload 6, 2) := by decide +kernel
theorem dX10_like_245 : decode cX10_like 245 = .ok (.aload_n 0, 1) := by decide +kernel
theorem dX10_like_246 : decode cX10_like 246 = .ok (.getfield 87, 3) := by decide +kernel
theorem dX10_like_249 : decode cX10_like 249 = .ok (.iload 6, 2) := by decide +kernel
theorem dX10_like_251 : decode cX10_like 251 = .ok (.iaload, 1) := by decide +kernel
theorem dX10_like_252 : decode cX10_like 252 = .ok (.iastore, 1) := by decide +kernel
theorem dX10_like_253 : decode cX10_like 253 = .ok (.iinc 6 1, 3) := by decide +kernel
theorem dX10_like_256 : decode cX10_like 256 = .ok (.goto (-24), 3) := by decide +kernel
theorem dX10_like_259 : decode cX10_like 259 = .ok (.aload_n 0, 1) := by decide +kernel
theorem dX10_like_260 : decode cX10_like 260 = .ok (.iload_n 2, 1) := by decide +kernel
theorem dX10_like_261 : decode cX10_like 261 = .ok (.invokevirtual 282, 3) := by decide +kernel
theorem dX10_like_264 : decode cX10_like 264 = .ok (.iload 5, 2) := by decide +kernel
theorem dX10_like_266 : decode cX10_like 266 = .ok (.ireturn, 1) := by decide +kernel
theorem dX10_bits_0 : decode cX10_bits 0 = .ok (.iconst 0, 1) := by decide +kernel
theorem dX10_bits_1 : decode cX10_bits 1 = .ok (.istore_n 1, 1) := by decide +kernel
theorem dX10_bits_2 : decode cX10_bits 2 = .ok (.iconst 0, 1) := by decide +kernel
theorem dX10_bits_3 : decode cX10_bits 3 = .ok (.istore_n 2, 1) := by decide +kernel
theorem dX10_bits_4 : decode cX10_bits 4 = .ok (.iload_n 2, 1) := by decide +kernel
theorem dX10_bits_5 : decode cX10_bits 5 = .ok (.bipush 12, 2) := by decide +kernel
theorem dX10_bits_7 : decode cX10_bits 7 = .ok (.if_icmp .ge 17, 3) := by decide +kernel
theorem dX10_bits_10 : decode cX10_bits 10 = .ok (.iload_n 1, 1) := by decide +kernel
theorem dX10_bits_11 : decode cX10_bits 11 = .ok (.iload_n 0, 1) := by decide +kernel
theorem dX10_bits_12 : decode cX10_bits 12 = .ok (.iload_n 2, 1) := by decide +kernel
theorem dX10_bits_13 : decode cX10_bits 13 = .ok (.ishr, 1) := by decide +kernel
theorem dX10_bits_14 : decode cX10_bits 14 = .ok (.iconst 1, 1) := by decide +kernel
theorem dX10_bits_15 : decode cX10_bits 15 = .ok (.iand, 1) := by decide +kernel
theorem dX10_bits_16 : decode cX10_bits 16 = .ok (.iadd, 1) := by decide +kernel
theorem dX10_bits_17 : decode cX10_bits 17 = .ok (.istore_n 1, 1) := by decide +kernel
theorem dX10_bits_18 : decode cX10_bits 18 = .ok (.iinc 2 1, 3) := by decide +kernel
theorem dX10_bits_21 : decode cX10_bits 21 = .ok (.goto (-17), 3) := by decide +kernel
theorem dX10_bits_24 : decode cX10_bits 24 = .ok (.iload_n 1, 1) := by decide +kernel
theorem dX10_bits_25 : decode cX10_bits 25 = .ok (.ireturn, 1) := by decide +kernel
theorem dX10_wrong_0 : decode cX10_wrong 0 = .ok (.iload_n 1, 1) := by decide +kernel
theorem dX10_wrong_1 : decode cX10_wrong 1 = .ok (.invokestatic 273, 3) := by decide +kernel
theorem dX10_wrong_4 : decode cX10_wrong 4 = .ok (.ifCond .ne 5, 3) := by decide +kernel
theorem dX10_wrong_7 : decode cX10_wrong 7 = .ok (.iconst (-1), 1) := by decide +kernel
theorem dX10_wrong_8 : decode cX10_wrong 8 = .ok (.ireturn, 1) := by decide +kernel
theorem dX10_wrong_9 : decode cX10_wrong 9 = .ok (.iconst 0, 1) := by decide +kernel
theorem dX10_wrong_10 : decode cX10_wrong 10 = .ok (.istore_n 2, 1) := by decide +kernel
theorem dX10_wrong_11 : decode cX10_wrong 11 = .ok (.iload_n 2, 1) := by decide +kernel
theorem dX10_wrong_12 : decode cX10_wrong 12 = .ok (.aload_n 0, 1) := by decide +kernel
theorem dX10_wrong_13 : decode cX10_wrong 13 = .ok (.getfield 172, 3) := by decide +kernel
theorem dX10_wrong_16 : decode cX10_wrong 16 = .ok (.if_icmp .gt 60, 3) := by decide +kernel
theorem dX10_wrong_19 : decode cX10_wrong 19 = .ok (.iconst 0, 1) := by decide +kernel
theorem dX10_wrong_20 : decode cX10_wrong 20 = .ok (.istore_n 3, 1) := by decide +kernel
theorem dX10_wrong_21 : decode cX10_wrong 21 = .ok (.iload_n 3, 1) := by decide +kernel
theorem dX10_wrong_22 : decode cX10_wrong 22 = .ok (.iconst 1, 1) := by decide +kernel
theorem dX10_wrong_23 : decode cX10_wrong 23 = .ok (.aload_n 0, 1) := by decide +kernel
theorem dX10_wrong_24 : decode cX10_wrong 24 = .ok (.getfield 172, 3) := by decide +kernel
theorem dX10_wrong_27 : decode cX10_wrong 27 = .ok (.ishl, 1) := by decide +kernel
theorem dX10_wrong_28 : decode cX10_wrong 28 = .ok (.if_icmp .ge 42, 3) := by decide +kernel
theorem dX10_wrong_31 : decode cX10_wrong 31 = .ok (.iload_n 3, 1) := by decide +kernel
theorem dX10_wrong_32 : decode cX10_wrong 32 = .ok (.invokestatic 291, 3) := by decide +kernel
theorem dX10_wrong_35 : decode cX10_wrong 35 = .ok (.iload_n 2, 1) := by decide +kernel
theorem dX10_wrong_36 : decode cX10_wrong 36 = .ok (.if_icmp .ne 28, 3) := by decide +kernel
theorem dX10_wrong_39 : decode cX10_wrong 39 = .ok (.aload_n 0, 1) := by decide +kernel
theorem dX10_wrong_40 : decode cX10_wrong 40 = .ok (.iload_n 1, 1) := by decide +kernel
theorem dX10_wrong_41 : decode cX10_wrong 41 = .ok (.iload_n 3, 1) := by decide +kernel
theorem dX10_wrong_42 : decode cX10_wrong 42 = .ok (.invokevirtual 262, 3) := by decide +kernel
theorem dX10_wrong_45 : decode cX10_wrong 45 = .ok (.aload_n 0, 1) := by decide +kernel
theorem dX10_wrong_46 : decode cX10_wrong 46 = .ok (.invokevirtual 269, 3) := by decide +kernel
theorem dX10_wrong_49 : decode cX10_wrong 49 = .ok (.ifCond .eq 5, 3) := by decide +kernel
theorem dX10_wrong_52 : decode cX10_wrong 52 = .ok (.iload_n 3, 1) := by decide +kernel
theorem dX10_wrong_53 : decode cX10_wrong 53 = .ok (.ireturn, 1) := by decide +kernel
theorem dX10_wrong_54 : decode cX10_wrong 54 = .ok (.aload_n 0, 1) := by decide +kernel
theorem dX10_wrong_55 : decode cX10_wrong 55 = .ok (.getfield 246, 3) := by decide +kernel
theorem dX10_wrong_58 : decode cX10_wrong 58 = .ok (.ifCond .eq 6, 3) := by decide +kernel
theorem dX10_wrong_61 : decode cX10_wrong 61 = .ok (.bipush (-6), 2) := by decide +kernel
theorem dX10_wrong_63 : decode cX10_wrong 63 = .ok (.ireturn, 1) := by decide +kernel
theorem dX10_wrong_64 : decode cX10_wrong 64 = .ok (.iinc 3 1, 3) := by decide +kernel
theorem dX10_wrong_67 : decode cX10_wrong 67 = .ok (.goto (-46), 3) := by decide +kernel
theorem dX10_wrong_70 : decode cX10_wrong 70 = .ok (.iinc 2 1, 3) := by decide +kernel
theorem dX10_wrong_73 : decode cX10_wrong 73 = .ok (.goto (-62), 3) := by decide +kernel
theorem dX10_wrong_76 : decode cX10_wrong 76 = .ok (.bipush (-9), 2) := by decide +kernel
theorem dX10_wrong_78 : decode cX10_wrong 78 = .ok (.ireturn, 1) := by decide +kernel
theorem dX10_isRule_0 : decode cX10_isRule 0 = .ok (.aload_n 0, 1) := by decide +kernel
theorem dX10_isRule_1 : decode cX10_isRule 1 = .ok (.iload_n 1, 1) := by decide +kernel
theorem dX10_isRule_2 : decode cX10_isRule 2 = .ok (.iload_n 2, 1) := by decide +kernel
theorem dX10_isRule_3 : decode cX10_isRule 3 = .ok (.invokevirtual 121, 3) := by decide +kernel
theorem dX10_isRule_6 : decode cX10_isRule 6 = .ok (.istore_n 3, 1) := by decide +kernel
theorem dX10_isRule_7 : decode cX10_isRule 7 = .ok (.aload_n 0, 1) := by decide +kernel
theorem dX10_isRule_8 : decode cX10_isRule 8 = .ok (.iload_n 2, 1) := by decide +kernel
theorem dX10_isRule_9 : decode cX10_isRule 9 = .ok (.invokevirtual 193, 3) := by decide +kernel
theorem dX10_isRule_12 : decode cX10_isRule 12 = .ok (.ifCond .ne 14, 3) := by decide +kernel
theorem dX10_isRule_15 : decode cX10_isRule 15 = .ok (.iload_n 3, 1) := by decide +kernel
theorem dX10_isRule_16 : decode cX10_isRule 16 = .ok (.iconst (-1), 1) := by decide +kernel
theorem dX10_isRule_17 : decode cX10_isRule 17 = .ok (.if_icmp .ne 7, 3) := by decide +kernel
theorem dX10_isRule_20 : decode cX10_isRule 20 = .ok (.iconst 1, 1) := by decide +kernel
theorem dX10_isRule_21 : decode cX10_isRule 21 = .ok (.goto 4, 3) := by decide +kernel
theorem dX10_isRule_24 : decode cX10_isRule 24 = .ok (.iconst 0, 1) := by decide +kernel
theorem dX10_isRule_25 : decode cX10_isRule 25 = .ok (.ireturn, 1) := by decide +kernel
theorem dX10_isRule_26 : decode cX10_isRule 26 = .ok (.iload_n 3, 1) := by decide +kernel
theorem dX10_isRule_27 : decode cX10_isRule 27 = .ok (.invokestatic 175, 3) := by decide +kernel
theorem dX10_isRule_30 : decode cX10_isRule 30 = .ok (.ifCond .eq 12, 3) := by decide +kernel
theorem dX10_isRule_33 : decode cX10_isRule 33 = .ok (.aload_n 0, 1) := by decide +kernel
theorem dX10_isRule_34 : decode cX10_isRule 34 = .ok (.iload_n 2, 1) := by decide +kernel
theorem dX10_isRule_35 : decode cX10_isRule 35 = .ok (.iload_n 3, 1) := by decide +kernel
theorem dX10_isRule_36 : decode cX10_isRule 36 = .ok (.invokevirtual 196, 3) := by decide +kernel
theorem dX10_isRule_39 : decode cX10_isRule 39 = .ok (.ifCond .ne 5, 3) := by decide +kernel
theorem dX10_isRule_42 : decode cX10_isRule 42 = .ok (.iconst 0, 1) := by decide +kernel
theorem dX10_isRule_43 : decode cX10_isRule 43 = .ok (.ireturn, 1) := by decide +kernel
theorem dX10_isRule_44 : decode cX10_isRule 44 = .ok (.aload_n 0, 1) := by decide +kernel
theorem dX10_isRule_45 : decode cX10_isRule 45 = .ok (.getfield 41, 3) := by decide +kernel
theorem dX10_isRule_48 : decode cX10_isRule 48 = .ok (.iload_n 2, 1) := by decide +kernel
theorem dX10_isRule_49 : decode cX10_isRule 49 = .ok (.iaload, 1) := by decide +kernel
theorem dX10_isRule_50 : decode cX10_isRule 50 = .ok (.iconst 2, 1) := by decide +kernel
theorem dX10_isRule_51 : decode cX10_isRule 51 = .ok (.if_icmp .eq 13, 3) := by decide +kernel
theorem dX10_isRule_54 : decode cX10_isRule 54 = .ok (.aload_n 0, 1) := by decide +kernel
theorem dX10_isRule_55 : decode cX10_isRule 55 = .ok (.getfield 41, 3) := by decide +kernel
theorem dX10_isRule_58 : decode cX10_isRule 58 = .ok (.iload_n 2, 1) := by decide +kernel
theorem dX10_isRule_59 : decode cX10_isRule 59 = .ok (.iaload, 1) := by decide +kernel
theorem dX10_isRule_60 : decode cX10_isRule 60 = .ok (.iconst 4, 1) := by decide +kernel
theorem dX10_isRule_61 : decode cX10_isRule 61 = .ok (.if_icmp .ne 17, 3) := by decide +kernel
theorem dX10_isRule_64 : decode cX10_isRule 64 = .ok (.aload_n 0, 1) := by decide +kernel
theorem dX10_isRule_65 : decode cX10_isRule 65 = .ok (.iload_n 1, 1) := by decide +kernel
theorem dX10_isRule_66 : decode cX10_isRule 66 = .ok (.aload_n 0, 1) := by decide +kernel
theorem dX10_isRule_67 : decode cX10_isRule 67 = .ok (.getfield 44, 3) := by decide +kernel
theorem dX10_isRule_70 : decode cX10_isRule 70 = .ok (.iload_n 2, 1) := by decide +kernel
theorem dX10_isRule_71 : decode cX10_isRule 71 = .ok (.iaload, 1) := by decide +kernel
theorem dX10_isRule_72 : decode cX10_isRule 72 = .ok (.invokevirtual 121, 3) := by decide +kernel
theorem dX10_isRule_75 : decode cX10_isRule 75 = .ok (.goto 4, 3) := by decide +kernel
theorem dX10_isRule_78 : decode cX10_isRule 78 = .ok (.iconst 0, 1) := by decide +kernel
theorem dX10_isRule_79 : decode cX10_isRule 79 = .ok (.istore 4, 2) := by decide +kernel
theorem dX10_isRule_81 : decode cX10_isRule 81 = .ok (.aload_n 0, 1) := by decide +kernel
theorem dX10_isRule_82 : decode cX10_isRule 82 = .ok (.getfield 41, 3) := by decide +kernel
theorem dX10_isRule_85 : decode cX10_isRule 85 = .ok (.iload_n 2, 1) := by decide +kernel
theorem dX10_isRule_86 : decode cX10_isRule 86 = .ok (.iaload, 1) := by decide +kernel
theorem dX10_isRule_87 : decode cX10_isRule 87 = .ok (.iconst 2, 1) := by decide +kernel
theorem dX10_isRule_88 : decode cX10_isRule 88 = .ok (.if_icmp .ne 17, 3) := by decide +kernel
theorem dX10_isRule_91 : decode cX10_isRule 91 = .ok (.aload_n 0, 1) := by decide +kernel
theorem dX10_isRule_92 : decode cX10_isRule 92 = .ok (.iload_n 1, 1) := by decide +kernel
theorem dX10_isRule_93 : decode cX10_isRule 93 = .ok (.aload_n 0, 1) := by decide +kernel
theorem dX10_isRule_94 : decode cX10_isRule 94 = .ok (.getfield 47, 3) := by decide +kernel
theorem dX10_isRule_97 : decode cX10_isRule 97 = .ok (.iload_n 2, 1) := by decide +kernel
theorem dX10_isRule_98 : decode cX10_isRule 98 = .ok (.iaload, 1) := by decide +kernel
theorem dX10_isRule_99 : decode cX10_isRule 99 = .ok (.invokevirtual 121, 3) := by decide +kernel
theorem dX10_isRule_102 : decode cX10_isRule 102 = .ok (.goto 4, 3) := by decide +kernel
theorem dX10_isRule_105 : decode cX10_isRule 105 = .ok (.iconst 0, 1) := by decide +kernel
theorem dX10_isRule_106 : decode cX10_isRule 106 = .ok (.istore 5, 2) := by decide +kernel
theorem dX10_isRule_108 : decode cX10_isRule 108 = .ok (.iconst 0, 1) := by decide +kernel
theorem dX10_isRule_109 : decode cX10_isRule 109 = .ok (.istore 6, 2) := by decide +kernel
theorem dX10_isRule_111 : decode cX10_isRule 111 = .ok (.iconst 0, 1) := by decide +kernel
theorem dX10_isRule_112 : decode cX10_isRule 112 = .ok (.istore 7, 2) := by decide +kernel
theorem dX10_isRule_114 : decode cX10_isRule 114 = .ok (.iload 7, 2) := by decide +kernel
theorem dX10_isRule_116 : decode cX10_isRule 116 = .ok (.iload_n 2, 1) := by decide +kernel
theorem dX10_isRule_117 : decode cX10_isRule 117 = .ok (.if_icmp .gt 41, 3) := by decide +kernel
theorem dX10_isRule_120 : decode cX10_isRule 120 = .ok (.iload 6, 2) := by decide +kernel
theorem dX10_isRule_122 : decode cX10_isRule 122 = .ok (.aload_n 0, 1) := by decide +kernel
theorem dX10_isRule_123 : decode cX10_isRule 123 = .ok (.getfield 41, 3) := by decide +kernel
theorem dX10_isRule_126 : decode cX10_isRule 126 = .ok (.iload 7, 2) := by decide +kernel
theorem dX10_isRule_128 : decode cX10_isRule 128 = .ok (.iaload, 1) := by decide +kernel
theorem dX10_isRule_129 : decode cX10_isRule 129 = .ok (.iconst 3, 1) := by decide +kernel
theorem dX10_isRule_130 : decode cX10_isRule 130 = .ok (.if_icmp .ne 18, 3) := by decide +kernel
theorem dX10_isRule_133 : decode cX10_isRule 133 = .ok (.aload_n 0, 1) := by decide +kernel
theorem dX10_isRule_134 : decode cX10_isRule 134 = .ok (.iload_n 1, 1) := by decide +kernel
theorem dX10_isRule_135 : decode cX10_isRule 135 = .ok (.iload 7, 2) := by decide +kernel
theorem dX10_isRule_137 : decode cX10_isRule 137 = .ok (.invokevirtual 121, 3) := by decide +kernel
theorem dX10_isRule_140 : decode cX10_isRule 140 = .ok (.iload_n 3, 1) := by decide +kernel
theorem dX10_isRule_141 : decode cX10_isRule 141 = .ok (.if_icmp .ne 7, 3) := by decide +kernel
theorem dX10_isRule_144 : decode cX10_isRule 144 = .ok (.iconst 1, 1) := by decide +kernel
theorem dX10_isRule_145 : decode cX10_isRule 145 = .ok (.goto 4, 3) := by decide +kernel
theorem dX10_isRule_148 : decode cX10_isRule 148 = .ok (.iconst 0, 1) := by decide +kernel
theorem dX10_isRule_149 : decode cX10_isRule 149 = .ok (.iadd, 1) := by decide +kernel
theorem dX10_isRule_150 : decode cX10_isRule 150 = .ok (.istore 6, 2) := by decide +kernel
theorem dX10_isRule_152 : decode cX10_isRule 152 = .ok (.iinc 7 1, 3) := by decide +kernel
theorem dX10_isRule_155 : decode cX10_isRule 155 = .ok (.goto (-41), 3) := by decide +kernel
theorem dX10_isRule_158 : decode cX10_isRule 158 = .ok (.aload_n 0, 1) := by decide +kernel
theorem dX10_isRule_159 : decode cX10_isRule 159 = .ok (.getfield 41, 3) := by decide +kernel
theorem dX10_isRule_162 : decode cX10_isRule 162 = .ok (.iload_n 2, 1) := by decide +kernel
theorem dX10_isRule_163 : decode cX10_isRule 163 = .ok (.iaload, 1) := by decide +kernel
theorem dX10_isRule_164 : decode cX10_isRule 164 = .ok (.tableswitch 95 2 4 #[28, 79, 59], 28) := by decide +kernel
theorem dX10_isRule_192 : decode cX10_isRule 192 = .ok (.iload 4, 2) := by decide +kernel
theorem dX10_isRule_194 : decode cX10_isRule 194 = .ok (.invokestatic 175, 3) := by decide +kernel
theorem dX10_isRule_197 : decode cX10_isRule 197 = .ok (.ifCond .eq 24, 3) := by decide +kernel
theorem dX10_isRule_200 : decode cX10_isRule 200 = .ok (.iload 5, 2) := by decide +kernel
theorem dX10_isRule_202 : decode cX10_isRule 202 = .ok (.invokestatic 175, 3) := by decide +kernel
theorem dX10_isRule_205 : decode cX10_isRule 205 = .ok (.ifCond .eq 16, 3) := by decide +kernel
theorem dX10_isRule_208 : decode cX10_isRule 208 = .ok (.iload_n 3, 1) := by decide +kernel
theorem dX10_isRule_209 : decode cX10_isRule 209 = .ok (.iload 4, 2) := by decide +kernel
theorem dX10_isRule_211 : decode cX10_isRule 211 = .ok (.iload 5, 2) := by decide +kernel
theorem dX10_isRule_213 : decode cX10_isRule 213 = .ok (.imul, 1) := by decide +kernel
theorem dX10_isRule_214 : decode cX10_isRule 214 = .ok (.if_icmp .ne 7, 3) := by decide +kernel
theorem dX10_isRule_217 : decode cX10_isRule 217 = .ok (.iconst 1, 1) := by decide +kernel
theorem dX10_isRule_218 : decode cX10_isRule 218 = .ok (.goto 4, 3) := by decide +kernel
theorem dX10_isRule_221 : decode cX10_isRule 221 = .ok (.iconst 0, 1) := by decide +kernel
theorem dX10_isRule_222 : decode cX10_isRule 222 = .ok (.ireturn, 1) := by decide +kernel
theorem dX10_isRule_223 : decode cX10_isRule 223 = .ok (.iload 4, 2) := by decide +kernel
theorem dX10_isRule_225 : decode cX10_isRule 225 = .ok (.invokestatic 175, 3) := by decide +kernel
theorem dX10_isRule_228 : decode cX10_isRule 228 = .ok (.ifCond .eq 13, 3) := by decide +kernel
theorem dX10_isRule_231 : decode cX10_isRule 231 = .ok (.iload_n 3, 1) := by decide +kernel
theorem dX10_isRule_232 : decode cX10_isRule 232 = .ok (.iload 4, 2) := by decide +kernel
theorem dX10_isRule_234 : decode cX10_isRule 234 = .ok (.if_icmp .le 7, 3) := by decide +kernel
theorem dX10_isRule_237 : decode cX10_isRule 237 = .ok (.iconst 1, 1) := by decide +kernel
theorem dX10_isRule_238 : decode cX10_isRule 238 = .ok (.goto 4, 3) := by decide +kernel
theorem dX10_isRule_241 : decode cX10_isRule 241 = .ok (.iconst 0, 1) := by decide +kernel
theorem dX10_isRule_242 : decode cX10_isRule 242 = .ok (.ireturn, 1) := by decide +kernel
theorem dX10_isRule_243 : decode cX10_isRule 243 = .ok (.iload 6, 2) := by decide +kernel
theorem dX10_isRule_245 : decode cX10_isRule 245 = .ok (.aload_n 0, 1) := by decide +kernel
theorem dX10_isRule_246 : decode cX10_isRule 246 = .ok (.iload_n 3, 1) := by decide +kernel
theorem dX10_isRule_247 : decode cX10_isRule 247 = .ok (.invokevirtual 190, 3) := by decide +kernel
theorem dX10_isRule_250 : decode cX10_isRule 250 = .ok (.if_icmp .gt 7, 3) := by decide +kernel
theorem dX10_isRule_253 : decode cX10_isRule 253 = .ok (.iconst 1, 1) := by decide +kernel
theorem dX10_isRule_254 : decode cX10_isRule 254 = .ok (.goto 4, 3) := by decide +kernel
theorem dX10_isRule_257 : decode cX10_isRule 257 = .ok (.iconst 0, 1) := by decide +kernel
theorem dX10_isRule_258 : decode cX10_isRule 258 = .ok (.ireturn, 1) := by decide +kernel
theorem dX10_isRule_259 : decode cX10_isRule 259 = .ok (.iconst 1, 1) := by decide +kernel
theorem dX10_isRule_260 : decode cX10_isRule 260 = .ok (.ireturn, 1) := by decide +kernel
theorem dX10_judge_0 : decode cX10_judge 0 = .ok (.aload_n 0, 1) := by decide +kernel
theorem dX10_judge_1 : decode cX10_judge 1 = .ok (.iload_n 1, 1) := by decide +kernel
theorem dX10_judge_2 : decode cX10_judge 2 = .ok (.invokevirtual 118, 3) := by decide +kernel
theorem dX10_judge_5 : decode cX10_judge 5 = .ok (.istore_n 2, 1) := by decide +kernel
theorem dX10_judge_6 : decode cX10_judge 6 = .ok (.iload_n 2, 1) := by decide +kernel
theorem dX10_judge_7 : decode cX10_judge 7 = .ok (.ifCond .ge 5, 3) := by decide +kernel
theorem dX10_judge_10 : decode cX10_judge 10 = .ok (.iload_n 2, 1) := by decide +kernel
theorem dX10_judge_11 : decode cX10_judge 11 = .ok (.ireturn, 1) := by decide +kernel
theorem dX10_judge_12 : decode cX10_judge 12 = .ok (.aload_n 0, 1) := by decide +kernel
theorem dX10_judge_13 : decode cX10_judge 13 = .ok (.getfield 17, 3) := by decide +kernel
theorem dX10_judge_16 : decode cX10_judge 16 = .ok (.iload_n 1, 1) := by decide +kernel
theorem dX10_judge_17 : decode cX10_judge 17 = .ok (.iaload, 1) := by decide +kernel
theorem dX10_judge_18 : decode cX10_judge 18 = .ok (.bipush 12, 2) := by decide +kernel
theorem dX10_judge_20 : decode cX10_judge 20 = .ok (.if_icmp .eq 9, 3) := by decide +kernel
theorem dX10_judge_23 : decode cX10_judge 23 = .ok (.aload_n 0, 1) := by decide +kernel
theorem dX10_judge_24 : decode cX10_judge 24 = .ok (.iconst 5, 1) := by decide +kernel
theorem dX10_judge_25 : decode cX10_judge 25 = .ok (.invokevirtual 111, 3) := by decide +kernel
theorem dX10_judge_28 : decode cX10_judge 28 = .ok (.ireturn, 1) := by decide +kernel
theorem dX10_judge_29 : decode cX10_judge 29 = .ok (.iconst 0, 1) := by decide +kernel
theorem dX10_judge_30 : decode cX10_judge 30 = .ok (.istore_n 3, 1) := by decide +kernel
theorem dX10_judge_31 : decode cX10_judge 31 = .ok (.iload_n 3, 1) := by decide +kernel
theorem dX10_judge_32 : decode cX10_judge 32 = .ok (.bipush 12, 2) := by decide +kernel
theorem dX10_judge_34 : decode cX10_judge 34 = .ok (.if_icmp .ge 23, 3) := by decide +kernel
theorem dX10_judge_37 : decode cX10_judge 37 = .ok (.aload_n 0, 1) := by decide +kernel
theorem dX10_judge_38 : decode cX10_judge 38 = .ok (.iload_n 1, 1) := by decide +kernel
theorem dX10_judge_39 : decode cX10_judge 39 = .ok (.iload_n 3, 1) := by decide +kernel
theorem dX10_judge_40 : decode cX10_judge 40 = .ok (.invokevirtual 294, 3) := by decide +kernel
theorem dX10_judge_43 : decode cX10_judge 43 = .ok (.ifCond .ne 8, 3) := by decide +kernel
theorem dX10_judge_46 : decode cX10_judge 46 = .ok (.bipush 100, 2) := by decide +kernel
theorem dX10_judge_48 : decode cX10_judge 48 = .ok (.iload_n 3, 1) := by decide +kernel
theorem dX10_judge_49 : decode cX10_judge 49 = .ok (.iadd, 1) := by decide +kernel
theorem dX10_judge_50 : decode cX10_judge 50 = .ok (.ireturn, 1) := by decide +kernel
theorem dX10_judge_51 : decode cX10_judge 51 = .ok (.iinc 3 1, 3) := by decide +kernel
theorem dX10_judge_54 : decode cX10_judge 54 = .ok (.goto (-23), 3) := by decide +kernel
theorem dX10_judge_57 : decode cX10_judge 57 = .ok (.iconst 0, 1) := by decide +kernel
theorem dX10_judge_58 : decode cX10_judge 58 = .ok (.istore_n 3, 1) := by decide +kernel
theorem dX10_judge_59 : decode cX10_judge 59 = .ok (.iload_n 3, 1) := by decide +kernel
theorem dX10_judge_60 : decode cX10_judge 60 = .ok (.bipush 12, 2) := by decide +kernel
theorem dX10_judge_62 : decode cX10_judge 62 = .ok (.if_icmp .ge 21, 3) := by decide +kernel
theorem dX10_judge_65 : decode cX10_judge 65 = .ok (.aload_n 0, 1) := by decide +kernel
theorem dX10_judge_66 : decode cX10_judge 66 = .ok (.getfield 78, 3) := by decide +kernel
theorem dX10_judge_69 : decode cX10_judge 69 = .ok (.iload_n 3, 1) := by decide +kernel
theorem dX10_judge_70 : decode cX10_judge 70 = .ok (.aload_n 0, 1) := by decide +kernel
theorem dX10_judge_71 : decode cX10_judge 71 = .ok (.iload_n 1, 1) := by decide +kernel
theorem dX10_judge_72 : decode cX10_judge 72 = .ok (.iload_n 3, 1) := by decide +kernel
theorem dX10_judge_73 : decode cX10_judge 73 = .ok (.invokevirtual 121, 3) := by decide +kernel
theorem dX10_judge_76 : decode cX10_judge 76 = .ok (.iastore, 1) := by decide +kernel
theorem dX10_judge_77 : decode cX10_judge 77 = .ok (.iinc 3 1, 3) := by decide +kernel
theorem dX10_judge_80 : decode cX10_judge 80 = .ok (.goto (-21), 3) := by decide +kernel
theorem dX10_judge_83 : decode cX10_judge 83 = .ok (.iconst 0, 1) := by decide +kernel
theorem dX10_judge_84 : decode cX10_judge 84 = .ok (.istore_n 3, 1) := by decide +kernel
theorem dX10_judge_85 : decode cX10_judge 85 = .ok (.iload_n 3, 1) := by decide +kernel
theorem dX10_judge_86 : decode cX10_judge 86 = .ok (.aload_n 0, 1) := by decide +kernel
theorem dX10_judge_87 : decode cX10_judge 87 = .ok (.getfield 172, 3) := by decide +kernel
theorem dX10_judge_90 : decode cX10_judge 90 = .ok (.if_icmp .ge 29, 3) := by decide +kernel
theorem dX10_judge_93 : decode cX10_judge 93 = .ok (.aload_n 0, 1) := by decide +kernel
theorem dX10_judge_94 : decode cX10_judge 94 = .ok (.iload_n 3, 1) := by decide +kernel
theorem dX10_judge_95 : decode cX10_judge 95 = .ok (.invokevirtual 256, 3) := by decide +kernel
theorem dX10_judge_98 : decode cX10_judge 98 = .ok (.aload_n 0, 1) := by decide +kernel
theorem dX10_judge_99 : decode cX10_judge 99 = .ok (.getfield 56, 3) := by decide +kernel
theorem dX10_judge_102 : decode cX10_judge 102 = .ok (.iload_n 3, 1) := by decide +kernel
theorem dX10_judge_103 : decode cX10_judge 103 = .ok (.iaload, 1) := by decide +kernel
theorem dX10_judge_104 : decode cX10_judge 104 = .ok (.if_icmp .eq 9, 3) := by decide +kernel
theorem dX10_judge_107 : decode cX10_judge 107 = .ok (.sipush 200, 3) := by decide +kernel
theorem dX10_judge_110 : decode cX10_judge 110 = .ok (.iload_n 3, 1) := by decide +kernel
theorem dX10_judge_111 : decode cX10_judge 111 = .ok (.iadd, 1) := by decide +kernel
theorem dX10_judge_112 : decode cX10_judge 112 = .ok (.ireturn, 1) := by decide +kernel
theorem dX10_judge_113 : decode cX10_judge 113 = .ok (.iinc 3 1, 3) := by decide +kernel
theorem dX10_judge_116 : decode cX10_judge 116 = .ok (.goto (-31), 3) := by decide +kernel
theorem dX10_judge_119 : decode cX10_judge 119 = .ok (.bipush (-9), 2) := by decide +kernel
theorem dX10_judge_121 : decode cX10_judge 121 = .ok (.ireturn, 1) := by decide +kernel
theorem dX10_isCarried_0 : decode cX10_isCarried 0 = .ok (.iload_n 0, 1) := by decide +kernel
theorem dX10_isCarried_1 : decode cX10_isCarried 1 = .ok (.bipush (-9), 2) := by decide +kernel
theorem dX10_isCarried_3 : decode cX10_isCarried 3 = .ok (.if_icmp .eq 14, 3) := by decide +kernel
theorem dX10_isCarried_6 : decode cX10_isCarried 6 = .ok (.iload_n 0, 1) := by decide +kernel
theorem dX10_isCarried_7 : decode cX10_isCarried 7 = .ok (.iconst 0, 1) := by decide +kernel
theorem dX10_isCarried_8 : decode cX10_isCarried 8 = .ok (.sipush 9999, 3) := by decide +kernel
theorem dX10_isCarried_11 : decode cX10_isCarried 11 = .ok (.invokestatic 103, 3) := by decide +kernel
theorem dX10_isCarried_14 : decode cX10_isCarried 14 = .ok (.ifCond .eq 7, 3) := by decide +kernel
theorem dX10_isCarried_17 : decode cX10_isCarried 17 = .ok (.iconst 1, 1) := by decide +kernel
theorem dX10_isCarried_18 : decode cX10_isCarried 18 = .ok (.goto 4, 3) := by decide +kernel
theorem dX10_isCarried_21 : decode cX10_isCarried 21 = .ok (.iconst 0, 1) := by decide +kernel
theorem dX10_isCarried_22 : decode cX10_isCarried 22 = .ok (.ireturn, 1) := by decide +kernel
theorem dX10_runsOn_0 : decode cX10_runsOn 0 = .ok (.iconst 0, 1) := by decide +kernel
theorem dX10_runsOn_1 : decode cX10_runsOn 1 = .ok (.istore 4, 2) := by decide +kernel
theorem dX10_runsOn_3 : decode cX10_runsOn 3 = .ok (.bipush (-9), 2) := by decide +kernel
theorem dX10_runsOn_5 : decode cX10_runsOn 5 = .ok (.istore 5, 2) := by decide +kernel
theorem dX10_runsOn_7 : decode cX10_runsOn 7 = .ok (.iload_n 2, 1) := by decide +kernel
theorem dX10_runsOn_8 : decode cX10_runsOn 8 = .ok (.istore 6, 2) := by decide +kernel
theorem dX10_runsOn_10 : decode cX10_runsOn 10 = .ok (.iconst 1, 1) := by decide +kernel
theorem dX10_runsOn_11 : decode cX10_runsOn 11 = .ok (.istore 7, 2) := by decide +kernel
theorem dX10_runsOn_13 : decode cX10_runsOn 13 = .ok (.iconst 0, 1) := by decide +kernel
theorem dX10_runsOn_14 : decode cX10_runsOn 14 = .ok (.istore 8, 2) := by decide +kernel
theorem dX10_runsOn_16 : decode cX10_runsOn 16 = .ok (.iload 8, 2) := by decide +kernel
theorem dX10_runsOn_18 : decode cX10_runsOn 18 = .ok (.iload_n 3, 1) := by decide +kernel
theorem dX10_runsOn_19 : decode cX10_runsOn 19 = .ok (.if_icmp .ge 143, 3) := by decide +kernel
theorem dX10_runsOn_22 : decode cX10_runsOn 22 = .ok (.iload 7, 2) := by decide +kernel
theorem dX10_runsOn_24 : decode cX10_runsOn 24 = .ok (.ifCond .eq 138, 3) := by decide +kernel
theorem dX10_runsOn_27 : decode cX10_runsOn 27 = .ok (.iload 6, 2) := by decide +kernel
theorem dX10_runsOn_29 : decode cX10_runsOn 29 = .ok (.bipush 10, 2) := by decide +kernel
theorem dX10_runsOn_31 : decode cX10_runsOn 31 = .ok (.irem, 1) := by decide +kernel
theorem dX10_runsOn_32 : decode cX10_runsOn 32 = .ok (.iconst 1, 1) := by decide +kernel
theorem dX10_runsOn_33 : decode cX10_runsOn 33 = .ok (.isub, 1) := by decide +kernel
theorem dX10_runsOn_34 : decode cX10_runsOn 34 = .ok (.istore 9, 2) := by decide +kernel
theorem dX10_runsOn_36 : decode cX10_runsOn 36 = .ok (.iload 6, 2) := by decide +kernel
theorem dX10_runsOn_38 : decode cX10_runsOn 38 = .ok (.bipush 10, 2) := by decide +kernel
theorem dX10_runsOn_40 : decode cX10_runsOn 40 = .ok (.idiv, 1) := by decide +kernel
theorem dX10_runsOn_41 : decode cX10_runsOn 41 = .ok (.istore 6, 2) := by decide +kernel
theorem dX10_runsOn_43 : decode cX10_runsOn 43 = .ok (.iload 9, 2) := by decide +kernel
theorem dX10_runsOn_45 : decode cX10_runsOn 45 = .ok (.iconst 0, 1) := by decide +kernel
theorem dX10_runsOn_46 : decode cX10_runsOn 46 = .ok (.iload_n 3, 1) := by decide +kernel
theorem dX10_runsOn_47 : decode cX10_runsOn 47 = .ok (.iconst 1, 1) := by decide +kernel
theorem dX10_runsOn_48 : decode cX10_runsOn 48 = .ok (.isub, 1) := by decide +kernel
theorem dX10_runsOn_49 : decode cX10_runsOn 49 = .ok (.invokestatic 103, 3) := by decide +kernel
theorem dX10_runsOn_52 : decode cX10_runsOn 52 = .ok (.ifCond .eq 17, 3) := by decide +kernel
theorem dX10_runsOn_55 : decode cX10_runsOn 55 = .ok (.iload 4, 2) := by decide +kernel
theorem dX10_runsOn_57 : decode cX10_runsOn 57 = .ok (.iload 9, 2) := by decide +kernel
theorem dX10_runsOn_59 : decode cX10_runsOn 59 = .ok (.invokestatic 208, 3) := by decide +kernel
theorem dX10_runsOn_62 : decode cX10_runsOn 62 = .ok (.ifCond .ne 7, 3) := by decide +kernel
theorem dX10_runsOn_65 : decode cX10_runsOn 65 = .ok (.iconst 1, 1) := by decide +kernel
theorem dX10_runsOn_66 : decode cX10_runsOn 66 = .ok (.goto 4, 3) := by decide +kernel
theorem dX10_runsOn_69 : decode cX10_runsOn 69 = .ok (.iconst 0, 1) := by decide +kernel
theorem dX10_runsOn_70 : decode cX10_runsOn 70 = .ok (.istore 7, 2) := by decide +kernel
theorem dX10_runsOn_72 : decode cX10_runsOn 72 = .ok (.iload 7, 2) := by decide +kernel
theorem dX10_runsOn_74 : decode cX10_runsOn 74 = .ok (.ifCond .eq 60, 3) := by decide +kernel
theorem dX10_runsOn_77 : decode cX10_runsOn 77 = .ok (.iload 5, 2) := by decide +kernel
theorem dX10_runsOn_79 : decode cX10_runsOn 79 = .ok (.ifCond .lt 55, 3) := by decide +kernel
theorem dX10_runsOn_82 : decode cX10_runsOn 82 = .ok (.aload_n 0, 1) := by decide +kernel
theorem dX10_runsOn_83 : decode cX10_runsOn 83 = .ok (.iload_n 1, 1) := by decide +kernel
theorem dX10_runsOn_84 : decode cX10_runsOn 84 = .ok (.iconst 2, 1) := by decide +kernel
theorem dX10_runsOn_85 : decode cX10_runsOn 85 = .ok (.iload 9, 2) := by decide +kernel
theorem dX10_runsOn_87 : decode cX10_runsOn 87 = .ok (.imul, 1) := by decide +kernel
theorem dX10_runsOn_88 : decode cX10_runsOn 88 = .ok (.iconst 1, 1) := by decide +kernel
theorem dX10_runsOn_89 : decode cX10_runsOn 89 = .ok (.iadd, 1) := by decide +kernel
theorem dX10_runsOn_90 : decode cX10_runsOn 90 = .ok (.invokevirtual 121, 3) := by decide +kernel
theorem dX10_runsOn_93 : decode cX10_runsOn 93 = .ok (.istore 10, 2) := by decide +kernel
theorem dX10_runsOn_95 : decode cX10_runsOn 95 = .ok (.aload_n 0, 1) := by decide +kernel
theorem dX10_runsOn_96 : decode cX10_runsOn 96 = .ok (.iload_n 1, 1) := by decide +kernel
theorem dX10_runsOn_97 : decode cX10_runsOn 97 = .ok (.iconst 2, 1) := by decide +kernel
theorem dX10_runsOn_98 : decode cX10_runsOn 98 = .ok (.iload 5, 2) := by decide +kernel
theorem dX10_runsOn_100 : decode cX10_runsOn 100 = .ok (.imul, 1) := by decide +kernel
theorem dX10_runsOn_101 : decode cX10_runsOn 101 = .ok (.invokevirtual 121, 3) := by decide +kernel
theorem dX10_runsOn_104 : decode cX10_runsOn 104 = .ok (.istore 11, 2) := by decide +kernel
theorem dX10_runsOn_106 : decode cX10_runsOn 106 = .ok (.iload 10, 2) := by decide +kernel
theorem dX10_runsOn_108 : decode cX10_runsOn 108 = .ok (.bipush (-9), 2) := by decide +kernel
theorem dX10_runsOn_110 : decode cX10_runsOn 110 = .ok (.if_icmp .eq 17, 3) := by decide +kernel
theorem dX10_runsOn_113 : decode cX10_runsOn 113 = .ok (.iload 11, 2) := by decide +kernel
theorem dX10_runsOn_115 : decode cX10_runsOn 115 = .ok (.bipush (-9), 2) := by decide +kernel
theorem dX10_runsOn_117 : decode cX10_runsOn 117 = .ok (.if_icmp .eq 10, 3) := by decide +kernel
theorem dX10_runsOn_120 : decode cX10_runsOn 120 = .ok (.iload 10, 2) := by decide +kernel
theorem dX10_runsOn_122 : decode cX10_runsOn 122 = .ok (.iload 11, 2) := by decide +kernel
theorem dX10_runsOn_124 : decode cX10_runsOn 124 = .ok (.if_icmp .ne 7, 3) := by decide +kernel
theorem dX10_runsOn_127 : decode cX10_runsOn 127 = .ok (.iconst 1, 1) := by decide +kernel
theorem dX10_runsOn_128 : decode cX10_runsOn 128 = .ok (.goto 4, 3) := by decide +kernel
theorem dX10_runsOn_131 : decode cX10_runsOn 131 = .ok (.iconst 0, 1) := by decide +kernel
theorem dX10_runsOn_132 : decode cX10_runsOn 132 = .ok (.istore 7, 2) := by decide +kernel
theorem dX10_runsOn_134 : decode cX10_runsOn 134 = .ok (.iload 4, 2) := by decide +kernel
theorem dX10_runsOn_136 : decode cX10_runsOn 136 = .ok (.iload 7, 2) := by decide +kernel
theorem dX10_runsOn_138 : decode cX10_runsOn 138 = .ok (.ifCond .eq 10, 3) := by decide +kernel
theorem dX10_runsOn_141 : decode cX10_runsOn 141 = .ok (.iconst 1, 1) := by decide +kernel
theorem dX10_runsOn_142 : decode cX10_runsOn 142 = .ok (.iload 9, 2) := by decide +kernel
theorem dX10_runsOn_144 : decode cX10_runsOn 144 = .ok (.ishl, 1) := by decide +kernel
theorem dX10_runsOn_145 : decode cX10_runsOn 145 = .ok (.goto 4, 3) := by decide +kernel
theorem dX10_runsOn_148 : decode cX10_runsOn 148 = .ok (.iconst 0, 1) := by decide +kernel
theorem dX10_runsOn_149 : decode cX10_runsOn 149 = .ok (.ior, 1) := by decide +kernel
theorem dX10_runsOn_150 : decode cX10_runsOn 150 = .ok (.istore 4, 2) := by decide +kernel
theorem dX10_runsOn_152 : decode cX10_runsOn 152 = .ok (.iload 9, 2) := by decide +kernel
theorem dX10_runsOn_154 : decode cX10_runsOn 154 = .ok (.istore 5, 2) := by decide +kernel
theorem dX10_runsOn_156 : decode cX10_runsOn 156 = .ok (.iinc 8 1, 3) := by decide +kernel
theorem dX10_runsOn_159 : decode cX10_runsOn 159 = .ok (.goto (-143), 3) := by decide +kernel
theorem dX10_runsOn_162 : decode cX10_runsOn 162 = .ok (.iload 7, 2) := by decide +kernel
theorem dX10_runsOn_164 : decode cX10_runsOn 164 = .ok (.ifCond .eq 12, 3) := by decide +kernel
theorem dX10_runsOn_167 : decode cX10_runsOn 167 = .ok (.iload 6, 2) := by decide +kernel
theorem dX10_runsOn_169 : decode cX10_runsOn 169 = .ok (.ifCond .ne 7, 3) := by decide +kernel
theorem dX10_runsOn_172 : decode cX10_runsOn 172 = .ok (.iconst 1, 1) := by decide +kernel
theorem dX10_runsOn_173 : decode cX10_runsOn 173 = .ok (.goto 4, 3) := by decide +kernel
theorem dX10_runsOn_176 : decode cX10_runsOn 176 = .ok (.iconst 0, 1) := by decide +kernel
theorem dX10_runsOn_177 : decode cX10_runsOn 177 = .ok (.ireturn, 1) := by decide +kernel
theorem dX10_orders_0 : decode cX10_orders 0 = .ok (.aload_n 0, 1) := by decide +kernel
theorem dX10_orders_1 : decode cX10_orders 1 = .ok (.iload_n 1, 1) := by decide +kernel
theorem dX10_orders_2 : decode cX10_orders 2 = .ok (.invokevirtual 118, 3) := by decide +kernel
theorem dX10_orders_5 : decode cX10_orders 5 = .ok (.istore_n 2, 1) := by decide +kernel
theorem dX10_orders_6 : decode cX10_orders 6 = .ok (.iload_n 2, 1) := by decide +kernel
theorem dX10_orders_7 : decode cX10_orders 7 = .ok (.ifCond .ge 5, 3) := by decide +kernel
theorem dX10_orders_10 : decode cX10_orders 10 = .ok (.iload_n 2, 1) := by decide +kernel
theorem dX10_orders_11 : decode cX10_orders 11 = .ok (.ireturn, 1) := by decide +kernel
theorem dX10_orders_12 : decode cX10_orders 12 = .ok (.aload_n 0, 1) := by decide +kernel
theorem dX10_orders_13 : decode cX10_orders 13 = .ok (.getfield 17, 3) := by decide +kernel
theorem dX10_orders_16 : decode cX10_orders 16 = .ok (.iload_n 1, 1) := by decide +kernel
theorem dX10_orders_17 : decode cX10_orders 17 = .ok (.iaload, 1) := by decide +kernel
theorem dX10_orders_18 : decode cX10_orders 18 = .ok (.iconst 2, 1) := by decide +kernel
theorem dX10_orders_19 : decode cX10_orders 19 = .ok (.irem, 1) := by decide +kernel
theorem dX10_orders_20 : decode cX10_orders 20 = .ok (.ifCond .ne 18, 3) := by decide +kernel
theorem dX10_orders_23 : decode cX10_orders 23 = .ok (.aload_n 0, 1) := by decide +kernel
theorem dX10_orders_24 : decode cX10_orders 24 = .ok (.getfield 17, 3) := by decide +kernel
theorem dX10_orders_27 : decode cX10_orders 27 = .ok (.iload_n 1, 1) := by decide +kernel
theorem dX10_orders_28 : decode cX10_orders 28 = .ok (.iaload, 1) := by decide +kernel
theorem dX10_orders_29 : decode cX10_orders 29 = .ok (.iconst 2, 1) := by decide +kernel
theorem dX10_orders_30 : decode cX10_orders 30 = .ok (.bipush 12, 2) := by decide +kernel
theorem dX10_orders_32 : decode cX10_orders 32 = .ok (.invokestatic 103, 3) := by decide +kernel
theorem dX10_orders_35 : decode cX10_orders 35 = .ok (.ifCond .ne 9, 3) := by decide +kernel
theorem dX10_orders_38 : decode cX10_orders 38 = .ok (.aload_n 0, 1) := by decide +kernel
theorem dX10_orders_39 : decode cX10_orders 39 = .ok (.iconst 5, 1) := by decide +kernel
theorem dX10_orders_40 : decode cX10_orders 40 = .ok (.invokevirtual 111, 3) := by decide +kernel
theorem dX10_orders_43 : decode cX10_orders 43 = .ok (.ireturn, 1) := by decide +kernel
theorem dX10_orders_44 : decode cX10_orders 44 = .ok (.iconst 1, 1) := by decide +kernel
theorem dX10_orders_45 : decode cX10_orders 45 = .ok (.istore_n 3, 1) := by decide +kernel
theorem dX10_orders_46 : decode cX10_orders 46 = .ok (.iconst 0, 1) := by decide +kernel
theorem dX10_orders_47 : decode cX10_orders 47 = .ok (.istore 4, 2) := by decide +kernel
theorem dX10_orders_49 : decode cX10_orders 49 = .ok (.iload 4, 2) := by decide +kernel
theorem dX10_orders_51 : decode cX10_orders 51 = .ok (.aload_n 0, 1) := by decide +kernel
theorem dX10_orders_52 : decode cX10_orders 52 = .ok (.getfield 17, 3) := by decide +kernel
theorem dX10_orders_55 : decode cX10_orders 55 = .ok (.iload_n 1, 1) := by decide +kernel
theorem dX10_orders_56 : decode cX10_orders 56 = .ok (.iaload, 1) := by decide +kernel
theorem dX10_orders_57 : decode cX10_orders 57 = .ok (.if_icmp .ge 32, 3) := by decide +kernel
theorem dX10_orders_60 : decode cX10_orders 60 = .ok (.iload_n 3, 1) := by decide +kernel
theorem dX10_orders_61 : decode cX10_orders 61 = .ok (.ifCond .eq 20, 3) := by decide +kernel
theorem dX10_orders_64 : decode cX10_orders 64 = .ok (.aload_n 0, 1) := by decide +kernel
theorem dX10_orders_65 : decode cX10_orders 65 = .ok (.iload_n 1, 1) := by decide +kernel
theorem dX10_orders_66 : decode cX10_orders 66 = .ok (.iload 4, 2) := by decide +kernel
theorem dX10_orders_68 : decode cX10_orders 68 = .ok (.invokevirtual 121, 3) := by decide +kernel
theorem dX10_orders_71 : decode cX10_orders 71 = .ok (.invokestatic 297, 3) := by decide +kernel
theorem dX10_orders_74 : decode cX10_orders 74 = .ok (.ifCond .eq 7, 3) := by decide +kernel
theorem dX10_orders_77 : decode cX10_orders 77 = .ok (.iconst 1, 1) := by decide +kernel
theorem dX10_orders_78 : decode cX10_orders 78 = .ok (.goto 4, 3) := by decide +kernel
theorem dX10_orders_81 : decode cX10_orders 81 = .ok (.iconst 0, 1) := by decide +kernel
theorem dX10_orders_82 : decode cX10_orders 82 = .ok (.istore_n 3, 1) := by decide +kernel
theorem dX10_orders_83 : decode cX10_orders 83 = .ok (.iinc 4 1, 3) := by decide +kernel
theorem dX10_orders_86 : decode cX10_orders 86 = .ok (.goto (-37), 3) := by decide +kernel
theorem dX10_orders_89 : decode cX10_orders 89 = .ok (.iload_n 3, 1) := by decide +kernel
theorem dX10_orders_90 : decode cX10_orders 90 = .ok (.ifCond .ne 9, 3) := by decide +kernel
theorem dX10_orders_93 : decode cX10_orders 93 = .ok (.aload_n 0, 1) := by decide +kernel
theorem dX10_orders_94 : decode cX10_orders 94 = .ok (.iconst 3, 1) := by decide +kernel
theorem dX10_orders_95 : decode cX10_orders 95 = .ok (.invokevirtual 111, 3) := by decide +kernel
theorem dX10_orders_98 : decode cX10_orders 98 = .ok (.ireturn, 1) := by decide +kernel
theorem dX10_orders_99 : decode cX10_orders 99 = .ok (.aload_n 0, 1) := by decide +kernel
theorem dX10_orders_100 : decode cX10_orders 100 = .ok (.getfield 17, 3) := by decide +kernel
theorem dX10_orders_103 : decode cX10_orders 103 = .ok (.iload_n 1, 1) := by decide +kernel
theorem dX10_orders_104 : decode cX10_orders 104 = .ok (.iaload, 1) := by decide +kernel
theorem dX10_orders_105 : decode cX10_orders 105 = .ok (.iconst 2, 1) := by decide +kernel
theorem dX10_orders_106 : decode cX10_orders 106 = .ok (.idiv, 1) := by decide +kernel
theorem dX10_orders_107 : decode cX10_orders 107 = .ok (.istore 4, 2) := by decide +kernel
theorem dX10_orders_109 : decode cX10_orders 109 = .ok (.iconst 0, 1) := by decide +kernel
theorem dX10_orders_110 : decode cX10_orders 110 = .ok (.istore 5, 2) := by decide +kernel
theorem dX10_orders_112 : decode cX10_orders 112 = .ok (.iconst 0, 1) := by decide +kernel
theorem dX10_orders_113 : decode cX10_orders 113 = .ok (.istore 6, 2) := by decide +kernel
theorem dX10_orders_115 : decode cX10_orders 115 = .ok (.iload 6, 2) := by decide +kernel
theorem dX10_orders_117 : decode cX10_orders 117 = .ok (.iload 4, 2) := by decide +kernel
theorem dX10_orders_119 : decode cX10_orders 119 = .ok (.if_icmp .ge 18, 3) := by decide +kernel
theorem dX10_orders_122 : decode cX10_orders 122 = .ok (.bipush 10, 2) := by decide +kernel
theorem dX10_orders_124 : decode cX10_orders 124 = .ok (.iload 5, 2) := by decide +kernel
theorem dX10_orders_126 : decode cX10_orders 126 = .ok (.imul, 1) := by decide +kernel
theorem dX10_orders_127 : decode cX10_orders 127 = .ok (.iconst 1, 1) := by decide +kernel
theorem dX10_orders_128 : decode cX10_orders 128 = .ok (.iadd, 1) := by decide +kernel
theorem dX10_orders_129 : decode cX10_orders 129 = .ok (.istore 5, 2) := by decide +kernel
theorem dX10_orders_131 : decode cX10_orders 131 = .ok (.iinc 6 1, 3) := by decide +kernel
theorem dX10_orders_134 : decode cX10_orders 134 = .ok (.goto (-19), 3) := by decide +kernel
theorem dX10_orders_137 : decode cX10_orders 137 = .ok (.iconst 0, 1) := by decide +kernel
theorem dX10_orders_138 : decode cX10_orders 138 = .ok (.istore 6, 2) := by decide +kernel
theorem dX10_orders_140 : decode cX10_orders 140 = .ok (.iconst 0, 1) := by decide +kernel
theorem dX10_orders_141 : decode cX10_orders 141 = .ok (.istore 7, 2) := by decide +kernel
theorem dX10_orders_143 : decode cX10_orders 143 = .ok (.iload 5, 2) := by decide +kernel
theorem dX10_orders_145 : decode cX10_orders 145 = .ok (.istore 8, 2) := by decide +kernel
theorem dX10_orders_147 : decode cX10_orders 147 = .ok (.iload 8, 2) := by decide +kernel
theorem dX10_orders_149 : decode cX10_orders 149 = .ok (.iload 4, 2) := by decide +kernel
theorem dX10_orders_151 : decode cX10_orders 151 = .ok (.iload 5, 2) := by decide +kernel
theorem dX10_orders_153 : decode cX10_orders 153 = .ok (.imul, 1) := by decide +kernel
theorem dX10_orders_154 : decode cX10_orders 154 = .ok (.if_icmp .gt 38, 3) := by decide +kernel
theorem dX10_orders_157 : decode cX10_orders 157 = .ok (.aload_n 0, 1) := by decide +kernel
theorem dX10_orders_158 : decode cX10_orders 158 = .ok (.iload_n 1, 1) := by decide +kernel
theorem dX10_orders_159 : decode cX10_orders 159 = .ok (.iload 8, 2) := by decide +kernel
theorem dX10_orders_161 : decode cX10_orders 161 = .ok (.iload 4, 2) := by decide +kernel
theorem dX10_orders_163 : decode cX10_orders 163 = .ok (.invokevirtual 300, 3) := by decide +kernel
theorem dX10_orders_166 : decode cX10_orders 166 = .ok (.ifCond .eq 20, 3) := by decide +kernel
theorem dX10_orders_169 : decode cX10_orders 169 = .ok (.iload 6, 2) := by decide +kernel
theorem dX10_orders_171 : decode cX10_orders 171 = .ok (.ifCond .ne 8, 3) := by decide +kernel
theorem dX10_orders_174 : decode cX10_orders 174 = .ok (.iload 8, 2) := by decide +kernel
theorem dX10_orders_176 : decode cX10_orders 176 = .ok (.goto 5, 3) := by decide +kernel
theorem dX10_orders_179 : decode cX10_orders 179 = .ok (.iload 7, 2) := by decide +kernel
theorem dX10_orders_181 : decode cX10_orders 181 = .ok (.istore 7, 2) := by decide +kernel
theorem dX10_orders_183 : decode cX10_orders 183 = .ok (.iinc 6 1, 3) := by decide +kernel
theorem dX10_orders_186 : decode cX10_orders 186 = .ok (.iinc 8 1, 3) := by decide +kernel
theorem dX10_orders_189 : decode cX10_orders 189 = .ok (.goto (-42), 3) := by decide +kernel
theorem dX10_orders_192 : decode cX10_orders 192 = .ok (.aload_n 0, 1) := by decide +kernel
theorem dX10_orders_193 : decode cX10_orders 193 = .ok (.iload 7, 2) := by decide +kernel
theorem dX10_orders_195 : decode cX10_orders 195 = .ok (.iload 6, 2) := by decide +kernel
theorem dX10_orders_197 : decode cX10_orders 197 = .ok (.invokevirtual 125, 3) := by decide +kernel
theorem dX10_orders_200 : decode cX10_orders 200 = .ok (.ireturn, 1) := by decide +kernel
theorem dX10_waysWith_0 : decode cX10_waysWith 0 = .ok (.iconst 0, 1) := by decide +kernel
theorem dX10_waysWith_1 : decode cX10_waysWith 1 = .ok (.istore_n 3, 1) := by decide +kernel
theorem dX10_waysWith_2 : decode cX10_waysWith 2 = .ok (.iload_n 3, 1) := by decide +kernel
theorem dX10_waysWith_3 : decode cX10_waysWith 3 = .ok (.sipush 4096, 3) := by decide +kernel
theorem dX10_waysWith_6 : decode cX10_waysWith 6 = .ok (.if_icmp .ge 24, 3) := by decide +kernel
theorem dX10_waysWith_9 : decode cX10_waysWith 9 = .ok (.aload_n 0, 1) := by decide +kernel
theorem dX10_waysWith_10 : decode cX10_waysWith 10 = .ok (.getfield 90, 3) := by decide +kernel
theorem dX10_waysWith_13 : decode cX10_waysWith 13 = .ok (.iload_n 3, 1) := by decide +kernel
theorem dX10_waysWith_14 : decode cX10_waysWith 14 = .ok (.iload_n 3, 1) := by decide +kernel
theorem dX10_waysWith_15 : decode cX10_waysWith 15 = .ok (.ifCond .ne 7, 3) := by decide +kernel
theorem dX10_waysWith_18 : decode cX10_waysWith 18 = .ok (.iconst 1, 1) := by decide +kernel
theorem dX10_waysWith_19 : decode cX10_waysWith 19 = .ok (.goto 4, 3) := by decide +kernel
theorem dX10_waysWith_22 : decode cX10_waysWith 22 = .ok (.iconst 0, 1) := by decide +kernel
theorem dX10_waysWith_23 : decode cX10_waysWith 23 = .ok (.iastore, 1) := by decide +kernel
theorem dX10_waysWith_24 : decode cX10_waysWith 24 = .ok (.iinc 3 1, 3) := by decide +kernel
theorem dX10_waysWith_27 : decode cX10_waysWith 27 = .ok (.goto (-25), 3) := by decide +kernel
theorem dX10_waysWith_30 : decode cX10_waysWith 30 = .ok (.iconst 0, 1) := by decide +kernel
theorem dX10_waysWith_31 : decode cX10_waysWith 31 = .ok (.istore_n 3, 1) := by decide +kernel
theorem dX10_waysWith_32 : decode cX10_waysWith 32 = .ok (.iload_n 3, 1) := by decide +kernel
theorem dX10_waysWith_33 : decode cX10_waysWith 33 = .ok (.bipush 12, 2) := by decide +kernel
theorem dX10_waysWith_35 : decode cX10_waysWith 35 = .ok (.if_icmp .ge 207, 3) := by decide +kernel
theorem dX10_waysWith_38 : decode cX10_waysWith 38 = .ok (.aload_n 0, 1) := by decide +kernel
theorem dX10_waysWith_39 : decode cX10_waysWith 39 = .ok (.getfield 41, 3) := by decide +kernel
theorem dX10_waysWith_42 : decode cX10_waysWith 42 = .ok (.iload_n 3, 1) := by decide +kernel
theorem dX10_waysWith_43 : decode cX10_waysWith 43 = .ok (.iaload, 1) := by decide +kernel
theorem dX10_waysWith_44 : decode cX10_waysWith 44 = .ok (.iconst 3, 1) := by decide +kernel
theorem dX10_waysWith_45 : decode cX10_waysWith 45 = .ok (.if_icmp .eq 6, 3) := by decide +kernel
theorem dX10_waysWith_48 : decode cX10_waysWith 48 = .ok (.goto 188, 3) := by decide +kernel
theorem dX10_waysWith_51 : decode cX10_waysWith 51 = .ok (.iconst 0, 1) := by decide +kernel
theorem dX10_waysWith_52 : decode cX10_waysWith 52 = .ok (.istore 4, 2) := by decide +kernel
theorem dX10_waysWith_54 : decode cX10_waysWith 54 = .ok (.iload 4, 2) := by decide +kernel
theorem dX10_waysWith_56 : decode cX10_waysWith 56 = .ok (.sipush 4096, 3) := by decide +kernel
theorem dX10_waysWith_59 : decode cX10_waysWith 59 = .ok (.if_icmp .ge 17, 3) := by decide +kernel
theorem dX10_waysWith_62 : decode cX10_waysWith 62 = .ok (.aload_n 0, 1) := by decide +kernel
theorem dX10_waysWith_63 : decode cX10_waysWith 63 = .ok (.getfield 93, 3) := by decide +kernel
theorem dX10_waysWith_66 : decode cX10_waysWith 66 = .ok (.iload 4, 2) := by decide +kernel
theorem dX10_waysWith_68 : decode cX10_waysWith 68 = .ok (.iconst 0, 1) := by decide +kernel
theorem dX10_waysWith_69 : decode cX10_waysWith 69 = .ok (.iastore, 1) := by decide +kernel
theorem dX10_waysWith_70 : decode cX10_waysWith 70 = .ok (.iinc 4 1, 3) := by decide +kernel
theorem dX10_waysWith_73 : decode cX10_waysWith 73 = .ok (.goto (-19), 3) := by decide +kernel
theorem dX10_waysWith_76 : decode cX10_waysWith 76 = .ok (.iconst 0, 1) := by decide +kernel
theorem dX10_waysWith_77 : decode cX10_waysWith 77 = .ok (.istore 4, 2) := by decide +kernel
theorem dX10_waysWith_79 : decode cX10_waysWith 79 = .ok (.iload 4, 2) := by decide +kernel
theorem dX10_waysWith_81 : decode cX10_waysWith 81 = .ok (.sipush 4096, 3) := by decide +kernel
theorem dX10_waysWith_84 : decode cX10_waysWith 84 = .ok (.if_icmp .ge 121, 3) := by decide +kernel
theorem dX10_waysWith_87 : decode cX10_waysWith 87 = .ok (.iconst 0, 1) := by decide +kernel
theorem dX10_waysWith_88 : decode cX10_waysWith 88 = .ok (.istore 5, 2) := by decide +kernel
theorem dX10_waysWith_90 : decode cX10_waysWith 90 = .ok (.iload 5, 2) := by decide +kernel
theorem dX10_waysWith_92 : decode cX10_waysWith 92 = .ok (.aload_n 0, 1) := by decide +kernel
theorem dX10_waysWith_93 : decode cX10_waysWith 93 = .ok (.getfield 178, 3) := by decide +kernel
theorem dX10_waysWith_96 : decode cX10_waysWith 96 = .ok (.if_icmp .ge 103, 3) := by decide +kernel
theorem dX10_waysWith_99 : decode cX10_waysWith 99 = .ok (.aload_n 0, 1) := by decide +kernel
theorem dX10_waysWith_100 : decode cX10_waysWith 100 = .ok (.getfield 90, 3) := by decide +kernel
theorem dX10_waysWith_103 : decode cX10_waysWith 103 = .ok (.iload 4, 2) := by decide +kernel
theorem dX10_waysWith_105 : decode cX10_waysWith 105 = .ok (.iaload, 1) := by decide +kernel
theorem dX10_waysWith_106 : decode cX10_waysWith 106 = .ok (.ifCond .le 93, 3) := by decide +kernel
theorem dX10_waysWith_109 : decode cX10_waysWith 109 = .ok (.iload 4, 2) := by decide +kernel
theorem dX10_waysWith_111 : decode cX10_waysWith 111 = .ok (.iload 5, 2) := by decide +kernel
theorem dX10_waysWith_113 : decode cX10_waysWith 113 = .ok (.invokestatic 208, 3) := by decide +kernel
theorem dX10_waysWith_116 : decode cX10_waysWith 116 = .ok (.ifCond .ne 43, 3) := by decide +kernel
theorem dX10_waysWith_119 : decode cX10_waysWith 119 = .ok (.aload_n 0, 1) := by decide +kernel
theorem dX10_waysWith_120 : decode cX10_waysWith 120 = .ok (.getfield 62, 3) := by decide +kernel
theorem dX10_waysWith_123 : decode cX10_waysWith 123 = .ok (.bipush 100, 2) := by decide +kernel
theorem dX10_waysWith_125 : decode cX10_waysWith 125 = .ok (.iload_n 3, 1) := by decide +kernel
theorem dX10_waysWith_126 : decode cX10_waysWith 126 = .ok (.imul, 1) := by decide +kernel
theorem dX10_waysWith_127 : decode cX10_waysWith 127 = .ok (.aload_n 0, 1) := by decide +kernel
theorem dX10_waysWith_128 : decode cX10_waysWith 128 = .ok (.getfield 59, 3) := by decide +kernel
theorem dX10_waysWith_131 : decode cX10_waysWith 131 = .ok (.iload 5, 2) := by decide +kernel
theorem dX10_waysWith_133 : decode cX10_waysWith 133 = .ok (.iaload, 1) := by decide +kernel
theorem dX10_waysWith_134 : decode cX10_waysWith 134 = .ok (.iadd, 1) := by decide +kernel
theorem dX10_waysWith_135 : decode cX10_waysWith 135 = .ok (.baload, 1) := by decide +kernel
theorem dX10_waysWith_136 : decode cX10_waysWith 136 = .ok (.ifCond .eq 23, 3) := by decide +kernel
theorem dX10_waysWith_139 : decode cX10_waysWith 139 = .ok (.iload_n 3, 1) := by decide +kernel
theorem dX10_waysWith_140 : decode cX10_waysWith 140 = .ok (.iload_n 1, 1) := by decide +kernel
theorem dX10_waysWith_141 : decode cX10_waysWith 141 = .ok (.if_icmp .ne 14, 3) := by decide +kernel
theorem dX10_waysWith_144 : decode cX10_waysWith 144 = .ok (.aload_n 0, 1) := by decide +kernel
theorem dX10_waysWith_145 : decode cX10_waysWith 145 = .ok (.getfield 59, 3) := by decide +kernel
theorem dX10_waysWith_148 : decode cX10_waysWith 148 = .ok (.iload 5, 2) := by decide +kernel
theorem dX10_waysWith_150 : decode cX10_waysWith 150 = .ok (.iaload, 1) := by decide +kernel
theorem dX10_waysWith_151 : decode cX10_waysWith 151 = .ok (.iload_n 2, 1) := by decide +kernel
theorem dX10_waysWith_152 : decode cX10_waysWith 152 = .ok (.if_icmp .ne 7, 3) := by decide +kernel
theorem dX10_waysWith_155 : decode cX10_waysWith 155 = .ok (.iconst 1, 1) := by decide +kernel
theorem dX10_waysWith_156 : decode cX10_waysWith 156 = .ok (.goto 4, 3) := by decide +kernel
theorem dX10_waysWith_159 : decode cX10_waysWith 159 = .ok (.iconst 0, 1) := by decide +kernel
theorem dX10_waysWith_160 : decode cX10_waysWith 160 = .ok (.istore 6, 2) := by decide +kernel
theorem dX10_waysWith_162 : decode cX10_waysWith 162 = .ok (.aload_n 0, 1) := by decide +kernel
theorem dX10_waysWith_163 : decode cX10_waysWith 163 = .ok (.getfield 93, 3) := by decide +kernel
theorem dX10_waysWith_166 : decode cX10_waysWith 166 = .ok (.iload 4, 2) := by decide +kernel
theorem dX10_waysWith_168 : decode cX10_waysWith 168 = .ok (.iconst 1, 1) := by decide +kernel
theorem dX10_waysWith_169 : decode cX10_waysWith 169 = .ok (.iload 5, 2) := by decide +kernel
theorem dX10_waysWith_171 : decode cX10_waysWith 171 = .ok (.ishl, 1) := by decide +kernel
theorem dX10_waysWith_172 : decode cX10_waysWith 172 = .ok (.ior, 1) := by decide +kernel
theorem dX10_waysWith_173 : decode cX10_waysWith 173 = .ok (.dup2, 1) := by decide +kernel
theorem dX10_waysWith_174 : decode cX10_waysWith 174 = .ok (.iaload, 1) := by decide +kernel
theorem dX10_waysWith_175 : decode cX10_waysWith 175 = .ok (.iload 6, 2) := by decide +kernel
theorem dX10_waysWith_177 : decode cX10_waysWith 177 = .ok (.ifCond .eq 13, 3) := by decide +kernel
theorem dX10_waysWith_180 : decode cX10_waysWith 180 = .ok (.aload_n 0, 1) := by decide +kernel
theorem dX10_waysWith_181 : decode cX10_waysWith 181 = .ok (.getfield 90, 3) := by decide +kernel
theorem dX10_waysWith_184 : decode cX10_waysWith 184 = .ok (.iload 4, 2) := by decide +kernel
theorem dX10_waysWith_186 : decode cX10_waysWith 186 = .ok (.iaload, 1) := by decide +kernel
theorem dX10_waysWith_187 : decode cX10_waysWith 187 = .ok (.goto 4, 3) := by decide +kernel
theorem dX10_waysWith_190 : decode cX10_waysWith 190 = .ok (.iconst 0, 1) := by decide +kernel
theorem dX10_waysWith_191 : decode cX10_waysWith 191 = .ok (.iadd, 1) := by decide +kernel
theorem dX10_waysWith_192 : decode cX10_waysWith 192 = .ok (.iastore, 1) := by decide +kernel
theorem dX10_waysWith_193 : decode cX10_waysWith 193 = .ok (.iinc 5 1, 3) := by decide +kernel
theorem dX10_waysWith_196 : decode cX10_waysWith 196 = .ok (.goto (-106), 3) := by decide +kernel
theorem dX10_waysWith_199 : decode cX10_waysWith 199 = .ok (.iinc 4 1, 3) := by decide +kernel
theorem dX10_waysWith_202 : decode cX10_waysWith 202 = .ok (.goto (-123), 3) := by decide +kernel
theorem dX10_waysWith_205 : decode cX10_waysWith 205 = .ok (.iconst 0, 1) := by decide +kernel
theorem dX10_waysWith_206 : decode cX10_waysWith 206 = .ok (.istore 4, 2) := by decide +kernel
theorem dX10_waysWith_208 : decode cX10_waysWith 208 = .ok (.iload 4, 2) := by decide +kernel
theorem dX10_waysWith_210 : decode cX10_waysWith 210 = .ok (.sipush 4096, 3) := by decide +kernel
theorem dX10_waysWith_213 : decode cX10_waysWith 213 = .ok (.if_icmp .ge 23, 3) := by decide +kernel
theorem dX10_waysWith_216 : decode cX10_waysWith 216 = .ok (.aload_n 0, 1) := by decide +kernel
theorem dX10_waysWith_217 : decode cX10_waysWith 217 = .ok (.getfield 90, 3) := by decide +kernel
theorem dX10_waysWith_220 : decode cX10_waysWith 220 = .ok (.iload 4, 2) := by decide +kernel
theorem dX10_waysWith_222 : decode cX10_waysWith 222 = .ok (.aload_n 0, 1) := by decide +kernel
theorem dX10_waysWith_223 : decode cX10_waysWith 223 = .ok (.getfield 93, 3) := by decide +kernel
theorem dX10_waysWith_226 : decode cX10_waysWith 226 = .ok (.iload 4, 2) := by decide +kernel
theorem dX10_waysWith_228 : decode cX10_waysWith 228 = .ok (.iaload, 1) := by decide +kernel
theorem dX10_waysWith_229 : decode cX10_waysWith 229 = .ok (.iastore, 1) := by decide +kernel
theorem dX10_waysWith_230 : decode cX10_waysWith 230 = .ok (.iinc 4 1, 3) := by decide +kernel
theorem dX10_waysWith_233 : decode cX10_waysWith 233 = .ok (.goto (-25), 3) := by decide +kernel
theorem dX10_waysWith_236 : decode cX10_waysWith 236 = .ok (.iinc 3 1, 3) := by decide +kernel
theorem dX10_waysWith_239 : decode cX10_waysWith 239 = .ok (.goto (-207), 3) := by decide +kernel
theorem dX10_waysWith_242 : decode cX10_waysWith 242 = .ok (.iconst 0, 1) := by decide +kernel
theorem dX10_waysWith_243 : decode cX10_waysWith 243 = .ok (.istore_n 3, 1) := by decide +kernel
theorem dX10_waysWith_244 : decode cX10_waysWith 244 = .ok (.iconst 0, 1) := by decide +kernel
theorem dX10_waysWith_245 : decode cX10_waysWith 245 = .ok (.istore 4, 2) := by decide +kernel
theorem dX10_waysWith_247 : decode cX10_waysWith 247 = .ok (.iload 4, 2) := by decide +kernel
theorem dX10_waysWith_249 : decode cX10_waysWith 249 = .ok (.sipush 4096, 3) := by decide +kernel
theorem dX10_waysWith_252 : decode cX10_waysWith 252 = .ok (.if_icmp .ge 19, 3) := by decide +kernel
theorem dX10_waysWith_255 : decode cX10_waysWith 255 = .ok (.iload_n 3, 1) := by decide +kernel
theorem dX10_waysWith_256 : decode cX10_waysWith 256 = .ok (.aload_n 0, 1) := by decide +kernel
theorem dX10_waysWith_257 : decode cX10_waysWith 257 = .ok (.getfield 90, 3) := by decide +kernel
theorem dX10_waysWith_260 : decode cX10_waysWith 260 = .ok (.iload 4, 2) := by decide +kernel
theorem dX10_waysWith_262 : decode cX10_waysWith 262 = .ok (.iaload, 1) := by decide +kernel
theorem dX10_waysWith_263 : decode cX10_waysWith 263 = .ok (.iadd, 1) := by decide +kernel
theorem dX10_waysWith_264 : decode cX10_waysWith 264 = .ok (.istore_n 3, 1) := by decide +kernel
theorem dX10_waysWith_265 : decode cX10_waysWith 265 = .ok (.iinc 4 1, 3) := by decide +kernel
theorem dX10_waysWith_268 : decode cX10_waysWith 268 = .ok (.goto (-21), 3) := by decide +kernel
theorem dX10_waysWith_271 : decode cX10_waysWith 271 = .ok (.iload_n 3, 1) := by decide +kernel
theorem dX10_waysWith_272 : decode cX10_waysWith 272 = .ok (.ireturn, 1) := by decide +kernel
theorem dX10_matches_0 : decode cX10_matches 0 = .ok (.aload_n 0, 1) := by decide +kernel
theorem dX10_matches_1 : decode cX10_matches 1 = .ok (.iconst 0, 1) := by decide +kernel
theorem dX10_matches_2 : decode cX10_matches 2 = .ok (.invokevirtual 224, 3) := by decide +kernel
theorem dX10_matches_5 : decode cX10_matches 5 = .ok (.aload_n 0, 1) := by decide +kernel
theorem dX10_matches_6 : decode cX10_matches 6 = .ok (.bipush (-9), 2) := by decide +kernel
theorem dX10_matches_8 : decode cX10_matches 8 = .ok (.iconst 0, 1) := by decide +kernel
theorem dX10_matches_9 : decode cX10_matches 9 = .ok (.invokevirtual 303, 3) := by decide +kernel
theorem dX10_matches_12 : decode cX10_matches 12 = .ok (.istore_n 1, 1) := by decide +kernel
theorem dX10_matches_13 : decode cX10_matches 13 = .ok (.iconst 0, 1) := by decide +kernel
theorem dX10_matches_14 : decode cX10_matches 14 = .ok (.istore_n 2, 1) := by decide +kernel
theorem dX10_matches_15 : decode cX10_matches 15 = .ok (.iconst 0, 1) := by decide +kernel
theorem dX10_matches_16 : decode cX10_matches 16 = .ok (.istore_n 3, 1) := by decide +kernel
theorem dX10_matches_17 : decode cX10_matches 17 = .ok (.iload_n 3, 1) := by decide +kernel
theorem dX10_matches_18 : decode cX10_matches 18 = .ok (.bipush 12, 2) := by decide +kernel
theorem dX10_matches_20 : decode cX10_matches 20 = .ok (.if_icmp .ge 67, 3) := by decide +kernel
theorem dX10_matches_23 : decode cX10_matches 23 = .ok (.iload_n 1, 1) := by decide +kernel
theorem dX10_matches_24 : decode cX10_matches 24 = .ok (.ifCond .le 63, 3) := by decide +kernel
theorem dX10_matches_27 : decode cX10_matches 27 = .ok (.iconst 0, 1) := by decide +kernel
theorem dX10_matches_28 : decode cX10_matches 28 = .ok (.istore 4, 2) := by decide +kernel
theorem dX10_matches_30 : decode cX10_matches 30 = .ok (.iload 4, 2) := by decide +kernel
theorem dX10_matches_32 : decode cX10_matches 32 = .ok (.aload_n 0, 1) := by decide +kernel
theorem dX10_matches_33 : decode cX10_matches 33 = .ok (.getfield 178, 3) := by decide +kernel
theorem dX10_matches_36 : decode cX10_matches 36 = .ok (.if_icmp .ge 45, 3) := by decide +kernel
theorem dX10_matches_39 : decode cX10_matches 39 = .ok (.aload_n 0, 1) := by decide +kernel
theorem dX10_matches_40 : decode cX10_matches 40 = .ok (.getfield 41, 3) := by decide +kernel
theorem dX10_matches_43 : decode cX10_matches 43 = .ok (.iload_n 3, 1) := by decide +kernel
theorem dX10_matches_44 : decode cX10_matches 44 = .ok (.iaload, 1) := by decide +kernel
theorem dX10_matches_45 : decode cX10_matches 45 = .ok (.iconst 3, 1) := by decide +kernel
theorem dX10_matches_46 : decode cX10_matches 46 = .ok (.if_icmp .ne 35, 3) := by decide +kernel
theorem dX10_matches_49 : decode cX10_matches 49 = .ok (.iload_n 2, 1) := by decide +kernel
theorem dX10_matches_50 : decode cX10_matches 50 = .ok (.aload_n 0, 1) := by decide +kernel
theorem dX10_matches_51 : decode cX10_matches 51 = .ok (.iload_n 3, 1) := by decide +kernel
theorem dX10_matches_52 : decode cX10_matches 52 = .ok (.aload_n 0, 1) := by decide +kernel
theorem dX10_matches_53 : decode cX10_matches 53 = .ok (.getfield 59, 3) := by decide +kernel
theorem dX10_matches_56 : decode cX10_matches 56 = .ok (.iload 4, 2) := by decide +kernel
theorem dX10_matches_58 : decode cX10_matches 58 = .ok (.iaload, 1) := by decide +kernel
theorem dX10_matches_59 : decode cX10_matches 59 = .ok (.invokevirtual 303, 3) := by decide +kernel
theorem dX10_matches_62 : decode cX10_matches 62 = .ok (.iload_n 1, 1) := by decide +kernel
theorem dX10_matches_63 : decode cX10_matches 63 = .ok (.if_icmp .ne 9, 3) := by decide +kernel
theorem dX10_matches_66 : decode cX10_matches 66 = .ok (.iconst 1, 1) := by decide +kernel
theorem dX10_matches_67 : decode cX10_matches 67 = .ok (.iload_n 3, 1) := by decide +kernel
theorem dX10_matches_68 : decode cX10_matches 68 = .ok (.ishl, 1) := by decide +kernel
theorem dX10_matches_69 : decode cX10_matches 69 = .ok (.goto 4, 3) := by decide +kernel
theorem dX10_matches_72 : decode cX10_matches 72 = .ok (.iconst 0, 1) := by decide +kernel
theorem dX10_matches_73 : decode cX10_matches 73 = .ok (.ior, 1) := by decide +kernel
theorem dX10_matches_74 : decode cX10_matches 74 = .ok (.istore_n 2, 1) := by decide +kernel
theorem dX10_matches_75 : decode cX10_matches 75 = .ok (.iinc 4 1, 3) := by decide +kernel
theorem dX10_matches_78 : decode cX10_matches 78 = .ok (.goto (-48), 3) := by decide +kernel
theorem dX10_matches_81 : decode cX10_matches 81 = .ok (.iinc 3 1, 3) := by decide +kernel
theorem dX10_matches_84 : decode cX10_matches 84 = .ok (.goto (-67), 3) := by decide +kernel
theorem dX10_matches_87 : decode cX10_matches 87 = .ok (.aload_n 0, 1) := by decide +kernel
theorem dX10_matches_88 : decode cX10_matches 88 = .ok (.iload_n 2, 1) := by decide +kernel
theorem dX10_matches_89 : decode cX10_matches 89 = .ok (.iload_n 1, 1) := by decide +kernel
theorem dX10_matches_90 : decode cX10_matches 90 = .ok (.invokevirtual 125, 3) := by decide +kernel
theorem dX10_matches_93 : decode cX10_matches 93 = .ok (.ireturn, 1) := by decide +kernel
theorem dX10_asked_0 : decode cX10_asked 0 = .ok (.aload_n 0, 1) := by decide +kernel
theorem dX10_asked_1 : decode cX10_asked 1 = .ok (.getfield 100, 3) := by decide +kernel
theorem dX10_asked_4 : decode cX10_asked 4 = .ok (.ireturn, 1) := by decide +kernel
theorem dX10_upper_0 : decode cX10_upper 0 = .ok (.aload_n 0, 1) := by decide +kernel
theorem dX10_upper_1 : decode cX10_upper 1 = .ok (.getfield 285, 3) := by decide +kernel
theorem dX10_upper_4 : decode cX10_upper 4 = .ok (.lreturn, 1) := by decide +kernel
theorem dX10_lower_0 : decode cX10_lower 0 = .ok (.aload_n 0, 1) := by decide +kernel
theorem dX10_lower_1 : decode cX10_lower 1 = .ok (.getfield 13, 3) := by decide +kernel
theorem dX10_lower_4 : decode cX10_lower 4 = .ok (.lreturn, 1) := by decide +kernel
theorem dX10_counts_0 : decode cX10_counts 0 = .ok (.iconst 0, 1) := by decide +kernel
theorem dX10_counts_1 : decode cX10_counts 1 = .ok (.istore_n 2, 1) := by decide +kernel
theorem dX10_counts_2 : decode cX10_counts 2 = .ok (.iconst 0, 1) := by decide +kernel
theorem dX10_counts_3 : decode cX10_counts 3 = .ok (.istore_n 3, 1) := by decide +kernel
theorem dX10_counts_4 : decode cX10_counts 4 = .ok (.iload_n 3, 1) := by decide +kernel
theorem dX10_counts_5 : decode cX10_counts 5 = .ok (.bipush 6, 2) := by decide +kernel
theorem dX10_counts_7 : decode cX10_counts 7 = .ok (.if_icmp .ge 31, 3) := by decide +kernel
theorem dX10_counts_10 : decode cX10_counts 10 = .ok (.iload_n 2, 1) := by decide +kernel
theorem dX10_counts_11 : decode cX10_counts 11 = .ok (.iload_n 1, 1) := by decide +kernel
theorem dX10_counts_12 : decode cX10_counts 12 = .ok (.iconst 3, 1) := by decide +kernel
theorem dX10_counts_13 : decode cX10_counts 13 = .ok (.if_icmp .ne 16, 3) := by decide +kernel
theorem dX10_counts_16 : decode cX10_counts 16 = .ok (.aload_n 0, 1) := by decide +kernel
theorem dX10_counts_17 : decode cX10_counts 17 = .ok (.getfield 17, 3) := by decide +kernel
theorem dX10_counts_20 : decode cX10_counts 20 = .ok (.iload_n 3, 1) := by decide +kernel
theorem dX10_counts_21 : decode cX10_counts 21 = .ok (.iaload, 1) := by decide +kernel
theorem dX10_counts_22 : decode cX10_counts 22 = .ok (.ifCond .lt 7, 3) := by decide +kernel
theorem dX10_counts_25 : decode cX10_counts 25 = .ok (.iconst 1, 1) := by decide +kernel
theorem dX10_counts_26 : decode cX10_counts 26 = .ok (.goto 4, 3) := by decide +kernel
theorem dX10_counts_29 : decode cX10_counts 29 = .ok (.iconst 0, 1) := by decide +kernel
theorem dX10_counts_30 : decode cX10_counts 30 = .ok (.iadd, 1) := by decide +kernel
theorem dX10_counts_31 : decode cX10_counts 31 = .ok (.istore_n 2, 1) := by decide +kernel
theorem dX10_counts_32 : decode cX10_counts 32 = .ok (.iinc 3 1, 3) := by decide +kernel
theorem dX10_counts_35 : decode cX10_counts 35 = .ok (.goto (-31), 3) := by decide +kernel
theorem dX10_counts_38 : decode cX10_counts 38 = .ok (.iconst 0, 1) := by decide +kernel
theorem dX10_counts_39 : decode cX10_counts 39 = .ok (.istore_n 3, 1) := by decide +kernel
theorem dX10_counts_40 : decode cX10_counts 40 = .ok (.iload_n 3, 1) := by decide +kernel
theorem dX10_counts_41 : decode cX10_counts 41 = .ok (.iconst 4, 1) := by decide +kernel
theorem dX10_counts_42 : decode cX10_counts 42 = .ok (.if_icmp .ge 31, 3) := by decide +kernel
theorem dX10_counts_45 : decode cX10_counts 45 = .ok (.iload_n 2, 1) := by decide +kernel
theorem dX10_counts_46 : decode cX10_counts 46 = .ok (.iload_n 1, 1) := by decide +kernel
theorem dX10_counts_47 : decode cX10_counts 47 = .ok (.iconst 4, 1) := by decide +kernel
theorem dX10_counts_48 : decode cX10_counts 48 = .ok (.if_icmp .ne 16, 3) := by decide +kernel
theorem dX10_counts_51 : decode cX10_counts 51 = .ok (.aload_n 0, 1) := by decide +kernel
theorem dX10_counts_52 : decode cX10_counts 52 = .ok (.getfield 26, 3) := by decide +kernel
theorem dX10_counts_55 : decode cX10_counts 55 = .ok (.iload_n 3, 1) := by decide +kernel
theorem dX10_counts_56 : decode cX10_counts 56 = .ok (.iaload, 1) := by decide +kernel
theorem dX10_counts_57 : decode cX10_counts 57 = .ok (.ifCond .lt 7, 3) := by decide +kernel
theorem dX10_counts_60 : decode cX10_counts 60 = .ok (.iconst 1, 1) := by decide +kernel
theorem dX10_counts_61 : decode cX10_counts 61 = .ok (.goto 4, 3) := by decide +kernel
theorem dX10_counts_64 : decode cX10_counts 64 = .ok (.iconst 0, 1) := by decide +kernel
theorem dX10_counts_65 : decode cX10_counts 65 = .ok (.iadd, 1) := by decide +kernel
theorem dX10_counts_66 : decode cX10_counts 66 = .ok (.istore_n 2, 1) := by decide +kernel
theorem dX10_counts_67 : decode cX10_counts 67 = .ok (.iinc 3 1, 3) := by decide +kernel
theorem dX10_counts_70 : decode cX10_counts 70 = .ok (.goto (-30), 3) := by decide +kernel
theorem dX10_counts_73 : decode cX10_counts 73 = .ok (.iload_n 1, 1) := by decide +kernel
theorem dX10_counts_74 : decode cX10_counts 74 = .ok (.ifCond .ne 10, 3) := by decide +kernel
theorem dX10_counts_77 : decode cX10_counts 77 = .ok (.aload_n 0, 1) := by decide +kernel
theorem dX10_counts_78 : decode cX10_counts 78 = .ok (.invokevirtual 165, 3) := by decide +kernel
theorem dX10_counts_81 : decode cX10_counts 81 = .ok (.goto 28, 3) := by decide +kernel
theorem dX10_counts_84 : decode cX10_counts 84 = .ok (.iload_n 1, 1) := by decide +kernel
theorem dX10_counts_85 : decode cX10_counts 85 = .ok (.iconst 1, 1) := by decide +kernel
theorem dX10_counts_86 : decode cX10_counts 86 = .ok (.if_icmp .ne 10, 3) := by decide +kernel
theorem dX10_counts_89 : decode cX10_counts 89 = .ok (.aload_n 0, 1) := by decide +kernel
theorem dX10_counts_90 : decode cX10_counts 90 = .ok (.getfield 172, 3) := by decide +kernel
theorem dX10_counts_93 : decode cX10_counts 93 = .ok (.goto 16, 3) := by decide +kernel
theorem dX10_counts_96 : decode cX10_counts 96 = .ok (.iload_n 1, 1) := by decide +kernel
theorem dX10_counts_97 : decode cX10_counts 97 = .ok (.iconst 2, 1) := by decide +kernel
theorem dX10_counts_98 : decode cX10_counts 98 = .ok (.if_icmp .ne 10, 3) := by decide +kernel
theorem dX10_counts_101 : decode cX10_counts 101 = .ok (.aload_n 0, 1) := by decide +kernel
theorem dX10_counts_102 : decode cX10_counts 102 = .ok (.getfield 178, 3) := by decide +kernel
theorem dX10_counts_105 : decode cX10_counts 105 = .ok (.goto 4, 3) := by decide +kernel
theorem dX10_counts_108 : decode cX10_counts 108 = .ok (.iload_n 2, 1) := by decide +kernel
theorem dX10_counts_109 : decode cX10_counts 109 = .ok (.ireturn, 1) := by decide +kernel
theorem dX10_there_0 : decode cX10_there 0 = .ok (.iload_n 1, 1) := by decide +kernel
theorem dX10_there_1 : decode cX10_there 1 = .ok (.iconst 0, 1) := by decide +kernel
theorem dX10_there_2 : decode cX10_there 2 = .ok (.iconst 4, 1) := by decide +kernel
theorem dX10_there_3 : decode cX10_there 3 = .ok (.invokestatic 103, 3) := by decide +kernel
theorem dX10_there_6 : decode cX10_there 6 = .ok (.ifCond .eq 11, 3) := by decide +kernel
theorem dX10_there_9 : decode cX10_there 9 = .ok (.aload_n 0, 1) := by decide +kernel
theorem dX10_there_10 : decode cX10_there 10 = .ok (.iload_n 1, 1) := by decide +kernel
theorem dX10_there_11 : decode cX10_there 11 = .ok (.invokevirtual 306, 3) := by decide +kernel
theorem dX10_there_14 : decode cX10_there 14 = .ok (.goto 4, 3) := by decide +kernel
theorem dX10_there_17 : decode cX10_there 17 = .ok (.iconst (-1), 1) := by decide +kernel
theorem dX10_there_18 : decode cX10_there 18 = .ok (.ireturn, 1) := by decide +kernel
theorem dX10_finding_0 : decode cX10_finding 0 = .ok (.aload_n 0, 1) := by decide +kernel
theorem dX10_finding_1 : decode cX10_finding 1 = .ok (.getfield 96, 3) := by decide +kernel
theorem dX10_finding_4 : decode cX10_finding 4 = .ok (.ireturn, 1) := by decide +kernel
theorem dX10_findings_0 : decode cX10_findings 0 = .ok (.iload_n 1, 1) := by decide +kernel
theorem dX10_findings_1 : decode cX10_findings 1 = .ok (.iconst 1, 1) := by decide +kernel
theorem dX10_findings_2 : decode cX10_findings 2 = .ok (.iconst 5, 1) := by decide +kernel
theorem dX10_findings_3 : decode cX10_findings 3 = .ok (.invokestatic 103, 3) := by decide +kernel
theorem dX10_findings_6 : decode cX10_findings 6 = .ok (.ifCond .eq 12, 3) := by decide +kernel
theorem dX10_findings_9 : decode cX10_findings 9 = .ok (.aload_n 0, 1) := by decide +kernel
theorem dX10_findings_10 : decode cX10_findings 10 = .ok (.getfield 7, 3) := by decide +kernel
theorem dX10_findings_13 : decode cX10_findings 13 = .ok (.iload_n 1, 1) := by decide +kernel
theorem dX10_findings_14 : decode cX10_findings 14 = .ok (.iaload, 1) := by decide +kernel
theorem dX10_findings_15 : decode cX10_findings 15 = .ok (.goto 4, 3) := by decide +kernel
theorem dX10_findings_18 : decode cX10_findings 18 = .ok (.iconst (-1), 1) := by decide +kernel
theorem dX10_findings_19 : decode cX10_findings 19 = .ok (.ireturn, 1) := by decide +kernel
theorem dX10_mix_0 : decode cX10_mix 0 = .ok (.aload_n 0, 1) := by decide +kernel
theorem dX10_mix_1 : decode cX10_mix 1 = .ok (.ldc2_w 309, 3) := by decide +kernel
theorem dX10_mix_4 : decode cX10_mix 4 = .ok (.aload_n 0, 1) := by decide +kernel
theorem dX10_mix_5 : decode cX10_mix 5 = .ok (.getfield 311, 3) := by decide +kernel
theorem dX10_mix_8 : decode cX10_mix 8 = .ok (.lmul, 1) := by decide +kernel
theorem dX10_mix_9 : decode cX10_mix 9 = .ok (.iload_n 1, 1) := by decide +kernel
theorem dX10_mix_10 : decode cX10_mix 10 = .ok (.i2l, 1) := by decide +kernel
theorem dX10_mix_11 : decode cX10_mix 11 = .ok (.ladd, 1) := by decide +kernel
theorem dX10_mix_12 : decode cX10_mix 12 = .ok (.putfield 311, 3) := by decide +kernel
theorem dX10_mix_15 : decode cX10_mix 15 = .ok (.return_, 1) := by decide +kernel
theorem dX10_digest_0 : decode cX10_digest 0 = .ok (.aload_n 0, 1) := by decide +kernel
theorem dX10_digest_1 : decode cX10_digest 1 = .ok (.ldc2_w 314, 3) := by decide +kernel
theorem dX10_digest_4 : decode cX10_digest 4 = .ok (.putfield 311, 3) := by decide +kernel
theorem dX10_digest_7 : decode cX10_digest 7 = .ok (.iconst 0, 1) := by decide +kernel
theorem dX10_digest_8 : decode cX10_digest 8 = .ok (.istore_n 1, 1) := by decide +kernel
theorem dX10_digest_9 : decode cX10_digest 9 = .ok (.iload_n 1, 1) := by decide +kernel
theorem dX10_digest_10 : decode cX10_digest 10 = .ok (.iconst 4, 1) := by decide +kernel
theorem dX10_digest_11 : decode cX10_digest 11 = .ok (.if_icmp .gt 18, 3) := by decide +kernel
theorem dX10_digest_14 : decode cX10_digest 14 = .ok (.aload_n 0, 1) := by decide +kernel
theorem dX10_digest_15 : decode cX10_digest 15 = .ok (.aload_n 0, 1) := by decide +kernel
theorem dX10_digest_16 : decode cX10_digest 16 = .ok (.iload_n 1, 1) := by decide +kernel
theorem dX10_digest_17 : decode cX10_digest 17 = .ok (.invokevirtual 306, 3) := by decide +kernel
theorem dX10_digest_20 : decode cX10_digest 20 = .ok (.invokevirtual 316, 3) := by decide +kernel
theorem dX10_digest_23 : decode cX10_digest 23 = .ok (.iinc 1 1, 3) := by decide +kernel
theorem dX10_digest_26 : decode cX10_digest 26 = .ok (.goto (-17), 3) := by decide +kernel
theorem dX10_digest_29 : decode cX10_digest 29 = .ok (.iconst 0, 1) := by decide +kernel
theorem dX10_digest_30 : decode cX10_digest 30 = .ok (.istore_n 1, 1) := by decide +kernel
theorem dX10_digest_31 : decode cX10_digest 31 = .ok (.iload_n 1, 1) := by decide +kernel
theorem dX10_digest_32 : decode cX10_digest 32 = .ok (.bipush 12, 2) := by decide +kernel
theorem dX10_digest_34 : decode cX10_digest 34 = .ok (.if_icmp .ge 53, 3) := by decide +kernel
theorem dX10_digest_37 : decode cX10_digest 37 = .ok (.aload_n 0, 1) := by decide +kernel
theorem dX10_digest_38 : decode cX10_digest 38 = .ok (.iload_n 1, 1) := by decide +kernel
theorem dX10_digest_39 : decode cX10_digest 39 = .ok (.invokevirtual 193, 3) := by decide +kernel
theorem dX10_digest_42 : decode cX10_digest 42 = .ok (.ifCond .ne 11, 3) := by decide +kernel
theorem dX10_digest_45 : decode cX10_digest 45 = .ok (.aload_n 0, 1) := by decide +kernel
theorem dX10_digest_46 : decode cX10_digest 46 = .ok (.iconst (-1), 1) := by decide +kernel
theorem dX10_digest_47 : decode cX10_digest 47 = .ok (.invokevirtual 316, 3) := by decide +kernel
theorem dX10_digest_50 : decode cX10_digest 50 = .ok (.goto 31, 3) := by decide +kernel
theorem dX10_digest_53 : decode cX10_digest 53 = .ok (.aload_n 0, 1) := by decide +kernel
theorem dX10_digest_54 : decode cX10_digest 54 = .ok (.aload_n 0, 1) := by decide +kernel
theorem dX10_digest_55 : decode cX10_digest 55 = .ok (.getfield 41, 3) := by decide +kernel
theorem dX10_digest_58 : decode cX10_digest 58 = .ok (.iload_n 1, 1) := by decide +kernel
theorem dX10_digest_59 : decode cX10_digest 59 = .ok (.iaload, 1) := by decide +kernel
theorem dX10_digest_60 : decode cX10_digest 60 = .ok (.invokevirtual 316, 3) := by decide +kernel
theorem dX10_digest_63 : decode cX10_digest 63 = .ok (.aload_n 0, 1) := by decide +kernel
theorem dX10_digest_64 : decode cX10_digest 64 = .ok (.aload_n 0, 1) := by decide +kernel
theorem dX10_digest_65 : decode cX10_digest 65 = .ok (.iload_n 1, 1) := by decide +kernel
theorem dX10_digest_66 : decode cX10_digest 66 = .ok (.invokevirtual 202, 3) := by decide +kernel
theorem dX10_digest_69 : decode cX10_digest 69 = .ok (.invokevirtual 316, 3) := by decide +kernel
theorem dX10_digest_72 : decode cX10_digest 72 = .ok (.aload_n 0, 1) := by decide +kernel
theorem dX10_digest_73 : decode cX10_digest 73 = .ok (.aload_n 0, 1) := by decide +kernel
theorem dX10_digest_74 : decode cX10_digest 74 = .ok (.iload_n 1, 1) := by decide +kernel
theorem dX10_digest_75 : decode cX10_digest 75 = .ok (.invokevirtual 199, 3) := by decide +kernel
theorem dX10_digest_78 : decode cX10_digest 78 = .ok (.invokevirtual 316, 3) := by decide +kernel
theorem dX10_digest_81 : decode cX10_digest 81 = .ok (.iinc 1 1, 3) := by decide +kernel
theorem dX10_digest_84 : decode cX10_digest 84 = .ok (.goto (-53), 3) := by decide +kernel
theorem dX10_digest_87 : decode cX10_digest 87 = .ok (.iconst 0, 1) := by decide +kernel
theorem dX10_digest_88 : decode cX10_digest 88 = .ok (.istore_n 1, 1) := by decide +kernel
theorem dX10_digest_89 : decode cX10_digest 89 = .ok (.iload_n 1, 1) := by decide +kernel
theorem dX10_digest_90 : decode cX10_digest 90 = .ok (.aload_n 0, 1) := by decide +kernel
theorem dX10_digest_91 : decode cX10_digest 91 = .ok (.getfield 172, 3) := by decide +kernel
theorem dX10_digest_94 : decode cX10_digest 94 = .ok (.if_icmp .ge 39, 3) := by decide +kernel
theorem dX10_digest_97 : decode cX10_digest 97 = .ok (.aload_n 0, 1) := by decide +kernel
theorem dX10_digest_98 : decode cX10_digest 98 = .ok (.aload_n 0, 1) := by decide +kernel
theorem dX10_digest_99 : decode cX10_digest 99 = .ok (.getfield 50, 3) := by decide +kernel
theorem dX10_digest_102 : decode cX10_digest 102 = .ok (.iload_n 1, 1) := by decide +kernel
theorem dX10_digest_103 : decode cX10_digest 103 = .ok (.iaload, 1) := by decide +kernel
theorem dX10_digest_104 : decode cX10_digest 104 = .ok (.invokevirtual 316, 3) := by decide +kernel
theorem dX10_digest_107 : decode cX10_digest 107 = .ok (.aload_n 0, 1) := by decide +kernel
theorem dX10_digest_108 : decode cX10_digest 108 = .ok (.aload_n 0, 1) := by decide +kernel
theorem dX10_digest_109 : decode cX10_digest 109 = .ok (.getfield 53, 3) := by decide +kernel
theorem dX10_digest_112 : decode cX10_digest 112 = .ok (.iload_n 1, 1) := by decide +kernel
theorem dX10_digest_113 : decode cX10_digest 113 = .ok (.iaload, 1) := by decide +kernel
theorem dX10_digest_114 : decode cX10_digest 114 = .ok (.invokevirtual 316, 3) := by decide +kernel
theorem dX10_digest_117 : decode cX10_digest 117 = .ok (.aload_n 0, 1) := by decide +kernel
theorem dX10_digest_118 : decode cX10_digest 118 = .ok (.aload_n 0, 1) := by decide +kernel
theorem dX10_digest_119 : decode cX10_digest 119 = .ok (.getfield 56, 3) := by decide +kernel
theorem dX10_digest_122 : decode cX10_digest 122 = .ok (.iload_n 1, 1) := by decide +kernel
theorem dX10_digest_123 : decode cX10_digest 123 = .ok (.iaload, 1) := by decide +kernel
theorem dX10_digest_124 : decode cX10_digest 124 = .ok (.invokevirtual 316, 3) := by decide +kernel
theorem dX10_digest_127 : decode cX10_digest 127 = .ok (.iinc 1 1, 3) := by decide +kernel
theorem dX10_digest_130 : decode cX10_digest 130 = .ok (.goto (-41), 3) := by decide +kernel
theorem dX10_digest_133 : decode cX10_digest 133 = .ok (.iconst 0, 1) := by decide +kernel
theorem dX10_digest_134 : decode cX10_digest 134 = .ok (.istore_n 1, 1) := by decide +kernel
theorem dX10_digest_135 : decode cX10_digest 135 = .ok (.iload_n 1, 1) := by decide +kernel
theorem dX10_digest_136 : decode cX10_digest 136 = .ok (.aload_n 0, 1) := by decide +kernel
theorem dX10_digest_137 : decode cX10_digest 137 = .ok (.getfield 178, 3) := by decide +kernel
theorem dX10_digest_140 : decode cX10_digest 140 = .ok (.if_icmp .ge 19, 3) := by decide +kernel
theorem dX10_digest_143 : decode cX10_digest 143 = .ok (.aload_n 0, 1) := by decide +kernel
theorem dX10_digest_144 : decode cX10_digest 144 = .ok (.aload_n 0, 1) := by decide +kernel
theorem dX10_digest_145 : decode cX10_digest 145 = .ok (.getfield 59, 3) := by decide +kernel
theorem dX10_digest_148 : decode cX10_digest 148 = .ok (.iload_n 1, 1) := by decide +kernel
theorem dX10_digest_149 : decode cX10_digest 149 = .ok (.iaload, 1) := by decide +kernel
theorem dX10_digest_150 : decode cX10_digest 150 = .ok (.invokevirtual 316, 3) := by decide +kernel
theorem dX10_digest_153 : decode cX10_digest 153 = .ok (.iinc 1 1, 3) := by decide +kernel
theorem dX10_digest_156 : decode cX10_digest 156 = .ok (.goto (-21), 3) := by decide +kernel
theorem dX10_digest_159 : decode cX10_digest 159 = .ok (.iconst 0, 1) := by decide +kernel
theorem dX10_digest_160 : decode cX10_digest 160 = .ok (.istore_n 1, 1) := by decide +kernel
theorem dX10_digest_161 : decode cX10_digest 161 = .ok (.iload_n 1, 1) := by decide +kernel
theorem dX10_digest_162 : decode cX10_digest 162 = .ok (.bipush 6, 2) := by decide +kernel
theorem dX10_digest_164 : decode cX10_digest 164 = .ok (.if_icmp .ge 60, 3) := by decide +kernel
theorem dX10_digest_167 : decode cX10_digest 167 = .ok (.aload_n 0, 1) := by decide +kernel
theorem dX10_digest_168 : decode cX10_digest 168 = .ok (.aload_n 0, 1) := by decide +kernel
theorem dX10_digest_169 : decode cX10_digest 169 = .ok (.getfield 17, 3) := by decide +kernel
theorem dX10_digest_172 : decode cX10_digest 172 = .ok (.iload_n 1, 1) := by decide +kernel
theorem dX10_digest_173 : decode cX10_digest 173 = .ok (.iaload, 1) := by decide +kernel
theorem dX10_digest_174 : decode cX10_digest 174 = .ok (.ifCond .ge 7, 3) := by decide +kernel
theorem dX10_digest_177 : decode cX10_digest 177 = .ok (.iconst (-1), 1) := by decide +kernel
theorem dX10_digest_178 : decode cX10_digest 178 = .ok (.goto 9, 3) := by decide +kernel
theorem dX10_digest_181 : decode cX10_digest 181 = .ok (.aload_n 0, 1) := by decide +kernel
theorem dX10_digest_182 : decode cX10_digest 182 = .ok (.getfield 17, 3) := by decide +kernel
theorem dX10_digest_185 : decode cX10_digest 185 = .ok (.iload_n 1, 1) := by decide +kernel
theorem dX10_digest_186 : decode cX10_digest 186 = .ok (.iaload, 1) := by decide +kernel
theorem dX10_digest_187 : decode cX10_digest 187 = .ok (.invokevirtual 316, 3) := by decide +kernel
theorem dX10_digest_190 : decode cX10_digest 190 = .ok (.iconst 0, 1) := by decide +kernel
theorem dX10_digest_191 : decode cX10_digest 191 = .ok (.istore_n 2, 1) := by decide +kernel
theorem dX10_digest_192 : decode cX10_digest 192 = .ok (.iload_n 2, 1) := by decide +kernel
theorem dX10_digest_193 : decode cX10_digest 193 = .ok (.aload_n 0, 1) := by decide +kernel
theorem dX10_digest_194 : decode cX10_digest 194 = .ok (.getfield 17, 3) := by decide +kernel
theorem dX10_digest_197 : decode cX10_digest 197 = .ok (.iload_n 1, 1) := by decide +kernel
theorem dX10_digest_198 : decode cX10_digest 198 = .ok (.iaload, 1) := by decide +kernel
theorem dX10_digest_199 : decode cX10_digest 199 = .ok (.if_icmp .ge 19, 3) := by decide +kernel
theorem dX10_digest_202 : decode cX10_digest 202 = .ok (.aload_n 0, 1) := by decide +kernel
theorem dX10_digest_203 : decode cX10_digest 203 = .ok (.aload_n 0, 1) := by decide +kernel
theorem dX10_digest_204 : decode cX10_digest 204 = .ok (.iload_n 1, 1) := by decide +kernel
theorem dX10_digest_205 : decode cX10_digest 205 = .ok (.iload_n 2, 1) := by decide +kernel
theorem dX10_digest_206 : decode cX10_digest 206 = .ok (.invokevirtual 121, 3) := by decide +kernel
theorem dX10_digest_209 : decode cX10_digest 209 = .ok (.invokevirtual 316, 3) := by decide +kernel
theorem dX10_digest_212 : decode cX10_digest 212 = .ok (.iinc 2 1, 3) := by decide +kernel
theorem dX10_digest_215 : decode cX10_digest 215 = .ok (.goto (-23), 3) := by decide +kernel
theorem dX10_digest_218 : decode cX10_digest 218 = .ok (.iinc 1 1, 3) := by decide +kernel
theorem dX10_digest_221 : decode cX10_digest 221 = .ok (.goto (-60), 3) := by decide +kernel
theorem dX10_digest_224 : decode cX10_digest 224 = .ok (.iconst 0, 1) := by decide +kernel
theorem dX10_digest_225 : decode cX10_digest 225 = .ok (.istore_n 1, 1) := by decide +kernel
theorem dX10_digest_226 : decode cX10_digest 226 = .ok (.iload_n 1, 1) := by decide +kernel
theorem dX10_digest_227 : decode cX10_digest 227 = .ok (.iconst 4, 1) := by decide +kernel
theorem dX10_digest_228 : decode cX10_digest 228 = .ok (.if_icmp .ge 65, 3) := by decide +kernel
theorem dX10_digest_231 : decode cX10_digest 231 = .ok (.aload_n 0, 1) := by decide +kernel
theorem dX10_digest_232 : decode cX10_digest 232 = .ok (.aload_n 0, 1) := by decide +kernel
theorem dX10_digest_233 : decode cX10_digest 233 = .ok (.getfield 26, 3) := by decide +kernel
theorem dX10_digest_236 : decode cX10_digest 236 = .ok (.iload_n 1, 1) := by decide +kernel
theorem dX10_digest_237 : decode cX10_digest 237 = .ok (.iaload, 1) := by decide +kernel
theorem dX10_digest_238 : decode cX10_digest 238 = .ok (.ifCond .ge 7, 3) := by decide +kernel
theorem dX10_digest_241 : decode cX10_digest 241 = .ok (.iconst (-1), 1) := by decide +kernel
theorem dX10_digest_242 : decode cX10_digest 242 = .ok (.goto 9, 3) := by decide +kernel
theorem dX10_digest_245 : decode cX10_digest 245 = .ok (.aload_n 0, 1) := by decide +kernel
theorem dX10_digest_246 : decode cX10_digest 246 = .ok (.getfield 26, 3) := by decide +kernel
theorem dX10_digest_249 : decode cX10_digest 249 = .ok (.iload_n 1, 1) := by decide +kernel
theorem dX10_digest_250 : decode cX10_digest 250 = .ok (.iaload, 1) := by decide +kernel
theorem dX10_digest_251 : decode cX10_digest 251 = .ok (.invokevirtual 316, 3) := by decide +kernel
theorem dX10_digest_254 : decode cX10_digest 254 = .ok (.iconst 0, 1) := by decide +kernel
theorem dX10_digest_255 : decode cX10_digest 255 = .ok (.istore_n 2, 1) := by decide +kernel
theorem dX10_digest_256 : decode cX10_digest 256 = .ok (.iload_n 2, 1) := by decide +kernel
theorem dX10_digest_257 : decode cX10_digest 257 = .ok (.aload_n 0, 1) := by decide +kernel
theorem dX10_digest_258 : decode cX10_digest 258 = .ok (.getfield 26, 3) := by decide +kernel
theorem dX10_digest_261 : decode cX10_digest 261 = .ok (.iload_n 1, 1) := by decide +kernel
theorem dX10_digest_262 : decode cX10_digest 262 = .ok (.iaload, 1) := by decide +kernel
theorem dX10_digest_263 : decode cX10_digest 263 = .ok (.if_icmp .ge 24, 3) := by decide +kernel
theorem dX10_digest_266 : decode cX10_digest 266 = .ok (.aload_n 0, 1) := by decide +kernel
theorem dX10_digest_267 : decode cX10_digest 267 = .ok (.aload_n 0, 1) := by decide +kernel
theorem dX10_digest_268 : decode cX10_digest 268 = .ok (.getfield 29, 3) := by decide +kernel
theorem dX10_digest_271 : decode cX10_digest 271 = .ok (.bipush 60, 2) := by decide +kernel
theorem dX10_digest_273 : decode cX10_digest 273 = .ok (.iload_n 1, 1) := by decide +kernel
theorem dX10_digest_274 : decode cX10_digest 274 = .ok (.imul, 1) := by decide +kernel
theorem dX10_digest_275 : decode cX10_digest 275 = .ok (.iload_n 2, 1) := by decide +kernel
theorem dX10_digest_276 : decode cX10_digest 276 = .ok (.iadd, 1) := by decide +kernel
theorem dX10_digest_277 : decode cX10_digest 277 = .ok (.iaload, 1) := by decide +kernel
theorem dX10_digest_278 : decode cX10_digest 278 = .ok (.invokevirtual 316, 3) := by decide +kernel
theorem dX10_digest_281 : decode cX10_digest 281 = .ok (.iinc 2 1, 3) := by decide +kernel
theorem dX10_digest_284 : decode cX10_digest 284 = .ok (.goto (-28), 3) := by decide +kernel
theorem dX10_digest_287 : decode cX10_digest 287 = .ok (.iinc 1 1, 3) := by decide +kernel
theorem dX10_digest_290 : decode cX10_digest 290 = .ok (.goto (-64), 3) := by decide +kernel
theorem dX10_digest_293 : decode cX10_digest 293 = .ok (.aload_n 0, 1) := by decide +kernel
theorem dX10_digest_294 : decode cX10_digest 294 = .ok (.getfield 311, 3) := by decide +kernel
theorem dX10_digest_297 : decode cX10_digest 297 = .ok (.lreturn, 1) := by decide +kernel

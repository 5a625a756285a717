theorem dX0_init_0 : decode cX0_init 0 = .ok (.aload_n 0, 1) := by decide +kernel
theorem dX0_init_1 : decode cX0_init 1 = .ok (.invokespecial 3, 3) := by decide +kernel
theorem dX0_init_4 : decode cX0_init 4 = .ok (.aload_n 0, 1) := by decide +kernel
theorem dX0_init_5 : decode cX0_init 5 = .ok (.bipush 12, 2) := by decide +kernel
theorem dX0_init_7 : decode cX0_init 7 = .ok (.newarray .int, 2) := by decide +kernel
theorem dX0_init_9 : decode cX0_init 9 = .ok (.putfield 9, 3) := by decide +kernel
theorem dX0_init_12 : decode cX0_init 12 = .ok (.aload_n 0, 1) := by decide +kernel
theorem dX0_init_13 : decode cX0_init 13 = .ok (.bipush 12, 2) := by decide +kernel
theorem dX0_init_15 : decode cX0_init 15 = .ok (.newarray .int, 2) := by decide +kernel
theorem dX0_init_17 : decode cX0_init 17 = .ok (.putfield 15, 3) := by decide +kernel
theorem dX0_init_20 : decode cX0_init 20 = .ok (.aload_n 0, 1) := by decide +kernel
theorem dX0_init_21 : decode cX0_init 21 = .ok (.bipush 12, 2) := by decide +kernel
theorem dX0_init_23 : decode cX0_init 23 = .ok (.newarray .int, 2) := by decide +kernel
theorem dX0_init_25 : decode cX0_init 25 = .ok (.putfield 18, 3) := by decide +kernel
theorem dX0_init_28 : decode cX0_init 28 = .ok (.aload_n 0, 1) := by decide +kernel
theorem dX0_init_29 : decode cX0_init 29 = .ok (.iconst 0, 1) := by decide +kernel
theorem dX0_init_30 : decode cX0_init 30 = .ok (.putfield 21, 3) := by decide +kernel
theorem dX0_init_33 : decode cX0_init 33 = .ok (.aload_n 0, 1) := by decide +kernel
theorem dX0_init_34 : decode cX0_init 34 = .ok (.aload_n 1, 1) := by decide +kernel
theorem dX0_init_35 : decode cX0_init 35 = .ok (.putfield 25, 3) := by decide +kernel
theorem dX0_init_38 : decode cX0_init 38 = .ok (.iconst 0, 1) := by decide +kernel
theorem dX0_init_39 : decode cX0_init 39 = .ok (.istore_n 2, 1) := by decide +kernel
theorem dX0_init_40 : decode cX0_init 40 = .ok (.iload_n 2, 1) := by decide +kernel
theorem dX0_init_41 : decode cX0_init 41 = .ok (.bipush 12, 2) := by decide +kernel
theorem dX0_init_43 : decode cX0_init 43 = .ok (.if_icmp .ge 16, 3) := by decide +kernel
theorem dX0_init_46 : decode cX0_init 46 = .ok (.aload_n 0, 1) := by decide +kernel
theorem dX0_init_47 : decode cX0_init 47 = .ok (.getfield 9, 3) := by decide +kernel
theorem dX0_init_50 : decode cX0_init 50 = .ok (.iload_n 2, 1) := by decide +kernel
theorem dX0_init_51 : decode cX0_init 51 = .ok (.iconst (-1), 1) := by decide +kernel
theorem dX0_init_52 : decode cX0_init 52 = .ok (.iastore, 1) := by decide +kernel
theorem dX0_init_53 : decode cX0_init 53 = .ok (.iinc 2 1, 3) := by decide +kernel
theorem dX0_init_56 : decode cX0_init 56 = .ok (.goto (-16), 3) := by decide +kernel
theorem dX0_init_59 : decode cX0_init 59 = .ok (.return_, 1) := by decide +kernel
theorem dX0_write_0 : decode cX0_write 0 = .ok (.aload_n 0, 1) := by decide +kernel
theorem dX0_write_1 : decode cX0_write 1 = .ok (.getfield 9, 3) := by decide +kernel
theorem dX0_write_4 : decode cX0_write 4 = .ok (.iload_n 1, 1) := by decide +kernel
theorem dX0_write_5 : decode cX0_write 5 = .ok (.iload_n 2, 1) := by decide +kernel
theorem dX0_write_6 : decode cX0_write 6 = .ok (.iastore, 1) := by decide +kernel
theorem dX0_write_7 : decode cX0_write 7 = .ok (.aload_n 0, 1) := by decide +kernel
theorem dX0_write_8 : decode cX0_write 8 = .ok (.getfield 15, 3) := by decide +kernel
theorem dX0_write_11 : decode cX0_write 11 = .ok (.iload_n 1, 1) := by decide +kernel
theorem dX0_write_12 : decode cX0_write 12 = .ok (.iload_n 3, 1) := by decide +kernel
theorem dX0_write_13 : decode cX0_write 13 = .ok (.iastore, 1) := by decide +kernel
theorem dX0_write_14 : decode cX0_write 14 = .ok (.aload_n 0, 1) := by decide +kernel
theorem dX0_write_15 : decode cX0_write 15 = .ok (.getfield 18, 3) := by decide +kernel
theorem dX0_write_18 : decode cX0_write 18 = .ok (.iload_n 1, 1) := by decide +kernel
theorem dX0_write_19 : decode cX0_write 19 = .ok (.iload 4, 2) := by decide +kernel
theorem dX0_write_21 : decode cX0_write 21 = .ok (.iastore, 1) := by decide +kernel
theorem dX0_write_22 : decode cX0_write 22 = .ok (.aload_n 0, 1) := by decide +kernel
theorem dX0_write_23 : decode cX0_write 23 = .ok (.iload_n 2, 1) := by decide +kernel
theorem dX0_write_24 : decode cX0_write 24 = .ok (.iconst (-1), 1) := by decide +kernel
theorem dX0_write_25 : decode cX0_write 25 = .ok (.if_icmp .ne 16, 3) := by decide +kernel
theorem dX0_write_28 : decode cX0_write 28 = .ok (.aload_n 0, 1) := by decide +kernel
theorem dX0_write_29 : decode cX0_write 29 = .ok (.getfield 21, 3) := by decide +kernel
theorem dX0_write_32 : decode cX0_write 32 = .ok (.iconst 1, 1) := by decide +kernel
theorem dX0_write_33 : decode cX0_write 33 = .ok (.iload_n 1, 1) := by decide +kernel
theorem dX0_write_34 : decode cX0_write 34 = .ok (.ishl, 1) := by decide +kernel
theorem dX0_write_35 : decode cX0_write 35 = .ok (.iconst (-1), 1) := by decide +kernel
theorem dX0_write_36 : decode cX0_write 36 = .ok (.ixor, 1) := by decide +kernel
theorem dX0_write_37 : decode cX0_write 37 = .ok (.iand, 1) := by decide +kernel
theorem dX0_write_38 : decode cX0_write 38 = .ok (.goto 11, 3) := by decide +kernel
theorem dX0_write_41 : decode cX0_write 41 = .ok (.aload_n 0, 1) := by decide +kernel
theorem dX0_write_42 : decode cX0_write 42 = .ok (.getfield 21, 3) := by decide +kernel
theorem dX0_write_45 : decode cX0_write 45 = .ok (.iconst 1, 1) := by decide +kernel
theorem dX0_write_46 : decode cX0_write 46 = .ok (.iload_n 1, 1) := by decide +kernel
theorem dX0_write_47 : decode cX0_write 47 = .ok (.ishl, 1) := by decide +kernel
theorem dX0_write_48 : decode cX0_write 48 = .ok (.ior, 1) := by decide +kernel
theorem dX0_write_49 : decode cX0_write 49 = .ok (.putfield 21, 3) := by decide +kernel
theorem dX0_write_52 : decode cX0_write 52 = .ok (.return_, 1) := by decide +kernel
theorem dX0_isThere_0 : decode cX0_isThere 0 = .ok (.aload_n 0, 1) := by decide +kernel
theorem dX0_isThere_1 : decode cX0_isThere 1 = .ok (.getfield 9, 3) := by decide +kernel
theorem dX0_isThere_4 : decode cX0_isThere 4 = .ok (.iload_n 1, 1) := by decide +kernel
theorem dX0_isThere_5 : decode cX0_isThere 5 = .ok (.iaload, 1) := by decide +kernel
theorem dX0_isThere_6 : decode cX0_isThere 6 = .ok (.iconst (-1), 1) := by decide +kernel
theorem dX0_isThere_7 : decode cX0_isThere 7 = .ok (.if_icmp .eq 7, 3) := by decide +kernel
theorem dX0_isThere_10 : decode cX0_isThere 10 = .ok (.iconst 1, 1) := by decide +kernel
theorem dX0_isThere_11 : decode cX0_isThere 11 = .ok (.goto 4, 3) := by decide +kernel
theorem dX0_isThere_14 : decode cX0_isThere 14 = .ok (.iconst 0, 1) := by decide +kernel
theorem dX0_isThere_15 : decode cX0_isThere 15 = .ok (.ireturn, 1) := by decide +kernel
theorem dX0_thereBits_0 : decode cX0_thereBits 0 = .ok (.aload_n 0, 1) := by decide +kernel
theorem dX0_thereBits_1 : decode cX0_thereBits 1 = .ok (.getfield 21, 3) := by decide +kernel
theorem dX0_thereBits_4 : decode cX0_thereBits 4 = .ok (.ireturn, 1) := by decide +kernel
theorem dX0_kindOf_0 : decode cX0_kindOf 0 = .ok (.aload_n 0, 1) := by decide +kernel
theorem dX0_kindOf_1 : decode cX0_kindOf 1 = .ok (.getfield 9, 3) := by decide +kernel
theorem dX0_kindOf_4 : decode cX0_kindOf 4 = .ok (.iload_n 1, 1) := by decide +kernel
theorem dX0_kindOf_5 : decode cX0_kindOf 5 = .ok (.iaload, 1) := by decide +kernel
theorem dX0_kindOf_6 : decode cX0_kindOf 6 = .ok (.ireturn, 1) := by decide +kernel
theorem dX0_firstOf_0 : decode cX0_firstOf 0 = .ok (.aload_n 0, 1) := by decide +kernel
theorem dX0_firstOf_1 : decode cX0_firstOf 1 = .ok (.getfield 15, 3) := by decide +kernel
theorem dX0_firstOf_4 : decode cX0_firstOf 4 = .ok (.iload_n 1, 1) := by decide +kernel
theorem dX0_firstOf_5 : decode cX0_firstOf 5 = .ok (.iaload, 1) := by decide +kernel
theorem dX0_firstOf_6 : decode cX0_firstOf 6 = .ok (.ireturn, 1) := by decide +kernel
theorem dX0_secondOf_0 : decode cX0_secondOf 0 = .ok (.aload_n 0, 1) := by decide +kernel
theorem dX0_secondOf_1 : decode cX0_secondOf 1 = .ok (.getfield 18, 3) := by decide +kernel
theorem dX0_secondOf_4 : decode cX0_secondOf 4 = .ok (.iload_n 1, 1) := by decide +kernel
theorem dX0_secondOf_5 : decode cX0_secondOf 5 = .ok (.iaload, 1) := by decide +kernel
theorem dX0_secondOf_6 : decode cX0_secondOf 6 = .ok (.ireturn, 1) := by decide +kernel
theorem dX0_howMany_0 : decode cX0_howMany 0 = .ok (.aload_n 0, 1) := by decide +kernel
theorem dX0_howMany_1 : decode cX0_howMany 1 = .ok (.getfield 21, 3) := by decide +kernel
theorem dX0_howMany_4 : decode cX0_howMany 4 = .ok (.invokestatic 29, 3) := by decide +kernel
theorem dX0_howMany_7 : decode cX0_howMany 7 = .ok (.ireturn, 1) := by decide +kernel
theorem dX0_tells_0 : decode cX0_tells 0 = .ok (.aload_n 0, 1) := by decide +kernel
theorem dX0_tells_1 : decode cX0_tells 1 = .ok (.getfield 9, 3) := by decide +kernel
theorem dX0_tells_4 : decode cX0_tells 4 = .ok (.iload_n 1, 1) := by decide +kernel
theorem dX0_tells_5 : decode cX0_tells 5 = .ok (.iaload, 1) := by decide +kernel
theorem dX0_tells_6 : decode cX0_tells 6 = .ok (.tableswitch 82 1 4 #[30, 50, 67, 75], 30) := by decide +kernel
theorem dX0_tells_36 : decode cX0_tells 36 = .ok (.aload_n 0, 1) := by decide +kernel
theorem dX0_tells_37 : decode cX0_tells 37 = .ok (.getfield 15, 3) := by decide +kernel
theorem dX0_tells_40 : decode cX0_tells 40 = .ok (.iload_n 1, 1) := by decide +kernel
theorem dX0_tells_41 : decode cX0_tells 41 = .ok (.iaload, 1) := by decide +kernel
theorem dX0_tells_42 : decode cX0_tells 42 = .ok (.invokestatic 35, 3) := by decide +kernel
theorem dX0_tells_45 : decode cX0_tells 45 = .ok (.aload_n 0, 1) := by decide +kernel
theorem dX0_tells_46 : decode cX0_tells 46 = .ok (.getfield 18, 3) := by decide +kernel
theorem dX0_tells_49 : decode cX0_tells 49 = .ok (.iload_n 1, 1) := by decide +kernel
theorem dX0_tells_50 : decode cX0_tells 50 = .ok (.iaload, 1) := by decide +kernel
theorem dX0_tells_51 : decode cX0_tells 51 = .ok (.invokestatic 35, 3) := by decide +kernel
theorem dX0_tells_54 : decode cX0_tells 54 = .ok (.imul, 1) := by decide +kernel
theorem dX0_tells_55 : decode cX0_tells 55 = .ok (.ireturn, 1) := by decide +kernel
theorem dX0_tells_56 : decode cX0_tells 56 = .ok (.bipush 12, 2) := by decide +kernel
theorem dX0_tells_58 : decode cX0_tells 58 = .ok (.aload_n 0, 1) := by decide +kernel
theorem dX0_tells_59 : decode cX0_tells 59 = .ok (.getfield 15, 3) := by decide +kernel
theorem dX0_tells_62 : decode cX0_tells 62 = .ok (.iload_n 1, 1) := by decide +kernel
theorem dX0_tells_63 : decode cX0_tells 63 = .ok (.iaload, 1) := by decide +kernel
theorem dX0_tells_64 : decode cX0_tells 64 = .ok (.imul, 1) := by decide +kernel
theorem dX0_tells_65 : decode cX0_tells 65 = .ok (.aload_n 0, 1) := by decide +kernel
theorem dX0_tells_66 : decode cX0_tells 66 = .ok (.getfield 18, 3) := by decide +kernel
theorem dX0_tells_69 : decode cX0_tells 69 = .ok (.iload_n 1, 1) := by decide +kernel
theorem dX0_tells_70 : decode cX0_tells 70 = .ok (.iaload, 1) := by decide +kernel
theorem dX0_tells_71 : decode cX0_tells 71 = .ok (.iadd, 1) := by decide +kernel
theorem dX0_tells_72 : decode cX0_tells 72 = .ok (.ireturn, 1) := by decide +kernel
theorem dX0_tells_73 : decode cX0_tells 73 = .ok (.aload_n 0, 1) := by decide +kernel
theorem dX0_tells_74 : decode cX0_tells 74 = .ok (.getfield 25, 3) := by decide +kernel
theorem dX0_tells_77 : decode cX0_tells 77 = .ok (.invokevirtual 38, 3) := by decide +kernel
theorem dX0_tells_80 : decode cX0_tells 80 = .ok (.ireturn, 1) := by decide +kernel
theorem dX0_tells_81 : decode cX0_tells 81 = .ok (.aload_n 0, 1) := by decide +kernel
theorem dX0_tells_82 : decode cX0_tells 82 = .ok (.getfield 15, 3) := by decide +kernel
theorem dX0_tells_85 : decode cX0_tells 85 = .ok (.iload_n 1, 1) := by decide +kernel
theorem dX0_tells_86 : decode cX0_tells 86 = .ok (.iaload, 1) := by decide +kernel
theorem dX0_tells_87 : decode cX0_tells 87 = .ok (.ireturn, 1) := by decide +kernel
theorem dX0_tells_88 : decode cX0_tells 88 = .ok (.bipush 100, 2) := by decide +kernel
theorem dX0_tells_90 : decode cX0_tells 90 = .ok (.aload_n 0, 1) := by decide +kernel
theorem dX0_tells_91 : decode cX0_tells 91 = .ok (.getfield 15, 3) := by decide +kernel
theorem dX0_tells_94 : decode cX0_tells 94 = .ok (.iload_n 1, 1) := by decide +kernel
theorem dX0_tells_95 : decode cX0_tells 95 = .ok (.iaload, 1) := by decide +kernel
theorem dX0_tells_96 : decode cX0_tells 96 = .ok (.imul, 1) := by decide +kernel
theorem dX0_tells_97 : decode cX0_tells 97 = .ok (.aload_n 0, 1) := by decide +kernel
theorem dX0_tells_98 : decode cX0_tells 98 = .ok (.getfield 18, 3) := by decide +kernel
theorem dX0_tells_101 : decode cX0_tells 101 = .ok (.iload_n 1, 1) := by decide +kernel
theorem dX0_tells_102 : decode cX0_tells 102 = .ok (.iaload, 1) := by decide +kernel
theorem dX0_tells_103 : decode cX0_tells 103 = .ok (.iadd, 1) := by decide +kernel
theorem dX0_tells_104 : decode cX0_tells 104 = .ok (.ireturn, 1) := by decide +kernel
theorem dX0_figuresOf_0 : decode cX0_figuresOf 0 = .ok (.iload_n 0, 1) := by decide +kernel
theorem dX0_figuresOf_1 : decode cX0_figuresOf 1 = .ok (.bipush 63, 2) := by decide +kernel
theorem dX0_figuresOf_3 : decode cX0_figuresOf 3 = .ok (.if_icmp .ne 8, 3) := by decide +kernel
theorem dX0_figuresOf_6 : decode cX0_figuresOf 6 = .ok (.bipush 10, 2) := by decide +kernel
theorem dX0_figuresOf_8 : decode cX0_figuresOf 8 = .ok (.goto 14, 3) := by decide +kernel
theorem dX0_figuresOf_11 : decode cX0_figuresOf 11 = .ok (.iload_n 0, 1) := by decide +kernel
theorem dX0_figuresOf_12 : decode cX0_figuresOf 12 = .ok (.bipush 120, 2) := by decide +kernel
theorem dX0_figuresOf_14 : decode cX0_figuresOf 14 = .ok (.if_icmp .ne 7, 3) := by decide +kernel
theorem dX0_figuresOf_17 : decode cX0_figuresOf 17 = .ok (.iconst 2, 1) := by decide +kernel
theorem dX0_figuresOf_18 : decode cX0_figuresOf 18 = .ok (.goto 4, 3) := by decide +kernel
theorem dX0_figuresOf_21 : decode cX0_figuresOf 21 = .ok (.iconst 1, 1) := by decide +kernel
theorem dX0_figuresOf_22 : decode cX0_figuresOf 22 = .ok (.ireturn, 1) := by decide +kernel
theorem dX0_fits_0 : decode cX0_fits 0 = .ok (.iload_n 0, 1) := by decide +kernel
theorem dX0_fits_1 : decode cX0_fits 1 = .ok (.bipush 120, 2) := by decide +kernel
theorem dX0_fits_3 : decode cX0_fits 3 = .ok (.if_icmp .ne 20, 3) := by decide +kernel
theorem dX0_fits_6 : decode cX0_fits 6 = .ok (.iload_n 1, 1) := by decide +kernel
theorem dX0_fits_7 : decode cX0_fits 7 = .ok (.iconst 3, 1) := by decide +kernel
theorem dX0_fits_8 : decode cX0_fits 8 = .ok (.if_icmp .eq 9, 3) := by decide +kernel
theorem dX0_fits_11 : decode cX0_fits 11 = .ok (.iload_n 1, 1) := by decide +kernel
theorem dX0_fits_12 : decode cX0_fits 12 = .ok (.bipush 8, 2) := by decide +kernel
theorem dX0_fits_14 : decode cX0_fits 14 = .ok (.if_icmp .ne 7, 3) := by decide +kernel
theorem dX0_fits_17 : decode cX0_fits 17 = .ok (.iconst 1, 1) := by decide +kernel
theorem dX0_fits_18 : decode cX0_fits 18 = .ok (.goto 4, 3) := by decide +kernel
theorem dX0_fits_21 : decode cX0_fits 21 = .ok (.iconst 0, 1) := by decide +kernel
theorem dX0_fits_22 : decode cX0_fits 22 = .ok (.ireturn, 1) := by decide +kernel
theorem dX0_fits_23 : decode cX0_fits 23 = .ok (.iload_n 0, 1) := by decide +kernel
theorem dX0_fits_24 : decode cX0_fits 24 = .ok (.bipush 63, 2) := by decide +kernel
theorem dX0_fits_26 : decode cX0_fits 26 = .ok (.if_icmp .eq 11, 3) := by decide +kernel
theorem dX0_fits_29 : decode cX0_fits 29 = .ok (.iload_n 0, 1) := by decide +kernel
theorem dX0_fits_30 : decode cX0_fits 30 = .ok (.bipush 48, 2) := by decide +kernel
theorem dX0_fits_32 : decode cX0_fits 32 = .ok (.isub, 1) := by decide +kernel
theorem dX0_fits_33 : decode cX0_fits 33 = .ok (.iload_n 1, 1) := by decide +kernel
theorem dX0_fits_34 : decode cX0_fits 34 = .ok (.if_icmp .ne 7, 3) := by decide +kernel
theorem dX0_fits_37 : decode cX0_fits 37 = .ok (.iconst 1, 1) := by decide +kernel
theorem dX0_fits_38 : decode cX0_fits 38 = .ok (.goto 4, 3) := by decide +kernel
theorem dX0_fits_41 : decode cX0_fits 41 = .ok (.iconst 0, 1) := by decide +kernel
theorem dX0_fits_42 : decode cX0_fits 42 = .ok (.ireturn, 1) := by decide +kernel
theorem dX0_allows_0 : decode cX0_allows 0 = .ok (.aload_n 0, 1) := by decide +kernel
theorem dX0_allows_1 : decode cX0_allows 1 = .ok (.getfield 9, 3) := by decide +kernel
theorem dX0_allows_4 : decode cX0_allows 4 = .ok (.iload_n 1, 1) := by decide +kernel
theorem dX0_allows_5 : decode cX0_allows 5 = .ok (.iaload, 1) := by decide +kernel
theorem dX0_allows_6 : decode cX0_allows 6 = .ok (.tableswitch 192 0 5 #[38, 64, 102, 134, 151, 162], 38) := by decide +kernel
theorem dX0_allows_44 : decode cX0_allows 44 = .ok (.iload_n 2, 1) := by decide +kernel
theorem dX0_allows_45 : decode cX0_allows 45 = .ok (.aload_n 0, 1) := by decide +kernel
theorem dX0_allows_46 : decode cX0_allows 46 = .ok (.getfield 15, 3) := by decide +kernel
theorem dX0_allows_49 : decode cX0_allows 49 = .ok (.iload_n 1, 1) := by decide +kernel
theorem dX0_allows_50 : decode cX0_allows 50 = .ok (.iaload, 1) := by decide +kernel
theorem dX0_allows_51 : decode cX0_allows 51 = .ok (.if_icmp .lt 17, 3) := by decide +kernel
theorem dX0_allows_54 : decode cX0_allows 54 = .ok (.iload_n 2, 1) := by decide +kernel
theorem dX0_allows_55 : decode cX0_allows 55 = .ok (.aload_n 0, 1) := by decide +kernel
theorem dX0_allows_56 : decode cX0_allows 56 = .ok (.getfield 18, 3) := by decide +kernel
theorem dX0_allows_59 : decode cX0_allows 59 = .ok (.iload_n 1, 1) := by decide +kernel
theorem dX0_allows_60 : decode cX0_allows 60 = .ok (.iaload, 1) := by decide +kernel
theorem dX0_allows_61 : decode cX0_allows 61 = .ok (.if_icmp .gt 7, 3) := by decide +kernel
theorem dX0_allows_64 : decode cX0_allows 64 = .ok (.iconst 1, 1) := by decide +kernel
theorem dX0_allows_65 : decode cX0_allows 65 = .ok (.goto 4, 3) := by decide +kernel
theorem dX0_allows_68 : decode cX0_allows 68 = .ok (.iconst 0, 1) := by decide +kernel
theorem dX0_allows_69 : decode cX0_allows 69 = .ok (.ireturn, 1) := by decide +kernel
theorem dX0_allows_70 : decode cX0_allows 70 = .ok (.aload_n 0, 1) := by decide +kernel
theorem dX0_allows_71 : decode cX0_allows 71 = .ok (.getfield 15, 3) := by decide +kernel
theorem dX0_allows_74 : decode cX0_allows 74 = .ok (.iload_n 1, 1) := by decide +kernel
theorem dX0_allows_75 : decode cX0_allows 75 = .ok (.iaload, 1) := by decide +kernel
theorem dX0_allows_76 : decode cX0_allows 76 = .ok (.iload_n 2, 1) := by decide +kernel
theorem dX0_allows_77 : decode cX0_allows 77 = .ok (.bipush 10, 2) := by decide +kernel
theorem dX0_allows_79 : decode cX0_allows 79 = .ok (.idiv, 1) := by decide +kernel
theorem dX0_allows_80 : decode cX0_allows 80 = .ok (.invokestatic 44, 3) := by decide +kernel
theorem dX0_allows_83 : decode cX0_allows 83 = .ok (.ifCond .eq 23, 3) := by decide +kernel
theorem dX0_allows_86 : decode cX0_allows 86 = .ok (.aload_n 0, 1) := by decide +kernel
theorem dX0_allows_87 : decode cX0_allows 87 = .ok (.getfield 18, 3) := by decide +kernel
theorem dX0_allows_90 : decode cX0_allows 90 = .ok (.iload_n 1, 1) := by decide +kernel
theorem dX0_allows_91 : decode cX0_allows 91 = .ok (.iaload, 1) := by decide +kernel
theorem dX0_allows_92 : decode cX0_allows 92 = .ok (.iload_n 2, 1) := by decide +kernel
theorem dX0_allows_93 : decode cX0_allows 93 = .ok (.bipush 10, 2) := by decide +kernel
theorem dX0_allows_95 : decode cX0_allows 95 = .ok (.irem, 1) := by decide +kernel
theorem dX0_allows_96 : decode cX0_allows 96 = .ok (.invokestatic 44, 3) := by decide +kernel
theorem dX0_allows_99 : decode cX0_allows 99 = .ok (.ifCond .eq 7, 3) := by decide +kernel
theorem dX0_allows_102 : decode cX0_allows 102 = .ok (.iconst 1, 1) := by decide +kernel
theorem dX0_allows_103 : decode cX0_allows 103 = .ok (.goto 4, 3) := by decide +kernel
theorem dX0_allows_106 : decode cX0_allows 106 = .ok (.iconst 0, 1) := by decide +kernel
theorem dX0_allows_107 : decode cX0_allows 107 = .ok (.ireturn, 1) := by decide +kernel
theorem dX0_allows_108 : decode cX0_allows 108 = .ok (.aload_n 0, 1) := by decide +kernel
theorem dX0_allows_109 : decode cX0_allows 109 = .ok (.aload_n 0, 1) := by decide +kernel
theorem dX0_allows_110 : decode cX0_allows 110 = .ok (.getfield 15, 3) := by decide +kernel
theorem dX0_allows_113 : decode cX0_allows 113 = .ok (.iload_n 1, 1) := by decide +kernel
theorem dX0_allows_114 : decode cX0_allows 114 = .ok (.iaload, 1) := by decide +kernel
theorem dX0_allows_115 : decode cX0_allows 115 = .ok (.invokevirtual 48, 3) := by decide +kernel
theorem dX0_allows_118 : decode cX0_allows 118 = .ok (.ifCond .eq 20, 3) := by decide +kernel
theorem dX0_allows_121 : decode cX0_allows 121 = .ok (.aload_n 0, 1) := by decide +kernel
theorem dX0_allows_122 : decode cX0_allows 122 = .ok (.aload_n 0, 1) := by decide +kernel
theorem dX0_allows_123 : decode cX0_allows 123 = .ok (.getfield 18, 3) := by decide +kernel
theorem dX0_allows_126 : decode cX0_allows 126 = .ok (.iload_n 1, 1) := by decide +kernel
theorem dX0_allows_127 : decode cX0_allows 127 = .ok (.iaload, 1) := by decide +kernel
theorem dX0_allows_128 : decode cX0_allows 128 = .ok (.invokevirtual 48, 3) := by decide +kernel
theorem dX0_allows_131 : decode cX0_allows 131 = .ok (.ifCond .eq 7, 3) := by decide +kernel
theorem dX0_allows_134 : decode cX0_allows 134 = .ok (.iconst 1, 1) := by decide +kernel
theorem dX0_allows_135 : decode cX0_allows 135 = .ok (.goto 4, 3) := by decide +kernel
theorem dX0_allows_138 : decode cX0_allows 138 = .ok (.iconst 0, 1) := by decide +kernel
theorem dX0_allows_139 : decode cX0_allows 139 = .ok (.ireturn, 1) := by decide +kernel
theorem dX0_allows_140 : decode cX0_allows 140 = .ok (.aload_n 0, 1) := by decide +kernel
theorem dX0_allows_141 : decode cX0_allows 141 = .ok (.getfield 25, 3) := by decide +kernel
theorem dX0_allows_144 : decode cX0_allows 144 = .ok (.iload_n 2, 1) := by decide +kernel
theorem dX0_allows_145 : decode cX0_allows 145 = .ok (.invokevirtual 52, 3) := by decide +kernel
theorem dX0_allows_148 : decode cX0_allows 148 = .ok (.ifCond .le 7, 3) := by decide +kernel
theorem dX0_allows_151 : decode cX0_allows 151 = .ok (.iconst 1, 1) := by decide +kernel
theorem dX0_allows_152 : decode cX0_allows 152 = .ok (.goto 4, 3) := by decide +kernel
theorem dX0_allows_155 : decode cX0_allows 155 = .ok (.iconst 0, 1) := by decide +kernel
theorem dX0_allows_156 : decode cX0_allows 156 = .ok (.ireturn, 1) := by decide +kernel
theorem dX0_allows_157 : decode cX0_allows 157 = .ok (.aload_n 0, 1) := by decide +kernel
theorem dX0_allows_158 : decode cX0_allows 158 = .ok (.aload_n 0, 1) := by decide +kernel
theorem dX0_allows_159 : decode cX0_allows 159 = .ok (.getfield 15, 3) := by decide +kernel
theorem dX0_allows_162 : decode cX0_allows 162 = .ok (.iload_n 1, 1) := by decide +kernel
theorem dX0_allows_163 : decode cX0_allows 163 = .ok (.iaload, 1) := by decide +kernel
theorem dX0_allows_164 : decode cX0_allows 164 = .ok (.invokevirtual 48, 3) := by decide +kernel
theorem dX0_allows_167 : decode cX0_allows 167 = .ok (.ireturn, 1) := by decide +kernel
theorem dX0_allows_168 : decode cX0_allows 168 = .ok (.iload_n 2, 1) := by decide +kernel
theorem dX0_allows_169 : decode cX0_allows 169 = .ok (.ifCond .eq 23, 3) := by decide +kernel
theorem dX0_allows_172 : decode cX0_allows 172 = .ok (.iload_n 2, 1) := by decide +kernel
theorem dX0_allows_173 : decode cX0_allows 173 = .ok (.aload_n 0, 1) := by decide +kernel
theorem dX0_allows_174 : decode cX0_allows 174 = .ok (.getfield 15, 3) := by decide +kernel
theorem dX0_allows_177 : decode cX0_allows 177 = .ok (.iload_n 1, 1) := by decide +kernel
theorem dX0_allows_178 : decode cX0_allows 178 = .ok (.iaload, 1) := by decide +kernel
theorem dX0_allows_179 : decode cX0_allows 179 = .ok (.if_icmp .lt 17, 3) := by decide +kernel
theorem dX0_allows_182 : decode cX0_allows 182 = .ok (.iload_n 2, 1) := by decide +kernel
theorem dX0_allows_183 : decode cX0_allows 183 = .ok (.aload_n 0, 1) := by decide +kernel
theorem dX0_allows_184 : decode cX0_allows 184 = .ok (.getfield 18, 3) := by decide +kernel
theorem dX0_allows_187 : decode cX0_allows 187 = .ok (.iload_n 1, 1) := by decide +kernel
theorem dX0_allows_188 : decode cX0_allows 188 = .ok (.iaload, 1) := by decide +kernel
theorem dX0_allows_189 : decode cX0_allows 189 = .ok (.if_icmp .gt 7, 3) := by decide +kernel
theorem dX0_allows_192 : decode cX0_allows 192 = .ok (.iconst 1, 1) := by decide +kernel
theorem dX0_allows_193 : decode cX0_allows 193 = .ok (.goto 4, 3) := by decide +kernel
theorem dX0_allows_196 : decode cX0_allows 196 = .ok (.iconst 0, 1) := by decide +kernel
theorem dX0_allows_197 : decode cX0_allows 197 = .ok (.ireturn, 1) := by decide +kernel
theorem dX0_allows_198 : decode cX0_allows 198 = .ok (.iconst 0, 1) := by decide +kernel
theorem dX0_allows_199 : decode cX0_allows 199 = .ok (.ireturn, 1) := by decide +kernel
theorem dX0_looksAtOthers_0 : decode cX0_looksAtOthers 0 = .ok (.aload_n 0, 1) := by decide +kernel
theorem dX0_looksAtOthers_1 : decode cX0_looksAtOthers 1 = .ok (.getfield 9, 3) := by decide +kernel
theorem dX0_looksAtOthers_4 : decode cX0_looksAtOthers 4 = .ok (.iload_n 1, 1) := by decide +kernel
theorem dX0_looksAtOthers_5 : decode cX0_looksAtOthers 5 = .ok (.iaload, 1) := by decide +kernel
theorem dX0_looksAtOthers_6 : decode cX0_looksAtOthers 6 = .ok (.iconst 2, 1) := by decide +kernel
theorem dX0_looksAtOthers_7 : decode cX0_looksAtOthers 7 = .ok (.if_icmp .eq 23, 3) := by decide +kernel
theorem dX0_looksAtOthers_10 : decode cX0_looksAtOthers 10 = .ok (.aload_n 0, 1) := by decide +kernel
theorem dX0_looksAtOthers_11 : decode cX0_looksAtOthers 11 = .ok (.getfield 9, 3) := by decide +kernel
theorem dX0_looksAtOthers_14 : decode cX0_looksAtOthers 14 = .ok (.iload_n 1, 1) := by decide +kernel
theorem dX0_looksAtOthers_15 : decode cX0_looksAtOthers 15 = .ok (.iaload, 1) := by decide +kernel
theorem dX0_looksAtOthers_16 : decode cX0_looksAtOthers 16 = .ok (.iconst 3, 1) := by decide +kernel
theorem dX0_looksAtOthers_17 : decode cX0_looksAtOthers 17 = .ok (.if_icmp .eq 13, 3) := by decide +kernel
theorem dX0_looksAtOthers_20 : decode cX0_looksAtOthers 20 = .ok (.aload_n 0, 1) := by decide +kernel
theorem dX0_looksAtOthers_21 : decode cX0_looksAtOthers 21 = .ok (.getfield 9, 3) := by decide +kernel
theorem dX0_looksAtOthers_24 : decode cX0_looksAtOthers 24 = .ok (.iload_n 1, 1) := by decide +kernel
theorem dX0_looksAtOthers_25 : decode cX0_looksAtOthers 25 = .ok (.iaload, 1) := by decide +kernel
theorem dX0_looksAtOthers_26 : decode cX0_looksAtOthers 26 = .ok (.iconst 4, 1) := by decide +kernel
theorem dX0_looksAtOthers_27 : decode cX0_looksAtOthers 27 = .ok (.if_icmp .ne 7, 3) := by decide +kernel
theorem dX0_looksAtOthers_30 : decode cX0_looksAtOthers 30 = .ok (.iconst 1, 1) := by decide +kernel
theorem dX0_looksAtOthers_31 : decode cX0_looksAtOthers 31 = .ok (.goto 4, 3) := by decide +kernel
theorem dX0_looksAtOthers_34 : decode cX0_looksAtOthers 34 = .ok (.iconst 0, 1) := by decide +kernel
theorem dX0_looksAtOthers_35 : decode cX0_looksAtOthers 35 = .ok (.ireturn, 1) := by decide +kernel
theorem dX0_holdsAmong_0 : decode cX0_holdsAmong 0 = .ok (.aload_n 0, 1) := by decide +kernel
theorem dX0_holdsAmong_1 : decode cX0_holdsAmong 1 = .ok (.getfield 9, 3) := by decide +kernel
theorem dX0_holdsAmong_4 : decode cX0_holdsAmong 4 = .ok (.iload_n 1, 1) := by decide +kernel
theorem dX0_holdsAmong_5 : decode cX0_holdsAmong 5 = .ok (.iaload, 1) := by decide +kernel
theorem dX0_holdsAmong_6 : decode cX0_holdsAmong 6 = .ok (.tableswitch 100 2 4 #[26, 55, 80], 26) := by decide +kernel
theorem dX0_holdsAmong_32 : decode cX0_holdsAmong 32 = .ok (.aload_n 2, 1) := by decide +kernel
theorem dX0_holdsAmong_33 : decode cX0_holdsAmong 33 = .ok (.iload_n 1, 1) := by decide +kernel
theorem dX0_holdsAmong_34 : decode cX0_holdsAmong 34 = .ok (.iaload, 1) := by decide +kernel
theorem dX0_holdsAmong_35 : decode cX0_holdsAmong 35 = .ok (.aload_n 2, 1) := by decide +kernel
theorem dX0_holdsAmong_36 : decode cX0_holdsAmong 36 = .ok (.aload_n 0, 1) := by decide +kernel
theorem dX0_holdsAmong_37 : decode cX0_holdsAmong 37 = .ok (.getfield 15, 3) := by decide +kernel
theorem dX0_holdsAmong_40 : decode cX0_holdsAmong 40 = .ok (.iload_n 1, 1) := by decide +kernel
theorem dX0_holdsAmong_41 : decode cX0_holdsAmong 41 = .ok (.iaload, 1) := by decide +kernel
theorem dX0_holdsAmong_42 : decode cX0_holdsAmong 42 = .ok (.iaload, 1) := by decide +kernel
theorem dX0_holdsAmong_43 : decode cX0_holdsAmong 43 = .ok (.aload_n 2, 1) := by decide +kernel
theorem dX0_holdsAmong_44 : decode cX0_holdsAmong 44 = .ok (.aload_n 0, 1) := by decide +kernel
theorem dX0_holdsAmong_45 : decode cX0_holdsAmong 45 = .ok (.getfield 18, 3) := by decide +kernel
theorem dX0_holdsAmong_48 : decode cX0_holdsAmong 48 = .ok (.iload_n 1, 1) := by decide +kernel
theorem dX0_holdsAmong_49 : decode cX0_holdsAmong 49 = .ok (.iaload, 1) := by decide +kernel
theorem dX0_holdsAmong_50 : decode cX0_holdsAmong 50 = .ok (.iaload, 1) := by decide +kernel
theorem dX0_holdsAmong_51 : decode cX0_holdsAmong 51 = .ok (.imul, 1) := by decide +kernel
theorem dX0_holdsAmong_52 : decode cX0_holdsAmong 52 = .ok (.if_icmp .ne 7, 3) := by decide +kernel
theorem dX0_holdsAmong_55 : decode cX0_holdsAmong 55 = .ok (.iconst 1, 1) := by decide +kernel
theorem dX0_holdsAmong_56 : decode cX0_holdsAmong 56 = .ok (.goto 4, 3) := by decide +kernel
theorem dX0_holdsAmong_59 : decode cX0_holdsAmong 59 = .ok (.iconst 0, 1) := by decide +kernel
theorem dX0_holdsAmong_60 : decode cX0_holdsAmong 60 = .ok (.ireturn, 1) := by decide +kernel
theorem dX0_holdsAmong_61 : decode cX0_holdsAmong 61 = .ok (.aload_n 0, 1) := by decide +kernel
theorem dX0_holdsAmong_62 : decode cX0_holdsAmong 62 = .ok (.getfield 25, 3) := by decide +kernel
theorem dX0_holdsAmong_65 : decode cX0_holdsAmong 65 = .ok (.aload_n 2, 1) := by decide +kernel
theorem dX0_holdsAmong_66 : decode cX0_holdsAmong 66 = .ok (.iload_n 1, 1) := by decide +kernel
theorem dX0_holdsAmong_67 : decode cX0_holdsAmong 67 = .ok (.iaload, 1) := by decide +kernel
theorem dX0_holdsAmong_68 : decode cX0_holdsAmong 68 = .ok (.invokevirtual 52, 3) := by decide +kernel
theorem dX0_holdsAmong_71 : decode cX0_holdsAmong 71 = .ok (.aload_n 0, 1) := by decide +kernel
theorem dX0_holdsAmong_72 : decode cX0_holdsAmong 72 = .ok (.iload_n 1, 1) := by decide +kernel
theorem dX0_holdsAmong_73 : decode cX0_holdsAmong 73 = .ok (.aload_n 2, 1) := by decide +kernel
theorem dX0_holdsAmong_74 : decode cX0_holdsAmong 74 = .ok (.invokevirtual 55, 3) := by decide +kernel
theorem dX0_holdsAmong_77 : decode cX0_holdsAmong 77 = .ok (.if_icmp .lt 7, 3) := by decide +kernel
theorem dX0_holdsAmong_80 : decode cX0_holdsAmong 80 = .ok (.iconst 1, 1) := by decide +kernel
theorem dX0_holdsAmong_81 : decode cX0_holdsAmong 81 = .ok (.goto 4, 3) := by decide +kernel
theorem dX0_holdsAmong_84 : decode cX0_holdsAmong 84 = .ok (.iconst 0, 1) := by decide +kernel
theorem dX0_holdsAmong_85 : decode cX0_holdsAmong 85 = .ok (.ireturn, 1) := by decide +kernel
theorem dX0_holdsAmong_86 : decode cX0_holdsAmong 86 = .ok (.aload_n 2, 1) := by decide +kernel
theorem dX0_holdsAmong_87 : decode cX0_holdsAmong 87 = .ok (.iload_n 1, 1) := by decide +kernel
theorem dX0_holdsAmong_88 : decode cX0_holdsAmong 88 = .ok (.iaload, 1) := by decide +kernel
theorem dX0_holdsAmong_89 : decode cX0_holdsAmong 89 = .ok (.aload_n 2, 1) := by decide +kernel
theorem dX0_holdsAmong_90 : decode cX0_holdsAmong 90 = .ok (.aload_n 0, 1) := by decide +kernel
theorem dX0_holdsAmong_91 : decode cX0_holdsAmong 91 = .ok (.getfield 15, 3) := by decide +kernel
theorem dX0_holdsAmong_94 : decode cX0_holdsAmong 94 = .ok (.iload_n 1, 1) := by decide +kernel
theorem dX0_holdsAmong_95 : decode cX0_holdsAmong 95 = .ok (.iaload, 1) := by decide +kernel
theorem dX0_holdsAmong_96 : decode cX0_holdsAmong 96 = .ok (.iaload, 1) := by decide +kernel
theorem dX0_holdsAmong_97 : decode cX0_holdsAmong 97 = .ok (.if_icmp .le 7, 3) := by decide +kernel
theorem dX0_holdsAmong_100 : decode cX0_holdsAmong 100 = .ok (.iconst 1, 1) := by decide +kernel
theorem dX0_holdsAmong_101 : decode cX0_holdsAmong 101 = .ok (.goto 4, 3) := by decide +kernel
theorem dX0_holdsAmong_104 : decode cX0_holdsAmong 104 = .ok (.iconst 0, 1) := by decide +kernel
theorem dX0_holdsAmong_105 : decode cX0_holdsAmong 105 = .ok (.ireturn, 1) := by decide +kernel
theorem dX0_holdsAmong_106 : decode cX0_holdsAmong 106 = .ok (.iconst 1, 1) := by decide +kernel
theorem dX0_holdsAmong_107 : decode cX0_holdsAmong 107 = .ok (.ireturn, 1) := by decide +kernel
theorem dX0_sameUpTo_0 : decode cX0_sameUpTo 0 = .ok (.iconst 0, 1) := by decide +kernel
theorem dX0_sameUpTo_1 : decode cX0_sameUpTo 1 = .ok (.istore_n 3, 1) := by decide +kernel
theorem dX0_sameUpTo_2 : decode cX0_sameUpTo 2 = .ok (.iconst 0, 1) := by decide +kernel
theorem dX0_sameUpTo_3 : decode cX0_sameUpTo 3 = .ok (.istore 4, 2) := by decide +kernel
theorem dX0_sameUpTo_5 : decode cX0_sameUpTo 5 = .ok (.iload 4, 2) := by decide +kernel
theorem dX0_sameUpTo_7 : decode cX0_sameUpTo 7 = .ok (.iload_n 1, 1) := by decide +kernel
theorem dX0_sameUpTo_8 : decode cX0_sameUpTo 8 = .ok (.if_icmp .gt 33, 3) := by decide +kernel
theorem dX0_sameUpTo_11 : decode cX0_sameUpTo 11 = .ok (.aload_n 0, 1) := by decide +kernel
theorem dX0_sameUpTo_12 : decode cX0_sameUpTo 12 = .ok (.getfield 9, 3) := by decide +kernel
theorem dX0_sameUpTo_15 : decode cX0_sameUpTo 15 = .ok (.iload 4, 2) := by decide +kernel
theorem dX0_sameUpTo_17 : decode cX0_sameUpTo 17 = .ok (.iaload, 1) := by decide +kernel
theorem dX0_sameUpTo_18 : decode cX0_sameUpTo 18 = .ok (.iconst 3, 1) := by decide +kernel
theorem dX0_sameUpTo_19 : decode cX0_sameUpTo 19 = .ok (.if_icmp .ne 16, 3) := by decide +kernel
theorem dX0_sameUpTo_22 : decode cX0_sameUpTo 22 = .ok (.aload_n 2, 1) := by decide +kernel
theorem dX0_sameUpTo_23 : decode cX0_sameUpTo 23 = .ok (.iload 4, 2) := by decide +kernel
theorem dX0_sameUpTo_25 : decode cX0_sameUpTo 25 = .ok (.iaload, 1) := by decide +kernel
theorem dX0_sameUpTo_26 : decode cX0_sameUpTo 26 = .ok (.aload_n 2, 1) := by decide +kernel
theorem dX0_sameUpTo_27 : decode cX0_sameUpTo 27 = .ok (.iload_n 1, 1) := by decide +kernel
theorem dX0_sameUpTo_28 : decode cX0_sameUpTo 28 = .ok (.iaload, 1) := by decide +kernel
theorem dX0_sameUpTo_29 : decode cX0_sameUpTo 29 = .ok (.if_icmp .ne 6, 3) := by decide +kernel
theorem dX0_sameUpTo_32 : decode cX0_sameUpTo 32 = .ok (.iinc 3 1, 3) := by decide +kernel
theorem dX0_sameUpTo_35 : decode cX0_sameUpTo 35 = .ok (.iinc 4 1, 3) := by decide +kernel
theorem dX0_sameUpTo_38 : decode cX0_sameUpTo 38 = .ok (.goto (-33), 3) := by decide +kernel
theorem dX0_sameUpTo_41 : decode cX0_sameUpTo 41 = .ok (.iload_n 3, 1) := by decide +kernel
theorem dX0_sameUpTo_42 : decode cX0_sameUpTo 42 = .ok (.ireturn, 1) := by decide +kernel
theorem dX0_lastNamed_0 : decode cX0_lastNamed 0 = .ok (.aload_n 0, 1) := by decide +kernel
theorem dX0_lastNamed_1 : decode cX0_lastNamed 1 = .ok (.getfield 9, 3) := by decide +kernel
theorem dX0_lastNamed_4 : decode cX0_lastNamed 4 = .ok (.iload_n 1, 1) := by decide +kernel
theorem dX0_lastNamed_5 : decode cX0_lastNamed 5 = .ok (.iaload, 1) := by decide +kernel
theorem dX0_lastNamed_6 : decode cX0_lastNamed 6 = .ok (.lookupswitch 57 #[(2, 26), (4, 46)], 26) := by decide +kernel
theorem dX0_lastNamed_32 : decode cX0_lastNamed 32 = .ok (.iload_n 1, 1) := by decide +kernel
theorem dX0_lastNamed_33 : decode cX0_lastNamed 33 = .ok (.aload_n 0, 1) := by decide +kernel
theorem dX0_lastNamed_34 : decode cX0_lastNamed 34 = .ok (.getfield 15, 3) := by decide +kernel
theorem dX0_lastNamed_37 : decode cX0_lastNamed 37 = .ok (.iload_n 1, 1) := by decide +kernel
theorem dX0_lastNamed_38 : decode cX0_lastNamed 38 = .ok (.iaload, 1) := by decide +kernel
theorem dX0_lastNamed_39 : decode cX0_lastNamed 39 = .ok (.aload_n 0, 1) := by decide +kernel
theorem dX0_lastNamed_40 : decode cX0_lastNamed 40 = .ok (.getfield 18, 3) := by decide +kernel
theorem dX0_lastNamed_43 : decode cX0_lastNamed 43 = .ok (.iload_n 1, 1) := by decide +kernel
theorem dX0_lastNamed_44 : decode cX0_lastNamed 44 = .ok (.iaload, 1) := by decide +kernel
theorem dX0_lastNamed_45 : decode cX0_lastNamed 45 = .ok (.invokestatic 59, 3) := by decide +kernel
theorem dX0_lastNamed_48 : decode cX0_lastNamed 48 = .ok (.invokestatic 59, 3) := by decide +kernel
theorem dX0_lastNamed_51 : decode cX0_lastNamed 51 = .ok (.ireturn, 1) := by decide +kernel
theorem dX0_lastNamed_52 : decode cX0_lastNamed 52 = .ok (.iload_n 1, 1) := by decide +kernel
theorem dX0_lastNamed_53 : decode cX0_lastNamed 53 = .ok (.aload_n 0, 1) := by decide +kernel
theorem dX0_lastNamed_54 : decode cX0_lastNamed 54 = .ok (.getfield 15, 3) := by decide +kernel
theorem dX0_lastNamed_57 : decode cX0_lastNamed 57 = .ok (.iload_n 1, 1) := by decide +kernel
theorem dX0_lastNamed_58 : decode cX0_lastNamed 58 = .ok (.iaload, 1) := by decide +kernel
theorem dX0_lastNamed_59 : decode cX0_lastNamed 59 = .ok (.invokestatic 59, 3) := by decide +kernel
theorem dX0_lastNamed_62 : decode cX0_lastNamed 62 = .ok (.ireturn, 1) := by decide +kernel
theorem dX0_lastNamed_63 : decode cX0_lastNamed 63 = .ok (.iload_n 1, 1) := by decide +kernel
theorem dX0_lastNamed_64 : decode cX0_lastNamed 64 = .ok (.ireturn, 1) := by decide +kernel
theorem dX0_isRightIn_0 : decode cX0_isRightIn 0 = .ok (.aload_n 0, 1) := by decide +kernel
theorem dX0_isRightIn_1 : decode cX0_isRightIn 1 = .ok (.iload_n 1, 1) := by decide +kernel
theorem dX0_isRightIn_2 : decode cX0_isRightIn 2 = .ok (.invokevirtual 48, 3) := by decide +kernel
theorem dX0_isRightIn_5 : decode cX0_isRightIn 5 = .ok (.ifCond .ne 16, 3) := by decide +kernel
theorem dX0_isRightIn_8 : decode cX0_isRightIn 8 = .ok (.aload_n 2, 1) := by decide +kernel
theorem dX0_isRightIn_9 : decode cX0_isRightIn 9 = .ok (.iload_n 1, 1) := by decide +kernel
theorem dX0_isRightIn_10 : decode cX0_isRightIn 10 = .ok (.iaload, 1) := by decide +kernel
theorem dX0_isRightIn_11 : decode cX0_isRightIn 11 = .ok (.iconst (-1), 1) := by decide +kernel
theorem dX0_isRightIn_12 : decode cX0_isRightIn 12 = .ok (.if_icmp .ne 7, 3) := by decide +kernel
theorem dX0_isRightIn_15 : decode cX0_isRightIn 15 = .ok (.iconst 1, 1) := by decide +kernel
theorem dX0_isRightIn_16 : decode cX0_isRightIn 16 = .ok (.goto 4, 3) := by decide +kernel
theorem dX0_isRightIn_19 : decode cX0_isRightIn 19 = .ok (.iconst 0, 1) := by decide +kernel
theorem dX0_isRightIn_20 : decode cX0_isRightIn 20 = .ok (.ireturn, 1) := by decide +kernel
theorem dX0_isRightIn_21 : decode cX0_isRightIn 21 = .ok (.aload_n 2, 1) := by decide +kernel
theorem dX0_isRightIn_22 : decode cX0_isRightIn 22 = .ok (.iload_n 1, 1) := by decide +kernel
theorem dX0_isRightIn_23 : decode cX0_isRightIn 23 = .ok (.iaload, 1) := by decide +kernel
theorem dX0_isRightIn_24 : decode cX0_isRightIn 24 = .ok (.invokestatic 65, 3) := by decide +kernel
theorem dX0_isRightIn_27 : decode cX0_isRightIn 27 = .ok (.ifCond .eq 14, 3) := by decide +kernel
theorem dX0_isRightIn_30 : decode cX0_isRightIn 30 = .ok (.aload_n 0, 1) := by decide +kernel
theorem dX0_isRightIn_31 : decode cX0_isRightIn 31 = .ok (.iload_n 1, 1) := by decide +kernel
theorem dX0_isRightIn_32 : decode cX0_isRightIn 32 = .ok (.aload_n 2, 1) := by decide +kernel
theorem dX0_isRightIn_33 : decode cX0_isRightIn 33 = .ok (.iload_n 1, 1) := by decide +kernel
theorem dX0_isRightIn_34 : decode cX0_isRightIn 34 = .ok (.iaload, 1) := by decide +kernel
theorem dX0_isRightIn_35 : decode cX0_isRightIn 35 = .ok (.invokevirtual 68, 3) := by decide +kernel
theorem dX0_isRightIn_38 : decode cX0_isRightIn 38 = .ok (.ifCond .ne 5, 3) := by decide +kernel
theorem dX0_isRightIn_41 : decode cX0_isRightIn 41 = .ok (.iconst 0, 1) := by decide +kernel
theorem dX0_isRightIn_42 : decode cX0_isRightIn 42 = .ok (.ireturn, 1) := by decide +kernel
theorem dX0_isRightIn_43 : decode cX0_isRightIn 43 = .ok (.aload_n 0, 1) := by decide +kernel
theorem dX0_isRightIn_44 : decode cX0_isRightIn 44 = .ok (.getfield 9, 3) := by decide +kernel
theorem dX0_isRightIn_47 : decode cX0_isRightIn 47 = .ok (.iload_n 1, 1) := by decide +kernel
theorem dX0_isRightIn_48 : decode cX0_isRightIn 48 = .ok (.iaload, 1) := by decide +kernel
theorem dX0_isRightIn_49 : decode cX0_isRightIn 49 = .ok (.iconst 2, 1) := by decide +kernel
theorem dX0_isRightIn_50 : decode cX0_isRightIn 50 = .ok (.if_icmp .ne 19, 3) := by decide +kernel
theorem dX0_isRightIn_53 : decode cX0_isRightIn 53 = .ok (.aload_n 2, 1) := by decide +kernel
theorem dX0_isRightIn_54 : decode cX0_isRightIn 54 = .ok (.aload_n 0, 1) := by decide +kernel
theorem dX0_isRightIn_55 : decode cX0_isRightIn 55 = .ok (.getfield 18, 3) := by decide +kernel
theorem dX0_isRightIn_58 : decode cX0_isRightIn 58 = .ok (.iload_n 1, 1) := by decide +kernel
theorem dX0_isRightIn_59 : decode cX0_isRightIn 59 = .ok (.iaload, 1) := by decide +kernel
theorem dX0_isRightIn_60 : decode cX0_isRightIn 60 = .ok (.iaload, 1) := by decide +kernel
theorem dX0_isRightIn_61 : decode cX0_isRightIn 61 = .ok (.invokestatic 65, 3) := by decide +kernel
theorem dX0_isRightIn_64 : decode cX0_isRightIn 64 = .ok (.ifCond .ne 5, 3) := by decide +kernel
theorem dX0_isRightIn_67 : decode cX0_isRightIn 67 = .ok (.iconst 0, 1) := by decide +kernel
theorem dX0_isRightIn_68 : decode cX0_isRightIn 68 = .ok (.ireturn, 1) := by decide +kernel
theorem dX0_isRightIn_69 : decode cX0_isRightIn 69 = .ok (.aload_n 0, 1) := by decide +kernel
theorem dX0_isRightIn_70 : decode cX0_isRightIn 70 = .ok (.getfield 9, 3) := by decide +kernel
theorem dX0_isRightIn_73 : decode cX0_isRightIn 73 = .ok (.iload_n 1, 1) := by decide +kernel
theorem dX0_isRightIn_74 : decode cX0_isRightIn 74 = .ok (.iaload, 1) := by decide +kernel
theorem dX0_isRightIn_75 : decode cX0_isRightIn 75 = .ok (.iconst 2, 1) := by decide +kernel
theorem dX0_isRightIn_76 : decode cX0_isRightIn 76 = .ok (.if_icmp .eq 13, 3) := by decide +kernel
theorem dX0_isRightIn_79 : decode cX0_isRightIn 79 = .ok (.aload_n 0, 1) := by decide +kernel
theorem dX0_isRightIn_80 : decode cX0_isRightIn 80 = .ok (.getfield 9, 3) := by decide +kernel
theorem dX0_isRightIn_83 : decode cX0_isRightIn 83 = .ok (.iload_n 1, 1) := by decide +kernel
theorem dX0_isRightIn_84 : decode cX0_isRightIn 84 = .ok (.iaload, 1) := by decide +kernel
theorem dX0_isRightIn_85 : decode cX0_isRightIn 85 = .ok (.iconst 4, 1) := by decide +kernel
theorem dX0_isRightIn_86 : decode cX0_isRightIn 86 = .ok (.if_icmp .ne 19, 3) := by decide +kernel
theorem dX0_isRightIn_89 : decode cX0_isRightIn 89 = .ok (.aload_n 2, 1) := by decide +kernel
theorem dX0_isRightIn_90 : decode cX0_isRightIn 90 = .ok (.aload_n 0, 1) := by decide +kernel
theorem dX0_isRightIn_91 : decode cX0_isRightIn 91 = .ok (.getfield 15, 3) := by decide +kernel
theorem dX0_isRightIn_94 : decode cX0_isRightIn 94 = .ok (.iload_n 1, 1) := by decide +kernel
theorem dX0_isRightIn_95 : decode cX0_isRightIn 95 = .ok (.iaload, 1) := by decide +kernel
theorem dX0_isRightIn_96 : decode cX0_isRightIn 96 = .ok (.iaload, 1) := by decide +kernel
theorem dX0_isRightIn_97 : decode cX0_isRightIn 97 = .ok (.invokestatic 65, 3) := by decide +kernel
theorem dX0_isRightIn_100 : decode cX0_isRightIn 100 = .ok (.ifCond .ne 5, 3) := by decide +kernel
theorem dX0_isRightIn_103 : decode cX0_isRightIn 103 = .ok (.iconst 0, 1) := by decide +kernel
theorem dX0_isRightIn_104 : decode cX0_isRightIn 104 = .ok (.ireturn, 1) := by decide +kernel
theorem dX0_isRightIn_105 : decode cX0_isRightIn 105 = .ok (.aload_n 0, 1) := by decide +kernel
theorem dX0_isRightIn_106 : decode cX0_isRightIn 106 = .ok (.iload_n 1, 1) := by decide +kernel
theorem dX0_isRightIn_107 : decode cX0_isRightIn 107 = .ok (.aload_n 2, 1) := by decide +kernel
theorem dX0_isRightIn_108 : decode cX0_isRightIn 108 = .ok (.invokevirtual 71, 3) := by decide +kernel
theorem dX0_isRightIn_111 : decode cX0_isRightIn 111 = .ok (.ireturn, 1) := by decide +kernel
theorem dX1_init_0 : decode cX1_init 0 = .ok (.aload_n 0, 1) := by decide +kernel
theorem dX1_init_1 : decode cX1_init 1 = .ok (.invokespecial 3, 3) := by decide +kernel
theorem dX1_init_4 : decode cX1_init 4 = .ok (.aload_n 0, 1) := by decide +kernel
theorem dX1_init_5 : decode cX1_init 5 = .ok (.bipush 12, 2) := by decide +kernel
theorem dX1_init_7 : decode cX1_init 7 = .ok (.newarray .int, 2) := by decide +kernel
theorem dX1_init_9 : decode cX1_init 9 = .ok (.putfield 9, 3) := by decide +kernel
theorem dX1_init_12 : decode cX1_init 12 = .ok (.aload_n 0, 1) := by decide +kernel
theorem dX1_init_13 : decode cX1_init 13 = .ok (.bipush 100, 2) := by decide +kernel
theorem dX1_init_15 : decode cX1_init 15 = .ok (.newarray .int, 2) := by decide +kernel
theorem dX1_init_17 : decode cX1_init 17 = .ok (.putfield 15, 3) := by decide +kernel
theorem dX1_init_20 : decode cX1_init 20 = .ok (.aload_n 0, 1) := by decide +kernel
theorem dX1_init_21 : decode cX1_init 21 = .ok (.iconst 0, 1) := by decide +kernel
theorem dX1_init_22 : decode cX1_init 22 = .ok (.putfield 18, 3) := by decide +kernel
theorem dX1_init_25 : decode cX1_init 25 = .ok (.return_, 1) := by decide +kernel
theorem dX1_take_0 : decode cX1_take 0 = .ok (.iconst 0, 1) := by decide +kernel
theorem dX1_take_1 : decode cX1_take 1 = .ok (.istore_n 3, 1) := by decide +kernel
theorem dX1_take_2 : decode cX1_take 2 = .ok (.iload_n 3, 1) := by decide +kernel
theorem dX1_take_3 : decode cX1_take 3 = .ok (.bipush 100, 2) := by decide +kernel
theorem dX1_take_5 : decode cX1_take 5 = .ok (.if_icmp .ge 16, 3) := by decide +kernel
theorem dX1_take_8 : decode cX1_take 8 = .ok (.aload_n 0, 1) := by decide +kernel
theorem dX1_take_9 : decode cX1_take 9 = .ok (.getfield 15, 3) := by decide +kernel
theorem dX1_take_12 : decode cX1_take 12 = .ok (.iload_n 3, 1) := by decide +kernel
theorem dX1_take_13 : decode cX1_take 13 = .ok (.iconst 0, 1) := by decide +kernel
theorem dX1_take_14 : decode cX1_take 14 = .ok (.iastore, 1) := by decide +kernel
theorem dX1_take_15 : decode cX1_take 15 = .ok (.iinc 3 1, 3) := by decide +kernel
theorem dX1_take_18 : decode cX1_take 18 = .ok (.goto (-16), 3) := by decide +kernel
theorem dX1_take_21 : decode cX1_take 21 = .ok (.aload_n 0, 1) := by decide +kernel
theorem dX1_take_22 : decode cX1_take 22 = .ok (.aload_n 1, 1) := by decide +kernel
theorem dX1_take_23 : decode cX1_take 23 = .ok (.iload_n 2, 1) := by decide +kernel
theorem dX1_take_24 : decode cX1_take 24 = .ok (.invokevirtual 22, 3) := by decide +kernel
theorem dX1_take_27 : decode cX1_take 27 = .ok (.bipush 12, 2) := by decide +kernel
theorem dX1_take_29 : decode cX1_take 29 = .ok (.invokestatic 28, 3) := by decide +kernel
theorem dX1_take_32 : decode cX1_take 32 = .ok (.putfield 18, 3) := by decide +kernel
theorem dX1_take_35 : decode cX1_take 35 = .ok (.iconst 0, 1) := by decide +kernel
theorem dX1_take_36 : decode cX1_take 36 = .ok (.istore_n 3, 1) := by decide +kernel
theorem dX1_take_37 : decode cX1_take 37 = .ok (.iload_n 3, 1) := by decide +kernel
theorem dX1_take_38 : decode cX1_take 38 = .ok (.aload_n 0, 1) := by decide +kernel
theorem dX1_take_39 : decode cX1_take 39 = .ok (.getfield 18, 3) := by decide +kernel
theorem dX1_take_42 : decode cX1_take 42 = .ok (.if_icmp .ge 36, 3) := by decide +kernel
theorem dX1_take_45 : decode cX1_take 45 = .ok (.aload_n 0, 1) := by decide +kernel
theorem dX1_take_46 : decode cX1_take 46 = .ok (.getfield 9, 3) := by decide +kernel
theorem dX1_take_49 : decode cX1_take 49 = .ok (.iload_n 3, 1) := by decide +kernel
theorem dX1_take_50 : decode cX1_take 50 = .ok (.aload_n 1, 1) := by decide +kernel
theorem dX1_take_51 : decode cX1_take 51 = .ok (.iload_n 2, 1) := by decide +kernel
theorem dX1_take_52 : decode cX1_take 52 = .ok (.iload_n 3, 1) := by decide +kernel
theorem dX1_take_53 : decode cX1_take 53 = .ok (.invokevirtual 34, 3) := by decide +kernel
theorem dX1_take_56 : decode cX1_take 56 = .ok (.iastore, 1) := by decide +kernel
theorem dX1_take_57 : decode cX1_take 57 = .ok (.aload_n 0, 1) := by decide +kernel
theorem dX1_take_58 : decode cX1_take 58 = .ok (.getfield 15, 3) := by decide +kernel
theorem dX1_take_61 : decode cX1_take 61 = .ok (.aload_n 0, 1) := by decide +kernel
theorem dX1_take_62 : decode cX1_take 62 = .ok (.getfield 9, 3) := by decide +kernel
theorem dX1_take_65 : decode cX1_take 65 = .ok (.iload_n 3, 1) := by decide +kernel
theorem dX1_take_66 : decode cX1_take 66 = .ok (.iaload, 1) := by decide +kernel
theorem dX1_take_67 : decode cX1_take 67 = .ok (.dup2, 1) := by decide +kernel
theorem dX1_take_68 : decode cX1_take 68 = .ok (.iaload, 1) := by decide +kernel
theorem dX1_take_69 : decode cX1_take 69 = .ok (.iconst 1, 1) := by decide +kernel
theorem dX1_take_70 : decode cX1_take 70 = .ok (.iadd, 1) := by decide +kernel
theorem dX1_take_71 : decode cX1_take 71 = .ok (.iastore, 1) := by decide +kernel
theorem dX1_take_72 : decode cX1_take 72 = .ok (.iinc 3 1, 3) := by decide +kernel
theorem dX1_take_75 : decode cX1_take 75 = .ok (.goto (-38), 3) := by decide +kernel
theorem dX1_take_78 : decode cX1_take 78 = .ok (.return_, 1) := by decide +kernel
theorem dX1_howMany_0 : decode cX1_howMany 0 = .ok (.aload_n 0, 1) := by decide +kernel
theorem dX1_howMany_1 : decode cX1_howMany 1 = .ok (.getfield 18, 3) := by decide +kernel
theorem dX1_howMany_4 : decode cX1_howMany 4 = .ok (.ireturn, 1) := by decide +kernel
theorem dX1_numberAt_0 : decode cX1_numberAt 0 = .ok (.aload_n 0, 1) := by decide +kernel
theorem dX1_numberAt_1 : decode cX1_numberAt 1 = .ok (.getfield 9, 3) := by decide +kernel
theorem dX1_numberAt_4 : decode cX1_numberAt 4 = .ok (.iload_n 1, 1) := by decide +kernel
theorem dX1_numberAt_5 : decode cX1_numberAt 5 = .ok (.iaload, 1) := by decide +kernel
theorem dX1_numberAt_6 : decode cX1_numberAt 6 = .ok (.ireturn, 1) := by decide +kernel
theorem dX1_howOften_0 : decode cX1_howOften 0 = .ok (.aload_n 0, 1) := by decide +kernel
theorem dX1_howOften_1 : decode cX1_howOften 1 = .ok (.getfield 15, 3) := by decide +kernel
theorem dX1_howOften_4 : decode cX1_howOften 4 = .ok (.iload_n 1, 1) := by decide +kernel
theorem dX1_howOften_5 : decode cX1_howOften 5 = .ok (.iaload, 1) := by decide +kernel
theorem dX1_howOften_6 : decode cX1_howOften 6 = .ok (.ireturn, 1) := by decide +kernel
theorem dX1_howManyUnlike_0 : decode cX1_howManyUnlike 0 = .ok (.iconst 0, 1) := by decide +kernel
theorem dX1_howManyUnlike_1 : decode cX1_howManyUnlike 1 = .ok (.istore_n 1, 1) := by decide +kernel
theorem dX1_howManyUnlike_2 : decode cX1_howManyUnlike 2 = .ok (.iconst 0, 1) := by decide +kernel
theorem dX1_howManyUnlike_3 : decode cX1_howManyUnlike 3 = .ok (.istore_n 2, 1) := by decide +kernel
theorem dX1_howManyUnlike_4 : decode cX1_howManyUnlike 4 = .ok (.iload_n 2, 1) := by decide +kernel
theorem dX1_howManyUnlike_5 : decode cX1_howManyUnlike 5 = .ok (.bipush 100, 2) := by decide +kernel
theorem dX1_howManyUnlike_7 : decode cX1_howManyUnlike 7 = .ok (.if_icmp .ge 26, 3) := by decide +kernel
theorem dX1_howManyUnlike_10 : decode cX1_howManyUnlike 10 = .ok (.iload_n 1, 1) := by decide +kernel
theorem dX1_howManyUnlike_11 : decode cX1_howManyUnlike 11 = .ok (.aload_n 0, 1) := by decide +kernel
theorem dX1_howManyUnlike_12 : decode cX1_howManyUnlike 12 = .ok (.getfield 15, 3) := by decide +kernel
theorem dX1_howManyUnlike_15 : decode cX1_howManyUnlike 15 = .ok (.iload_n 2, 1) := by decide +kernel
theorem dX1_howManyUnlike_16 : decode cX1_howManyUnlike 16 = .ok (.iaload, 1) := by decide +kernel
theorem dX1_howManyUnlike_17 : decode cX1_howManyUnlike 17 = .ok (.ifCond .le 7, 3) := by decide +kernel
theorem dX1_howManyUnlike_20 : decode cX1_howManyUnlike 20 = .ok (.iconst 1, 1) := by decide +kernel
theorem dX1_howManyUnlike_21 : decode cX1_howManyUnlike 21 = .ok (.goto 4, 3) := by decide +kernel
theorem dX1_howManyUnlike_24 : decode cX1_howManyUnlike 24 = .ok (.iconst 0, 1) := by decide +kernel
theorem dX1_howManyUnlike_25 : decode cX1_howManyUnlike 25 = .ok (.iadd, 1) := by decide +kernel
theorem dX1_howManyUnlike_26 : decode cX1_howManyUnlike 26 = .ok (.istore_n 1, 1) := by decide +kernel
theorem dX1_howManyUnlike_27 : decode cX1_howManyUnlike 27 = .ok (.iinc 2 1, 3) := by decide +kernel
theorem dX1_howManyUnlike_30 : decode cX1_howManyUnlike 30 = .ok (.goto (-26), 3) := by decide +kernel
theorem dX1_howManyUnlike_33 : decode cX1_howManyUnlike 33 = .ok (.iload_n 1, 1) := by decide +kernel
theorem dX1_howManyUnlike_34 : decode cX1_howManyUnlike 34 = .ok (.ireturn, 1) := by decide +kernel
theorem dX1_mixInto_0 : decode cX1_mixInto 0 = .ok (.iconst 0, 1) := by decide +kernel
theorem dX1_mixInto_1 : decode cX1_mixInto 1 = .ok (.istore_n 3, 1) := by decide +kernel
theorem dX1_mixInto_2 : decode cX1_mixInto 2 = .ok (.iload_n 3, 1) := by decide +kernel
theorem dX1_mixInto_3 : decode cX1_mixInto 3 = .ok (.aload_n 0, 1) := by decide +kernel
theorem dX1_mixInto_4 : decode cX1_mixInto 4 = .ok (.getfield 18, 3) := by decide +kernel
theorem dX1_mixInto_7 : decode cX1_mixInto 7 = .ok (.if_icmp .ge 23, 3) := by decide +kernel
theorem dX1_mixInto_10 : decode cX1_mixInto 10 = .ok (.ldc2_w 37, 3) := by decide +kernel
theorem dX1_mixInto_13 : decode cX1_mixInto 13 = .ok (.lload_n 1, 1) := by decide +kernel
theorem dX1_mixInto_14 : decode cX1_mixInto 14 = .ok (.lmul, 1) := by decide +kernel
theorem dX1_mixInto_15 : decode cX1_mixInto 15 = .ok (.aload_n 0, 1) := by decide +kernel
theorem dX1_mixInto_16 : decode cX1_mixInto 16 = .ok (.getfield 9, 3) := by decide +kernel
theorem dX1_mixInto_19 : decode cX1_mixInto 19 = .ok (.iload_n 3, 1) := by decide +kernel
theorem dX1_mixInto_20 : decode cX1_mixInto 20 = .ok (.iaload, 1) := by decide +kernel
theorem dX1_mixInto_21 : decode cX1_mixInto 21 = .ok (.i2l, 1) := by decide +kernel
theorem dX1_mixInto_22 : decode cX1_mixInto 22 = .ok (.ladd, 1) := by decide +kernel
theorem dX1_mixInto_23 : decode cX1_mixInto 23 = .ok (.lstore_n 1, 1) := by decide +kernel
theorem dX1_mixInto_24 : decode cX1_mixInto 24 = .ok (.iinc 3 1, 3) := by decide +kernel
theorem dX1_mixInto_27 : decode cX1_mixInto 27 = .ok (.goto (-25), 3) := by decide +kernel
theorem dX1_mixInto_30 : decode cX1_mixInto 30 = .ok (.lload_n 1, 1) := by decide +kernel
theorem dX1_mixInto_31 : decode cX1_mixInto 31 = .ok (.lreturn, 1) := by decide +kernel
theorem dX2_init_0 : decode cX2_init 0 = .ok (.aload_n 0, 1) := by decide +kernel
theorem dX2_init_1 : decode cX2_init 1 = .ok (.invokespecial 3, 3) := by decide +kernel
theorem dX2_init_4 : decode cX2_init 4 = .ok (.aload_n 0, 1) := by decide +kernel
theorem dX2_init_5 : decode cX2_init 5 = .ok (.sipush 1200, 3) := by decide +kernel
theorem dX2_init_8 : decode cX2_init 8 = .ok (.newarray .boolean, 2) := by decide +kernel
theorem dX2_init_10 : decode cX2_init 10 = .ok (.putfield 9, 3) := by decide +kernel
theorem dX2_init_13 : decode cX2_init 13 = .ok (.aload_n 0, 1) := by decide +kernel
theorem dX2_init_14 : decode cX2_init 14 = .ok (.bipush 12, 2) := by decide +kernel
theorem dX2_init_16 : decode cX2_init 16 = .ok (.newarray .int, 2) := by decide +kernel
theorem dX2_init_18 : decode cX2_init 18 = .ok (.putfield 15, 3) := by decide +kernel
theorem dX2_init_21 : decode cX2_init 21 = .ok (.aload_n 0, 1) := by decide +kernel
theorem dX2_init_22 : decode cX2_init 22 = .ok (.bipush 12, 2) := by decide +kernel
theorem dX2_init_24 : decode cX2_init 24 = .ok (.newarray .int, 2) := by decide +kernel
theorem dX2_init_26 : decode cX2_init 26 = .ok (.putfield 19, 3) := by decide +kernel
theorem dX2_init_29 : decode cX2_init 29 = .ok (.aload_n 0, 1) := by decide +kernel
theorem dX2_init_30 : decode cX2_init 30 = .ok (.iconst 0, 1) := by decide +kernel
theorem dX2_init_31 : decode cX2_init 31 = .ok (.putfield 22, 3) := by decide +kernel
theorem dX2_init_34 : decode cX2_init 34 = .ok (.aload_n 0, 1) := by decide +kernel
theorem dX2_init_35 : decode cX2_init 35 = .ok (.iconst 0, 1) := by decide +kernel
theorem dX2_init_36 : decode cX2_init 36 = .ok (.putfield 26, 3) := by decide +kernel
theorem dX2_init_39 : decode cX2_init 39 = .ok (.aload_n 0, 1) := by decide +kernel
theorem dX2_init_40 : decode cX2_init 40 = .ok (.aload_n 1, 1) := by decide +kernel
theorem dX2_init_41 : decode cX2_init 41 = .ok (.putfield 29, 3) := by decide +kernel
theorem dX2_init_44 : decode cX2_init 44 = .ok (.aload_n 0, 1) := by decide +kernel
theorem dX2_init_45 : decode cX2_init 45 = .ok (.aload_n 2, 1) := by decide +kernel
theorem dX2_init_46 : decode cX2_init 46 = .ok (.putfield 33, 3) := by decide +kernel
theorem dX2_init_49 : decode cX2_init 49 = .ok (.return_, 1) := by decide +kernel
theorem dX2_lookAtFirst_0 : decode cX2_lookAtFirst 0 = .ok (.iconst 0, 1) := by decide +kernel
theorem dX2_lookAtFirst_1 : decode cX2_lookAtFirst 1 = .ok (.istore_n 1, 1) := by decide +kernel
theorem dX2_lookAtFirst_2 : decode cX2_lookAtFirst 2 = .ok (.iload_n 1, 1) := by decide +kernel
theorem dX2_lookAtFirst_3 : decode cX2_lookAtFirst 3 = .ok (.bipush 12, 2) := by decide +kernel
theorem dX2_lookAtFirst_5 : decode cX2_lookAtFirst 5 = .ok (.if_icmp .ge 54, 3) := by decide +kernel
theorem dX2_lookAtFirst_8 : decode cX2_lookAtFirst 8 = .ok (.iconst 0, 1) := by decide +kernel
theorem dX2_lookAtFirst_9 : decode cX2_lookAtFirst 9 = .ok (.istore_n 2, 1) := by decide +kernel
theorem dX2_lookAtFirst_10 : decode cX2_lookAtFirst 10 = .ok (.iload_n 2, 1) := by decide +kernel
theorem dX2_lookAtFirst_11 : decode cX2_lookAtFirst 11 = .ok (.bipush 100, 2) := by decide +kernel
theorem dX2_lookAtFirst_13 : decode cX2_lookAtFirst 13 = .ok (.if_icmp .ge 40, 3) := by decide +kernel
theorem dX2_lookAtFirst_16 : decode cX2_lookAtFirst 16 = .ok (.aload_n 0, 1) := by decide +kernel
theorem dX2_lookAtFirst_17 : decode cX2_lookAtFirst 17 = .ok (.getfield 29, 3) := by decide +kernel
theorem dX2_lookAtFirst_20 : decode cX2_lookAtFirst 20 = .ok (.iload_n 1, 1) := by decide +kernel
theorem dX2_lookAtFirst_21 : decode cX2_lookAtFirst 21 = .ok (.invokevirtual 37, 3) := by decide +kernel
theorem dX2_lookAtFirst_24 : decode cX2_lookAtFirst 24 = .ok (.ifCond .eq 29, 3) := by decide +kernel
theorem dX2_lookAtFirst_27 : decode cX2_lookAtFirst 27 = .ok (.aload_n 0, 1) := by decide +kernel
theorem dX2_lookAtFirst_28 : decode cX2_lookAtFirst 28 = .ok (.getfield 9, 3) := by decide +kernel
theorem dX2_lookAtFirst_31 : decode cX2_lookAtFirst 31 = .ok (.iload_n 1, 1) := by decide +kernel
theorem dX2_lookAtFirst_32 : decode cX2_lookAtFirst 32 = .ok (.bipush 100, 2) := by decide +kernel
theorem dX2_lookAtFirst_34 : decode cX2_lookAtFirst 34 = .ok (.imul, 1) := by decide +kernel
theorem dX2_lookAtFirst_35 : decode cX2_lookAtFirst 35 = .ok (.iload_n 2, 1) := by decide +kernel
theorem dX2_lookAtFirst_36 : decode cX2_lookAtFirst 36 = .ok (.iadd, 1) := by decide +kernel
theorem dX2_lookAtFirst_37 : decode cX2_lookAtFirst 37 = .ok (.aload_n 0, 1) := by decide +kernel
theorem dX2_lookAtFirst_38 : decode cX2_lookAtFirst 38 = .ok (.getfield 29, 3) := by decide +kernel
theorem dX2_lookAtFirst_41 : decode cX2_lookAtFirst 41 = .ok (.iload_n 1, 1) := by decide +kernel
theorem dX2_lookAtFirst_42 : decode cX2_lookAtFirst 42 = .ok (.iload_n 2, 1) := by decide +kernel
theorem dX2_lookAtFirst_43 : decode cX2_lookAtFirst 43 = .ok (.invokevirtual 43, 3) := by decide +kernel
theorem dX2_lookAtFirst_46 : decode cX2_lookAtFirst 46 = .ok (.bastore, 1) := by decide +kernel
theorem dX2_lookAtFirst_47 : decode cX2_lookAtFirst 47 = .ok (.iinc 2 1, 3) := by decide +kernel
theorem dX2_lookAtFirst_50 : decode cX2_lookAtFirst 50 = .ok (.goto (-40), 3) := by decide +kernel
theorem dX2_lookAtFirst_53 : decode cX2_lookAtFirst 53 = .ok (.iinc 1 1, 3) := by decide +kernel
theorem dX2_lookAtFirst_56 : decode cX2_lookAtFirst 56 = .ok (.goto (-54), 3) := by decide +kernel
theorem dX2_lookAtFirst_59 : decode cX2_lookAtFirst 59 = .ok (.aload_n 0, 1) := by decide +kernel
theorem dX2_lookAtFirst_60 : decode cX2_lookAtFirst 60 = .ok (.invokevirtual 47, 3) := by decide +kernel
theorem dX2_lookAtFirst_63 : decode cX2_lookAtFirst 63 = .ok (.return_, 1) := by decide +kernel
theorem dX2_widen_0 : decode cX2_widen 0 = .ok (.aload_n 0, 1) := by decide +kernel
theorem dX2_widen_1 : decode cX2_widen 1 = .ok (.iconst 0, 1) := by decide +kernel
theorem dX2_widen_2 : decode cX2_widen 2 = .ok (.putfield 26, 3) := by decide +kernel
theorem dX2_widen_5 : decode cX2_widen 5 = .ok (.iconst 0, 1) := by decide +kernel
theorem dX2_widen_6 : decode cX2_widen 6 = .ok (.istore_n 1, 1) := by decide +kernel
theorem dX2_widen_7 : decode cX2_widen 7 = .ok (.iload_n 1, 1) := by decide +kernel
theorem dX2_widen_8 : decode cX2_widen 8 = .ok (.bipush 12, 2) := by decide +kernel
theorem dX2_widen_10 : decode cX2_widen 10 = .ok (.if_icmp .ge 43, 3) := by decide +kernel
theorem dX2_widen_13 : decode cX2_widen 13 = .ok (.aload_n 0, 1) := by decide +kernel
theorem dX2_widen_14 : decode cX2_widen 14 = .ok (.getfield 29, 3) := by decide +kernel
theorem dX2_widen_17 : decode cX2_widen 17 = .ok (.iload_n 1, 1) := by decide +kernel
theorem dX2_widen_18 : decode cX2_widen 18 = .ok (.invokevirtual 37, 3) := by decide +kernel
theorem dX2_widen_21 : decode cX2_widen 21 = .ok (.ifCond .eq 26, 3) := by decide +kernel
theorem dX2_widen_24 : decode cX2_widen 24 = .ok (.aload_n 0, 1) := by decide +kernel
theorem dX2_widen_25 : decode cX2_widen 25 = .ok (.getfield 15, 3) := by decide +kernel
theorem dX2_widen_28 : decode cX2_widen 28 = .ok (.iload_n 1, 1) := by decide +kernel
theorem dX2_widen_29 : decode cX2_widen 29 = .ok (.iconst 0, 1) := by decide +kernel
theorem dX2_widen_30 : decode cX2_widen 30 = .ok (.iastore, 1) := by decide +kernel
theorem dX2_widen_31 : decode cX2_widen 31 = .ok (.aload_n 0, 1) := by decide +kernel
theorem dX2_widen_32 : decode cX2_widen 32 = .ok (.getfield 19, 3) := by decide +kernel
theorem dX2_widen_35 : decode cX2_widen 35 = .ok (.iload_n 1, 1) := by decide +kernel
theorem dX2_widen_36 : decode cX2_widen 36 = .ok (.bipush 99, 2) := by decide +kernel
theorem dX2_widen_38 : decode cX2_widen 38 = .ok (.iastore, 1) := by decide +kernel
theorem dX2_widen_39 : decode cX2_widen 39 = .ok (.aload_n 0, 1) := by decide +kernel
theorem dX2_widen_40 : decode cX2_widen 40 = .ok (.iload_n 1, 1) := by decide +kernel
theorem dX2_widen_41 : decode cX2_widen 41 = .ok (.iconst 0, 1) := by decide +kernel
theorem dX2_widen_42 : decode cX2_widen 42 = .ok (.bipush 99, 2) := by decide +kernel
theorem dX2_widen_44 : decode cX2_widen 44 = .ok (.invokevirtual 50, 3) := by decide +kernel
theorem dX2_widen_47 : decode cX2_widen 47 = .ok (.iinc 1 1, 3) := by decide +kernel
theorem dX2_widen_50 : decode cX2_widen 50 = .ok (.goto (-43), 3) := by decide +kernel
theorem dX2_widen_53 : decode cX2_widen 53 = .ok (.return_, 1) := by decide +kernel
theorem dX2_narrow_0 : decode cX2_narrow 0 = .ok (.aload_n 0, 1) := by decide +kernel
theorem dX2_narrow_1 : decode cX2_narrow 1 = .ok (.invokevirtual 47, 3) := by decide +kernel
theorem dX2_narrow_4 : decode cX2_narrow 4 = .ok (.aload_n 0, 1) := by decide +kernel
theorem dX2_narrow_5 : decode cX2_narrow 5 = .ok (.iconst 1, 1) := by decide +kernel
theorem dX2_narrow_6 : decode cX2_narrow 6 = .ok (.putfield 22, 3) := by decide +kernel
theorem dX2_narrow_9 : decode cX2_narrow 9 = .ok (.iconst 0, 1) := by decide +kernel
theorem dX2_narrow_10 : decode cX2_narrow 10 = .ok (.istore_n 2, 1) := by decide +kernel
theorem dX2_narrow_11 : decode cX2_narrow 11 = .ok (.iload_n 2, 1) := by decide +kernel
theorem dX2_narrow_12 : decode cX2_narrow 12 = .ok (.sipush 1201, 3) := by decide +kernel
theorem dX2_narrow_15 : decode cX2_narrow 15 = .ok (.if_icmp .ge 64, 3) := by decide +kernel
theorem dX2_narrow_18 : decode cX2_narrow 18 = .ok (.aload_n 0, 1) := by decide +kernel
theorem dX2_narrow_19 : decode cX2_narrow 19 = .ok (.getfield 22, 3) := by decide +kernel
theorem dX2_narrow_22 : decode cX2_narrow 22 = .ok (.ifCond .eq 57, 3) := by decide +kernel
theorem dX2_narrow_25 : decode cX2_narrow 25 = .ok (.aload_n 0, 1) := by decide +kernel
theorem dX2_narrow_26 : decode cX2_narrow 26 = .ok (.getfield 26, 3) := by decide +kernel
theorem dX2_narrow_29 : decode cX2_narrow 29 = .ok (.ifCond .ne 50, 3) := by decide +kernel
theorem dX2_narrow_32 : decode cX2_narrow 32 = .ok (.aload_n 0, 1) := by decide +kernel
theorem dX2_narrow_33 : decode cX2_narrow 33 = .ok (.iconst 0, 1) := by decide +kernel
theorem dX2_narrow_34 : decode cX2_narrow 34 = .ok (.putfield 22, 3) := by decide +kernel
theorem dX2_narrow_37 : decode cX2_narrow 37 = .ok (.iconst 0, 1) := by decide +kernel
theorem dX2_narrow_38 : decode cX2_narrow 38 = .ok (.istore_n 3, 1) := by decide +kernel
theorem dX2_narrow_39 : decode cX2_narrow 39 = .ok (.iload_n 3, 1) := by decide +kernel
theorem dX2_narrow_40 : decode cX2_narrow 40 = .ok (.aload_n 0, 1) := by decide +kernel
theorem dX2_narrow_41 : decode cX2_narrow 41 = .ok (.getfield 33, 3) := by decide +kernel
theorem dX2_narrow_44 : decode cX2_narrow 44 = .ok (.invokevirtual 54, 3) := by decide +kernel
theorem dX2_narrow_47 : decode cX2_narrow 47 = .ok (.if_icmp .ge 22, 3) := by decide +kernel
theorem dX2_narrow_50 : decode cX2_narrow 50 = .ok (.iload_n 1, 1) := by decide +kernel
theorem dX2_narrow_51 : decode cX2_narrow 51 = .ok (.iload_n 3, 1) := by decide +kernel
theorem dX2_narrow_52 : decode cX2_narrow 52 = .ok (.ishr, 1) := by decide +kernel
theorem dX2_narrow_53 : decode cX2_narrow 53 = .ok (.iconst 1, 1) := by decide +kernel
theorem dX2_narrow_54 : decode cX2_narrow 54 = .ok (.iand, 1) := by decide +kernel
theorem dX2_narrow_55 : decode cX2_narrow 55 = .ok (.ifCond .ne 8, 3) := by decide +kernel
theorem dX2_narrow_58 : decode cX2_narrow 58 = .ok (.aload_n 0, 1) := by decide +kernel
theorem dX2_narrow_59 : decode cX2_narrow 59 = .ok (.iload_n 3, 1) := by decide +kernel
theorem dX2_narrow_60 : decode cX2_narrow 60 = .ok (.invokevirtual 60, 3) := by decide +kernel
theorem dX2_narrow_63 : decode cX2_narrow 63 = .ok (.iinc 3 1, 3) := by decide +kernel
theorem dX2_narrow_66 : decode cX2_narrow 66 = .ok (.goto (-27), 3) := by decide +kernel
theorem dX2_narrow_69 : decode cX2_narrow 69 = .ok (.aload_n 0, 1) := by decide +kernel
theorem dX2_narrow_70 : decode cX2_narrow 70 = .ok (.invokevirtual 64, 3) := by decide +kernel
theorem dX2_narrow_73 : decode cX2_narrow 73 = .ok (.iinc 2 1, 3) := by decide +kernel
theorem dX2_narrow_76 : decode cX2_narrow 76 = .ok (.goto (-65), 3) := by decide +kernel
theorem dX2_narrow_79 : decode cX2_narrow 79 = .ok (.aload_n 0, 1) := by decide +kernel
theorem dX2_narrow_80 : decode cX2_narrow 80 = .ok (.getfield 26, 3) := by decide +kernel
theorem dX2_narrow_83 : decode cX2_narrow 83 = .ok (.ifCond .eq 7, 3) := by decide +kernel
theorem dX2_narrow_86 : decode cX2_narrow 86 = .ok (.aload_n 0, 1) := by decide +kernel
theorem dX2_narrow_87 : decode cX2_narrow 87 = .ok (.invokevirtual 67, 3) := by decide +kernel
theorem dX2_narrow_90 : decode cX2_narrow 90 = .ok (.return_, 1) := by decide +kernel
theorem dX2_leaveNothing_0 : decode cX2_leaveNothing 0 = .ok (.iconst 0, 1) := by decide +kernel
theorem dX2_leaveNothing_1 : decode cX2_leaveNothing 1 = .ok (.istore_n 1, 1) := by decide +kernel
theorem dX2_leaveNothing_2 : decode cX2_leaveNothing 2 = .ok (.iload_n 1, 1) := by decide +kernel
theorem dX2_leaveNothing_3 : decode cX2_leaveNothing 3 = .ok (.bipush 12, 2) := by decide +kernel
theorem dX2_leaveNothing_5 : decode cX2_leaveNothing 5 = .ok (.if_icmp .ge 24, 3) := by decide +kernel
theorem dX2_leaveNothing_8 : decode cX2_leaveNothing 8 = .ok (.aload_n 0, 1) := by decide +kernel
theorem dX2_leaveNothing_9 : decode cX2_leaveNothing 9 = .ok (.getfield 15, 3) := by decide +kernel
theorem dX2_leaveNothing_12 : decode cX2_leaveNothing 12 = .ok (.iload_n 1, 1) := by decide +kernel
theorem dX2_leaveNothing_13 : decode cX2_leaveNothing 13 = .ok (.bipush 100, 2) := by decide +kernel
theorem dX2_leaveNothing_15 : decode cX2_leaveNothing 15 = .ok (.iastore, 1) := by decide +kernel
theorem dX2_leaveNothing_16 : decode cX2_leaveNothing 16 = .ok (.aload_n 0, 1) := by decide +kernel
theorem dX2_leaveNothing_17 : decode cX2_leaveNothing 17 = .ok (.getfield 19, 3) := by decide +kernel
theorem dX2_leaveNothing_20 : decode cX2_leaveNothing 20 = .ok (.iload_n 1, 1) := by decide +kernel
theorem dX2_leaveNothing_21 : decode cX2_leaveNothing 21 = .ok (.iconst (-1), 1) := by decide +kernel
theorem dX2_leaveNothing_22 : decode cX2_leaveNothing 22 = .ok (.iastore, 1) := by decide +kernel
theorem dX2_leaveNothing_23 : decode cX2_leaveNothing 23 = .ok (.iinc 1 1, 3) := by decide +kernel
theorem dX2_leaveNothing_26 : decode cX2_leaveNothing 26 = .ok (.goto (-24), 3) := by decide +kernel
theorem dX2_leaveNothing_29 : decode cX2_leaveNothing 29 = .ok (.return_, 1) := by decide +kernel
theorem dX2_keep_0 : decode cX2_keep 0 = .ok (.aload_n 0, 1) := by decide +kernel
theorem dX2_keep_1 : decode cX2_keep 1 = .ok (.getfield 15, 3) := by decide +kernel
theorem dX2_keep_4 : decode cX2_keep 4 = .ok (.iload_n 1, 1) := by decide +kernel
theorem dX2_keep_5 : decode cX2_keep 5 = .ok (.iaload, 1) := by decide +kernel
theorem dX2_keep_6 : decode cX2_keep 6 = .ok (.istore 4, 2) := by decide +kernel
theorem dX2_keep_8 : decode cX2_keep 8 = .ok (.aload_n 0, 1) := by decide +kernel
theorem dX2_keep_9 : decode cX2_keep 9 = .ok (.getfield 19, 3) := by decide +kernel
theorem dX2_keep_12 : decode cX2_keep 12 = .ok (.iload_n 1, 1) := by decide +kernel
theorem dX2_keep_13 : decode cX2_keep 13 = .ok (.iaload, 1) := by decide +kernel
theorem dX2_keep_14 : decode cX2_keep 14 = .ok (.istore 5, 2) := by decide +kernel
theorem dX2_keep_16 : decode cX2_keep 16 = .ok (.iload 4, 2) := by decide +kernel
theorem dX2_keep_18 : decode cX2_keep 18 = .ok (.iload 5, 2) := by decide +kernel
theorem dX2_keep_20 : decode cX2_keep 20 = .ok (.if_icmp .gt 30, 3) := by decide +kernel
theorem dX2_keep_23 : decode cX2_keep 23 = .ok (.iload 4, 2) := by decide +kernel
theorem dX2_keep_25 : decode cX2_keep 25 = .ok (.iload_n 2, 1) := by decide +kernel
theorem dX2_keep_26 : decode cX2_keep 26 = .ok (.if_icmp .lt 18, 3) := by decide +kernel
theorem dX2_keep_29 : decode cX2_keep 29 = .ok (.aload_n 0, 1) := by decide +kernel
theorem dX2_keep_30 : decode cX2_keep 30 = .ok (.getfield 9, 3) := by decide +kernel
theorem dX2_keep_33 : decode cX2_keep 33 = .ok (.iload_n 1, 1) := by decide +kernel
theorem dX2_keep_34 : decode cX2_keep 34 = .ok (.bipush 100, 2) := by decide +kernel
theorem dX2_keep_36 : decode cX2_keep 36 = .ok (.imul, 1) := by decide +kernel
theorem dX2_keep_37 : decode cX2_keep 37 = .ok (.iload 4, 2) := by decide +kernel
theorem dX2_keep_39 : decode cX2_keep 39 = .ok (.iadd, 1) := by decide +kernel
theorem dX2_keep_40 : decode cX2_keep 40 = .ok (.baload, 1) := by decide +kernel
theorem dX2_keep_41 : decode cX2_keep 41 = .ok (.ifCond .ne 9, 3) := by decide +kernel
theorem dX2_keep_44 : decode cX2_keep 44 = .ok (.iinc 4 1, 3) := by decide +kernel
theorem dX2_keep_47 : decode cX2_keep 47 = .ok (.goto (-31), 3) := by decide +kernel
theorem dX2_keep_50 : decode cX2_keep 50 = .ok (.iload 5, 2) := by decide +kernel
theorem dX2_keep_52 : decode cX2_keep 52 = .ok (.iload 4, 2) := by decide +kernel
theorem dX2_keep_54 : decode cX2_keep 54 = .ok (.if_icmp .lt 30, 3) := by decide +kernel
theorem dX2_keep_57 : decode cX2_keep 57 = .ok (.iload 5, 2) := by decide +kernel
theorem dX2_keep_59 : decode cX2_keep 59 = .ok (.iload_n 3, 1) := by decide +kernel
theorem dX2_keep_60 : decode cX2_keep 60 = .ok (.if_icmp .gt 18, 3) := by decide +kernel
theorem dX2_keep_63 : decode cX2_keep 63 = .ok (.aload_n 0, 1) := by decide +kernel
theorem dX2_keep_64 : decode cX2_keep 64 = .ok (.getfield 9, 3) := by decide +kernel
theorem dX2_keep_67 : decode cX2_keep 67 = .ok (.iload_n 1, 1) := by decide +kernel
theorem dX2_keep_68 : decode cX2_keep 68 = .ok (.bipush 100, 2) := by decide +kernel
theorem dX2_keep_70 : decode cX2_keep 70 = .ok (.imul, 1) := by decide +kernel
theorem dX2_keep_71 : decode cX2_keep 71 = .ok (.iload 5, 2) := by decide +kernel
theorem dX2_keep_73 : decode cX2_keep 73 = .ok (.iadd, 1) := by decide +kernel
theorem dX2_keep_74 : decode cX2_keep 74 = .ok (.baload, 1) := by decide +kernel
theorem dX2_keep_75 : decode cX2_keep 75 = .ok (.ifCond .ne 9, 3) := by decide +kernel
theorem dX2_keep_78 : decode cX2_keep 78 = .ok (.iinc 5 (-1), 3) := by decide +kernel
theorem dX2_keep_81 : decode cX2_keep 81 = .ok (.goto (-31), 3) := by decide +kernel
theorem dX2_keep_84 : decode cX2_keep 84 = .ok (.iload 4, 2) := by decide +kernel
theorem dX2_keep_86 : decode cX2_keep 86 = .ok (.aload_n 0, 1) := by decide +kernel
theorem dX2_keep_87 : decode cX2_keep 87 = .ok (.getfield 15, 3) := by decide +kernel
theorem dX2_keep_90 : decode cX2_keep 90 = .ok (.iload_n 1, 1) := by decide +kernel
theorem dX2_keep_91 : decode cX2_keep 91 = .ok (.iaload, 1) := by decide +kernel
theorem dX2_keep_92 : decode cX2_keep 92 = .ok (.if_icmp .ne 14, 3) := by decide +kernel
theorem dX2_keep_95 : decode cX2_keep 95 = .ok (.iload 5, 2) := by decide +kernel
theorem dX2_keep_97 : decode cX2_keep 97 = .ok (.aload_n 0, 1) := by decide +kernel
theorem dX2_keep_98 : decode cX2_keep 98 = .ok (.getfield 19, 3) := by decide +kernel
theorem dX2_keep_101 : decode cX2_keep 101 = .ok (.iload_n 1, 1) := by decide +kernel
theorem dX2_keep_102 : decode cX2_keep 102 = .ok (.iaload, 1) := by decide +kernel
theorem dX2_keep_103 : decode cX2_keep 103 = .ok (.if_icmp .eq 24, 3) := by decide +kernel
theorem dX2_keep_106 : decode cX2_keep 106 = .ok (.aload_n 0, 1) := by decide +kernel
theorem dX2_keep_107 : decode cX2_keep 107 = .ok (.iconst 1, 1) := by decide +kernel
theorem dX2_keep_108 : decode cX2_keep 108 = .ok (.putfield 22, 3) := by decide +kernel
theorem dX2_keep_111 : decode cX2_keep 111 = .ok (.aload_n 0, 1) := by decide +kernel
theorem dX2_keep_112 : decode cX2_keep 112 = .ok (.getfield 15, 3) := by decide +kernel
theorem dX2_keep_115 : decode cX2_keep 115 = .ok (.iload_n 1, 1) := by decide +kernel
theorem dX2_keep_116 : decode cX2_keep 116 = .ok (.iload 4, 2) := by decide +kernel
theorem dX2_keep_118 : decode cX2_keep 118 = .ok (.iastore, 1) := by decide +kernel
theorem dX2_keep_119 : decode cX2_keep 119 = .ok (.aload_n 0, 1) := by decide +kernel
theorem dX2_keep_120 : decode cX2_keep 120 = .ok (.getfield 19, 3) := by decide +kernel
theorem dX2_keep_123 : decode cX2_keep 123 = .ok (.iload_n 1, 1) := by decide +kernel
theorem dX2_keep_124 : decode cX2_keep 124 = .ok (.iload 5, 2) := by decide +kernel
theorem dX2_keep_126 : decode cX2_keep 126 = .ok (.iastore, 1) := by decide +kernel
theorem dX2_keep_127 : decode cX2_keep 127 = .ok (.iload 4, 2) := by decide +kernel
theorem dX2_keep_129 : decode cX2_keep 129 = .ok (.iload 5, 2) := by decide +kernel
theorem dX2_keep_131 : decode cX2_keep 131 = .ok (.if_icmp .le 8, 3) := by decide +kernel
theorem dX2_keep_134 : decode cX2_keep 134 = .ok (.aload_n 0, 1) := by decide +kernel
theorem dX2_keep_135 : decode cX2_keep 135 = .ok (.iconst 1, 1) := by decide +kernel
theorem dX2_keep_136 : decode cX2_keep 136 = .ok (.putfield 26, 3) := by decide +kernel
theorem dX2_keep_139 : decode cX2_keep 139 = .ok (.return_, 1) := by decide +kernel
theorem dX2_narrowBySum_0 : decode cX2_narrowBySum 0 = .ok (.aload_n 0, 1) := by decide +kernel
theorem dX2_narrowBySum_1 : decode cX2_narrowBySum 1 = .ok (.getfield 33, 3) := by decide +kernel
theorem dX2_narrowBySum_4 : decode cX2_narrowBySum 4 = .ok (.iload_n 1, 1) := by decide +kernel
theorem dX2_narrowBySum_5 : decode cX2_narrowBySum 5 = .ok (.invokevirtual 70, 3) := by decide +kernel
theorem dX2_narrowBySum_8 : decode cX2_narrowBySum 8 = .ok (.aload_n 0, 1) := by decide +kernel
theorem dX2_narrowBySum_9 : decode cX2_narrowBySum 9 = .ok (.iload_n 1, 1) := by decide +kernel
theorem dX2_narrowBySum_10 : decode cX2_narrowBySum 10 = .ok (.invokevirtual 74, 3) := by decide +kernel
theorem dX2_narrowBySum_13 : decode cX2_narrowBySum 13 = .ok (.isub, 1) := by decide +kernel
theorem dX2_narrowBySum_14 : decode cX2_narrowBySum 14 = .ok (.istore_n 2, 1) := by decide +kernel
theorem dX2_narrowBySum_15 : decode cX2_narrowBySum 15 = .ok (.aload_n 0, 1) := by decide +kernel
theorem dX2_narrowBySum_16 : decode cX2_narrowBySum 16 = .ok (.getfield 33, 3) := by decide +kernel
theorem dX2_narrowBySum_19 : decode cX2_narrowBySum 19 = .ok (.iload_n 1, 1) := by decide +kernel
theorem dX2_narrowBySum_20 : decode cX2_narrowBySum 20 = .ok (.invokevirtual 70, 3) := by decide +kernel
theorem dX2_narrowBySum_23 : decode cX2_narrowBySum 23 = .ok (.aload_n 0, 1) := by decide +kernel
theorem dX2_narrowBySum_24 : decode cX2_narrowBySum 24 = .ok (.iload_n 1, 1) := by decide +kernel
theorem dX2_narrowBySum_25 : decode cX2_narrowBySum 25 = .ok (.invokevirtual 77, 3) := by decide +kernel
theorem dX2_narrowBySum_28 : decode cX2_narrowBySum 28 = .ok (.isub, 1) := by decide +kernel
theorem dX2_narrowBySum_29 : decode cX2_narrowBySum 29 = .ok (.istore_n 3, 1) := by decide +kernel
theorem dX2_narrowBySum_30 : decode cX2_narrowBySum 30 = .ok (.iconst 0, 1) := by decide +kernel
theorem dX2_narrowBySum_31 : decode cX2_narrowBySum 31 = .ok (.istore 4, 2) := by decide +kernel
theorem dX2_narrowBySum_33 : decode cX2_narrowBySum 33 = .ok (.iload 4, 2) := by decide +kernel
theorem dX2_narrowBySum_35 : decode cX2_narrowBySum 35 = .ok (.bipush 12, 2) := by decide +kernel
theorem dX2_narrowBySum_37 : decode cX2_narrowBySum 37 = .ok (.if_icmp .ge 91, 3) := by decide +kernel
theorem dX2_narrowBySum_40 : decode cX2_narrowBySum 40 = .ok (.aload_n 0, 1) := by decide +kernel
theorem dX2_narrowBySum_41 : decode cX2_narrowBySum 41 = .ok (.getfield 26, 3) := by decide +kernel
theorem dX2_narrowBySum_44 : decode cX2_narrowBySum 44 = .ok (.ifCond .ne 84, 3) := by decide +kernel
theorem dX2_narrowBySum_47 : decode cX2_narrowBySum 47 = .ok (.aload_n 0, 1) := by decide +kernel
theorem dX2_narrowBySum_48 : decode cX2_narrowBySum 48 = .ok (.getfield 15, 3) := by decide +kernel
theorem dX2_narrowBySum_51 : decode cX2_narrowBySum 51 = .ok (.iload 4, 2) := by decide +kernel
theorem dX2_narrowBySum_53 : decode cX2_narrowBySum 53 = .ok (.iaload, 1) := by decide +kernel
theorem dX2_narrowBySum_54 : decode cX2_narrowBySum 54 = .ok (.istore 5, 2) := by decide +kernel
theorem dX2_narrowBySum_56 : decode cX2_narrowBySum 56 = .ok (.aload_n 0, 1) := by decide +kernel
theorem dX2_narrowBySum_57 : decode cX2_narrowBySum 57 = .ok (.getfield 19, 3) := by decide +kernel
theorem dX2_narrowBySum_60 : decode cX2_narrowBySum 60 = .ok (.iload 4, 2) := by decide +kernel
theorem dX2_narrowBySum_62 : decode cX2_narrowBySum 62 = .ok (.iaload, 1) := by decide +kernel
theorem dX2_narrowBySum_63 : decode cX2_narrowBySum 63 = .ok (.istore 6, 2) := by decide +kernel
theorem dX2_narrowBySum_65 : decode cX2_narrowBySum 65 = .ok (.aload_n 0, 1) := by decide +kernel
theorem dX2_narrowBySum_66 : decode cX2_narrowBySum 66 = .ok (.getfield 33, 3) := by decide +kernel
theorem dX2_narrowBySum_69 : decode cX2_narrowBySum 69 = .ok (.iload_n 1, 1) := by decide +kernel
theorem dX2_narrowBySum_70 : decode cX2_narrowBySum 70 = .ok (.iload 4, 2) := by decide +kernel
theorem dX2_narrowBySum_72 : decode cX2_narrowBySum 72 = .ok (.invokevirtual 80, 3) := by decide +kernel
theorem dX2_narrowBySum_75 : decode cX2_narrowBySum 75 = .ok (.ifCond .le 20, 3) := by decide +kernel
theorem dX2_narrowBySum_78 : decode cX2_narrowBySum 78 = .ok (.aload_n 0, 1) := by decide +kernel
theorem dX2_narrowBySum_79 : decode cX2_narrowBySum 79 = .ok (.iload 4, 2) := by decide +kernel
theorem dX2_narrowBySum_81 : decode cX2_narrowBySum 81 = .ok (.iload_n 3, 1) := by decide +kernel
theorem dX2_narrowBySum_82 : decode cX2_narrowBySum 82 = .ok (.iload 6, 2) := by decide +kernel
theorem dX2_narrowBySum_84 : decode cX2_narrowBySum 84 = .ok (.iadd, 1) := by decide +kernel
theorem dX2_narrowBySum_85 : decode cX2_narrowBySum 85 = .ok (.iload_n 2, 1) := by decide +kernel
theorem dX2_narrowBySum_86 : decode cX2_narrowBySum 86 = .ok (.iload 5, 2) := by decide +kernel
theorem dX2_narrowBySum_88 : decode cX2_narrowBySum 88 = .ok (.iadd, 1) := by decide +kernel
theorem dX2_narrowBySum_89 : decode cX2_narrowBySum 89 = .ok (.invokevirtual 50, 3) := by decide +kernel
theorem dX2_narrowBySum_92 : decode cX2_narrowBySum 92 = .ok (.goto 30, 3) := by decide +kernel
theorem dX2_narrowBySum_95 : decode cX2_narrowBySum 95 = .ok (.aload_n 0, 1) := by decide +kernel
theorem dX2_narrowBySum_96 : decode cX2_narrowBySum 96 = .ok (.getfield 33, 3) := by decide +kernel
theorem dX2_narrowBySum_99 : decode cX2_narrowBySum 99 = .ok (.iload_n 1, 1) := by decide +kernel
theorem dX2_narrowBySum_100 : decode cX2_narrowBySum 100 = .ok (.iload 4, 2) := by decide +kernel
theorem dX2_narrowBySum_102 : decode cX2_narrowBySum 102 = .ok (.invokevirtual 80, 3) := by decide +kernel
theorem dX2_narrowBySum_105 : decode cX2_narrowBySum 105 = .ok (.ifCond .ge 17, 3) := by decide +kernel
theorem dX2_narrowBySum_108 : decode cX2_narrowBySum 108 = .ok (.aload_n 0, 1) := by decide +kernel
theorem dX2_narrowBySum_109 : decode cX2_narrowBySum 109 = .ok (.iload 4, 2) := by decide +kernel
theorem dX2_narrowBySum_111 : decode cX2_narrowBySum 111 = .ok (.iload 6, 2) := by decide +kernel
theorem dX2_narrowBySum_113 : decode cX2_narrowBySum 113 = .ok (.iload_n 2, 1) := by decide +kernel
theorem dX2_narrowBySum_114 : decode cX2_narrowBySum 114 = .ok (.isub, 1) := by decide +kernel
theorem dX2_narrowBySum_115 : decode cX2_narrowBySum 115 = .ok (.iload 5, 2) := by decide +kernel
theorem dX2_narrowBySum_117 : decode cX2_narrowBySum 117 = .ok (.iload_n 3, 1) := by decide +kernel
theorem dX2_narrowBySum_118 : decode cX2_narrowBySum 118 = .ok (.isub, 1) := by decide +kernel
theorem dX2_narrowBySum_119 : decode cX2_narrowBySum 119 = .ok (.invokevirtual 50, 3) := by decide +kernel
theorem dX2_narrowBySum_122 : decode cX2_narrowBySum 122 = .ok (.iinc 4 1, 3) := by decide +kernel
theorem dX2_narrowBySum_125 : decode cX2_narrowBySum 125 = .ok (.goto (-92), 3) := by decide +kernel
theorem dX2_narrowBySum_128 : decode cX2_narrowBySum 128 = .ok (.return_, 1) := by decide +kernel
theorem dX2_leastOfSum_0 : decode cX2_leastOfSum 0 = .ok (.iconst 0, 1) := by decide +kernel
theorem dX2_leastOfSum_1 : decode cX2_leastOfSum 1 = .ok (.istore_n 2, 1) := by decide +kernel
theorem dX2_leastOfSum_2 : decode cX2_leastOfSum 2 = .ok (.iconst 0, 1) := by decide +kernel
theorem dX2_leastOfSum_3 : decode cX2_leastOfSum 3 = .ok (.istore_n 3, 1) := by decide +kernel
theorem dX2_leastOfSum_4 : decode cX2_leastOfSum 4 = .ok (.iload_n 3, 1) := by decide +kernel
theorem dX2_leastOfSum_5 : decode cX2_leastOfSum 5 = .ok (.bipush 12, 2) := by decide +kernel
theorem dX2_leastOfSum_7 : decode cX2_leastOfSum 7 = .ok (.if_icmp .ge 53, 3) := by decide +kernel
theorem dX2_leastOfSum_10 : decode cX2_leastOfSum 10 = .ok (.aload_n 0, 1) := by decide +kernel
theorem dX2_leastOfSum_11 : decode cX2_leastOfSum 11 = .ok (.getfield 33, 3) := by decide +kernel
theorem dX2_leastOfSum_14 : decode cX2_leastOfSum 14 = .ok (.iload_n 1, 1) := by decide +kernel
theorem dX2_leastOfSum_15 : decode cX2_leastOfSum 15 = .ok (.iload_n 3, 1) := by decide +kernel
theorem dX2_leastOfSum_16 : decode cX2_leastOfSum 16 = .ok (.invokevirtual 80, 3) := by decide +kernel
theorem dX2_leastOfSum_19 : decode cX2_leastOfSum 19 = .ok (.istore 4, 2) := by decide +kernel
theorem dX2_leastOfSum_21 : decode cX2_leastOfSum 21 = .ok (.iload_n 2, 1) := by decide +kernel
theorem dX2_leastOfSum_22 : decode cX2_leastOfSum 22 = .ok (.iload 4, 2) := by decide +kernel
theorem dX2_leastOfSum_24 : decode cX2_leastOfSum 24 = .ok (.ifCond .le 12, 3) := by decide +kernel
theorem dX2_leastOfSum_27 : decode cX2_leastOfSum 27 = .ok (.aload_n 0, 1) := by decide +kernel
theorem dX2_leastOfSum_28 : decode cX2_leastOfSum 28 = .ok (.getfield 15, 3) := by decide +kernel
theorem dX2_leastOfSum_31 : decode cX2_leastOfSum 31 = .ok (.iload_n 3, 1) := by decide +kernel
theorem dX2_leastOfSum_32 : decode cX2_leastOfSum 32 = .ok (.iaload, 1) := by decide +kernel
theorem dX2_leastOfSum_33 : decode cX2_leastOfSum 33 = .ok (.goto 19, 3) := by decide +kernel
theorem dX2_leastOfSum_36 : decode cX2_leastOfSum 36 = .ok (.iload 4, 2) := by decide +kernel
theorem dX2_leastOfSum_38 : decode cX2_leastOfSum 38 = .ok (.ifCond .ge 13, 3) := by decide +kernel
theorem dX2_leastOfSum_41 : decode cX2_leastOfSum 41 = .ok (.aload_n 0, 1) := by decide +kernel
theorem dX2_leastOfSum_42 : decode cX2_leastOfSum 42 = .ok (.getfield 19, 3) := by decide +kernel
theorem dX2_leastOfSum_45 : decode cX2_leastOfSum 45 = .ok (.iload_n 3, 1) := by decide +kernel
theorem dX2_leastOfSum_46 : decode cX2_leastOfSum 46 = .ok (.iaload, 1) := by decide +kernel
theorem dX2_leastOfSum_47 : decode cX2_leastOfSum 47 = .ok (.ineg, 1) := by decide +kernel
theorem dX2_leastOfSum_48 : decode cX2_leastOfSum 48 = .ok (.goto 4, 3) := by decide +kernel
theorem dX2_leastOfSum_51 : decode cX2_leastOfSum 51 = .ok (.iconst 0, 1) := by decide +kernel
theorem dX2_leastOfSum_52 : decode cX2_leastOfSum 52 = .ok (.iadd, 1) := by decide +kernel
theorem dX2_leastOfSum_53 : decode cX2_leastOfSum 53 = .ok (.istore_n 2, 1) := by decide +kernel
theorem dX2_leastOfSum_54 : decode cX2_leastOfSum 54 = .ok (.iinc 3 1, 3) := by decide +kernel
theorem dX2_leastOfSum_57 : decode cX2_leastOfSum 57 = .ok (.goto (-53), 3) := by decide +kernel
theorem dX2_leastOfSum_60 : decode cX2_leastOfSum 60 = .ok (.iload_n 2, 1) := by decide +kernel
theorem dX2_leastOfSum_61 : decode cX2_leastOfSum 61 = .ok (.ireturn, 1) := by decide +kernel
theorem dX2_greatestOfSum_0 : decode cX2_greatestOfSum 0 = .ok (.iconst 0, 1) := by decide +kernel
theorem dX2_greatestOfSum_1 : decode cX2_greatestOfSum 1 = .ok (.istore_n 2, 1) := by decide +kernel
theorem dX2_greatestOfSum_2 : decode cX2_greatestOfSum 2 = .ok (.iconst 0, 1) := by decide +kernel
theorem dX2_greatestOfSum_3 : decode cX2_greatestOfSum 3 = .ok (.istore_n 3, 1) := by decide +kernel
theorem dX2_greatestOfSum_4 : decode cX2_greatestOfSum 4 = .ok (.iload_n 3, 1) := by decide +kernel
theorem dX2_greatestOfSum_5 : decode cX2_greatestOfSum 5 = .ok (.bipush 12, 2) := by decide +kernel
theorem dX2_greatestOfSum_7 : decode cX2_greatestOfSum 7 = .ok (.if_icmp .ge 53, 3) := by decide +kernel
theorem dX2_greatestOfSum_10 : decode cX2_greatestOfSum 10 = .ok (.aload_n 0, 1) := by decide +kernel
theorem dX2_greatestOfSum_11 : decode cX2_greatestOfSum 11 = .ok (.getfield 33, 3) := by decide +kernel
theorem dX2_greatestOfSum_14 : decode cX2_greatestOfSum 14 = .ok (.iload_n 1, 1) := by decide +kernel
theorem dX2_greatestOfSum_15 : decode cX2_greatestOfSum 15 = .ok (.iload_n 3, 1) := by decide +kernel
theorem dX2_greatestOfSum_16 : decode cX2_greatestOfSum 16 = .ok (.invokevirtual 80, 3) := by decide +kernel
theorem dX2_greatestOfSum_19 : decode cX2_greatestOfSum 19 = .ok (.istore 4, 2) := by decide +kernel
theorem dX2_greatestOfSum_21 : decode cX2_greatestOfSum 21 = .ok (.iload_n 2, 1) := by decide +kernel
theorem dX2_greatestOfSum_22 : decode cX2_greatestOfSum 22 = .ok (.iload 4, 2) := by decide +kernel
theorem dX2_greatestOfSum_24 : decode cX2_greatestOfSum 24 = .ok (.ifCond .le 12, 3) := by decide +kernel
theorem dX2_greatestOfSum_27 : decode cX2_greatestOfSum 27 = .ok (.aload_n 0, 1) := by decide +kernel
theorem dX2_greatestOfSum_28 : decode cX2_greatestOfSum 28 = .ok (.getfield 19, 3) := by decide +kernel
theorem dX2_greatestOfSum_31 : decode cX2_greatestOfSum 31 = .ok (.iload_n 3, 1) := by decide +kernel
theorem dX2_greatestOfSum_32 : decode cX2_greatestOfSum 32 = .ok (.iaload, 1) := by decide +kernel
theorem dX2_greatestOfSum_33 : decode cX2_greatestOfSum 33 = .ok (.goto 19, 3) := by decide +kernel
theorem dX2_greatestOfSum_36 : decode cX2_greatestOfSum 36 = .ok (.iload 4, 2) := by decide +kernel
theorem dX2_greatestOfSum_38 : decode cX2_greatestOfSum 38 = .ok (.ifCond .ge 13, 3) := by decide +kernel
theorem dX2_greatestOfSum_41 : decode cX2_greatestOfSum 41 = .ok (.aload_n 0, 1) := by decide +kernel
theorem dX2_greatestOfSum_42 : decode cX2_greatestOfSum 42 = .ok (.getfield 15, 3) := by decide +kernel
theorem dX2_greatestOfSum_45 : decode cX2_greatestOfSum 45 = .ok (.iload_n 3, 1) := by decide +kernel
theorem dX2_greatestOfSum_46 : decode cX2_greatestOfSum 46 = .ok (.iaload, 1) := by decide +kernel
theorem dX2_greatestOfSum_47 : decode cX2_greatestOfSum 47 = .ok (.ineg, 1) := by decide +kernel
theorem dX2_greatestOfSum_48 : decode cX2_greatestOfSum 48 = .ok (.goto 4, 3) := by decide +kernel
theorem dX2_greatestOfSum_51 : decode cX2_greatestOfSum 51 = .ok (.iconst 0, 1) := by decide +kernel
theorem dX2_greatestOfSum_52 : decode cX2_greatestOfSum 52 = .ok (.iadd, 1) := by decide +kernel
theorem dX2_greatestOfSum_53 : decode cX2_greatestOfSum 53 = .ok (.istore_n 2, 1) := by decide +kernel
theorem dX2_greatestOfSum_54 : decode cX2_greatestOfSum 54 = .ok (.iinc 3 1, 3) := by decide +kernel
theorem dX2_greatestOfSum_57 : decode cX2_greatestOfSum 57 = .ok (.goto (-53), 3) := by decide +kernel
theorem dX2_greatestOfSum_60 : decode cX2_greatestOfSum 60 = .ok (.iload_n 2, 1) := by decide +kernel
theorem dX2_greatestOfSum_61 : decode cX2_greatestOfSum 61 = .ok (.ireturn, 1) := by decide +kernel
theorem dX2_narrowByRules_0 : decode cX2_narrowByRules 0 = .ok (.iconst 0, 1) := by decide +kernel
theorem dX2_narrowByRules_1 : decode cX2_narrowByRules 1 = .ok (.istore_n 1, 1) := by decide +kernel
theorem dX2_narrowByRules_2 : decode cX2_narrowByRules 2 = .ok (.iload_n 1, 1) := by decide +kernel
theorem dX2_narrowByRules_3 : decode cX2_narrowByRules 3 = .ok (.bipush 12, 2) := by decide +kernel
theorem dX2_narrowByRules_5 : decode cX2_narrowByRules 5 = .ok (.if_icmp .ge 77, 3) := by decide +kernel
theorem dX2_narrowByRules_8 : decode cX2_narrowByRules 8 = .ok (.aload_n 0, 1) := by decide +kernel
theorem dX2_narrowByRules_9 : decode cX2_narrowByRules 9 = .ok (.getfield 26, 3) := by decide +kernel
theorem dX2_narrowByRules_12 : decode cX2_narrowByRules 12 = .ok (.ifCond .ne 70, 3) := by decide +kernel
theorem dX2_narrowByRules_15 : decode cX2_narrowByRules 15 = .ok (.aload_n 0, 1) := by decide +kernel
theorem dX2_narrowByRules_16 : decode cX2_narrowByRules 16 = .ok (.getfield 29, 3) := by decide +kernel
theorem dX2_narrowByRules_19 : decode cX2_narrowByRules 19 = .ok (.iload_n 1, 1) := by decide +kernel
theorem dX2_narrowByRules_20 : decode cX2_narrowByRules 20 = .ok (.invokevirtual 84, 3) := by decide +kernel
theorem dX2_narrowByRules_23 : decode cX2_narrowByRules 23 = .ok (.iconst 2, 1) := by decide +kernel
theorem dX2_narrowByRules_24 : decode cX2_narrowByRules 24 = .ok (.if_icmp .ne 27, 3) := by decide +kernel
theorem dX2_narrowByRules_27 : decode cX2_narrowByRules 27 = .ok (.aload_n 0, 1) := by decide +kernel
theorem dX2_narrowByRules_28 : decode cX2_narrowByRules 28 = .ok (.iload_n 1, 1) := by decide +kernel
theorem dX2_narrowByRules_29 : decode cX2_narrowByRules 29 = .ok (.aload_n 0, 1) := by decide +kernel
theorem dX2_narrowByRules_30 : decode cX2_narrowByRules 30 = .ok (.getfield 29, 3) := by decide +kernel
theorem dX2_narrowByRules_33 : decode cX2_narrowByRules 33 = .ok (.iload_n 1, 1) := by decide +kernel
theorem dX2_narrowByRules_34 : decode cX2_narrowByRules 34 = .ok (.invokevirtual 87, 3) := by decide +kernel
theorem dX2_narrowByRules_37 : decode cX2_narrowByRules 37 = .ok (.aload_n 0, 1) := by decide +kernel
theorem dX2_narrowByRules_38 : decode cX2_narrowByRules 38 = .ok (.getfield 29, 3) := by decide +kernel
theorem dX2_narrowByRules_41 : decode cX2_narrowByRules 41 = .ok (.iload_n 1, 1) := by decide +kernel
theorem dX2_narrowByRules_42 : decode cX2_narrowByRules 42 = .ok (.invokevirtual 90, 3) := by decide +kernel
theorem dX2_narrowByRules_45 : decode cX2_narrowByRules 45 = .ok (.invokevirtual 93, 3) := by decide +kernel
theorem dX2_narrowByRules_48 : decode cX2_narrowByRules 48 = .ok (.goto 28, 3) := by decide +kernel
theorem dX2_narrowByRules_51 : decode cX2_narrowByRules 51 = .ok (.aload_n 0, 1) := by decide +kernel
theorem dX2_narrowByRules_52 : decode cX2_narrowByRules 52 = .ok (.getfield 29, 3) := by decide +kernel
theorem dX2_narrowByRules_55 : decode cX2_narrowByRules 55 = .ok (.iload_n 1, 1) := by decide +kernel
theorem dX2_narrowByRules_56 : decode cX2_narrowByRules 56 = .ok (.invokevirtual 84, 3) := by decide +kernel
theorem dX2_narrowByRules_59 : decode cX2_narrowByRules 59 = .ok (.iconst 4, 1) := by decide +kernel
theorem dX2_narrowByRules_60 : decode cX2_narrowByRules 60 = .ok (.if_icmp .ne 16, 3) := by decide +kernel
theorem dX2_narrowByRules_63 : decode cX2_narrowByRules 63 = .ok (.aload_n 0, 1) := by decide +kernel
theorem dX2_narrowByRules_64 : decode cX2_narrowByRules 64 = .ok (.iload_n 1, 1) := by decide +kernel
theorem dX2_narrowByRules_65 : decode cX2_narrowByRules 65 = .ok (.aload_n 0, 1) := by decide +kernel
theorem dX2_narrowByRules_66 : decode cX2_narrowByRules 66 = .ok (.getfield 29, 3) := by decide +kernel
theorem dX2_narrowByRules_69 : decode cX2_narrowByRules 69 = .ok (.iload_n 1, 1) := by decide +kernel
theorem dX2_narrowByRules_70 : decode cX2_narrowByRules 70 = .ok (.invokevirtual 87, 3) := by decide +kernel
theorem dX2_narrowByRules_73 : decode cX2_narrowByRules 73 = .ok (.invokevirtual 96, 3) := by decide +kernel
theorem dX2_narrowByRules_76 : decode cX2_narrowByRules 76 = .ok (.iinc 1 1, 3) := by decide +kernel
theorem dX2_narrowByRules_79 : decode cX2_narrowByRules 79 = .ok (.goto (-77), 3) := by decide +kernel
theorem dX2_narrowByRules_82 : decode cX2_narrowByRules 82 = .ok (.return_, 1) := by decide +kernel
theorem dX2_narrowByOrder_0 : decode cX2_narrowByOrder 0 = .ok (.aload_n 0, 1) := by decide +kernel
theorem dX2_narrowByOrder_1 : decode cX2_narrowByOrder 1 = .ok (.iload_n 1, 1) := by decide +kernel
theorem dX2_narrowByOrder_2 : decode cX2_narrowByOrder 2 = .ok (.aload_n 0, 1) := by decide +kernel
theorem dX2_narrowByOrder_3 : decode cX2_narrowByOrder 3 = .ok (.getfield 15, 3) := by decide +kernel
theorem dX2_narrowByOrder_6 : decode cX2_narrowByOrder 6 = .ok (.iload_n 2, 1) := by decide +kernel
theorem dX2_narrowByOrder_7 : decode cX2_narrowByOrder 7 = .ok (.iaload, 1) := by decide +kernel
theorem dX2_narrowByOrder_8 : decode cX2_narrowByOrder 8 = .ok (.iconst 1, 1) := by decide +kernel
theorem dX2_narrowByOrder_9 : decode cX2_narrowByOrder 9 = .ok (.iadd, 1) := by decide +kernel
theorem dX2_narrowByOrder_10 : decode cX2_narrowByOrder 10 = .ok (.bipush 99, 2) := by decide +kernel
theorem dX2_narrowByOrder_12 : decode cX2_narrowByOrder 12 = .ok (.invokevirtual 50, 3) := by decide +kernel
theorem dX2_narrowByOrder_15 : decode cX2_narrowByOrder 15 = .ok (.aload_n 0, 1) := by decide +kernel
theorem dX2_narrowByOrder_16 : decode cX2_narrowByOrder 16 = .ok (.iload_n 2, 1) := by decide +kernel
theorem dX2_narrowByOrder_17 : decode cX2_narrowByOrder 17 = .ok (.iconst 0, 1) := by decide +kernel
theorem dX2_narrowByOrder_18 : decode cX2_narrowByOrder 18 = .ok (.aload_n 0, 1) := by decide +kernel
theorem dX2_narrowByOrder_19 : decode cX2_narrowByOrder 19 = .ok (.getfield 19, 3) := by decide +kernel
theorem dX2_narrowByOrder_22 : decode cX2_narrowByOrder 22 = .ok (.iload_n 1, 1) := by decide +kernel
theorem dX2_narrowByOrder_23 : decode cX2_narrowByOrder 23 = .ok (.iaload, 1) := by decide +kernel
theorem dX2_narrowByOrder_24 : decode cX2_narrowByOrder 24 = .ok (.iconst 1, 1) := by decide +kernel
theorem dX2_narrowByOrder_25 : decode cX2_narrowByOrder 25 = .ok (.isub, 1) := by decide +kernel
theorem dX2_narrowByOrder_26 : decode cX2_narrowByOrder 26 = .ok (.invokevirtual 50, 3) := by decide +kernel
theorem dX2_narrowByOrder_29 : decode cX2_narrowByOrder 29 = .ok (.return_, 1) := by decide +kernel
theorem dX2_narrowByProduct_0 : decode cX2_narrowByProduct 0 = .ok (.aload_n 0, 1) := by decide +kernel
theorem dX2_narrowByProduct_1 : decode cX2_narrowByProduct 1 = .ok (.iload_n 1, 1) := by decide +kernel
theorem dX2_narrowByProduct_2 : decode cX2_narrowByProduct 2 = .ok (.aload_n 0, 1) := by decide +kernel
theorem dX2_narrowByProduct_3 : decode cX2_narrowByProduct 3 = .ok (.getfield 15, 3) := by decide +kernel
theorem dX2_narrowByProduct_6 : decode cX2_narrowByProduct 6 = .ok (.iload_n 2, 1) := by decide +kernel
theorem dX2_narrowByProduct_7 : decode cX2_narrowByProduct 7 = .ok (.iaload, 1) := by decide +kernel
theorem dX2_narrowByProduct_8 : decode cX2_narrowByProduct 8 = .ok (.aload_n 0, 1) := by decide +kernel
theorem dX2_narrowByProduct_9 : decode cX2_narrowByProduct 9 = .ok (.getfield 15, 3) := by decide +kernel
theorem dX2_narrowByProduct_12 : decode cX2_narrowByProduct 12 = .ok (.iload_n 3, 1) := by decide +kernel
theorem dX2_narrowByProduct_13 : decode cX2_narrowByProduct 13 = .ok (.iaload, 1) := by decide +kernel
theorem dX2_narrowByProduct_14 : decode cX2_narrowByProduct 14 = .ok (.imul, 1) := by decide +kernel
theorem dX2_narrowByProduct_15 : decode cX2_narrowByProduct 15 = .ok (.aload_n 0, 1) := by decide +kernel
theorem dX2_narrowByProduct_16 : decode cX2_narrowByProduct 16 = .ok (.getfield 19, 3) := by decide +kernel
theorem dX2_narrowByProduct_19 : decode cX2_narrowByProduct 19 = .ok (.iload_n 2, 1) := by decide +kernel
theorem dX2_narrowByProduct_20 : decode cX2_narrowByProduct 20 = .ok (.iaload, 1) := by decide +kernel
theorem dX2_narrowByProduct_21 : decode cX2_narrowByProduct 21 = .ok (.aload_n 0, 1) := by decide +kernel
theorem dX2_narrowByProduct_22 : decode cX2_narrowByProduct 22 = .ok (.getfield 19, 3) := by decide +kernel
theorem dX2_narrowByProduct_25 : decode cX2_narrowByProduct 25 = .ok (.iload_n 3, 1) := by decide +kernel
theorem dX2_narrowByProduct_26 : decode cX2_narrowByProduct 26 = .ok (.iaload, 1) := by decide +kernel
theorem dX2_narrowByProduct_27 : decode cX2_narrowByProduct 27 = .ok (.imul, 1) := by decide +kernel
theorem dX2_narrowByProduct_28 : decode cX2_narrowByProduct 28 = .ok (.invokevirtual 50, 3) := by decide +kernel
theorem dX2_narrowByProduct_31 : decode cX2_narrowByProduct 31 = .ok (.aload_n 0, 1) := by decide +kernel
theorem dX2_narrowByProduct_32 : decode cX2_narrowByProduct 32 = .ok (.iload_n 1, 1) := by decide +kernel
theorem dX2_narrowByProduct_33 : decode cX2_narrowByProduct 33 = .ok (.iload_n 2, 1) := by decide +kernel
theorem dX2_narrowByProduct_34 : decode cX2_narrowByProduct 34 = .ok (.iload_n 3, 1) := by decide +kernel
theorem dX2_narrowByProduct_35 : decode cX2_narrowByProduct 35 = .ok (.invokevirtual 100, 3) := by decide +kernel
theorem dX2_narrowByProduct_38 : decode cX2_narrowByProduct 38 = .ok (.aload_n 0, 1) := by decide +kernel
theorem dX2_narrowByProduct_39 : decode cX2_narrowByProduct 39 = .ok (.iload_n 1, 1) := by decide +kernel
theorem dX2_narrowByProduct_40 : decode cX2_narrowByProduct 40 = .ok (.iload_n 3, 1) := by decide +kernel
theorem dX2_narrowByProduct_41 : decode cX2_narrowByProduct 41 = .ok (.iload_n 2, 1) := by decide +kernel
theorem dX2_narrowByProduct_42 : decode cX2_narrowByProduct 42 = .ok (.invokevirtual 100, 3) := by decide +kernel
theorem dX2_narrowByProduct_45 : decode cX2_narrowByProduct 45 = .ok (.return_, 1) := by decide +kernel
theorem dX2_narrowFactor_0 : decode cX2_narrowFactor 0 = .ok (.aload_n 0, 1) := by decide +kernel
theorem dX2_narrowFactor_1 : decode cX2_narrowFactor 1 = .ok (.getfield 26, 3) := by decide +kernel
theorem dX2_narrowFactor_4 : decode cX2_narrowFactor 4 = .ok (.ifCond .eq 4, 3) := by decide +kernel
theorem dX2_narrowFactor_7 : decode cX2_narrowFactor 7 = .ok (.return_, 1) := by decide +kernel
theorem dX2_narrowFactor_8 : decode cX2_narrowFactor 8 = .ok (.aload_n 0, 1) := by decide +kernel
theorem dX2_narrowFactor_9 : decode cX2_narrowFactor 9 = .ok (.getfield 15, 3) := by decide +kernel
theorem dX2_narrowFactor_12 : decode cX2_narrowFactor 12 = .ok (.iload_n 1, 1) := by decide +kernel
theorem dX2_narrowFactor_13 : decode cX2_narrowFactor 13 = .ok (.iaload, 1) := by decide +kernel
theorem dX2_narrowFactor_14 : decode cX2_narrowFactor 14 = .ok (.aload_n 0, 1) := by decide +kernel
theorem dX2_narrowFactor_15 : decode cX2_narrowFactor 15 = .ok (.getfield 19, 3) := by decide +kernel
theorem dX2_narrowFactor_18 : decode cX2_narrowFactor 18 = .ok (.iload_n 3, 1) := by decide +kernel
theorem dX2_narrowFactor_19 : decode cX2_narrowFactor 19 = .ok (.iaload, 1) := by decide +kernel
theorem dX2_narrowFactor_20 : decode cX2_narrowFactor 20 = .ok (.invokestatic 103, 3) := by decide +kernel
theorem dX2_narrowFactor_23 : decode cX2_narrowFactor 23 = .ok (.istore 4, 2) := by decide +kernel
theorem dX2_narrowFactor_25 : decode cX2_narrowFactor 25 = .ok (.aload_n 0, 1) := by decide +kernel
theorem dX2_narrowFactor_26 : decode cX2_narrowFactor 26 = .ok (.getfield 19, 3) := by decide +kernel
theorem dX2_narrowFactor_29 : decode cX2_narrowFactor 29 = .ok (.iload_n 1, 1) := by decide +kernel
theorem dX2_narrowFactor_30 : decode cX2_narrowFactor 30 = .ok (.iaload, 1) := by decide +kernel
theorem dX2_narrowFactor_31 : decode cX2_narrowFactor 31 = .ok (.aload_n 0, 1) := by decide +kernel
theorem dX2_narrowFactor_32 : decode cX2_narrowFactor 32 = .ok (.getfield 15, 3) := by decide +kernel
theorem dX2_narrowFactor_35 : decode cX2_narrowFactor 35 = .ok (.iload_n 3, 1) := by decide +kernel
theorem dX2_narrowFactor_36 : decode cX2_narrowFactor 36 = .ok (.iaload, 1) := by decide +kernel
theorem dX2_narrowFactor_37 : decode cX2_narrowFactor 37 = .ok (.invokestatic 106, 3) := by decide +kernel
theorem dX2_narrowFactor_40 : decode cX2_narrowFactor 40 = .ok (.istore 5, 2) := by decide +kernel
theorem dX2_narrowFactor_42 : decode cX2_narrowFactor 42 = .ok (.aload_n 0, 1) := by decide +kernel
theorem dX2_narrowFactor_43 : decode cX2_narrowFactor 43 = .ok (.iload_n 2, 1) := by decide +kernel
theorem dX2_narrowFactor_44 : decode cX2_narrowFactor 44 = .ok (.iload 4, 2) := by decide +kernel
theorem dX2_narrowFactor_46 : decode cX2_narrowFactor 46 = .ok (.iload 5, 2) := by decide +kernel
theorem dX2_narrowFactor_48 : decode cX2_narrowFactor 48 = .ok (.invokevirtual 50, 3) := by decide +kernel
theorem dX2_narrowFactor_51 : decode cX2_narrowFactor 51 = .ok (.return_, 1) := by decide +kernel
theorem dX2_leastFactor_0 : decode cX2_leastFactor 0 = .ok (.iload_n 1, 1) := by decide +kernel
theorem dX2_leastFactor_1 : decode cX2_leastFactor 1 = .ok (.ifCond .gt 14, 3) := by decide +kernel
theorem dX2_leastFactor_4 : decode cX2_leastFactor 4 = .ok (.iload_n 0, 1) := by decide +kernel
theorem dX2_leastFactor_5 : decode cX2_leastFactor 5 = .ok (.ifCond .le 8, 3) := by decide +kernel
theorem dX2_leastFactor_8 : decode cX2_leastFactor 8 = .ok (.bipush 100, 2) := by decide +kernel
theorem dX2_leastFactor_10 : decode cX2_leastFactor 10 = .ok (.goto 4, 3) := by decide +kernel
theorem dX2_leastFactor_13 : decode cX2_leastFactor 13 = .ok (.iconst 0, 1) := by decide +kernel
theorem dX2_leastFactor_14 : decode cX2_leastFactor 14 = .ok (.ireturn, 1) := by decide +kernel
theorem dX2_leastFactor_15 : decode cX2_leastFactor 15 = .ok (.iload_n 0, 1) := by decide +kernel
theorem dX2_leastFactor_16 : decode cX2_leastFactor 16 = .ok (.iload_n 1, 1) := by decide +kernel
theorem dX2_leastFactor_17 : decode cX2_leastFactor 17 = .ok (.iadd, 1) := by decide +kernel
theorem dX2_leastFactor_18 : decode cX2_leastFactor 18 = .ok (.iconst 1, 1) := by decide +kernel
theorem dX2_leastFactor_19 : decode cX2_leastFactor 19 = .ok (.isub, 1) := by decide +kernel
theorem dX2_leastFactor_20 : decode cX2_leastFactor 20 = .ok (.iload_n 1, 1) := by decide +kernel
theorem dX2_leastFactor_21 : decode cX2_leastFactor 21 = .ok (.idiv, 1) := by decide +kernel
theorem dX2_leastFactor_22 : decode cX2_leastFactor 22 = .ok (.ireturn, 1) := by decide +kernel
theorem dX2_greatestFactor_0 : decode cX2_greatestFactor 0 = .ok (.iload_n 1, 1) := by decide +kernel
theorem dX2_greatestFactor_1 : decode cX2_greatestFactor 1 = .ok (.ifCond .gt 8, 3) := by decide +kernel
theorem dX2_greatestFactor_4 : decode cX2_greatestFactor 4 = .ok (.bipush 99, 2) := by decide +kernel
theorem dX2_greatestFactor_6 : decode cX2_greatestFactor 6 = .ok (.goto 6, 3) := by decide +kernel
theorem dX2_greatestFactor_9 : decode cX2_greatestFactor 9 = .ok (.iload_n 0, 1) := by decide +kernel
theorem dX2_greatestFactor_10 : decode cX2_greatestFactor 10 = .ok (.iload_n 1, 1) := by decide +kernel
theorem dX2_greatestFactor_11 : decode cX2_greatestFactor 11 = .ok (.idiv, 1) := by decide +kernel
theorem dX2_greatestFactor_12 : decode cX2_greatestFactor 12 = .ok (.ireturn, 1) := by decide +kernel
theorem dX2_hasAny_0 : decode cX2_hasAny 0 = .ok (.aload_n 0, 1) := by decide +kernel
theorem dX2_hasAny_1 : decode cX2_hasAny 1 = .ok (.getfield 15, 3) := by decide +kernel
theorem dX2_hasAny_4 : decode cX2_hasAny 4 = .ok (.iload_n 1, 1) := by decide +kernel
theorem dX2_hasAny_5 : decode cX2_hasAny 5 = .ok (.iaload, 1) := by decide +kernel
theorem dX2_hasAny_6 : decode cX2_hasAny 6 = .ok (.aload_n 0, 1) := by decide +kernel
theorem dX2_hasAny_7 : decode cX2_hasAny 7 = .ok (.getfield 19, 3) := by decide +kernel
theorem dX2_hasAny_10 : decode cX2_hasAny 10 = .ok (.iload_n 1, 1) := by decide +kernel
theorem dX2_hasAny_11 : decode cX2_hasAny 11 = .ok (.iaload, 1) := by decide +kernel
theorem dX2_hasAny_12 : decode cX2_hasAny 12 = .ok (.if_icmp .gt 7, 3) := by decide +kernel
theorem dX2_hasAny_15 : decode cX2_hasAny 15 = .ok (.iconst 1, 1) := by decide +kernel
theorem dX2_hasAny_16 : decode cX2_hasAny 16 = .ok (.goto 4, 3) := by decide +kernel
theorem dX2_hasAny_19 : decode cX2_hasAny 19 = .ok (.iconst 0, 1) := by decide +kernel
theorem dX2_hasAny_20 : decode cX2_hasAny 20 = .ok (.ireturn, 1) := by decide +kernel
theorem dX2_least_0 : decode cX2_least 0 = .ok (.aload_n 0, 1) := by decide +kernel
theorem dX2_least_1 : decode cX2_least 1 = .ok (.getfield 15, 3) := by decide +kernel
theorem dX2_least_4 : decode cX2_least 4 = .ok (.iload_n 1, 1) := by decide +kernel
theorem dX2_least_5 : decode cX2_least 5 = .ok (.iaload, 1) := by decide +kernel
theorem dX2_least_6 : decode cX2_least 6 = .ok (.ireturn, 1) := by decide +kernel
theorem dX2_greatest_0 : decode cX2_greatest 0 = .ok (.aload_n 0, 1) := by decide +kernel
theorem dX2_greatest_1 : decode cX2_greatest 1 = .ok (.getfield 19, 3) := by decide +kernel
theorem dX2_greatest_4 : decode cX2_greatest 4 = .ok (.iload_n 1, 1) := by decide +kernel
theorem dX2_greatest_5 : decode cX2_greatest 5 = .ok (.iaload, 1) := by decide +kernel
theorem dX2_greatest_6 : decode cX2_greatest 6 = .ok (.ireturn, 1) := by decide +kernel
theorem dX2_isLeft_0 : decode cX2_isLeft 0 = .ok (.iload_n 2, 1) := by decide +kernel
theorem dX2_isLeft_1 : decode cX2_isLeft 1 = .ok (.aload_n 0, 1) := by decide +kernel
theorem dX2_isLeft_2 : decode cX2_isLeft 2 = .ok (.getfield 15, 3) := by decide +kernel
theorem dX2_isLeft_5 : decode cX2_isLeft 5 = .ok (.iload_n 1, 1) := by decide +kernel
theorem dX2_isLeft_6 : decode cX2_isLeft 6 = .ok (.iaload, 1) := by decide +kernel
theorem dX2_isLeft_7 : decode cX2_isLeft 7 = .ok (.if_icmp .lt 31, 3) := by decide +kernel
theorem dX2_isLeft_10 : decode cX2_isLeft 10 = .ok (.iload_n 2, 1) := by decide +kernel
theorem dX2_isLeft_11 : decode cX2_isLeft 11 = .ok (.aload_n 0, 1) := by decide +kernel
theorem dX2_isLeft_12 : decode cX2_isLeft 12 = .ok (.getfield 19, 3) := by decide +kernel
theorem dX2_isLeft_15 : decode cX2_isLeft 15 = .ok (.iload_n 1, 1) := by decide +kernel
theorem dX2_isLeft_16 : decode cX2_isLeft 16 = .ok (.iaload, 1) := by decide +kernel
theorem dX2_isLeft_17 : decode cX2_isLeft 17 = .ok (.if_icmp .gt 21, 3) := by decide +kernel
theorem dX2_isLeft_20 : decode cX2_isLeft 20 = .ok (.aload_n 0, 1) := by decide +kernel
theorem dX2_isLeft_21 : decode cX2_isLeft 21 = .ok (.getfield 9, 3) := by decide +kernel
theorem dX2_isLeft_24 : decode cX2_isLeft 24 = .ok (.iload_n 1, 1) := by decide +kernel
theorem dX2_isLeft_25 : decode cX2_isLeft 25 = .ok (.bipush 100, 2) := by decide +kernel
theorem dX2_isLeft_27 : decode cX2_isLeft 27 = .ok (.imul, 1) := by decide +kernel
theorem dX2_isLeft_28 : decode cX2_isLeft 28 = .ok (.iload_n 2, 1) := by decide +kernel
theorem dX2_isLeft_29 : decode cX2_isLeft 29 = .ok (.iadd, 1) := by decide +kernel
theorem dX2_isLeft_30 : decode cX2_isLeft 30 = .ok (.baload, 1) := by decide +kernel
theorem dX2_isLeft_31 : decode cX2_isLeft 31 = .ok (.ifCond .eq 7, 3) := by decide +kernel
theorem dX2_isLeft_34 : decode cX2_isLeft 34 = .ok (.iconst 1, 1) := by decide +kernel
theorem dX2_isLeft_35 : decode cX2_isLeft 35 = .ok (.goto 4, 3) := by decide +kernel
theorem dX2_isLeft_38 : decode cX2_isLeft 38 = .ok (.iconst 0, 1) := by decide +kernel
theorem dX2_isLeft_39 : decode cX2_isLeft 39 = .ok (.ireturn, 1) := by decide +kernel
theorem dX2_howMany_0 : decode cX2_howMany 0 = .ok (.iconst 0, 1) := by decide +kernel
theorem dX2_howMany_1 : decode cX2_howMany 1 = .ok (.istore_n 2, 1) := by decide +kernel
theorem dX2_howMany_2 : decode cX2_howMany 2 = .ok (.aload_n 0, 1) := by decide +kernel
theorem dX2_howMany_3 : decode cX2_howMany 3 = .ok (.getfield 15, 3) := by decide +kernel
theorem dX2_howMany_6 : decode cX2_howMany 6 = .ok (.iload_n 1, 1) := by decide +kernel
theorem dX2_howMany_7 : decode cX2_howMany 7 = .ok (.iaload, 1) := by decide +kernel
theorem dX2_howMany_8 : decode cX2_howMany 8 = .ok (.istore_n 3, 1) := by decide +kernel
theorem dX2_howMany_9 : decode cX2_howMany 9 = .ok (.iload_n 3, 1) := by decide +kernel
theorem dX2_howMany_10 : decode cX2_howMany 10 = .ok (.aload_n 0, 1) := by decide +kernel
theorem dX2_howMany_11 : decode cX2_howMany 11 = .ok (.getfield 19, 3) := by decide +kernel
theorem dX2_howMany_14 : decode cX2_howMany 14 = .ok (.iload_n 1, 1) := by decide +kernel
theorem dX2_howMany_15 : decode cX2_howMany 15 = .ok (.iaload, 1) := by decide +kernel
theorem dX2_howMany_16 : decode cX2_howMany 16 = .ok (.if_icmp .gt 26, 3) := by decide +kernel
theorem dX2_howMany_19 : decode cX2_howMany 19 = .ok (.iload_n 2, 1) := by decide +kernel
theorem dX2_howMany_20 : decode cX2_howMany 20 = .ok (.aload_n 0, 1) := by decide +kernel
theorem dX2_howMany_21 : decode cX2_howMany 21 = .ok (.iload_n 1, 1) := by decide +kernel
theorem dX2_howMany_22 : decode cX2_howMany 22 = .ok (.iload_n 3, 1) := by decide +kernel
theorem dX2_howMany_23 : decode cX2_howMany 23 = .ok (.invokevirtual 109, 3) := by decide +kernel
theorem dX2_howMany_26 : decode cX2_howMany 26 = .ok (.ifCond .eq 7, 3) := by decide +kernel
theorem dX2_howMany_29 : decode cX2_howMany 29 = .ok (.iconst 1, 1) := by decide +kernel
theorem dX2_howMany_30 : decode cX2_howMany 30 = .ok (.goto 4, 3) := by decide +kernel
theorem dX2_howMany_33 : decode cX2_howMany 33 = .ok (.iconst 0, 1) := by decide +kernel
theorem dX2_howMany_34 : decode cX2_howMany 34 = .ok (.iadd, 1) := by decide +kernel
theorem dX2_howMany_35 : decode cX2_howMany 35 = .ok (.istore_n 2, 1) := by decide +kernel
theorem dX2_howMany_36 : decode cX2_howMany 36 = .ok (.iinc 3 1, 3) := by decide +kernel
theorem dX2_howMany_39 : decode cX2_howMany 39 = .ok (.goto (-30), 3) := by decide +kernel
theorem dX2_howMany_42 : decode cX2_howMany 42 = .ok (.iload_n 2, 1) := by decide +kernel
theorem dX2_howMany_43 : decode cX2_howMany 43 = .ok (.ireturn, 1) := by decide +kernel
theorem dX2_canComeOut_0 : decode cX2_canComeOut 0 = .ok (.iconst 0, 1) := by decide +kernel
theorem dX2_canComeOut_1 : decode cX2_canComeOut 1 = .ok (.istore_n 2, 1) := by decide +kernel
theorem dX2_canComeOut_2 : decode cX2_canComeOut 2 = .ok (.iload_n 2, 1) := by decide +kernel
theorem dX2_canComeOut_3 : decode cX2_canComeOut 3 = .ok (.bipush 12, 2) := by decide +kernel
theorem dX2_canComeOut_5 : decode cX2_canComeOut 5 = .ok (.if_icmp .ge 31, 3) := by decide +kernel
theorem dX2_canComeOut_8 : decode cX2_canComeOut 8 = .ok (.aload_n 0, 1) := by decide +kernel
theorem dX2_canComeOut_9 : decode cX2_canComeOut 9 = .ok (.getfield 33, 3) := by decide +kernel
theorem dX2_canComeOut_12 : decode cX2_canComeOut 12 = .ok (.iload_n 1, 1) := by decide +kernel
theorem dX2_canComeOut_13 : decode cX2_canComeOut 13 = .ok (.iload_n 2, 1) := by decide +kernel
theorem dX2_canComeOut_14 : decode cX2_canComeOut 14 = .ok (.invokevirtual 80, 3) := by decide +kernel
theorem dX2_canComeOut_17 : decode cX2_canComeOut 17 = .ok (.ifCond .eq 13, 3) := by decide +kernel
theorem dX2_canComeOut_20 : decode cX2_canComeOut 20 = .ok (.aload_n 0, 1) := by decide +kernel
theorem dX2_canComeOut_21 : decode cX2_canComeOut 21 = .ok (.iload_n 2, 1) := by decide +kernel
theorem dX2_canComeOut_22 : decode cX2_canComeOut 22 = .ok (.invokevirtual 112, 3) := by decide +kernel
theorem dX2_canComeOut_25 : decode cX2_canComeOut 25 = .ok (.ifCond .ne 5, 3) := by decide +kernel
theorem dX2_canComeOut_28 : decode cX2_canComeOut 28 = .ok (.iconst 0, 1) := by decide +kernel
theorem dX2_canComeOut_29 : decode cX2_canComeOut 29 = .ok (.ireturn, 1) := by decide +kernel
theorem dX2_canComeOut_30 : decode cX2_canComeOut 30 = .ok (.iinc 2 1, 3) := by decide +kernel
theorem dX2_canComeOut_33 : decode cX2_canComeOut 33 = .ok (.goto (-31), 3) := by decide +kernel
theorem dX2_canComeOut_36 : decode cX2_canComeOut 36 = .ok (.aload_n 0, 1) := by decide +kernel
theorem dX2_canComeOut_37 : decode cX2_canComeOut 37 = .ok (.iload_n 1, 1) := by decide +kernel
theorem dX2_canComeOut_38 : decode cX2_canComeOut 38 = .ok (.invokevirtual 74, 3) := by decide +kernel
theorem dX2_canComeOut_41 : decode cX2_canComeOut 41 = .ok (.aload_n 0, 1) := by decide +kernel
theorem dX2_canComeOut_42 : decode cX2_canComeOut 42 = .ok (.getfield 33, 3) := by decide +kernel
theorem dX2_canComeOut_45 : decode cX2_canComeOut 45 = .ok (.iload_n 1, 1) := by decide +kernel
theorem dX2_canComeOut_46 : decode cX2_canComeOut 46 = .ok (.invokevirtual 70, 3) := by decide +kernel
theorem dX2_canComeOut_49 : decode cX2_canComeOut 49 = .ok (.if_icmp .gt 23, 3) := by decide +kernel
theorem dX2_canComeOut_52 : decode cX2_canComeOut 52 = .ok (.aload_n 0, 1) := by decide +kernel
theorem dX2_canComeOut_53 : decode cX2_canComeOut 53 = .ok (.getfield 33, 3) := by decide +kernel
theorem dX2_canComeOut_56 : decode cX2_canComeOut 56 = .ok (.iload_n 1, 1) := by decide +kernel
theorem dX2_canComeOut_57 : decode cX2_canComeOut 57 = .ok (.invokevirtual 70, 3) := by decide +kernel
theorem dX2_canComeOut_60 : decode cX2_canComeOut 60 = .ok (.aload_n 0, 1) := by decide +kernel
theorem dX2_canComeOut_61 : decode cX2_canComeOut 61 = .ok (.iload_n 1, 1) := by decide +kernel
theorem dX2_canComeOut_62 : decode cX2_canComeOut 62 = .ok (.invokevirtual 77, 3) := by decide +kernel
theorem dX2_canComeOut_65 : decode cX2_canComeOut 65 = .ok (.if_icmp .gt 7, 3) := by decide +kernel
theorem dX2_canComeOut_68 : decode cX2_canComeOut 68 = .ok (.iconst 1, 1) := by decide +kernel
theorem dX2_canComeOut_69 : decode cX2_canComeOut 69 = .ok (.goto 4, 3) := by decide +kernel
theorem dX2_canComeOut_72 : decode cX2_canComeOut 72 = .ok (.iconst 0, 1) := by decide +kernel
theorem dX2_canComeOut_73 : decode cX2_canComeOut 73 = .ok (.ireturn, 1) := by decide +kernel
theorem dX3_init_0 : decode cX3_init 0 = .ok (.aload_n 0, 1) := by decide +kernel
theorem dX3_init_1 : decode cX3_init 1 = .ok (.invokespecial 3, 3) := by decide +kernel
theorem dX3_init_4 : decode cX3_init 4 = .ok (.aload_n 0, 1) := by decide +kernel
theorem dX3_init_5 : decode cX3_init 5 = .ok (.bipush 6, 2) := by decide +kernel
theorem dX3_init_7 : decode cX3_init 7 = .ok (.newarray .int, 2) := by decide +kernel
theorem dX3_init_9 : decode cX3_init 9 = .ok (.putfield 9, 3) := by decide +kernel
theorem dX3_init_12 : decode cX3_init 12 = .ok (.aload_n 0, 1) := by decide +kernel
theorem dX3_init_13 : decode cX3_init 13 = .ok (.bipush 6, 2) := by decide +kernel
theorem dX3_init_15 : decode cX3_init 15 = .ok (.newarray .int, 2) := by decide +kernel
theorem dX3_init_17 : decode cX3_init 17 = .ok (.putfield 15, 3) := by decide +kernel
theorem dX3_init_20 : decode cX3_init 20 = .ok (.aload_n 0, 1) := by decide +kernel
theorem dX3_init_21 : decode cX3_init 21 = .ok (.iconst 0, 1) := by decide +kernel
theorem dX3_init_22 : decode cX3_init 22 = .ok (.putfield 18, 3) := by decide +kernel
theorem dX3_init_25 : decode cX3_init 25 = .ok (.aload_n 0, 1) := by decide +kernel
theorem dX3_init_26 : decode cX3_init 26 = .ok (.iconst 0, 1) := by decide +kernel
theorem dX3_init_27 : decode cX3_init 27 = .ok (.putfield 22, 3) := by decide +kernel
theorem dX3_init_30 : decode cX3_init 30 = .ok (.aload_n 0, 1) := by decide +kernel
theorem dX3_init_31 : decode cX3_init 31 = .ok (.iconst 0, 1) := by decide +kernel
theorem dX3_init_32 : decode cX3_init 32 = .ok (.putfield 25, 3) := by decide +kernel
theorem dX3_init_35 : decode cX3_init 35 = .ok (.return_, 1) := by decide +kernel
theorem dX3_arrange_0 : decode cX3_arrange 0 = .ok (.aload_n 0, 1) := by decide +kernel
theorem dX3_arrange_1 : decode cX3_arrange 1 = .ok (.aload_n 1, 1) := by decide +kernel
theorem dX3_arrange_2 : decode cX3_arrange 2 = .ok (.iload_n 2, 1) := by decide +kernel
theorem dX3_arrange_3 : decode cX3_arrange 3 = .ok (.invokevirtual 28, 3) := by decide +kernel
theorem dX3_arrange_6 : decode cX3_arrange 6 = .ok (.iconst 2, 1) := by decide +kernel
theorem dX3_arrange_7 : decode cX3_arrange 7 = .ok (.idiv, 1) := by decide +kernel
theorem dX3_arrange_8 : decode cX3_arrange 8 = .ok (.bipush 6, 2) := by decide +kernel
theorem dX3_arrange_10 : decode cX3_arrange 10 = .ok (.invokestatic 34, 3) := by decide +kernel
theorem dX3_arrange_13 : decode cX3_arrange 13 = .ok (.putfield 18, 3) := by decide +kernel
theorem dX3_arrange_16 : decode cX3_arrange 16 = .ok (.iconst 0, 1) := by decide +kernel
theorem dX3_arrange_17 : decode cX3_arrange 17 = .ok (.istore_n 3, 1) := by decide +kernel
theorem dX3_arrange_18 : decode cX3_arrange 18 = .ok (.iload_n 3, 1) := by decide +kernel
theorem dX3_arrange_19 : decode cX3_arrange 19 = .ok (.aload_n 0, 1) := by decide +kernel
theorem dX3_arrange_20 : decode cX3_arrange 20 = .ok (.getfield 18, 3) := by decide +kernel
theorem dX3_arrange_23 : decode cX3_arrange 23 = .ok (.if_icmp .ge 39, 3) := by decide +kernel
theorem dX3_arrange_26 : decode cX3_arrange 26 = .ok (.aload_n 0, 1) := by decide +kernel
theorem dX3_arrange_27 : decode cX3_arrange 27 = .ok (.getfield 9, 3) := by decide +kernel
theorem dX3_arrange_30 : decode cX3_arrange 30 = .ok (.iload_n 3, 1) := by decide +kernel
theorem dX3_arrange_31 : decode cX3_arrange 31 = .ok (.aload_n 1, 1) := by decide +kernel
theorem dX3_arrange_32 : decode cX3_arrange 32 = .ok (.iload_n 2, 1) := by decide +kernel
theorem dX3_arrange_33 : decode cX3_arrange 33 = .ok (.iconst 2, 1) := by decide +kernel
theorem dX3_arrange_34 : decode cX3_arrange 34 = .ok (.iload_n 3, 1) := by decide +kernel
theorem dX3_arrange_35 : decode cX3_arrange 35 = .ok (.imul, 1) := by decide +kernel
theorem dX3_arrange_36 : decode cX3_arrange 36 = .ok (.invokevirtual 40, 3) := by decide +kernel
theorem dX3_arrange_39 : decode cX3_arrange 39 = .ok (.iastore, 1) := by decide +kernel
theorem dX3_arrange_40 : decode cX3_arrange 40 = .ok (.aload_n 0, 1) := by decide +kernel
theorem dX3_arrange_41 : decode cX3_arrange 41 = .ok (.getfield 15, 3) := by decide +kernel
theorem dX3_arrange_44 : decode cX3_arrange 44 = .ok (.iload_n 3, 1) := by decide +kernel
theorem dX3_arrange_45 : decode cX3_arrange 45 = .ok (.aload_n 1, 1) := by decide +kernel
theorem dX3_arrange_46 : decode cX3_arrange 46 = .ok (.iload_n 2, 1) := by decide +kernel
theorem dX3_arrange_47 : decode cX3_arrange 47 = .ok (.iconst 2, 1) := by decide +kernel
theorem dX3_arrange_48 : decode cX3_arrange 48 = .ok (.iload_n 3, 1) := by decide +kernel
theorem dX3_arrange_49 : decode cX3_arrange 49 = .ok (.imul, 1) := by decide +kernel
theorem dX3_arrange_50 : decode cX3_arrange 50 = .ok (.iconst 1, 1) := by decide +kernel
theorem dX3_arrange_51 : decode cX3_arrange 51 = .ok (.iadd, 1) := by decide +kernel
theorem dX3_arrange_52 : decode cX3_arrange 52 = .ok (.invokevirtual 40, 3) := by decide +kernel
theorem dX3_arrange_55 : decode cX3_arrange 55 = .ok (.iastore, 1) := by decide +kernel
theorem dX3_arrange_56 : decode cX3_arrange 56 = .ok (.iinc 3 1, 3) := by decide +kernel
theorem dX3_arrange_59 : decode cX3_arrange 59 = .ok (.goto (-41), 3) := by decide +kernel
theorem dX3_arrange_62 : decode cX3_arrange 62 = .ok (.aload_n 0, 1) := by decide +kernel
theorem dX3_arrange_63 : decode cX3_arrange 63 = .ok (.iconst 0, 1) := by decide +kernel
theorem dX3_arrange_64 : decode cX3_arrange 64 = .ok (.putfield 22, 3) := by decide +kernel
theorem dX3_arrange_67 : decode cX3_arrange 67 = .ok (.aload_n 0, 1) := by decide +kernel
theorem dX3_arrange_68 : decode cX3_arrange 68 = .ok (.iconst 0, 1) := by decide +kernel
theorem dX3_arrange_69 : decode cX3_arrange 69 = .ok (.putfield 25, 3) := by decide +kernel
theorem dX3_arrange_72 : decode cX3_arrange 72 = .ok (.aload_n 0, 1) := by decide +kernel
theorem dX3_arrange_73 : decode cX3_arrange 73 = .ok (.iconst 0, 1) := by decide +kernel
theorem dX3_arrange_74 : decode cX3_arrange 74 = .ok (.iconst 0, 1) := by decide +kernel
theorem dX3_arrange_75 : decode cX3_arrange 75 = .ok (.bipush (-9), 2) := by decide +kernel
theorem dX3_arrange_77 : decode cX3_arrange 77 = .ok (.iconst 0, 1) := by decide +kernel
theorem dX3_arrange_78 : decode cX3_arrange 78 = .ok (.invokevirtual 43, 3) := by decide +kernel
theorem dX3_arrange_81 : decode cX3_arrange 81 = .ok (.return_, 1) := by decide +kernel
theorem dX3_place_0 : decode cX3_place 0 = .ok (.iload_n 1, 1) := by decide +kernel
theorem dX3_place_1 : decode cX3_place 1 = .ok (.aload_n 0, 1) := by decide +kernel
theorem dX3_place_2 : decode cX3_place 2 = .ok (.getfield 18, 3) := by decide +kernel
theorem dX3_place_5 : decode cX3_place 5 = .ok (.if_icmp .lt 27, 3) := by decide +kernel
theorem dX3_place_8 : decode cX3_place 8 = .ok (.aload_n 0, 1) := by decide +kernel
theorem dX3_place_9 : decode cX3_place 9 = .ok (.getfield 22, 3) := by decide +kernel
theorem dX3_place_12 : decode cX3_place 12 = .ok (.ifCond .ne 9, 3) := by decide +kernel
theorem dX3_place_15 : decode cX3_place 15 = .ok (.aload_n 0, 1) := by decide +kernel
theorem dX3_place_16 : decode cX3_place 16 = .ok (.iload 4, 2) := by decide +kernel
theorem dX3_place_18 : decode cX3_place 18 = .ok (.putfield 25, 3) := by decide +kernel
theorem dX3_place_21 : decode cX3_place 21 = .ok (.aload_n 0, 1) := by decide +kernel
theorem dX3_place_22 : decode cX3_place 22 = .ok (.dup, 1) := by decide +kernel
theorem dX3_place_23 : decode cX3_place 23 = .ok (.getfield 22, 3) := by decide +kernel
theorem dX3_place_26 : decode cX3_place 26 = .ok (.iconst 1, 1) := by decide +kernel
theorem dX3_place_27 : decode cX3_place 27 = .ok (.iadd, 1) := by decide +kernel
theorem dX3_place_28 : decode cX3_place 28 = .ok (.putfield 22, 3) := by decide +kernel
theorem dX3_place_31 : decode cX3_place 31 = .ok (.return_, 1) := by decide +kernel
theorem dX3_place_32 : decode cX3_place 32 = .ok (.iconst 0, 1) := by decide +kernel
theorem dX3_place_33 : decode cX3_place 33 = .ok (.istore 5, 2) := by decide +kernel
theorem dX3_place_35 : decode cX3_place 35 = .ok (.iload 5, 2) := by decide +kernel
theorem dX3_place_37 : decode cX3_place 37 = .ok (.aload_n 0, 1) := by decide +kernel
theorem dX3_place_38 : decode cX3_place 38 = .ok (.getfield 18, 3) := by decide +kernel
theorem dX3_place_41 : decode cX3_place 41 = .ok (.if_icmp .ge 62, 3) := by decide +kernel
theorem dX3_place_44 : decode cX3_place 44 = .ok (.iload_n 2, 1) := by decide +kernel
theorem dX3_place_45 : decode cX3_place 45 = .ok (.iload 5, 2) := by decide +kernel
theorem dX3_place_47 : decode cX3_place 47 = .ok (.ishr, 1) := by decide +kernel
theorem dX3_place_48 : decode cX3_place 48 = .ok (.iconst 1, 1) := by decide +kernel
theorem dX3_place_49 : decode cX3_place 49 = .ok (.iand, 1) := by decide +kernel
theorem dX3_place_50 : decode cX3_place 50 = .ok (.ifCond .ne 47, 3) := by decide +kernel
theorem dX3_place_53 : decode cX3_place 53 = .ok (.iload_n 3, 1) := by decide +kernel
theorem dX3_place_54 : decode cX3_place 54 = .ok (.aload_n 0, 1) := by decide +kernel
theorem dX3_place_55 : decode cX3_place 55 = .ok (.getfield 9, 3) := by decide +kernel
theorem dX3_place_58 : decode cX3_place 58 = .ok (.iload 5, 2) := by decide +kernel
theorem dX3_place_60 : decode cX3_place 60 = .ok (.iaload, 1) := by decide +kernel
theorem dX3_place_61 : decode cX3_place 61 = .ok (.invokestatic 47, 3) := by decide +kernel
theorem dX3_place_64 : decode cX3_place 64 = .ok (.ifCond .eq 33, 3) := by decide +kernel
theorem dX3_place_67 : decode cX3_place 67 = .ok (.aload_n 0, 1) := by decide +kernel
theorem dX3_place_68 : decode cX3_place 68 = .ok (.iload_n 1, 1) := by decide +kernel
theorem dX3_place_69 : decode cX3_place 69 = .ok (.iconst 1, 1) := by decide +kernel
theorem dX3_place_70 : decode cX3_place 70 = .ok (.iadd, 1) := by decide +kernel
theorem dX3_place_71 : decode cX3_place 71 = .ok (.iload_n 2, 1) := by decide +kernel
theorem dX3_place_72 : decode cX3_place 72 = .ok (.iconst 1, 1) := by decide +kernel
theorem dX3_place_73 : decode cX3_place 73 = .ok (.iload 5, 2) := by decide +kernel
theorem dX3_place_75 : decode cX3_place 75 = .ok (.ishl, 1) := by decide +kernel
theorem dX3_place_76 : decode cX3_place 76 = .ok (.ior, 1) := by decide +kernel
theorem dX3_place_77 : decode cX3_place 77 = .ok (.aload_n 0, 1) := by decide +kernel
theorem dX3_place_78 : decode cX3_place 78 = .ok (.getfield 15, 3) := by decide +kernel
theorem dX3_place_81 : decode cX3_place 81 = .ok (.iload 5, 2) := by decide +kernel
theorem dX3_place_83 : decode cX3_place 83 = .ok (.iaload, 1) := by decide +kernel
theorem dX3_place_84 : decode cX3_place 84 = .ok (.bipush 10, 2) := by decide +kernel
theorem dX3_place_86 : decode cX3_place 86 = .ok (.iload 4, 2) := by decide +kernel
theorem dX3_place_88 : decode cX3_place 88 = .ok (.imul, 1) := by decide +kernel
theorem dX3_place_89 : decode cX3_place 89 = .ok (.iload 5, 2) := by decide +kernel
theorem dX3_place_91 : decode cX3_place 91 = .ok (.iadd, 1) := by decide +kernel
theorem dX3_place_92 : decode cX3_place 92 = .ok (.iconst 1, 1) := by decide +kernel
theorem dX3_place_93 : decode cX3_place 93 = .ok (.iadd, 1) := by decide +kernel
theorem dX3_place_94 : decode cX3_place 94 = .ok (.invokevirtual 43, 3) := by decide +kernel
theorem dX3_place_97 : decode cX3_place 97 = .ok (.iinc 5 1, 3) := by decide +kernel
theorem dX3_place_100 : decode cX3_place 100 = .ok (.goto (-65), 3) := by decide +kernel
theorem dX3_place_103 : decode cX3_place 103 = .ok (.return_, 1) := by decide +kernel
theorem dX3_runsOn_0 : decode cX3_runsOn 0 = .ok (.iload_n 0, 1) := by decide +kernel
theorem dX3_runsOn_1 : decode cX3_runsOn 1 = .ok (.iload_n 1, 1) := by decide +kernel
theorem dX3_runsOn_2 : decode cX3_runsOn 2 = .ok (.if_icmp .eq 15, 3) := by decide +kernel
theorem dX3_runsOn_5 : decode cX3_runsOn 5 = .ok (.iload_n 0, 1) := by decide +kernel
theorem dX3_runsOn_6 : decode cX3_runsOn 6 = .ok (.bipush (-9), 2) := by decide +kernel
theorem dX3_runsOn_8 : decode cX3_runsOn 8 = .ok (.if_icmp .eq 9, 3) := by decide +kernel
theorem dX3_runsOn_11 : decode cX3_runsOn 11 = .ok (.iload_n 1, 1) := by decide +kernel
theorem dX3_runsOn_12 : decode cX3_runsOn 12 = .ok (.bipush (-9), 2) := by decide +kernel
theorem dX3_runsOn_14 : decode cX3_runsOn 14 = .ok (.if_icmp .ne 7, 3) := by decide +kernel
theorem dX3_runsOn_17 : decode cX3_runsOn 17 = .ok (.iconst 1, 1) := by decide +kernel
theorem dX3_runsOn_18 : decode cX3_runsOn 18 = .ok (.goto 4, 3) := by decide +kernel
theorem dX3_runsOn_21 : decode cX3_runsOn 21 = .ok (.iconst 0, 1) := by decide +kernel
theorem dX3_runsOn_22 : decode cX3_runsOn 22 = .ok (.ireturn, 1) := by decide +kernel
theorem dX3_howManyOrders_0 : decode cX3_howManyOrders 0 = .ok (.aload_n 0, 1) := by decide +kernel
theorem dX3_howManyOrders_1 : decode cX3_howManyOrders 1 = .ok (.getfield 22, 3) := by decide +kernel
theorem dX3_howManyOrders_4 : decode cX3_howManyOrders 4 = .ok (.ireturn, 1) := by decide +kernel
theorem dX3_firstOrder_0 : decode cX3_firstOrder 0 = .ok (.aload_n 0, 1) := by decide +kernel
theorem dX3_firstOrder_1 : decode cX3_firstOrder 1 = .ok (.getfield 25, 3) := by decide +kernel
theorem dX3_firstOrder_4 : decode cX3_firstOrder 4 = .ok (.ireturn, 1) := by decide +kernel
theorem dX4_init_0 : decode cX4_init 0 = .ok (.aload_n 0, 1) := by decide +kernel
theorem dX4_init_1 : decode cX4_init 1 = .ok (.invokespecial 3, 3) := by decide +kernel
theorem dX4_init_4 : decode cX4_init 4 = .ok (.aload_n 0, 1) := by decide +kernel
theorem dX4_init_5 : decode cX4_init 5 = .ok (.bipush 12, 2) := by decide +kernel
theorem dX4_init_7 : decode cX4_init 7 = .ok (.newarray .int, 2) := by decide +kernel
theorem dX4_init_9 : decode cX4_init 9 = .ok (.putfield 9, 3) := by decide +kernel
theorem dX4_init_12 : decode cX4_init 12 = .ok (.aload_n 0, 1) := by decide +kernel
theorem dX4_init_13 : decode cX4_init 13 = .ok (.bipush 12, 2) := by decide +kernel
theorem dX4_init_15 : decode cX4_init 15 = .ok (.newarray .int, 2) := by decide +kernel
theorem dX4_init_17 : decode cX4_init 17 = .ok (.putfield 15, 3) := by decide +kernel
theorem dX4_init_20 : decode cX4_init 20 = .ok (.aload_n 0, 1) := by decide +kernel
theorem dX4_init_21 : decode cX4_init 21 = .ok (.bipush 12, 2) := by decide +kernel
theorem dX4_init_23 : decode cX4_init 23 = .ok (.newarray .int, 2) := by decide +kernel
theorem dX4_init_25 : decode cX4_init 25 = .ok (.putfield 18, 3) := by decide +kernel
theorem dX4_init_28 : decode cX4_init 28 = .ok (.aload_n 0, 1) := by decide +kernel
theorem dX4_init_29 : decode cX4_init 29 = .ok (.sipush 4096, 3) := by decide +kernel
theorem dX4_init_32 : decode cX4_init 32 = .ok (.newarray .boolean, 2) := by decide +kernel
theorem dX4_init_34 : decode cX4_init 34 = .ok (.putfield 21, 3) := by decide +kernel
theorem dX4_init_37 : decode cX4_init 37 = .ok (.aload_n 0, 1) := by decide +kernel
theorem dX4_init_38 : decode cX4_init 38 = .ok (.sipush 4096, 3) := by decide +kernel
theorem dX4_init_41 : decode cX4_init 41 = .ok (.newarray .int, 2) := by decide +kernel
theorem dX4_init_43 : decode cX4_init 43 = .ok (.putfield 25, 3) := by decide +kernel
theorem dX4_init_46 : decode cX4_init 46 = .ok (.aload_n 0, 1) := by decide +kernel
theorem dX4_init_47 : decode cX4_init 47 = .ok (.iconst 0, 1) := by decide +kernel
theorem dX4_init_48 : decode cX4_init 48 = .ok (.putfield 28, 3) := by decide +kernel
theorem dX4_init_51 : decode cX4_init 51 = .ok (.aload_n 0, 1) := by decide +kernel
theorem dX4_init_52 : decode cX4_init 52 = .ok (.aload_n 1, 1) := by decide +kernel
theorem dX4_init_53 : decode cX4_init 53 = .ok (.putfield 32, 3) := by decide +kernel
theorem dX4_init_56 : decode cX4_init 56 = .ok (.aload_n 0, 1) := by decide +kernel
theorem dX4_init_57 : decode cX4_init 57 = .ok (.aload_n 2, 1) := by decide +kernel
theorem dX4_init_58 : decode cX4_init 58 = .ok (.putfield 36, 3) := by decide +kernel
theorem dX4_init_61 : decode cX4_init 61 = .ok (.aload_n 0, 1) := by decide +kernel
theorem dX4_init_62 : decode cX4_init 62 = .ok (.aload_n 3, 1) := by decide +kernel
theorem dX4_init_63 : decode cX4_init 63 = .ok (.putfield 40, 3) := by decide +kernel
theorem dX4_init_66 : decode cX4_init 66 = .ok (.return_, 1) := by decide +kernel
theorem dX4_match_0 : decode cX4_match 0 = .ok (.aload_n 0, 1) := by decide +kernel
theorem dX4_match_1 : decode cX4_match 1 = .ok (.invokevirtual 44, 3) := by decide +kernel
theorem dX4_match_4 : decode cX4_match 4 = .ok (.aload_n 0, 1) := by decide +kernel
theorem dX4_match_5 : decode cX4_match 5 = .ok (.invokevirtual 47, 3) := by decide +kernel
theorem dX4_match_8 : decode cX4_match 8 = .ok (.aload_n 0, 1) := by decide +kernel
theorem dX4_match_9 : decode cX4_match 9 = .ok (.invokevirtual 50, 3) := by decide +kernel
theorem dX4_match_12 : decode cX4_match 12 = .ok (.iconst 0, 1) := by decide +kernel
theorem dX4_match_13 : decode cX4_match 13 = .ok (.istore_n 1, 1) := by decide +kernel
theorem dX4_match_14 : decode cX4_match 14 = .ok (.iload_n 1, 1) := by decide +kernel
theorem dX4_match_15 : decode cX4_match 15 = .ok (.aload_n 0, 1) := by decide +kernel
theorem dX4_match_16 : decode cX4_match 16 = .ok (.getfield 28, 3) := by decide +kernel
theorem dX4_match_19 : decode cX4_match 19 = .ok (.if_icmp .ge 20, 3) := by decide +kernel
theorem dX4_match_22 : decode cX4_match 22 = .ok (.aload_n 0, 1) := by decide +kernel
theorem dX4_match_23 : decode cX4_match 23 = .ok (.getfield 18, 3) := by decide +kernel
theorem dX4_match_26 : decode cX4_match 26 = .ok (.iload_n 1, 1) := by decide +kernel
theorem dX4_match_27 : decode cX4_match 27 = .ok (.aload_n 0, 1) := by decide +kernel
theorem dX4_match_28 : decode cX4_match 28 = .ok (.iload_n 1, 1) := by decide +kernel
theorem dX4_match_29 : decode cX4_match 29 = .ok (.invokevirtual 53, 3) := by decide +kernel
theorem dX4_match_32 : decode cX4_match 32 = .ok (.iastore, 1) := by decide +kernel
theorem dX4_match_33 : decode cX4_match 33 = .ok (.iinc 1 1, 3) := by decide +kernel
theorem dX4_match_36 : decode cX4_match 36 = .ok (.goto (-22), 3) := by decide +kernel
theorem dX4_match_39 : decode cX4_match 39 = .ok (.return_, 1) := by decide +kernel
theorem dX4_findOpenPlaces_0 : decode cX4_findOpenPlaces 0 = .ok (.aload_n 0, 1) := by decide +kernel
theorem dX4_findOpenPlaces_1 : decode cX4_findOpenPlaces 1 = .ok (.iconst 0, 1) := by decide +kernel
theorem dX4_findOpenPlaces_2 : decode cX4_findOpenPlaces 2 = .ok (.putfield 28, 3) := by decide +kernel
theorem dX4_findOpenPlaces_5 : decode cX4_findOpenPlaces 5 = .ok (.iconst 0, 1) := by decide +kernel
theorem dX4_findOpenPlaces_6 : decode cX4_findOpenPlaces 6 = .ok (.istore_n 1, 1) := by decide +kernel
theorem dX4_findOpenPlaces_7 : decode cX4_findOpenPlaces 7 = .ok (.iload_n 1, 1) := by decide +kernel
theorem dX4_findOpenPlaces_8 : decode cX4_findOpenPlaces 8 = .ok (.bipush 12, 2) := by decide +kernel
theorem dX4_findOpenPlaces_10 : decode cX4_findOpenPlaces 10 = .ok (.if_icmp .ge 107, 3) := by decide +kernel
theorem dX4_findOpenPlaces_13 : decode cX4_findOpenPlaces 13 = .ok (.aload_n 0, 1) := by decide +kernel
theorem dX4_findOpenPlaces_14 : decode cX4_findOpenPlaces 14 = .ok (.getfield 32, 3) := by decide +kernel
theorem dX4_findOpenPlaces_17 : decode cX4_findOpenPlaces 17 = .ok (.iload_n 1, 1) := by decide +kernel
theorem dX4_findOpenPlaces_18 : decode cX4_findOpenPlaces 18 = .ok (.invokevirtual 57, 3) := by decide +kernel
theorem dX4_findOpenPlaces_21 : decode cX4_findOpenPlaces 21 = .ok (.iconst 3, 1) := by decide +kernel
theorem dX4_findOpenPlaces_22 : decode cX4_findOpenPlaces 22 = .ok (.if_icmp .eq 6, 3) := by decide +kernel
theorem dX4_findOpenPlaces_25 : decode cX4_findOpenPlaces 25 = .ok (.goto 86, 3) := by decide +kernel
theorem dX4_findOpenPlaces_28 : decode cX4_findOpenPlaces 28 = .ok (.aload_n 0, 1) := by decide +kernel
theorem dX4_findOpenPlaces_29 : decode cX4_findOpenPlaces 29 = .ok (.getfield 9, 3) := by decide +kernel
theorem dX4_findOpenPlaces_32 : decode cX4_findOpenPlaces 32 = .ok (.aload_n 0, 1) := by decide +kernel
theorem dX4_findOpenPlaces_33 : decode cX4_findOpenPlaces 33 = .ok (.getfield 28, 3) := by decide +kernel
theorem dX4_findOpenPlaces_36 : decode cX4_findOpenPlaces 36 = .ok (.iload_n 1, 1) := by decide +kernel
theorem dX4_findOpenPlaces_37 : decode cX4_findOpenPlaces 37 = .ok (.iastore, 1) := by decide +kernel
theorem dX4_findOpenPlaces_38 : decode cX4_findOpenPlaces 38 = .ok (.aload_n 0, 1) := by decide +kernel
theorem dX4_findOpenPlaces_39 : decode cX4_findOpenPlaces 39 = .ok (.getfield 15, 3) := by decide +kernel
theorem dX4_findOpenPlaces_42 : decode cX4_findOpenPlaces 42 = .ok (.aload_n 0, 1) := by decide +kernel
theorem dX4_findOpenPlaces_43 : decode cX4_findOpenPlaces 43 = .ok (.getfield 28, 3) := by decide +kernel
theorem dX4_findOpenPlaces_46 : decode cX4_findOpenPlaces 46 = .ok (.iconst 0, 1) := by decide +kernel
theorem dX4_findOpenPlaces_47 : decode cX4_findOpenPlaces 47 = .ok (.iastore, 1) := by decide +kernel
theorem dX4_findOpenPlaces_48 : decode cX4_findOpenPlaces 48 = .ok (.iconst 0, 1) := by decide +kernel
theorem dX4_findOpenPlaces_49 : decode cX4_findOpenPlaces 49 = .ok (.istore_n 2, 1) := by decide +kernel
theorem dX4_findOpenPlaces_50 : decode cX4_findOpenPlaces 50 = .ok (.iload_n 2, 1) := by decide +kernel
theorem dX4_findOpenPlaces_51 : decode cX4_findOpenPlaces 51 = .ok (.aload_n 0, 1) := by decide +kernel
theorem dX4_findOpenPlaces_52 : decode cX4_findOpenPlaces 52 = .ok (.getfield 36, 3) := by decide +kernel
theorem dX4_findOpenPlaces_55 : decode cX4_findOpenPlaces 55 = .ok (.invokevirtual 62, 3) := by decide +kernel
theorem dX4_findOpenPlaces_58 : decode cX4_findOpenPlaces 58 = .ok (.if_icmp .ge 43, 3) := by decide +kernel
theorem dX4_findOpenPlaces_61 : decode cX4_findOpenPlaces 61 = .ok (.aload_n 0, 1) := by decide +kernel
theorem dX4_findOpenPlaces_62 : decode cX4_findOpenPlaces 62 = .ok (.getfield 40, 3) := by decide +kernel
theorem dX4_findOpenPlaces_65 : decode cX4_findOpenPlaces 65 = .ok (.iload_n 1, 1) := by decide +kernel
theorem dX4_findOpenPlaces_66 : decode cX4_findOpenPlaces 66 = .ok (.aload_n 0, 1) := by decide +kernel
theorem dX4_findOpenPlaces_67 : decode cX4_findOpenPlaces 67 = .ok (.getfield 36, 3) := by decide +kernel
theorem dX4_findOpenPlaces_70 : decode cX4_findOpenPlaces 70 = .ok (.iload_n 2, 1) := by decide +kernel
theorem dX4_findOpenPlaces_71 : decode cX4_findOpenPlaces 71 = .ok (.invokevirtual 68, 3) := by decide +kernel
theorem dX4_findOpenPlaces_74 : decode cX4_findOpenPlaces 74 = .ok (.invokevirtual 71, 3) := by decide +kernel
theorem dX4_findOpenPlaces_77 : decode cX4_findOpenPlaces 77 = .ok (.ifCond .eq 18, 3) := by decide +kernel
theorem dX4_findOpenPlaces_80 : decode cX4_findOpenPlaces 80 = .ok (.aload_n 0, 1) := by decide +kernel
theorem dX4_findOpenPlaces_81 : decode cX4_findOpenPlaces 81 = .ok (.getfield 15, 3) := by decide +kernel
theorem dX4_findOpenPlaces_84 : decode cX4_findOpenPlaces 84 = .ok (.aload_n 0, 1) := by decide +kernel
theorem dX4_findOpenPlaces_85 : decode cX4_findOpenPlaces 85 = .ok (.getfield 28, 3) := by decide +kernel
theorem dX4_findOpenPlaces_88 : decode cX4_findOpenPlaces 88 = .ok (.dup2, 1) := by decide +kernel
theorem dX4_findOpenPlaces_89 : decode cX4_findOpenPlaces 89 = .ok (.iaload, 1) := by decide +kernel
theorem dX4_findOpenPlaces_90 : decode cX4_findOpenPlaces 90 = .ok (.iconst 1, 1) := by decide +kernel
theorem dX4_findOpenPlaces_91 : decode cX4_findOpenPlaces 91 = .ok (.iload_n 2, 1) := by decide +kernel
theorem dX4_findOpenPlaces_92 : decode cX4_findOpenPlaces 92 = .ok (.ishl, 1) := by decide +kernel
theorem dX4_findOpenPlaces_93 : decode cX4_findOpenPlaces 93 = .ok (.ior, 1) := by decide +kernel
theorem dX4_findOpenPlaces_94 : decode cX4_findOpenPlaces 94 = .ok (.iastore, 1) := by decide +kernel
theorem dX4_findOpenPlaces_95 : decode cX4_findOpenPlaces 95 = .ok (.iinc 2 1, 3) := by decide +kernel
theorem dX4_findOpenPlaces_98 : decode cX4_findOpenPlaces 98 = .ok (.goto (-48), 3) := by decide +kernel
theorem dX4_findOpenPlaces_101 : decode cX4_findOpenPlaces 101 = .ok (.aload_n 0, 1) := by decide +kernel
theorem dX4_findOpenPlaces_102 : decode cX4_findOpenPlaces 102 = .ok (.dup, 1) := by decide +kernel
theorem dX4_findOpenPlaces_103 : decode cX4_findOpenPlaces 103 = .ok (.getfield 28, 3) := by decide +kernel
theorem dX4_findOpenPlaces_106 : decode cX4_findOpenPlaces 106 = .ok (.iconst 1, 1) := by decide +kernel
theorem dX4_findOpenPlaces_107 : decode cX4_findOpenPlaces 107 = .ok (.iadd, 1) := by decide +kernel
theorem dX4_findOpenPlaces_108 : decode cX4_findOpenPlaces 108 = .ok (.putfield 28, 3) := by decide +kernel
theorem dX4_findOpenPlaces_111 : decode cX4_findOpenPlaces 111 = .ok (.iinc 1 1, 3) := by decide +kernel
theorem dX4_findOpenPlaces_114 : decode cX4_findOpenPlaces 114 = .ok (.goto (-107), 3) := by decide +kernel
theorem dX4_findOpenPlaces_117 : decode cX4_findOpenPlaces 117 = .ok (.return_, 1) := by decide +kernel
theorem dX4_sets_0 : decode cX4_sets 0 = .ok (.iconst 1, 1) := by decide +kernel
theorem dX4_sets_1 : decode cX4_sets 1 = .ok (.aload_n 0, 1) := by decide +kernel
theorem dX4_sets_2 : decode cX4_sets 2 = .ok (.getfield 36, 3) := by decide +kernel
theorem dX4_sets_5 : decode cX4_sets 5 = .ok (.invokevirtual 62, 3) := by decide +kernel
theorem dX4_sets_8 : decode cX4_sets 8 = .ok (.ishl, 1) := by decide +kernel
theorem dX4_sets_9 : decode cX4_sets 9 = .ok (.ireturn, 1) := by decide +kernel
theorem dX4_openBehind_0 : decode cX4_openBehind 0 = .ok (.iload_n 1, 1) := by decide +kernel
theorem dX4_openBehind_1 : decode cX4_openBehind 1 = .ok (.invokestatic 77, 3) := by decide +kernel
theorem dX4_openBehind_4 : decode cX4_openBehind 4 = .ok (.istore_n 2, 1) := by decide +kernel
theorem dX4_openBehind_5 : decode cX4_openBehind 5 = .ok (.iload_n 2, 1) := by decide +kernel
theorem dX4_openBehind_6 : decode cX4_openBehind 6 = .ok (.aload_n 0, 1) := by decide +kernel
theorem dX4_openBehind_7 : decode cX4_openBehind 7 = .ok (.getfield 28, 3) := by decide +kernel
theorem dX4_openBehind_10 : decode cX4_openBehind 10 = .ok (.if_icmp .ge 16, 3) := by decide +kernel
theorem dX4_openBehind_13 : decode cX4_openBehind 13 = .ok (.aload_n 0, 1) := by decide +kernel
theorem dX4_openBehind_14 : decode cX4_openBehind 14 = .ok (.getfield 15, 3) := by decide +kernel
theorem dX4_openBehind_17 : decode cX4_openBehind 17 = .ok (.iload_n 2, 1) := by decide +kernel
theorem dX4_openBehind_18 : decode cX4_openBehind 18 = .ok (.iaload, 1) := by decide +kernel
theorem dX4_openBehind_19 : decode cX4_openBehind 19 = .ok (.iload_n 1, 1) := by decide +kernel
theorem dX4_openBehind_20 : decode cX4_openBehind 20 = .ok (.iconst (-1), 1) := by decide +kernel
theorem dX4_openBehind_21 : decode cX4_openBehind 21 = .ok (.ixor, 1) := by decide +kernel
theorem dX4_openBehind_22 : decode cX4_openBehind 22 = .ok (.iand, 1) := by decide +kernel
theorem dX4_openBehind_23 : decode cX4_openBehind 23 = .ok (.goto 4, 3) := by decide +kernel
theorem dX4_openBehind_26 : decode cX4_openBehind 26 = .ok (.iconst 0, 1) := by decide +kernel
theorem dX4_openBehind_27 : decode cX4_openBehind 27 = .ok (.ireturn, 1) := by decide +kernel
theorem dX4_findReached_0 : decode cX4_findReached 0 = .ok (.iconst 0, 1) := by decide +kernel
theorem dX4_findReached_1 : decode cX4_findReached 1 = .ok (.istore_n 1, 1) := by decide +kernel
theorem dX4_findReached_2 : decode cX4_findReached 2 = .ok (.iload_n 1, 1) := by decide +kernel
theorem dX4_findReached_3 : decode cX4_findReached 3 = .ok (.aload_n 0, 1) := by decide +kernel
theorem dX4_findReached_4 : decode cX4_findReached 4 = .ok (.invokevirtual 82, 3) := by decide +kernel
theorem dX4_findReached_7 : decode cX4_findReached 7 = .ok (.if_icmp .ge 24, 3) := by decide +kernel
theorem dX4_findReached_10 : decode cX4_findReached 10 = .ok (.aload_n 0, 1) := by decide +kernel
theorem dX4_findReached_11 : decode cX4_findReached 11 = .ok (.getfield 21, 3) := by decide +kernel
theorem dX4_findReached_14 : decode cX4_findReached 14 = .ok (.iload_n 1, 1) := by decide +kernel
theorem dX4_findReached_15 : decode cX4_findReached 15 = .ok (.iload_n 1, 1) := by decide +kernel
theorem dX4_findReached_16 : decode cX4_findReached 16 = .ok (.ifCond .ne 7, 3) := by decide +kernel
theorem dX4_findReached_19 : decode cX4_findReached 19 = .ok (.iconst 1, 1) := by decide +kernel
theorem dX4_findReached_20 : decode cX4_findReached 20 = .ok (.goto 4, 3) := by decide +kernel
theorem dX4_findReached_23 : decode cX4_findReached 23 = .ok (.iconst 0, 1) := by decide +kernel
theorem dX4_findReached_24 : decode cX4_findReached 24 = .ok (.bastore, 1) := by decide +kernel
theorem dX4_findReached_25 : decode cX4_findReached 25 = .ok (.iinc 1 1, 3) := by decide +kernel
theorem dX4_findReached_28 : decode cX4_findReached 28 = .ok (.goto (-26), 3) := by decide +kernel
theorem dX4_findReached_31 : decode cX4_findReached 31 = .ok (.iconst 0, 1) := by decide +kernel
theorem dX4_findReached_32 : decode cX4_findReached 32 = .ok (.istore_n 1, 1) := by decide +kernel
theorem dX4_findReached_33 : decode cX4_findReached 33 = .ok (.iload_n 1, 1) := by decide +kernel
theorem dX4_findReached_34 : decode cX4_findReached 34 = .ok (.aload_n 0, 1) := by decide +kernel
theorem dX4_findReached_35 : decode cX4_findReached 35 = .ok (.invokevirtual 82, 3) := by decide +kernel
theorem dX4_findReached_38 : decode cX4_findReached 38 = .ok (.if_icmp .ge 67, 3) := by decide +kernel
theorem dX4_findReached_41 : decode cX4_findReached 41 = .ok (.aload_n 0, 1) := by decide +kernel
theorem dX4_findReached_42 : decode cX4_findReached 42 = .ok (.getfield 21, 3) := by decide +kernel
theorem dX4_findReached_45 : decode cX4_findReached 45 = .ok (.iload_n 1, 1) := by decide +kernel
theorem dX4_findReached_46 : decode cX4_findReached 46 = .ok (.baload, 1) := by decide +kernel
theorem dX4_findReached_47 : decode cX4_findReached 47 = .ok (.ifCond .eq 11, 3) := by decide +kernel
theorem dX4_findReached_50 : decode cX4_findReached 50 = .ok (.aload_n 0, 1) := by decide +kernel
theorem dX4_findReached_51 : decode cX4_findReached 51 = .ok (.iload_n 1, 1) := by decide +kernel
theorem dX4_findReached_52 : decode cX4_findReached 52 = .ok (.invokevirtual 85, 3) := by decide +kernel
theorem dX4_findReached_55 : decode cX4_findReached 55 = .ok (.goto 4, 3) := by decide +kernel
theorem dX4_findReached_58 : decode cX4_findReached 58 = .ok (.iconst 0, 1) := by decide +kernel
theorem dX4_findReached_59 : decode cX4_findReached 59 = .ok (.istore_n 2, 1) := by decide +kernel
theorem dX4_findReached_60 : decode cX4_findReached 60 = .ok (.iconst 0, 1) := by decide +kernel
theorem dX4_findReached_61 : decode cX4_findReached 61 = .ok (.istore_n 3, 1) := by decide +kernel
theorem dX4_findReached_62 : decode cX4_findReached 62 = .ok (.iload_n 3, 1) := by decide +kernel
theorem dX4_findReached_63 : decode cX4_findReached 63 = .ok (.bipush 12, 2) := by decide +kernel
theorem dX4_findReached_65 : decode cX4_findReached 65 = .ok (.if_icmp .ge 34, 3) := by decide +kernel
theorem dX4_findReached_68 : decode cX4_findReached 68 = .ok (.iload_n 2, 1) := by decide +kernel
theorem dX4_findReached_69 : decode cX4_findReached 69 = .ok (.iload_n 3, 1) := by decide +kernel
theorem dX4_findReached_70 : decode cX4_findReached 70 = .ok (.ishr, 1) := by decide +kernel
theorem dX4_findReached_71 : decode cX4_findReached 71 = .ok (.ifCond .eq 28, 3) := by decide +kernel
theorem dX4_findReached_74 : decode cX4_findReached 74 = .ok (.iload_n 2, 1) := by decide +kernel
theorem dX4_findReached_75 : decode cX4_findReached 75 = .ok (.iload_n 3, 1) := by decide +kernel
theorem dX4_findReached_76 : decode cX4_findReached 76 = .ok (.ishr, 1) := by decide +kernel
theorem dX4_findReached_77 : decode cX4_findReached 77 = .ok (.iconst 1, 1) := by decide +kernel
theorem dX4_findReached_78 : decode cX4_findReached 78 = .ok (.iand, 1) := by decide +kernel
theorem dX4_findReached_79 : decode cX4_findReached 79 = .ok (.ifCond .eq 14, 3) := by decide +kernel
theorem dX4_findReached_82 : decode cX4_findReached 82 = .ok (.aload_n 0, 1) := by decide +kernel
theorem dX4_findReached_83 : decode cX4_findReached 83 = .ok (.getfield 21, 3) := by decide +kernel
theorem dX4_findReached_86 : decode cX4_findReached 86 = .ok (.iload_n 1, 1) := by decide +kernel
theorem dX4_findReached_87 : decode cX4_findReached 87 = .ok (.iconst 1, 1) := by decide +kernel
theorem dX4_findReached_88 : decode cX4_findReached 88 = .ok (.iload_n 3, 1) := by decide +kernel
theorem dX4_findReached_89 : decode cX4_findReached 89 = .ok (.ishl, 1) := by decide +kernel
theorem dX4_findReached_90 : decode cX4_findReached 90 = .ok (.ior, 1) := by decide +kernel
theorem dX4_findReached_91 : decode cX4_findReached 91 = .ok (.iconst 1, 1) := by decide +kernel
theorem dX4_findReached_92 : decode cX4_findReached 92 = .ok (.bastore, 1) := by decide +kernel
theorem dX4_findReached_93 : decode cX4_findReached 93 = .ok (.iinc 3 1, 3) := by decide +kernel
theorem dX4_findReached_96 : decode cX4_findReached 96 = .ok (.goto (-34), 3) := by decide +kernel
theorem dX4_findReached_99 : decode cX4_findReached 99 = .ok (.iinc 1 1, 3) := by decide +kernel
theorem dX4_findReached_102 : decode cX4_findReached 102 = .ok (.goto (-69), 3) := by decide +kernel
theorem dX4_findReached_105 : decode cX4_findReached 105 = .ok (.return_, 1) := by decide +kernel
theorem dX4_countBehind_0 : decode cX4_countBehind 0 = .ok (.aload_n 0, 1) := by decide +kernel
theorem dX4_countBehind_1 : decode cX4_countBehind 1 = .ok (.invokevirtual 82, 3) := by decide +kernel
theorem dX4_countBehind_4 : decode cX4_countBehind 4 = .ok (.iconst 1, 1) := by decide +kernel
theorem dX4_countBehind_5 : decode cX4_countBehind 5 = .ok (.isub, 1) := by decide +kernel
theorem dX4_countBehind_6 : decode cX4_countBehind 6 = .ok (.istore_n 1, 1) := by decide +kernel
theorem dX4_countBehind_7 : decode cX4_countBehind 7 = .ok (.iload_n 1, 1) := by decide +kernel
theorem dX4_countBehind_8 : decode cX4_countBehind 8 = .ok (.ifCond .lt 84, 3) := by decide +kernel
theorem dX4_countBehind_11 : decode cX4_countBehind 11 = .ok (.aload_n 0, 1) := by decide +kernel
theorem dX4_countBehind_12 : decode cX4_countBehind 12 = .ok (.getfield 25, 3) := by decide +kernel
theorem dX4_countBehind_15 : decode cX4_countBehind 15 = .ok (.iload_n 1, 1) := by decide +kernel
theorem dX4_countBehind_16 : decode cX4_countBehind 16 = .ok (.iload_n 1, 1) := by decide +kernel
theorem dX4_countBehind_17 : decode cX4_countBehind 17 = .ok (.invokestatic 77, 3) := by decide +kernel
theorem dX4_countBehind_20 : decode cX4_countBehind 20 = .ok (.aload_n 0, 1) := by decide +kernel
theorem dX4_countBehind_21 : decode cX4_countBehind 21 = .ok (.getfield 28, 3) := by decide +kernel
theorem dX4_countBehind_24 : decode cX4_countBehind 24 = .ok (.if_icmp .ne 7, 3) := by decide +kernel
theorem dX4_countBehind_27 : decode cX4_countBehind 27 = .ok (.iconst 1, 1) := by decide +kernel
theorem dX4_countBehind_28 : decode cX4_countBehind 28 = .ok (.goto 4, 3) := by decide +kernel
theorem dX4_countBehind_31 : decode cX4_countBehind 31 = .ok (.iconst 0, 1) := by decide +kernel
theorem dX4_countBehind_32 : decode cX4_countBehind 32 = .ok (.iastore, 1) := by decide +kernel
theorem dX4_countBehind_33 : decode cX4_countBehind 33 = .ok (.aload_n 0, 1) := by decide +kernel
theorem dX4_countBehind_34 : decode cX4_countBehind 34 = .ok (.iload_n 1, 1) := by decide +kernel
theorem dX4_countBehind_35 : decode cX4_countBehind 35 = .ok (.invokevirtual 85, 3) := by decide +kernel
theorem dX4_countBehind_38 : decode cX4_countBehind 38 = .ok (.istore_n 2, 1) := by decide +kernel
theorem dX4_countBehind_39 : decode cX4_countBehind 39 = .ok (.iconst 0, 1) := by decide +kernel
theorem dX4_countBehind_40 : decode cX4_countBehind 40 = .ok (.istore_n 3, 1) := by decide +kernel
theorem dX4_countBehind_41 : decode cX4_countBehind 41 = .ok (.iload_n 3, 1) := by decide +kernel
theorem dX4_countBehind_42 : decode cX4_countBehind 42 = .ok (.bipush 12, 2) := by decide +kernel
theorem dX4_countBehind_44 : decode cX4_countBehind 44 = .ok (.if_icmp .ge 42, 3) := by decide +kernel
theorem dX4_countBehind_47 : decode cX4_countBehind 47 = .ok (.iload_n 2, 1) := by decide +kernel
theorem dX4_countBehind_48 : decode cX4_countBehind 48 = .ok (.iload_n 3, 1) := by decide +kernel
theorem dX4_countBehind_49 : decode cX4_countBehind 49 = .ok (.ishr, 1) := by decide +kernel
theorem dX4_countBehind_50 : decode cX4_countBehind 50 = .ok (.ifCond .eq 36, 3) := by decide +kernel
theorem dX4_countBehind_53 : decode cX4_countBehind 53 = .ok (.iload_n 2, 1) := by decide +kernel
theorem dX4_countBehind_54 : decode cX4_countBehind 54 = .ok (.iload_n 3, 1) := by decide +kernel
theorem dX4_countBehind_55 : decode cX4_countBehind 55 = .ok (.ishr, 1) := by decide +kernel
theorem dX4_countBehind_56 : decode cX4_countBehind 56 = .ok (.iconst 1, 1) := by decide +kernel
theorem dX4_countBehind_57 : decode cX4_countBehind 57 = .ok (.iand, 1) := by decide +kernel
theorem dX4_countBehind_58 : decode cX4_countBehind 58 = .ok (.ifCond .eq 22, 3) := by decide +kernel
theorem dX4_countBehind_61 : decode cX4_countBehind 61 = .ok (.aload_n 0, 1) := by decide +kernel
theorem dX4_countBehind_62 : decode cX4_countBehind 62 = .ok (.getfield 25, 3) := by decide +kernel
theorem dX4_countBehind_65 : decode cX4_countBehind 65 = .ok (.iload_n 1, 1) := by decide +kernel
theorem dX4_countBehind_66 : decode cX4_countBehind 66 = .ok (.dup2, 1) := by decide +kernel
theorem dX4_countBehind_67 : decode cX4_countBehind 67 = .ok (.iaload, 1) := by decide +kernel
theorem dX4_countBehind_68 : decode cX4_countBehind 68 = .ok (.aload_n 0, 1) := by decide +kernel
theorem dX4_countBehind_69 : decode cX4_countBehind 69 = .ok (.getfield 25, 3) := by decide +kernel
theorem dX4_countBehind_72 : decode cX4_countBehind 72 = .ok (.iload_n 1, 1) := by decide +kernel
theorem dX4_countBehind_73 : decode cX4_countBehind 73 = .ok (.iconst 1, 1) := by decide +kernel
theorem dX4_countBehind_74 : decode cX4_countBehind 74 = .ok (.iload_n 3, 1) := by decide +kernel
theorem dX4_countBehind_75 : decode cX4_countBehind 75 = .ok (.ishl, 1) := by decide +kernel
theorem dX4_countBehind_76 : decode cX4_countBehind 76 = .ok (.ior, 1) := by decide +kernel
theorem dX4_countBehind_77 : decode cX4_countBehind 77 = .ok (.iaload, 1) := by decide +kernel
theorem dX4_countBehind_78 : decode cX4_countBehind 78 = .ok (.iadd, 1) := by decide +kernel
theorem dX4_countBehind_79 : decode cX4_countBehind 79 = .ok (.iastore, 1) := by decide +kernel
theorem dX4_countBehind_80 : decode cX4_countBehind 80 = .ok (.iinc 3 1, 3) := by decide +kernel
theorem dX4_countBehind_83 : decode cX4_countBehind 83 = .ok (.goto (-42), 3) := by decide +kernel
theorem dX4_countBehind_86 : decode cX4_countBehind 86 = .ok (.iinc 1 (-1), 3) := by decide +kernel
theorem dX4_countBehind_89 : decode cX4_countBehind 89 = .ok (.goto (-82), 3) := by decide +kernel
theorem dX4_countBehind_92 : decode cX4_countBehind 92 = .ok (.return_, 1) := by decide +kernel
theorem dX4_usedPlaces_0 : decode cX4_usedPlaces 0 = .ok (.iconst 0, 1) := by decide +kernel
theorem dX4_usedPlaces_1 : decode cX4_usedPlaces 1 = .ok (.istore_n 2, 1) := by decide +kernel
theorem dX4_usedPlaces_2 : decode cX4_usedPlaces 2 = .ok (.iconst 0, 1) := by decide +kernel
theorem dX4_usedPlaces_3 : decode cX4_usedPlaces 3 = .ok (.istore_n 3, 1) := by decide +kernel
theorem dX4_usedPlaces_4 : decode cX4_usedPlaces 4 = .ok (.iload_n 3, 1) := by decide +kernel
theorem dX4_usedPlaces_5 : decode cX4_usedPlaces 5 = .ok (.aload_n 0, 1) := by decide +kernel
theorem dX4_usedPlaces_6 : decode cX4_usedPlaces 6 = .ok (.invokevirtual 82, 3) := by decide +kernel
theorem dX4_usedPlaces_9 : decode cX4_usedPlaces 9 = .ok (.if_icmp .ge 91, 3) := by decide +kernel
theorem dX4_usedPlaces_12 : decode cX4_usedPlaces 12 = .ok (.iload_n 3, 1) := by decide +kernel
theorem dX4_usedPlaces_13 : decode cX4_usedPlaces 13 = .ok (.invokestatic 77, 3) := by decide +kernel
theorem dX4_usedPlaces_16 : decode cX4_usedPlaces 16 = .ok (.iload_n 1, 1) := by decide +kernel
theorem dX4_usedPlaces_17 : decode cX4_usedPlaces 17 = .ok (.if_icmp .ne 77, 3) := by decide +kernel
theorem dX4_usedPlaces_20 : decode cX4_usedPlaces 20 = .ok (.aload_n 0, 1) := by decide +kernel
theorem dX4_usedPlaces_21 : decode cX4_usedPlaces 21 = .ok (.getfield 21, 3) := by decide +kernel
theorem dX4_usedPlaces_24 : decode cX4_usedPlaces 24 = .ok (.iload_n 3, 1) := by decide +kernel
theorem dX4_usedPlaces_25 : decode cX4_usedPlaces 25 = .ok (.baload, 1) := by decide +kernel
theorem dX4_usedPlaces_26 : decode cX4_usedPlaces 26 = .ok (.ifCond .ne 6, 3) := by decide +kernel
theorem dX4_usedPlaces_29 : decode cX4_usedPlaces 29 = .ok (.goto 65, 3) := by decide +kernel
theorem dX4_usedPlaces_32 : decode cX4_usedPlaces 32 = .ok (.aload_n 0, 1) := by decide +kernel
theorem dX4_usedPlaces_33 : decode cX4_usedPlaces 33 = .ok (.iload_n 3, 1) := by decide +kernel
theorem dX4_usedPlaces_34 : decode cX4_usedPlaces 34 = .ok (.invokevirtual 85, 3) := by decide +kernel
theorem dX4_usedPlaces_37 : decode cX4_usedPlaces 37 = .ok (.istore 4, 2) := by decide +kernel
theorem dX4_usedPlaces_39 : decode cX4_usedPlaces 39 = .ok (.iconst 0, 1) := by decide +kernel
theorem dX4_usedPlaces_40 : decode cX4_usedPlaces 40 = .ok (.istore 5, 2) := by decide +kernel
theorem dX4_usedPlaces_42 : decode cX4_usedPlaces 42 = .ok (.iload 5, 2) := by decide +kernel
theorem dX4_usedPlaces_44 : decode cX4_usedPlaces 44 = .ok (.bipush 12, 2) := by decide +kernel
theorem dX4_usedPlaces_46 : decode cX4_usedPlaces 46 = .ok (.if_icmp .ge 48, 3) := by decide +kernel
theorem dX4_usedPlaces_49 : decode cX4_usedPlaces 49 = .ok (.iload 4, 2) := by decide +kernel
theorem dX4_usedPlaces_51 : decode cX4_usedPlaces 51 = .ok (.iload 5, 2) := by decide +kernel
theorem dX4_usedPlaces_53 : decode cX4_usedPlaces 53 = .ok (.ishr, 1) := by decide +kernel
theorem dX4_usedPlaces_54 : decode cX4_usedPlaces 54 = .ok (.ifCond .eq 40, 3) := by decide +kernel
theorem dX4_usedPlaces_57 : decode cX4_usedPlaces 57 = .ok (.iload 4, 2) := by decide +kernel
theorem dX4_usedPlaces_59 : decode cX4_usedPlaces 59 = .ok (.iload 5, 2) := by decide +kernel
theorem dX4_usedPlaces_61 : decode cX4_usedPlaces 61 = .ok (.ishr, 1) := by decide +kernel
theorem dX4_usedPlaces_62 : decode cX4_usedPlaces 62 = .ok (.iconst 1, 1) := by decide +kernel
theorem dX4_usedPlaces_63 : decode cX4_usedPlaces 63 = .ok (.iand, 1) := by decide +kernel
theorem dX4_usedPlaces_64 : decode cX4_usedPlaces 64 = .ok (.ifCond .eq 24, 3) := by decide +kernel
theorem dX4_usedPlaces_67 : decode cX4_usedPlaces 67 = .ok (.aload_n 0, 1) := by decide +kernel
theorem dX4_usedPlaces_68 : decode cX4_usedPlaces 68 = .ok (.getfield 25, 3) := by decide +kernel
theorem dX4_usedPlaces_71 : decode cX4_usedPlaces 71 = .ok (.iload_n 3, 1) := by decide +kernel
theorem dX4_usedPlaces_72 : decode cX4_usedPlaces 72 = .ok (.iconst 1, 1) := by decide +kernel
theorem dX4_usedPlaces_73 : decode cX4_usedPlaces 73 = .ok (.iload 5, 2) := by decide +kernel
theorem dX4_usedPlaces_75 : decode cX4_usedPlaces 75 = .ok (.ishl, 1) := by decide +kernel
theorem dX4_usedPlaces_76 : decode cX4_usedPlaces 76 = .ok (.ior, 1) := by decide +kernel
theorem dX4_usedPlaces_77 : decode cX4_usedPlaces 77 = .ok (.iaload, 1) := by decide +kernel
theorem dX4_usedPlaces_78 : decode cX4_usedPlaces 78 = .ok (.ifCond .le 10, 3) := by decide +kernel
theorem dX4_usedPlaces_81 : decode cX4_usedPlaces 81 = .ok (.iload_n 2, 1) := by decide +kernel
theorem dX4_usedPlaces_82 : decode cX4_usedPlaces 82 = .ok (.iconst 1, 1) := by decide +kernel
theorem dX4_usedPlaces_83 : decode cX4_usedPlaces 83 = .ok (.iload 5, 2) := by decide +kernel
theorem dX4_usedPlaces_85 : decode cX4_usedPlaces 85 = .ok (.ishl, 1) := by decide +kernel
theorem dX4_usedPlaces_86 : decode cX4_usedPlaces 86 = .ok (.ior, 1) := by decide +kernel
theorem dX4_usedPlaces_87 : decode cX4_usedPlaces 87 = .ok (.istore_n 2, 1) := by decide +kernel
theorem dX4_usedPlaces_88 : decode cX4_usedPlaces 88 = .ok (.iinc 5 1, 3) := by decide +kernel
theorem dX4_usedPlaces_91 : decode cX4_usedPlaces 91 = .ok (.goto (-49), 3) := by decide +kernel
theorem dX4_usedPlaces_94 : decode cX4_usedPlaces 94 = .ok (.iinc 3 1, 3) := by decide +kernel
theorem dX4_usedPlaces_97 : decode cX4_usedPlaces 97 = .ok (.goto (-93), 3) := by decide +kernel
theorem dX4_usedPlaces_100 : decode cX4_usedPlaces 100 = .ok (.iload_n 2, 1) := by decide +kernel
theorem dX4_usedPlaces_101 : decode cX4_usedPlaces 101 = .ok (.ireturn, 1) := by decide +kernel
theorem dX4_ways_0 : decode cX4_ways 0 = .ok (.aload_n 0, 1) := by decide +kernel
theorem dX4_ways_1 : decode cX4_ways 1 = .ok (.getfield 25, 3) := by decide +kernel
theorem dX4_ways_4 : decode cX4_ways 4 = .ok (.iconst 0, 1) := by decide +kernel
theorem dX4_ways_5 : decode cX4_ways 5 = .ok (.iaload, 1) := by decide +kernel
theorem dX4_ways_6 : decode cX4_ways 6 = .ok (.ireturn, 1) := by decide +kernel
theorem dX4_forced_0 : decode cX4_forced 0 = .ok (.iconst 0, 1) := by decide +kernel
theorem dX4_forced_1 : decode cX4_forced 1 = .ok (.istore_n 1, 1) := by decide +kernel
theorem dX4_forced_2 : decode cX4_forced 2 = .ok (.iconst 0, 1) := by decide +kernel
theorem dX4_forced_3 : decode cX4_forced 3 = .ok (.istore_n 2, 1) := by decide +kernel
theorem dX4_forced_4 : decode cX4_forced 4 = .ok (.iload_n 2, 1) := by decide +kernel
theorem dX4_forced_5 : decode cX4_forced 5 = .ok (.aload_n 0, 1) := by decide +kernel
theorem dX4_forced_6 : decode cX4_forced 6 = .ok (.getfield 28, 3) := by decide +kernel
theorem dX4_forced_9 : decode cX4_forced 9 = .ok (.if_icmp .ge 37, 3) := by decide +kernel
theorem dX4_forced_12 : decode cX4_forced 12 = .ok (.iload_n 1, 1) := by decide +kernel
theorem dX4_forced_13 : decode cX4_forced 13 = .ok (.aload_n 0, 1) := by decide +kernel
theorem dX4_forced_14 : decode cX4_forced 14 = .ok (.aload_n 0, 1) := by decide +kernel
theorem dX4_forced_15 : decode cX4_forced 15 = .ok (.getfield 18, 3) := by decide +kernel
theorem dX4_forced_18 : decode cX4_forced 18 = .ok (.iload_n 2, 1) := by decide +kernel
theorem dX4_forced_19 : decode cX4_forced 19 = .ok (.iaload, 1) := by decide +kernel
theorem dX4_forced_20 : decode cX4_forced 20 = .ok (.invokevirtual 88, 3) := by decide +kernel
theorem dX4_forced_23 : decode cX4_forced 23 = .ok (.ifCond .eq 14, 3) := by decide +kernel
theorem dX4_forced_26 : decode cX4_forced 26 = .ok (.iconst 1, 1) := by decide +kernel
theorem dX4_forced_27 : decode cX4_forced 27 = .ok (.aload_n 0, 1) := by decide +kernel
theorem dX4_forced_28 : decode cX4_forced 28 = .ok (.getfield 9, 3) := by decide +kernel
theorem dX4_forced_31 : decode cX4_forced 31 = .ok (.iload_n 2, 1) := by decide +kernel
theorem dX4_forced_32 : decode cX4_forced 32 = .ok (.iaload, 1) := by decide +kernel
theorem dX4_forced_33 : decode cX4_forced 33 = .ok (.ishl, 1) := by decide +kernel
theorem dX4_forced_34 : decode cX4_forced 34 = .ok (.goto 4, 3) := by decide +kernel
theorem dX4_forced_37 : decode cX4_forced 37 = .ok (.iconst 0, 1) := by decide +kernel
theorem dX4_forced_38 : decode cX4_forced 38 = .ok (.ior, 1) := by decide +kernel
theorem dX4_forced_39 : decode cX4_forced 39 = .ok (.istore_n 1, 1) := by decide +kernel
theorem dX4_forced_40 : decode cX4_forced 40 = .ok (.iinc 2 1, 3) := by decide +kernel
theorem dX4_forced_43 : decode cX4_forced 43 = .ok (.goto (-39), 3) := by decide +kernel
theorem dX4_forced_46 : decode cX4_forced 46 = .ok (.iload_n 1, 1) := by decide +kernel
theorem dX4_forced_47 : decode cX4_forced 47 = .ok (.ireturn, 1) := by decide +kernel
theorem dX4_haveOneNumber_0 : decode cX4_haveOneNumber 0 = .ok (.bipush (-9), 2) := by decide +kernel
theorem dX4_haveOneNumber_2 : decode cX4_haveOneNumber 2 = .ok (.istore_n 2, 1) := by decide +kernel
theorem dX4_haveOneNumber_3 : decode cX4_haveOneNumber 3 = .ok (.iconst 0, 1) := by decide +kernel
theorem dX4_haveOneNumber_4 : decode cX4_haveOneNumber 4 = .ok (.istore_n 3, 1) := by decide +kernel
theorem dX4_haveOneNumber_5 : decode cX4_haveOneNumber 5 = .ok (.iload_n 3, 1) := by decide +kernel
theorem dX4_haveOneNumber_6 : decode cX4_haveOneNumber 6 = .ok (.aload_n 0, 1) := by decide +kernel
theorem dX4_haveOneNumber_7 : decode cX4_haveOneNumber 7 = .ok (.getfield 36, 3) := by decide +kernel
theorem dX4_haveOneNumber_10 : decode cX4_haveOneNumber 10 = .ok (.invokevirtual 62, 3) := by decide +kernel
theorem dX4_haveOneNumber_13 : decode cX4_haveOneNumber 13 = .ok (.if_icmp .ge 49, 3) := by decide +kernel
theorem dX4_haveOneNumber_16 : decode cX4_haveOneNumber 16 = .ok (.iload_n 1, 1) := by decide +kernel
theorem dX4_haveOneNumber_17 : decode cX4_haveOneNumber 17 = .ok (.iload_n 3, 1) := by decide +kernel
theorem dX4_haveOneNumber_18 : decode cX4_haveOneNumber 18 = .ok (.ishr, 1) := by decide +kernel
theorem dX4_haveOneNumber_19 : decode cX4_haveOneNumber 19 = .ok (.iconst 1, 1) := by decide +kernel
theorem dX4_haveOneNumber_20 : decode cX4_haveOneNumber 20 = .ok (.iand, 1) := by decide +kernel
theorem dX4_haveOneNumber_21 : decode cX4_haveOneNumber 21 = .ok (.ifCond .ne 6, 3) := by decide +kernel
theorem dX4_haveOneNumber_24 : decode cX4_haveOneNumber 24 = .ok (.goto 32, 3) := by decide +kernel
theorem dX4_haveOneNumber_27 : decode cX4_haveOneNumber 27 = .ok (.iload_n 2, 1) := by decide +kernel
theorem dX4_haveOneNumber_28 : decode cX4_haveOneNumber 28 = .ok (.bipush (-9), 2) := by decide +kernel
theorem dX4_haveOneNumber_30 : decode cX4_haveOneNumber 30 = .ok (.if_icmp .eq 17, 3) := by decide +kernel
theorem dX4_haveOneNumber_33 : decode cX4_haveOneNumber 33 = .ok (.iload_n 2, 1) := by decide +kernel
theorem dX4_haveOneNumber_34 : decode cX4_haveOneNumber 34 = .ok (.aload_n 0, 1) := by decide +kernel
theorem dX4_haveOneNumber_35 : decode cX4_haveOneNumber 35 = .ok (.getfield 36, 3) := by decide +kernel
theorem dX4_haveOneNumber_38 : decode cX4_haveOneNumber 38 = .ok (.iload_n 3, 1) := by decide +kernel
theorem dX4_haveOneNumber_39 : decode cX4_haveOneNumber 39 = .ok (.invokevirtual 68, 3) := by decide +kernel
theorem dX4_haveOneNumber_42 : decode cX4_haveOneNumber 42 = .ok (.if_icmp .eq 5, 3) := by decide +kernel
theorem dX4_haveOneNumber_45 : decode cX4_haveOneNumber 45 = .ok (.iconst 0, 1) := by decide +kernel
theorem dX4_haveOneNumber_46 : decode cX4_haveOneNumber 46 = .ok (.ireturn, 1) := by decide +kernel
theorem dX4_haveOneNumber_47 : decode cX4_haveOneNumber 47 = .ok (.aload_n 0, 1) := by decide +kernel
theorem dX4_haveOneNumber_48 : decode cX4_haveOneNumber 48 = .ok (.getfield 36, 3) := by decide +kernel
theorem dX4_haveOneNumber_51 : decode cX4_haveOneNumber 51 = .ok (.iload_n 3, 1) := by decide +kernel
theorem dX4_haveOneNumber_52 : decode cX4_haveOneNumber 52 = .ok (.invokevirtual 68, 3) := by decide +kernel
theorem dX4_haveOneNumber_55 : decode cX4_haveOneNumber 55 = .ok (.istore_n 2, 1) := by decide +kernel
theorem dX4_haveOneNumber_56 : decode cX4_haveOneNumber 56 = .ok (.iinc 3 1, 3) := by decide +kernel
theorem dX4_haveOneNumber_59 : decode cX4_haveOneNumber 59 = .ok (.goto (-54), 3) := by decide +kernel
theorem dX4_haveOneNumber_62 : decode cX4_haveOneNumber 62 = .ok (.iload_n 2, 1) := by decide +kernel
theorem dX4_haveOneNumber_63 : decode cX4_haveOneNumber 63 = .ok (.bipush (-9), 2) := by decide +kernel
theorem dX4_haveOneNumber_65 : decode cX4_haveOneNumber 65 = .ok (.if_icmp .eq 7, 3) := by decide +kernel
theorem dX4_haveOneNumber_68 : decode cX4_haveOneNumber 68 = .ok (.iconst 1, 1) := by decide +kernel
theorem dX4_haveOneNumber_69 : decode cX4_haveOneNumber 69 = .ok (.goto 4, 3) := by decide +kernel
theorem dX4_haveOneNumber_72 : decode cX4_haveOneNumber 72 = .ok (.iconst 0, 1) := by decide +kernel
theorem dX4_haveOneNumber_73 : decode cX4_haveOneNumber 73 = .ok (.ireturn, 1) := by decide +kernel
theorem dX5_init_0 : decode cX5_init 0 = .ok (.aload_n 0, 1) := by decide +kernel
theorem dX5_init_1 : decode cX5_init 1 = .ok (.invokespecial 3, 3) := by decide +kernel
theorem dX5_init_4 : decode cX5_init 4 = .ok (.aload_n 0, 1) := by decide +kernel
theorem dX5_init_5 : decode cX5_init 5 = .ok (.bipush 12, 2) := by decide +kernel
theorem dX5_init_7 : decode cX5_init 7 = .ok (.newarray .int, 2) := by decide +kernel
theorem dX5_init_9 : decode cX5_init 9 = .ok (.putfield 9, 3) := by decide +kernel
theorem dX5_init_12 : decode cX5_init 12 = .ok (.aload_n 0, 1) := by decide +kernel
theorem dX5_init_13 : decode cX5_init 13 = .ok (.bipush 12, 2) := by decide +kernel
theorem dX5_init_15 : decode cX5_init 15 = .ok (.newarray .int, 2) := by decide +kernel
theorem dX5_init_17 : decode cX5_init 17 = .ok (.putfield 15, 3) := by decide +kernel
theorem dX5_init_20 : decode cX5_init 20 = .ok (.aload_n 0, 1) := by decide +kernel
theorem dX5_init_21 : decode cX5_init 21 = .ok (.bipush 12, 2) := by decide +kernel
theorem dX5_init_23 : decode cX5_init 23 = .ok (.newarray .int, 2) := by decide +kernel
theorem dX5_init_25 : decode cX5_init 25 = .ok (.putfield 18, 3) := by decide +kernel
theorem dX5_init_28 : decode cX5_init 28 = .ok (.aload_n 0, 1) := by decide +kernel
theorem dX5_init_29 : decode cX5_init 29 = .ok (.iconst 0, 1) := by decide +kernel
theorem dX5_init_30 : decode cX5_init 30 = .ok (.newarray .int, 2) := by decide +kernel
theorem dX5_init_32 : decode cX5_init 32 = .ok (.putfield 21, 3) := by decide +kernel
theorem dX5_init_35 : decode cX5_init 35 = .ok (.aload_n 0, 1) := by decide +kernel
theorem dX5_init_36 : decode cX5_init 36 = .ok (.iconst 0, 1) := by decide +kernel
theorem dX5_init_37 : decode cX5_init 37 = .ok (.putfield 24, 3) := by decide +kernel
theorem dX5_init_40 : decode cX5_init 40 = .ok (.aload_n 0, 1) := by decide +kernel
theorem dX5_init_41 : decode cX5_init 41 = .ok (.iconst 0, 1) := by decide +kernel
theorem dX5_init_42 : decode cX5_init 42 = .ok (.putfield 28, 3) := by decide +kernel
theorem dX5_init_45 : decode cX5_init 45 = .ok (.aload_n 0, 1) := by decide +kernel
theorem dX5_init_46 : decode cX5_init 46 = .ok (.iconst 0, 1) := by decide +kernel
theorem dX5_init_47 : decode cX5_init 47 = .ok (.putfield 31, 3) := by decide +kernel
theorem dX5_init_50 : decode cX5_init 50 = .ok (.return_, 1) := by decide +kernel
theorem dX5_findFault_0 : decode cX5_findFault 0 = .ok (.aload_n 0, 1) := by decide +kernel
theorem dX5_findFault_1 : decode cX5_findFault 1 = .ok (.aload_n 1, 1) := by decide +kernel
theorem dX5_findFault_2 : decode cX5_findFault 2 = .ok (.iload_n 2, 1) := by decide +kernel
theorem dX5_findFault_3 : decode cX5_findFault 3 = .ok (.invokevirtual 35, 3) := by decide +kernel
theorem dX5_findFault_6 : decode cX5_findFault 6 = .ok (.putfield 21, 3) := by decide +kernel
theorem dX5_findFault_9 : decode cX5_findFault 9 = .ok (.aload_n 0, 1) := by decide +kernel
theorem dX5_findFault_10 : decode cX5_findFault 10 = .ok (.aload_n 1, 1) := by decide +kernel
theorem dX5_findFault_11 : decode cX5_findFault 11 = .ok (.iload_n 2, 1) := by decide +kernel
theorem dX5_findFault_12 : decode cX5_findFault 12 = .ok (.invokevirtual 41, 3) := by decide +kernel
theorem dX5_findFault_15 : decode cX5_findFault 15 = .ok (.putfield 24, 3) := by decide +kernel
theorem dX5_findFault_18 : decode cX5_findFault 18 = .ok (.aload_n 0, 1) := by decide +kernel
theorem dX5_findFault_19 : decode cX5_findFault 19 = .ok (.iconst 0, 1) := by decide +kernel
theorem dX5_findFault_20 : decode cX5_findFault 20 = .ok (.putfield 28, 3) := by decide +kernel
theorem dX5_findFault_23 : decode cX5_findFault 23 = .ok (.aload_n 0, 1) := by decide +kernel
theorem dX5_findFault_24 : decode cX5_findFault 24 = .ok (.iconst 0, 1) := by decide +kernel
theorem dX5_findFault_25 : decode cX5_findFault 25 = .ok (.putfield 31, 3) := by decide +kernel
theorem dX5_findFault_28 : decode cX5_findFault 28 = .ok (.iconst 0, 1) := by decide +kernel
theorem dX5_findFault_29 : decode cX5_findFault 29 = .ok (.istore_n 3, 1) := by decide +kernel
theorem dX5_findFault_30 : decode cX5_findFault 30 = .ok (.iload_n 3, 1) := by decide +kernel
theorem dX5_findFault_31 : decode cX5_findFault 31 = .ok (.bipush 12, 2) := by decide +kernel
theorem dX5_findFault_33 : decode cX5_findFault 33 = .ok (.if_icmp .ge 16, 3) := by decide +kernel
theorem dX5_findFault_36 : decode cX5_findFault 36 = .ok (.aload_n 0, 1) := by decide +kernel
theorem dX5_findFault_37 : decode cX5_findFault 37 = .ok (.getfield 9, 3) := by decide +kernel
theorem dX5_findFault_40 : decode cX5_findFault 40 = .ok (.iload_n 3, 1) := by decide +kernel
theorem dX5_findFault_41 : decode cX5_findFault 41 = .ok (.iconst (-1), 1) := by decide +kernel
theorem dX5_findFault_42 : decode cX5_findFault 42 = .ok (.iastore, 1) := by decide +kernel
theorem dX5_findFault_43 : decode cX5_findFault 43 = .ok (.iinc 3 1, 3) := by decide +kernel
theorem dX5_findFault_46 : decode cX5_findFault 46 = .ok (.goto (-16), 3) := by decide +kernel
theorem dX5_findFault_49 : decode cX5_findFault 49 = .ok (.aload_n 0, 1) := by decide +kernel
theorem dX5_findFault_50 : decode cX5_findFault 50 = .ok (.invokevirtual 45, 3) := by decide +kernel
theorem dX5_findFault_53 : decode cX5_findFault 53 = .ok (.iconst 0, 1) := by decide +kernel
theorem dX5_findFault_54 : decode cX5_findFault 54 = .ok (.istore_n 3, 1) := by decide +kernel
theorem dX5_findFault_55 : decode cX5_findFault 55 = .ok (.iload_n 3, 1) := by decide +kernel
theorem dX5_findFault_56 : decode cX5_findFault 56 = .ok (.bipush 60, 2) := by decide +kernel
theorem dX5_findFault_58 : decode cX5_findFault 58 = .ok (.if_icmp .ge 35, 3) := by decide +kernel
theorem dX5_findFault_61 : decode cX5_findFault 61 = .ok (.aload_n 0, 1) := by decide +kernel
theorem dX5_findFault_62 : decode cX5_findFault 62 = .ok (.getfield 31, 3) := by decide +kernel
theorem dX5_findFault_65 : decode cX5_findFault 65 = .ok (.ifCond .ne 28, 3) := by decide +kernel
theorem dX5_findFault_68 : decode cX5_findFault 68 = .ok (.aload_n 0, 1) := by decide +kernel
theorem dX5_findFault_69 : decode cX5_findFault 69 = .ok (.getfield 28, 3) := by decide +kernel
theorem dX5_findFault_72 : decode cX5_findFault 72 = .ok (.aload_n 0, 1) := by decide +kernel
theorem dX5_findFault_73 : decode cX5_findFault 73 = .ok (.getfield 24, 3) := by decide +kernel
theorem dX5_findFault_76 : decode cX5_findFault 76 = .ok (.if_icmp .ge 17, 3) := by decide +kernel
theorem dX5_findFault_79 : decode cX5_findFault 79 = .ok (.aload_n 0, 1) := by decide +kernel
theorem dX5_findFault_80 : decode cX5_findFault 80 = .ok (.invokevirtual 48, 3) := by decide +kernel
theorem dX5_findFault_83 : decode cX5_findFault 83 = .ok (.aload_n 0, 1) := by decide +kernel
theorem dX5_findFault_84 : decode cX5_findFault 84 = .ok (.invokevirtual 45, 3) := by decide +kernel
theorem dX5_findFault_87 : decode cX5_findFault 87 = .ok (.iinc 3 1, 3) := by decide +kernel
theorem dX5_findFault_90 : decode cX5_findFault 90 = .ok (.goto (-35), 3) := by decide +kernel
theorem dX5_findFault_93 : decode cX5_findFault 93 = .ok (.aload_n 0, 1) := by decide +kernel
theorem dX5_findFault_94 : decode cX5_findFault 94 = .ok (.getfield 31, 3) := by decide +kernel
theorem dX5_findFault_97 : decode cX5_findFault 97 = .ok (.ifCond .eq 10, 3) := by decide +kernel
theorem dX5_findFault_100 : decode cX5_findFault 100 = .ok (.aload_n 0, 1) := by decide +kernel
theorem dX5_findFault_101 : decode cX5_findFault 101 = .ok (.getfield 28, 3) := by decide +kernel
theorem dX5_findFault_104 : decode cX5_findFault 104 = .ok (.goto 5, 3) := by decide +kernel
theorem dX5_findFault_107 : decode cX5_findFault 107 = .ok (.bipush (-9), 2) := by decide +kernel
theorem dX5_findFault_109 : decode cX5_findFault 109 = .ok (.ireturn, 1) := by decide +kernel
theorem dX5_writeTo_0 : decode cX5_writeTo 0 = .ok (.iconst 0, 1) := by decide +kernel
theorem dX5_writeTo_1 : decode cX5_writeTo 1 = .ok (.istore_n 2, 1) := by decide +kernel
theorem dX5_writeTo_2 : decode cX5_writeTo 2 = .ok (.iload_n 2, 1) := by decide +kernel
theorem dX5_writeTo_3 : decode cX5_writeTo 3 = .ok (.bipush 12, 2) := by decide +kernel
theorem dX5_writeTo_5 : decode cX5_writeTo 5 = .ok (.if_icmp .ge 32, 3) := by decide +kernel
theorem dX5_writeTo_8 : decode cX5_writeTo 8 = .ok (.aload_n 1, 1) := by decide +kernel
theorem dX5_writeTo_9 : decode cX5_writeTo 9 = .ok (.iload_n 2, 1) := by decide +kernel
theorem dX5_writeTo_10 : decode cX5_writeTo 10 = .ok (.aload_n 0, 1) := by decide +kernel
theorem dX5_writeTo_11 : decode cX5_writeTo 11 = .ok (.getfield 9, 3) := by decide +kernel
theorem dX5_writeTo_14 : decode cX5_writeTo 14 = .ok (.iload_n 2, 1) := by decide +kernel
theorem dX5_writeTo_15 : decode cX5_writeTo 15 = .ok (.iaload, 1) := by decide +kernel
theorem dX5_writeTo_16 : decode cX5_writeTo 16 = .ok (.aload_n 0, 1) := by decide +kernel
theorem dX5_writeTo_17 : decode cX5_writeTo 17 = .ok (.getfield 15, 3) := by decide +kernel
theorem dX5_writeTo_20 : decode cX5_writeTo 20 = .ok (.iload_n 2, 1) := by decide +kernel
theorem dX5_writeTo_21 : decode cX5_writeTo 21 = .ok (.iaload, 1) := by decide +kernel
theorem dX5_writeTo_22 : decode cX5_writeTo 22 = .ok (.aload_n 0, 1) := by decide +kernel
theorem dX5_writeTo_23 : decode cX5_writeTo 23 = .ok (.getfield 18, 3) := by decide +kernel
theorem dX5_writeTo_26 : decode cX5_writeTo 26 = .ok (.iload_n 2, 1) := by decide +kernel
theorem dX5_writeTo_27 : decode cX5_writeTo 27 = .ok (.iaload, 1) := by decide +kernel
theorem dX5_writeTo_28 : decode cX5_writeTo 28 = .ok (.invokevirtual 51, 3) := by decide +kernel
theorem dX5_writeTo_31 : decode cX5_writeTo 31 = .ok (.iinc 2 1, 3) := by decide +kernel
theorem dX5_writeTo_34 : decode cX5_writeTo 34 = .ok (.goto (-32), 3) := by decide +kernel
theorem dX5_writeTo_37 : decode cX5_writeTo 37 = .ok (.return_, 1) := by decide +kernel
theorem dX5_sign_0 : decode cX5_sign 0 = .ok (.aload_n 0, 1) := by decide +kernel
theorem dX5_sign_1 : decode cX5_sign 1 = .ok (.getfield 28, 3) := by decide +kernel
theorem dX5_sign_4 : decode cX5_sign 4 = .ok (.aload_n 0, 1) := by decide +kernel
theorem dX5_sign_5 : decode cX5_sign 5 = .ok (.getfield 24, 3) := by decide +kernel
theorem dX5_sign_8 : decode cX5_sign 8 = .ok (.if_icmp .ge 27, 3) := by decide +kernel
theorem dX5_sign_11 : decode cX5_sign 11 = .ok (.aload_n 0, 1) := by decide +kernel
theorem dX5_sign_12 : decode cX5_sign 12 = .ok (.getfield 28, 3) := by decide +kernel
theorem dX5_sign_15 : decode cX5_sign 15 = .ok (.aload_n 0, 1) := by decide +kernel
theorem dX5_sign_16 : decode cX5_sign 16 = .ok (.getfield 21, 3) := by decide +kernel
theorem dX5_sign_19 : decode cX5_sign 19 = .ok (.arraylength, 1) := by decide +kernel
theorem dX5_sign_20 : decode cX5_sign 20 = .ok (.if_icmp .ge 15, 3) := by decide +kernel
theorem dX5_sign_23 : decode cX5_sign 23 = .ok (.aload_n 0, 1) := by decide +kernel
theorem dX5_sign_24 : decode cX5_sign 24 = .ok (.getfield 21, 3) := by decide +kernel
theorem dX5_sign_27 : decode cX5_sign 27 = .ok (.aload_n 0, 1) := by decide +kernel
theorem dX5_sign_28 : decode cX5_sign 28 = .ok (.getfield 28, 3) := by decide +kernel
theorem dX5_sign_31 : decode cX5_sign 31 = .ok (.iaload, 1) := by decide +kernel
theorem dX5_sign_32 : decode cX5_sign 32 = .ok (.goto 6, 3) := by decide +kernel
theorem dX5_sign_35 : decode cX5_sign 35 = .ok (.sipush 1000, 3) := by decide +kernel
theorem dX5_sign_38 : decode cX5_sign 38 = .ok (.ireturn, 1) := by decide +kernel
theorem dX5_skipBlanks_0 : decode cX5_skipBlanks 0 = .ok (.aload_n 0, 1) := by decide +kernel
theorem dX5_skipBlanks_1 : decode cX5_skipBlanks 1 = .ok (.getfield 31, 3) := by decide +kernel
theorem dX5_skipBlanks_4 : decode cX5_skipBlanks 4 = .ok (.ifCond .ne 36, 3) := by decide +kernel
theorem dX5_skipBlanks_7 : decode cX5_skipBlanks 7 = .ok (.aload_n 0, 1) := by decide +kernel
theorem dX5_skipBlanks_8 : decode cX5_skipBlanks 8 = .ok (.getfield 28, 3) := by decide +kernel
theorem dX5_skipBlanks_11 : decode cX5_skipBlanks 11 = .ok (.aload_n 0, 1) := by decide +kernel
theorem dX5_skipBlanks_12 : decode cX5_skipBlanks 12 = .ok (.getfield 24, 3) := by decide +kernel
theorem dX5_skipBlanks_15 : decode cX5_skipBlanks 15 = .ok (.if_icmp .ge 25, 3) := by decide +kernel
theorem dX5_skipBlanks_18 : decode cX5_skipBlanks 18 = .ok (.aload_n 0, 1) := by decide +kernel
theorem dX5_skipBlanks_19 : decode cX5_skipBlanks 19 = .ok (.invokevirtual 57, 3) := by decide +kernel
theorem dX5_skipBlanks_22 : decode cX5_skipBlanks 22 = .ok (.bipush 32, 2) := by decide +kernel
theorem dX5_skipBlanks_24 : decode cX5_skipBlanks 24 = .ok (.if_icmp .ne 16, 3) := by decide +kernel
theorem dX5_skipBlanks_27 : decode cX5_skipBlanks 27 = .ok (.aload_n 0, 1) := by decide +kernel
theorem dX5_skipBlanks_28 : decode cX5_skipBlanks 28 = .ok (.dup, 1) := by decide +kernel
theorem dX5_skipBlanks_29 : decode cX5_skipBlanks 29 = .ok (.getfield 28, 3) := by decide +kernel
theorem dX5_skipBlanks_32 : decode cX5_skipBlanks 32 = .ok (.iconst 1, 1) := by decide +kernel
theorem dX5_skipBlanks_33 : decode cX5_skipBlanks 33 = .ok (.iadd, 1) := by decide +kernel
theorem dX5_skipBlanks_34 : decode cX5_skipBlanks 34 = .ok (.putfield 28, 3) := by decide +kernel
theorem dX5_skipBlanks_37 : decode cX5_skipBlanks 37 = .ok (.goto (-37), 3) := by decide +kernel
theorem dX5_skipBlanks_40 : decode cX5_skipBlanks 40 = .ok (.return_, 1) := by decide +kernel
theorem dX5_readItem_0 : decode cX5_readItem 0 = .ok (.aload_n 0, 1) := by decide +kernel
theorem dX5_readItem_1 : decode cX5_readItem 1 = .ok (.invokevirtual 61, 3) := by decide +kernel
theorem dX5_readItem_4 : decode cX5_readItem 4 = .ok (.istore_n 1, 1) := by decide +kernel
theorem dX5_readItem_5 : decode cX5_readItem 5 = .ok (.aload_n 0, 1) := by decide +kernel
theorem dX5_readItem_6 : decode cX5_readItem 6 = .ok (.getfield 31, 3) := by decide +kernel
theorem dX5_readItem_9 : decode cX5_readItem 9 = .ok (.ifCond .eq 4, 3) := by decide +kernel
theorem dX5_readItem_12 : decode cX5_readItem 12 = .ok (.return_, 1) := by decide +kernel
theorem dX5_readItem_13 : decode cX5_readItem 13 = .ok (.aload_n 0, 1) := by decide +kernel
theorem dX5_readItem_14 : decode cX5_readItem 14 = .ok (.invokevirtual 57, 3) := by decide +kernel
theorem dX5_readItem_17 : decode cX5_readItem 17 = .ok (.istore_n 2, 1) := by decide +kernel
theorem dX5_readItem_18 : decode cX5_readItem 18 = .ok (.aload_n 0, 1) := by decide +kernel
theorem dX5_readItem_19 : decode cX5_readItem 19 = .ok (.dup, 1) := by decide +kernel
theorem dX5_readItem_20 : decode cX5_readItem 20 = .ok (.getfield 28, 3) := by decide +kernel
theorem dX5_readItem_23 : decode cX5_readItem 23 = .ok (.iconst 1, 1) := by decide +kernel
theorem dX5_readItem_24 : decode cX5_readItem 24 = .ok (.iadd, 1) := by decide +kernel
theorem dX5_readItem_25 : decode cX5_readItem 25 = .ok (.putfield 28, 3) := by decide +kernel
theorem dX5_readItem_28 : decode cX5_readItem 28 = .ok (.iload_n 2, 1) := by decide +kernel
theorem dX5_readItem_29 : decode cX5_readItem 29 = .ok (.lookupswitch 136 #[(35, 101), (42, 82), (61, 74), (62, 112), (91, 59), (126, 127)], 59) := by decide +kernel
theorem dX5_readItem_88 : decode cX5_readItem 88 = .ok (.aload_n 0, 1) := by decide +kernel
theorem dX5_readItem_89 : decode cX5_readItem 89 = .ok (.iload_n 1, 1) := by decide +kernel
theorem dX5_readItem_90 : decode cX5_readItem 90 = .ok (.iconst 0, 1) := by decide +kernel
theorem dX5_readItem_91 : decode cX5_readItem 91 = .ok (.invokevirtual 64, 3) := by decide +kernel
theorem dX5_readItem_94 : decode cX5_readItem 94 = .ok (.aload_n 0, 1) := by decide +kernel
theorem dX5_readItem_95 : decode cX5_readItem 95 = .ok (.bipush 93, 2) := by decide +kernel
theorem dX5_readItem_97 : decode cX5_readItem 97 = .ok (.invokevirtual 68, 3) := by decide +kernel
theorem dX5_readItem_100 : decode cX5_readItem 100 = .ok (.goto 80, 3) := by decide +kernel
theorem dX5_readItem_103 : decode cX5_readItem 103 = .ok (.aload_n 0, 1) := by decide +kernel
theorem dX5_readItem_104 : decode cX5_readItem 104 = .ok (.iload_n 1, 1) := by decide +kernel
theorem dX5_readItem_105 : decode cX5_readItem 105 = .ok (.invokevirtual 72, 3) := by decide +kernel
theorem dX5_readItem_108 : decode cX5_readItem 108 = .ok (.goto 72, 3) := by decide +kernel
theorem dX5_readItem_111 : decode cX5_readItem 111 = .ok (.aload_n 0, 1) := by decide +kernel
theorem dX5_readItem_112 : decode cX5_readItem 112 = .ok (.iload_n 1, 1) := by decide +kernel
theorem dX5_readItem_113 : decode cX5_readItem 113 = .ok (.iconst 2, 1) := by decide +kernel
theorem dX5_readItem_114 : decode cX5_readItem 114 = .ok (.aload_n 0, 1) := by decide +kernel
theorem dX5_readItem_115 : decode cX5_readItem 115 = .ok (.iload_n 1, 1) := by decide +kernel
theorem dX5_readItem_116 : decode cX5_readItem 116 = .ok (.invokevirtual 75, 3) := by decide +kernel
theorem dX5_readItem_119 : decode cX5_readItem 119 = .ok (.aload_n 0, 1) := by decide +kernel
theorem dX5_readItem_120 : decode cX5_readItem 120 = .ok (.iload_n 1, 1) := by decide +kernel
theorem dX5_readItem_121 : decode cX5_readItem 121 = .ok (.invokevirtual 75, 3) := by decide +kernel
theorem dX5_readItem_124 : decode cX5_readItem 124 = .ok (.invokevirtual 78, 3) := by decide +kernel
theorem dX5_readItem_127 : decode cX5_readItem 127 = .ok (.goto 53, 3) := by decide +kernel
theorem dX5_readItem_130 : decode cX5_readItem 130 = .ok (.aload_n 0, 1) := by decide +kernel
theorem dX5_readItem_131 : decode cX5_readItem 131 = .ok (.iload_n 1, 1) := by decide +kernel
theorem dX5_readItem_132 : decode cX5_readItem 132 = .ok (.iconst 3, 1) := by decide +kernel
theorem dX5_readItem_133 : decode cX5_readItem 133 = .ok (.iconst 0, 1) := by decide +kernel
theorem dX5_readItem_134 : decode cX5_readItem 134 = .ok (.iconst 0, 1) := by decide +kernel
theorem dX5_readItem_135 : decode cX5_readItem 135 = .ok (.invokevirtual 78, 3) := by decide +kernel
theorem dX5_readItem_138 : decode cX5_readItem 138 = .ok (.goto 42, 3) := by decide +kernel
theorem dX5_readItem_141 : decode cX5_readItem 141 = .ok (.aload_n 0, 1) := by decide +kernel
theorem dX5_readItem_142 : decode cX5_readItem 142 = .ok (.iload_n 1, 1) := by decide +kernel
theorem dX5_readItem_143 : decode cX5_readItem 143 = .ok (.iconst 4, 1) := by decide +kernel
theorem dX5_readItem_144 : decode cX5_readItem 144 = .ok (.aload_n 0, 1) := by decide +kernel
theorem dX5_readItem_145 : decode cX5_readItem 145 = .ok (.iload_n 1, 1) := by decide +kernel
theorem dX5_readItem_146 : decode cX5_readItem 146 = .ok (.invokevirtual 75, 3) := by decide +kernel
theorem dX5_readItem_149 : decode cX5_readItem 149 = .ok (.iconst 0, 1) := by decide +kernel
theorem dX5_readItem_150 : decode cX5_readItem 150 = .ok (.invokevirtual 78, 3) := by decide +kernel
theorem dX5_readItem_153 : decode cX5_readItem 153 = .ok (.goto 27, 3) := by decide +kernel
theorem dX5_readItem_156 : decode cX5_readItem 156 = .ok (.aload_n 0, 1) := by decide +kernel
theorem dX5_readItem_157 : decode cX5_readItem 157 = .ok (.iload_n 1, 1) := by decide +kernel
theorem dX5_readItem_158 : decode cX5_readItem 158 = .ok (.iconst 5, 1) := by decide +kernel
theorem dX5_readItem_159 : decode cX5_readItem 159 = .ok (.invokevirtual 64, 3) := by decide +kernel
theorem dX5_readItem_162 : decode cX5_readItem 162 = .ok (.goto 18, 3) := by decide +kernel
theorem dX5_readItem_165 : decode cX5_readItem 165 = .ok (.aload_n 0, 1) := by decide +kernel
theorem dX5_readItem_166 : decode cX5_readItem 166 = .ok (.dup, 1) := by decide +kernel
theorem dX5_readItem_167 : decode cX5_readItem 167 = .ok (.getfield 28, 3) := by decide +kernel
theorem dX5_readItem_170 : decode cX5_readItem 170 = .ok (.iconst 1, 1) := by decide +kernel
theorem dX5_readItem_171 : decode cX5_readItem 171 = .ok (.isub, 1) := by decide +kernel
theorem dX5_readItem_172 : decode cX5_readItem 172 = .ok (.putfield 28, 3) := by decide +kernel
theorem dX5_readItem_175 : decode cX5_readItem 175 = .ok (.aload_n 0, 1) := by decide +kernel
theorem dX5_readItem_176 : decode cX5_readItem 176 = .ok (.iconst 1, 1) := by decide +kernel
theorem dX5_readItem_177 : decode cX5_readItem 177 = .ok (.putfield 31, 3) := by decide +kernel
theorem dX5_readItem_180 : decode cX5_readItem 180 = .ok (.return_, 1) := by decide +kernel
theorem dX5_note_0 : decode cX5_note 0 = .ok (.aload_n 0, 1) := by decide +kernel
theorem dX5_note_1 : decode cX5_note 1 = .ok (.getfield 9, 3) := by decide +kernel
theorem dX5_note_4 : decode cX5_note 4 = .ok (.iload_n 1, 1) := by decide +kernel
theorem dX5_note_5 : decode cX5_note 5 = .ok (.iload_n 2, 1) := by decide +kernel
theorem dX5_note_6 : decode cX5_note 6 = .ok (.iastore, 1) := by decide +kernel
theorem dX5_note_7 : decode cX5_note 7 = .ok (.aload_n 0, 1) := by decide +kernel
theorem dX5_note_8 : decode cX5_note 8 = .ok (.getfield 15, 3) := by decide +kernel
theorem dX5_note_11 : decode cX5_note 11 = .ok (.iload_n 1, 1) := by decide +kernel
theorem dX5_note_12 : decode cX5_note 12 = .ok (.iload_n 3, 1) := by decide +kernel
theorem dX5_note_13 : decode cX5_note 13 = .ok (.iastore, 1) := by decide +kernel
theorem dX5_note_14 : decode cX5_note 14 = .ok (.aload_n 0, 1) := by decide +kernel
theorem dX5_note_15 : decode cX5_note 15 = .ok (.getfield 18, 3) := by decide +kernel
theorem dX5_note_18 : decode cX5_note 18 = .ok (.iload_n 1, 1) := by decide +kernel
theorem dX5_note_19 : decode cX5_note 19 = .ok (.iload 4, 2) := by decide +kernel
theorem dX5_note_21 : decode cX5_note 21 = .ok (.iastore, 1) := by decide +kernel
theorem dX5_note_22 : decode cX5_note 22 = .ok (.return_, 1) := by decide +kernel
theorem dX5_readLetter_0 : decode cX5_readLetter 0 = .ok (.aload_n 0, 1) := by decide +kernel
theorem dX5_readLetter_1 : decode cX5_readLetter 1 = .ok (.invokevirtual 57, 3) := by decide +kernel
theorem dX5_readLetter_4 : decode cX5_readLetter 4 = .ok (.bipush 97, 2) := by decide +kernel
theorem dX5_readLetter_6 : decode cX5_readLetter 6 = .ok (.isub, 1) := by decide +kernel
theorem dX5_readLetter_7 : decode cX5_readLetter 7 = .ok (.istore_n 1, 1) := by decide +kernel
theorem dX5_readLetter_8 : decode cX5_readLetter 8 = .ok (.aload_n 0, 1) := by decide +kernel
theorem dX5_readLetter_9 : decode cX5_readLetter 9 = .ok (.getfield 31, 3) := by decide +kernel
theorem dX5_readLetter_12 : decode cX5_readLetter 12 = .ok (.ifCond .ne 10, 3) := by decide +kernel
theorem dX5_readLetter_15 : decode cX5_readLetter 15 = .ok (.iload_n 1, 1) := by decide +kernel
theorem dX5_readLetter_16 : decode cX5_readLetter 16 = .ok (.invokestatic 81, 3) := by decide +kernel
theorem dX5_readLetter_19 : decode cX5_readLetter 19 = .ok (.ifCond .ne 10, 3) := by decide +kernel
theorem dX5_readLetter_22 : decode cX5_readLetter 22 = .ok (.aload_n 0, 1) := by decide +kernel
theorem dX5_readLetter_23 : decode cX5_readLetter 23 = .ok (.iconst 1, 1) := by decide +kernel
theorem dX5_readLetter_24 : decode cX5_readLetter 24 = .ok (.putfield 31, 3) := by decide +kernel
theorem dX5_readLetter_27 : decode cX5_readLetter 27 = .ok (.iconst 0, 1) := by decide +kernel
theorem dX5_readLetter_28 : decode cX5_readLetter 28 = .ok (.ireturn, 1) := by decide +kernel
theorem dX5_readLetter_29 : decode cX5_readLetter 29 = .ok (.aload_n 0, 1) := by decide +kernel
theorem dX5_readLetter_30 : decode cX5_readLetter 30 = .ok (.dup, 1) := by decide +kernel
theorem dX5_readLetter_31 : decode cX5_readLetter 31 = .ok (.getfield 28, 3) := by decide +kernel
theorem dX5_readLetter_34 : decode cX5_readLetter 34 = .ok (.iconst 1, 1) := by decide +kernel
theorem dX5_readLetter_35 : decode cX5_readLetter 35 = .ok (.iadd, 1) := by decide +kernel
theorem dX5_readLetter_36 : decode cX5_readLetter 36 = .ok (.putfield 28, 3) := by decide +kernel
theorem dX5_readLetter_39 : decode cX5_readLetter 39 = .ok (.iload_n 1, 1) := by decide +kernel
theorem dX5_readLetter_40 : decode cX5_readLetter 40 = .ok (.ireturn, 1) := by decide +kernel
theorem dX5_readOther_0 : decode cX5_readOther 0 = .ok (.aload_n 0, 1) := by decide +kernel
theorem dX5_readOther_1 : decode cX5_readOther 1 = .ok (.invokevirtual 61, 3) := by decide +kernel
theorem dX5_readOther_4 : decode cX5_readOther 4 = .ok (.istore_n 2, 1) := by decide +kernel
theorem dX5_readOther_5 : decode cX5_readOther 5 = .ok (.iload_n 2, 1) := by decide +kernel
theorem dX5_readOther_6 : decode cX5_readOther 6 = .ok (.iload_n 1, 1) := by decide +kernel
theorem dX5_readOther_7 : decode cX5_readOther 7 = .ok (.if_icmp .ne 8, 3) := by decide +kernel
theorem dX5_readOther_10 : decode cX5_readOther 10 = .ok (.aload_n 0, 1) := by decide +kernel
theorem dX5_readOther_11 : decode cX5_readOther 11 = .ok (.iconst 1, 1) := by decide +kernel
theorem dX5_readOther_12 : decode cX5_readOther 12 = .ok (.putfield 31, 3) := by decide +kernel
theorem dX5_readOther_15 : decode cX5_readOther 15 = .ok (.iload_n 2, 1) := by decide +kernel
theorem dX5_readOther_16 : decode cX5_readOther 16 = .ok (.ireturn, 1) := by decide +kernel
theorem dX5_expect_0 : decode cX5_expect 0 = .ok (.aload_n 0, 1) := by decide +kernel
theorem dX5_expect_1 : decode cX5_expect 1 = .ok (.getfield 31, 3) := by decide +kernel
theorem dX5_expect_4 : decode cX5_expect 4 = .ok (.ifCond .ne 11, 3) := by decide +kernel
theorem dX5_expect_7 : decode cX5_expect 7 = .ok (.aload_n 0, 1) := by decide +kernel
theorem dX5_expect_8 : decode cX5_expect 8 = .ok (.invokevirtual 57, 3) := by decide +kernel
theorem dX5_expect_11 : decode cX5_expect 11 = .ok (.iload_n 1, 1) := by decide +kernel
theorem dX5_expect_12 : decode cX5_expect 12 = .ok (.if_icmp .eq 9, 3) := by decide +kernel
theorem dX5_expect_15 : decode cX5_expect 15 = .ok (.aload_n 0, 1) := by decide +kernel
theorem dX5_expect_16 : decode cX5_expect 16 = .ok (.iconst 1, 1) := by decide +kernel
theorem dX5_expect_17 : decode cX5_expect 17 = .ok (.putfield 31, 3) := by decide +kernel
theorem dX5_expect_20 : decode cX5_expect 20 = .ok (.return_, 1) := by decide +kernel
theorem dX5_expect_21 : decode cX5_expect 21 = .ok (.aload_n 0, 1) := by decide +kernel
theorem dX5_expect_22 : decode cX5_expect 22 = .ok (.dup, 1) := by decide +kernel
theorem dX5_expect_23 : decode cX5_expect 23 = .ok (.getfield 28, 3) := by decide +kernel
theorem dX5_expect_26 : decode cX5_expect 26 = .ok (.iconst 1, 1) := by decide +kernel
theorem dX5_expect_27 : decode cX5_expect 27 = .ok (.iadd, 1) := by decide +kernel
theorem dX5_expect_28 : decode cX5_expect 28 = .ok (.putfield 28, 3) := by decide +kernel
theorem dX5_expect_31 : decode cX5_expect 31 = .ok (.return_, 1) := by decide +kernel
theorem dX5_readSpan_0 : decode cX5_readSpan 0 = .ok (.aload_n 0, 1) := by decide +kernel
theorem dX5_readSpan_1 : decode cX5_readSpan 1 = .ok (.invokevirtual 85, 3) := by decide +kernel
theorem dX5_readSpan_4 : decode cX5_readSpan 4 = .ok (.istore_n 3, 1) := by decide +kernel
theorem dX5_readSpan_5 : decode cX5_readSpan 5 = .ok (.aload_n 0, 1) := by decide +kernel
theorem dX5_readSpan_6 : decode cX5_readSpan 6 = .ok (.bipush 44, 2) := by decide +kernel
theorem dX5_readSpan_8 : decode cX5_readSpan 8 = .ok (.invokevirtual 68, 3) := by decide +kernel
theorem dX5_readSpan_11 : decode cX5_readSpan 11 = .ok (.aload_n 0, 1) := by decide +kernel
theorem dX5_readSpan_12 : decode cX5_readSpan 12 = .ok (.invokevirtual 85, 3) := by decide +kernel
theorem dX5_readSpan_15 : decode cX5_readSpan 15 = .ok (.istore 4, 2) := by decide +kernel
theorem dX5_readSpan_17 : decode cX5_readSpan 17 = .ok (.iload_n 3, 1) := by decide +kernel
theorem dX5_readSpan_18 : decode cX5_readSpan 18 = .ok (.iload 4, 2) := by decide +kernel
theorem dX5_readSpan_20 : decode cX5_readSpan 20 = .ok (.if_icmp .le 8, 3) := by decide +kernel
theorem dX5_readSpan_23 : decode cX5_readSpan 23 = .ok (.aload_n 0, 1) := by decide +kernel
theorem dX5_readSpan_24 : decode cX5_readSpan 24 = .ok (.iconst 1, 1) := by decide +kernel
theorem dX5_readSpan_25 : decode cX5_readSpan 25 = .ok (.putfield 31, 3) := by decide +kernel
theorem dX5_readSpan_28 : decode cX5_readSpan 28 = .ok (.aload_n 0, 1) := by decide +kernel
theorem dX5_readSpan_29 : decode cX5_readSpan 29 = .ok (.iload_n 1, 1) := by decide +kernel
theorem dX5_readSpan_30 : decode cX5_readSpan 30 = .ok (.iload_n 2, 1) := by decide +kernel
theorem dX5_readSpan_31 : decode cX5_readSpan 31 = .ok (.iload_n 3, 1) := by decide +kernel
theorem dX5_readSpan_32 : decode cX5_readSpan 32 = .ok (.iload 4, 2) := by decide +kernel
theorem dX5_readSpan_34 : decode cX5_readSpan 34 = .ok (.invokevirtual 78, 3) := by decide +kernel
theorem dX5_readSpan_37 : decode cX5_readSpan 37 = .ok (.return_, 1) := by decide +kernel
theorem dX5_isFigure_0 : decode cX5_isFigure 0 = .ok (.aload_n 0, 1) := by decide +kernel
theorem dX5_isFigure_1 : decode cX5_isFigure 1 = .ok (.invokevirtual 57, 3) := by decide +kernel
theorem dX5_isFigure_4 : decode cX5_isFigure 4 = .ok (.bipush 48, 2) := by decide +kernel
theorem dX5_isFigure_6 : decode cX5_isFigure 6 = .ok (.if_icmp .lt 16, 3) := by decide +kernel
theorem dX5_isFigure_9 : decode cX5_isFigure 9 = .ok (.aload_n 0, 1) := by decide +kernel
theorem dX5_isFigure_10 : decode cX5_isFigure 10 = .ok (.invokevirtual 57, 3) := by decide +kernel
theorem dX5_isFigure_13 : decode cX5_isFigure 13 = .ok (.bipush 57, 2) := by decide +kernel
theorem dX5_isFigure_15 : decode cX5_isFigure 15 = .ok (.if_icmp .gt 7, 3) := by decide +kernel
theorem dX5_isFigure_18 : decode cX5_isFigure 18 = .ok (.iconst 1, 1) := by decide +kernel
theorem dX5_isFigure_19 : decode cX5_isFigure 19 = .ok (.goto 4, 3) := by decide +kernel
theorem dX5_isFigure_22 : decode cX5_isFigure 22 = .ok (.iconst 0, 1) := by decide +kernel
theorem dX5_isFigure_23 : decode cX5_isFigure 23 = .ok (.ireturn, 1) := by decide +kernel
theorem dX5_readNumber_0 : decode cX5_readNumber 0 = .ok (.aload_n 0, 1) := by decide +kernel
theorem dX5_readNumber_1 : decode cX5_readNumber 1 = .ok (.getfield 31, 3) := by decide +kernel
theorem dX5_readNumber_4 : decode cX5_readNumber 4 = .ok (.ifCond .ne 10, 3) := by decide +kernel
theorem dX5_readNumber_7 : decode cX5_readNumber 7 = .ok (.aload_n 0, 1) := by decide +kernel
theorem dX5_readNumber_8 : decode cX5_readNumber 8 = .ok (.invokevirtual 88, 3) := by decide +kernel
theorem dX5_readNumber_11 : decode cX5_readNumber 11 = .ok (.ifCond .ne 10, 3) := by decide +kernel
theorem dX5_readNumber_14 : decode cX5_readNumber 14 = .ok (.aload_n 0, 1) := by decide +kernel
theorem dX5_readNumber_15 : decode cX5_readNumber 15 = .ok (.iconst 1, 1) := by decide +kernel
theorem dX5_readNumber_16 : decode cX5_readNumber 16 = .ok (.putfield 31, 3) := by decide +kernel
theorem dX5_readNumber_19 : decode cX5_readNumber 19 = .ok (.iconst 0, 1) := by decide +kernel
theorem dX5_readNumber_20 : decode cX5_readNumber 20 = .ok (.ireturn, 1) := by decide +kernel
theorem dX5_readNumber_21 : decode cX5_readNumber 21 = .ok (.aload_n 0, 1) := by decide +kernel
theorem dX5_readNumber_22 : decode cX5_readNumber 22 = .ok (.invokevirtual 57, 3) := by decide +kernel
theorem dX5_readNumber_25 : decode cX5_readNumber 25 = .ok (.bipush 48, 2) := by decide +kernel
theorem dX5_readNumber_27 : decode cX5_readNumber 27 = .ok (.isub, 1) := by decide +kernel
theorem dX5_readNumber_28 : decode cX5_readNumber 28 = .ok (.istore_n 1, 1) := by decide +kernel
theorem dX5_readNumber_29 : decode cX5_readNumber 29 = .ok (.aload_n 0, 1) := by decide +kernel
theorem dX5_readNumber_30 : decode cX5_readNumber 30 = .ok (.dup, 1) := by decide +kernel
theorem dX5_readNumber_31 : decode cX5_readNumber 31 = .ok (.getfield 28, 3) := by decide +kernel
theorem dX5_readNumber_34 : decode cX5_readNumber 34 = .ok (.iconst 1, 1) := by decide +kernel
theorem dX5_readNumber_35 : decode cX5_readNumber 35 = .ok (.iadd, 1) := by decide +kernel
theorem dX5_readNumber_36 : decode cX5_readNumber 36 = .ok (.putfield 28, 3) := by decide +kernel
theorem dX5_readNumber_39 : decode cX5_readNumber 39 = .ok (.aload_n 0, 1) := by decide +kernel
theorem dX5_readNumber_40 : decode cX5_readNumber 40 = .ok (.invokevirtual 88, 3) := by decide +kernel
theorem dX5_readNumber_43 : decode cX5_readNumber 43 = .ok (.ifCond .eq 26, 3) := by decide +kernel
theorem dX5_readNumber_46 : decode cX5_readNumber 46 = .ok (.bipush 10, 2) := by decide +kernel
theorem dX5_readNumber_48 : decode cX5_readNumber 48 = .ok (.iload_n 1, 1) := by decide +kernel
theorem dX5_readNumber_49 : decode cX5_readNumber 49 = .ok (.imul, 1) := by decide +kernel
theorem dX5_readNumber_50 : decode cX5_readNumber 50 = .ok (.aload_n 0, 1) := by decide +kernel
theorem dX5_readNumber_51 : decode cX5_readNumber 51 = .ok (.invokevirtual 57, 3) := by decide +kernel
theorem dX5_readNumber_54 : decode cX5_readNumber 54 = .ok (.iadd, 1) := by decide +kernel
theorem dX5_readNumber_55 : decode cX5_readNumber 55 = .ok (.bipush 48, 2) := by decide +kernel
theorem dX5_readNumber_57 : decode cX5_readNumber 57 = .ok (.isub, 1) := by decide +kernel
theorem dX5_readNumber_58 : decode cX5_readNumber 58 = .ok (.istore_n 1, 1) := by decide +kernel
theorem dX5_readNumber_59 : decode cX5_readNumber 59 = .ok (.aload_n 0, 1) := by decide +kernel
theorem dX5_readNumber_60 : decode cX5_readNumber 60 = .ok (.dup, 1) := by decide +kernel
theorem dX5_readNumber_61 : decode cX5_readNumber 61 = .ok (.getfield 28, 3) := by decide +kernel
theorem dX5_readNumber_64 : decode cX5_readNumber 64 = .ok (.iconst 1, 1) := by decide +kernel
theorem dX5_readNumber_65 : decode cX5_readNumber 65 = .ok (.iadd, 1) := by decide +kernel
theorem dX5_readNumber_66 : decode cX5_readNumber 66 = .ok (.putfield 28, 3) := by decide +kernel
theorem dX5_readNumber_69 : decode cX5_readNumber 69 = .ok (.iload_n 1, 1) := by decide +kernel
theorem dX5_readNumber_70 : decode cX5_readNumber 70 = .ok (.ireturn, 1) := by decide +kernel
theorem dX5_isFigureSign_0 : decode cX5_isFigureSign 0 = .ok (.aload_n 0, 1) := by decide +kernel
theorem dX5_isFigureSign_1 : decode cX5_isFigureSign 1 = .ok (.invokevirtual 88, 3) := by decide +kernel
theorem dX5_isFigureSign_4 : decode cX5_isFigureSign 4 = .ok (.ifCond .ne 21, 3) := by decide +kernel
theorem dX5_isFigureSign_7 : decode cX5_isFigureSign 7 = .ok (.aload_n 0, 1) := by decide +kernel
theorem dX5_isFigureSign_8 : decode cX5_isFigureSign 8 = .ok (.invokevirtual 57, 3) := by decide +kernel
theorem dX5_isFigureSign_11 : decode cX5_isFigureSign 11 = .ok (.bipush 63, 2) := by decide +kernel
theorem dX5_isFigureSign_13 : decode cX5_isFigureSign 13 = .ok (.if_icmp .eq 12, 3) := by decide +kernel
theorem dX5_isFigureSign_16 : decode cX5_isFigureSign 16 = .ok (.aload_n 0, 1) := by decide +kernel
theorem dX5_isFigureSign_17 : decode cX5_isFigureSign 17 = .ok (.invokevirtual 57, 3) := by decide +kernel
theorem dX5_isFigureSign_20 : decode cX5_isFigureSign 20 = .ok (.bipush 120, 2) := by decide +kernel
theorem dX5_isFigureSign_22 : decode cX5_isFigureSign 22 = .ok (.if_icmp .ne 7, 3) := by decide +kernel
theorem dX5_isFigureSign_25 : decode cX5_isFigureSign 25 = .ok (.iconst 1, 1) := by decide +kernel
theorem dX5_isFigureSign_26 : decode cX5_isFigureSign 26 = .ok (.goto 4, 3) := by decide +kernel
theorem dX5_isFigureSign_29 : decode cX5_isFigureSign 29 = .ok (.iconst 0, 1) := by decide +kernel
theorem dX5_isFigureSign_30 : decode cX5_isFigureSign 30 = .ok (.ireturn, 1) := by decide +kernel
theorem dX5_readFigure_0 : decode cX5_readFigure 0 = .ok (.aload_n 0, 1) := by decide +kernel
theorem dX5_readFigure_1 : decode cX5_readFigure 1 = .ok (.invokevirtual 92, 3) := by decide +kernel
theorem dX5_readFigure_4 : decode cX5_readFigure 4 = .ok (.ifCond .ne 9, 3) := by decide +kernel
theorem dX5_readFigure_7 : decode cX5_readFigure 7 = .ok (.aload_n 0, 1) := by decide +kernel
theorem dX5_readFigure_8 : decode cX5_readFigure 8 = .ok (.iconst 1, 1) := by decide +kernel
theorem dX5_readFigure_9 : decode cX5_readFigure 9 = .ok (.putfield 31, 3) := by decide +kernel
theorem dX5_readFigure_12 : decode cX5_readFigure 12 = .ok (.return_, 1) := by decide +kernel
theorem dX5_readFigure_13 : decode cX5_readFigure 13 = .ok (.bipush 48, 2) := by decide +kernel
theorem dX5_readFigure_15 : decode cX5_readFigure 15 = .ok (.istore_n 2, 1) := by decide +kernel
theorem dX5_readFigure_16 : decode cX5_readFigure 16 = .ok (.aload_n 0, 1) := by decide +kernel
theorem dX5_readFigure_17 : decode cX5_readFigure 17 = .ok (.invokevirtual 57, 3) := by decide +kernel
theorem dX5_readFigure_20 : decode cX5_readFigure 20 = .ok (.istore_n 3, 1) := by decide +kernel
theorem dX5_readFigure_21 : decode cX5_readFigure 21 = .ok (.aload_n 0, 1) := by decide +kernel
theorem dX5_readFigure_22 : decode cX5_readFigure 22 = .ok (.dup, 1) := by decide +kernel
theorem dX5_readFigure_23 : decode cX5_readFigure 23 = .ok (.getfield 28, 3) := by decide +kernel
theorem dX5_readFigure_26 : decode cX5_readFigure 26 = .ok (.iconst 1, 1) := by decide +kernel
theorem dX5_readFigure_27 : decode cX5_readFigure 27 = .ok (.iadd, 1) := by decide +kernel
theorem dX5_readFigure_28 : decode cX5_readFigure 28 = .ok (.putfield 28, 3) := by decide +kernel
theorem dX5_readFigure_31 : decode cX5_readFigure 31 = .ok (.aload_n 0, 1) := by decide +kernel
theorem dX5_readFigure_32 : decode cX5_readFigure 32 = .ok (.invokevirtual 92, 3) := by decide +kernel
theorem dX5_readFigure_35 : decode cX5_readFigure 35 = .ok (.ifCond .eq 20, 3) := by decide +kernel
theorem dX5_readFigure_38 : decode cX5_readFigure 38 = .ok (.iload_n 3, 1) := by decide +kernel
theorem dX5_readFigure_39 : decode cX5_readFigure 39 = .ok (.istore_n 2, 1) := by decide +kernel
theorem dX5_readFigure_40 : decode cX5_readFigure 40 = .ok (.aload_n 0, 1) := by decide +kernel
theorem dX5_readFigure_41 : decode cX5_readFigure 41 = .ok (.invokevirtual 57, 3) := by decide +kernel
theorem dX5_readFigure_44 : decode cX5_readFigure 44 = .ok (.istore_n 3, 1) := by decide +kernel
theorem dX5_readFigure_45 : decode cX5_readFigure 45 = .ok (.aload_n 0, 1) := by decide +kernel
theorem dX5_readFigure_46 : decode cX5_readFigure 46 = .ok (.dup, 1) := by decide +kernel
theorem dX5_readFigure_47 : decode cX5_readFigure 47 = .ok (.getfield 28, 3) := by decide +kernel
theorem dX5_readFigure_50 : decode cX5_readFigure 50 = .ok (.iconst 1, 1) := by decide +kernel
theorem dX5_readFigure_51 : decode cX5_readFigure 51 = .ok (.iadd, 1) := by decide +kernel
theorem dX5_readFigure_52 : decode cX5_readFigure 52 = .ok (.putfield 28, 3) := by decide +kernel
theorem dX5_readFigure_55 : decode cX5_readFigure 55 = .ok (.aload_n 0, 1) := by decide +kernel
theorem dX5_readFigure_56 : decode cX5_readFigure 56 = .ok (.iload_n 1, 1) := by decide +kernel
theorem dX5_readFigure_57 : decode cX5_readFigure 57 = .ok (.iconst 1, 1) := by decide +kernel
theorem dX5_readFigure_58 : decode cX5_readFigure 58 = .ok (.iload_n 2, 1) := by decide +kernel
theorem dX5_readFigure_59 : decode cX5_readFigure 59 = .ok (.iload_n 3, 1) := by decide +kernel
theorem dX5_readFigure_60 : decode cX5_readFigure 60 = .ok (.invokevirtual 78, 3) := by decide +kernel
theorem dX5_readFigure_63 : decode cX5_readFigure 63 = .ok (.return_, 1) := by decide +kernel
theorem dX6_init_0 : decode cX6_init 0 = .ok (.aload_n 0, 1) := by decide +kernel
theorem dX6_init_1 : decode cX6_init 1 = .ok (.invokespecial 3, 3) := by decide +kernel
theorem dX6_init_4 : decode cX6_init 4 = .ok (.aload_n 0, 1) := by decide +kernel
theorem dX6_init_5 : decode cX6_init 5 = .ok (.iload_n 1, 1) := by decide +kernel
theorem dX6_init_6 : decode cX6_init 6 = .ok (.iload_n 2, 1) := by decide +kernel
theorem dX6_init_7 : decode cX6_init 7 = .ok (.multianewarray 9 2, 4) := by decide +kernel
theorem dX6_init_11 : decode cX6_init 11 = .ok (.putfield 11, 3) := by decide +kernel
theorem dX6_init_14 : decode cX6_init 14 = .ok (.aload_n 0, 1) := by decide +kernel
theorem dX6_init_15 : decode cX6_init 15 = .ok (.iload_n 1, 1) := by decide +kernel
theorem dX6_init_16 : decode cX6_init 16 = .ok (.newarray .int, 2) := by decide +kernel
theorem dX6_init_18 : decode cX6_init 18 = .ok (.putfield 16, 3) := by decide +kernel
theorem dX6_init_21 : decode cX6_init 21 = .ok (.aload_n 0, 1) := by decide +kernel
theorem dX6_init_22 : decode cX6_init 22 = .ok (.iload_n 3, 1) := by decide +kernel
theorem dX6_init_23 : decode cX6_init 23 = .ok (.putfield 20, 3) := by decide +kernel
theorem dX6_init_26 : decode cX6_init 26 = .ok (.iconst 0, 1) := by decide +kernel
theorem dX6_init_27 : decode cX6_init 27 = .ok (.istore 4, 2) := by decide +kernel
theorem dX6_init_29 : decode cX6_init 29 = .ok (.iload 4, 2) := by decide +kernel
theorem dX6_init_31 : decode cX6_init 31 = .ok (.iload_n 1, 1) := by decide +kernel
theorem dX6_init_32 : decode cX6_init 32 = .ok (.if_icmp .ge 17, 3) := by decide +kernel
theorem dX6_init_35 : decode cX6_init 35 = .ok (.aload_n 0, 1) := by decide +kernel
theorem dX6_init_36 : decode cX6_init 36 = .ok (.getfield 16, 3) := by decide +kernel
theorem dX6_init_39 : decode cX6_init 39 = .ok (.iload 4, 2) := by decide +kernel
theorem dX6_init_41 : decode cX6_init 41 = .ok (.iconst (-1), 1) := by decide +kernel
theorem dX6_init_42 : decode cX6_init 42 = .ok (.iastore, 1) := by decide +kernel
theorem dX6_init_43 : decode cX6_init 43 = .ok (.iinc 4 1, 3) := by decide +kernel
theorem dX6_init_46 : decode cX6_init 46 = .ok (.goto (-17), 3) := by decide +kernel
theorem dX6_init_49 : decode cX6_init 49 = .ok (.return_, 1) := by decide +kernel
theorem dX6_isThere_0 : decode cX6_isThere 0 = .ok (.aload_n 0, 1) := by decide +kernel
theorem dX6_isThere_1 : decode cX6_isThere 1 = .ok (.getfield 16, 3) := by decide +kernel
theorem dX6_isThere_4 : decode cX6_isThere 4 = .ok (.iload_n 1, 1) := by decide +kernel
theorem dX6_isThere_5 : decode cX6_isThere 5 = .ok (.iaload, 1) := by decide +kernel
theorem dX6_isThere_6 : decode cX6_isThere 6 = .ok (.iconst (-1), 1) := by decide +kernel
theorem dX6_isThere_7 : decode cX6_isThere 7 = .ok (.if_icmp .eq 7, 3) := by decide +kernel
theorem dX6_isThere_10 : decode cX6_isThere 10 = .ok (.iconst 1, 1) := by decide +kernel
theorem dX6_isThere_11 : decode cX6_isThere 11 = .ok (.goto 4, 3) := by decide +kernel
theorem dX6_isThere_14 : decode cX6_isThere 14 = .ok (.iconst 0, 1) := by decide +kernel
theorem dX6_isThere_15 : decode cX6_isThere 15 = .ok (.ireturn, 1) := by decide +kernel
theorem dX6_sizeOf_0 : decode cX6_sizeOf 0 = .ok (.aload_n 0, 1) := by decide +kernel
theorem dX6_sizeOf_1 : decode cX6_sizeOf 1 = .ok (.getfield 16, 3) := by decide +kernel
theorem dX6_sizeOf_4 : decode cX6_sizeOf 4 = .ok (.iload_n 1, 1) := by decide +kernel
theorem dX6_sizeOf_5 : decode cX6_sizeOf 5 = .ok (.iaload, 1) := by decide +kernel
theorem dX6_sizeOf_6 : decode cX6_sizeOf 6 = .ok (.ireturn, 1) := by decide +kernel
theorem dX6_placesOf_0 : decode cX6_placesOf 0 = .ok (.aload_n 0, 1) := by decide +kernel
theorem dX6_placesOf_1 : decode cX6_placesOf 1 = .ok (.getfield 11, 3) := by decide +kernel
theorem dX6_placesOf_4 : decode cX6_placesOf 4 = .ok (.iload_n 1, 1) := by decide +kernel
theorem dX6_placesOf_5 : decode cX6_placesOf 5 = .ok (.aaload, 1) := by decide +kernel
theorem dX6_placesOf_6 : decode cX6_placesOf 6 = .ok (.areturn, 1) := by decide +kernel
theorem dX6_get_0 : decode cX6_get 0 = .ok (.aload_n 0, 1) := by decide +kernel
theorem dX6_get_1 : decode cX6_get 1 = .ok (.getfield 11, 3) := by decide +kernel
theorem dX6_get_4 : decode cX6_get 4 = .ok (.iload_n 1, 1) := by decide +kernel
theorem dX6_get_5 : decode cX6_get 5 = .ok (.aaload, 1) := by decide +kernel
theorem dX6_get_6 : decode cX6_get 6 = .ok (.iload_n 2, 1) := by decide +kernel
theorem dX6_get_7 : decode cX6_get 7 = .ok (.iaload, 1) := by decide +kernel
theorem dX6_get_8 : decode cX6_get 8 = .ok (.ireturn, 1) := by decide +kernel
theorem dX6_set_0 : decode cX6_set 0 = .ok (.aload_n 0, 1) := by decide +kernel
theorem dX6_set_1 : decode cX6_set 1 = .ok (.getfield 11, 3) := by decide +kernel
theorem dX6_set_4 : decode cX6_set 4 = .ok (.iload_n 1, 1) := by decide +kernel
theorem dX6_set_5 : decode cX6_set 5 = .ok (.aaload, 1) := by decide +kernel
theorem dX6_set_6 : decode cX6_set 6 = .ok (.iload_n 2, 1) := by decide +kernel
theorem dX6_set_7 : decode cX6_set 7 = .ok (.iload_n 3, 1) := by decide +kernel
theorem dX6_set_8 : decode cX6_set 8 = .ok (.iastore, 1) := by decide +kernel
theorem dX6_set_9 : decode cX6_set 9 = .ok (.return_, 1) := by decide +kernel
theorem dX6_make_0 : decode cX6_make 0 = .ok (.aload_n 0, 1) := by decide +kernel
theorem dX6_make_1 : decode cX6_make 1 = .ok (.getfield 16, 3) := by decide +kernel
theorem dX6_make_4 : decode cX6_make 4 = .ok (.iload_n 1, 1) := by decide +kernel
theorem dX6_make_5 : decode cX6_make 5 = .ok (.iload_n 2, 1) := by decide +kernel
theorem dX6_make_6 : decode cX6_make 6 = .ok (.iastore, 1) := by decide +kernel
theorem dX6_make_7 : decode cX6_make 7 = .ok (.iconst 0, 1) := by decide +kernel
theorem dX6_make_8 : decode cX6_make 8 = .ok (.istore_n 3, 1) := by decide +kernel
theorem dX6_make_9 : decode cX6_make 9 = .ok (.iload_n 3, 1) := by decide +kernel
theorem dX6_make_10 : decode cX6_make 10 = .ok (.iload_n 2, 1) := by decide +kernel
theorem dX6_make_11 : decode cX6_make 11 = .ok (.if_icmp .ge 21, 3) := by decide +kernel
theorem dX6_make_14 : decode cX6_make 14 = .ok (.aload_n 0, 1) := by decide +kernel
theorem dX6_make_15 : decode cX6_make 15 = .ok (.getfield 11, 3) := by decide +kernel
theorem dX6_make_18 : decode cX6_make 18 = .ok (.iload_n 1, 1) := by decide +kernel
theorem dX6_make_19 : decode cX6_make 19 = .ok (.aaload, 1) := by decide +kernel
theorem dX6_make_20 : decode cX6_make 20 = .ok (.iload_n 3, 1) := by decide +kernel
theorem dX6_make_21 : decode cX6_make 21 = .ok (.aload_n 0, 1) := by decide +kernel
theorem dX6_make_22 : decode cX6_make 22 = .ok (.getfield 20, 3) := by decide +kernel
theorem dX6_make_25 : decode cX6_make 25 = .ok (.iastore, 1) := by decide +kernel
theorem dX6_make_26 : decode cX6_make 26 = .ok (.iinc 3 1, 3) := by decide +kernel
theorem dX6_make_29 : decode cX6_make 29 = .ok (.goto (-20), 3) := by decide +kernel
theorem dX6_make_32 : decode cX6_make 32 = .ok (.return_, 1) := by decide +kernel
theorem dX6_remove_0 : decode cX6_remove 0 = .ok (.aload_n 0, 1) := by decide +kernel
theorem dX6_remove_1 : decode cX6_remove 1 = .ok (.getfield 16, 3) := by decide +kernel
theorem dX6_remove_4 : decode cX6_remove 4 = .ok (.iload_n 1, 1) := by decide +kernel
theorem dX6_remove_5 : decode cX6_remove 5 = .ok (.iconst (-1), 1) := by decide +kernel
theorem dX6_remove_6 : decode cX6_remove 6 = .ok (.iastore, 1) := by decide +kernel
theorem dX6_remove_7 : decode cX6_remove 7 = .ok (.return_, 1) := by decide +kernel
theorem dX6_hasSpan_0 : decode cX6_hasSpan 0 = .ok (.iload_n 2, 1) := by decide +kernel
theorem dX6_hasSpan_1 : decode cX6_hasSpan 1 = .ok (.ifCond .lt 29, 3) := by decide +kernel
theorem dX6_hasSpan_4 : decode cX6_hasSpan 4 = .ok (.iload_n 2, 1) := by decide +kernel
theorem dX6_hasSpan_5 : decode cX6_hasSpan 5 = .ok (.aload_n 0, 1) := by decide +kernel
theorem dX6_hasSpan_6 : decode cX6_hasSpan 6 = .ok (.getfield 16, 3) := by decide +kernel
theorem dX6_hasSpan_9 : decode cX6_hasSpan 9 = .ok (.iload_n 1, 1) := by decide +kernel
theorem dX6_hasSpan_10 : decode cX6_hasSpan 10 = .ok (.iaload, 1) := by decide +kernel
theorem dX6_hasSpan_11 : decode cX6_hasSpan 11 = .ok (.if_icmp .gt 19, 3) := by decide +kernel
theorem dX6_hasSpan_14 : decode cX6_hasSpan 14 = .ok (.iload_n 3, 1) := by decide +kernel
theorem dX6_hasSpan_15 : decode cX6_hasSpan 15 = .ok (.aload_n 0, 1) := by decide +kernel
theorem dX6_hasSpan_16 : decode cX6_hasSpan 16 = .ok (.getfield 16, 3) := by decide +kernel
theorem dX6_hasSpan_19 : decode cX6_hasSpan 19 = .ok (.iload_n 1, 1) := by decide +kernel
theorem dX6_hasSpan_20 : decode cX6_hasSpan 20 = .ok (.iaload, 1) := by decide +kernel
theorem dX6_hasSpan_21 : decode cX6_hasSpan 21 = .ok (.iload_n 2, 1) := by decide +kernel
theorem dX6_hasSpan_22 : decode cX6_hasSpan 22 = .ok (.isub, 1) := by decide +kernel
theorem dX6_hasSpan_23 : decode cX6_hasSpan 23 = .ok (.if_icmp .gt 7, 3) := by decide +kernel
theorem dX6_hasSpan_26 : decode cX6_hasSpan 26 = .ok (.iconst 1, 1) := by decide +kernel
theorem dX6_hasSpan_27 : decode cX6_hasSpan 27 = .ok (.goto 4, 3) := by decide +kernel
theorem dX6_hasSpan_30 : decode cX6_hasSpan 30 = .ok (.iconst 0, 1) := by decide +kernel
theorem dX6_hasSpan_31 : decode cX6_hasSpan 31 = .ok (.ireturn, 1) := by decide +kernel
theorem dX6_move_0 : decode cX6_move 0 = .ok (.aload_n 0, 1) := by decide +kernel
theorem dX6_move_1 : decode cX6_move 1 = .ok (.getfield 11, 3) := by decide +kernel
theorem dX6_move_4 : decode cX6_move 4 = .ok (.iload_n 1, 1) := by decide +kernel
theorem dX6_move_5 : decode cX6_move 5 = .ok (.aaload, 1) := by decide +kernel
theorem dX6_move_6 : decode cX6_move 6 = .ok (.iload_n 2, 1) := by decide +kernel
theorem dX6_move_7 : decode cX6_move 7 = .ok (.aload_n 0, 1) := by decide +kernel
theorem dX6_move_8 : decode cX6_move 8 = .ok (.getfield 11, 3) := by decide +kernel
theorem dX6_move_11 : decode cX6_move 11 = .ok (.iload_n 3, 1) := by decide +kernel
theorem dX6_move_12 : decode cX6_move 12 = .ok (.aaload, 1) := by decide +kernel
theorem dX6_move_13 : decode cX6_move 13 = .ok (.iload 4, 2) := by decide +kernel
theorem dX6_move_15 : decode cX6_move 15 = .ok (.iload 5, 2) := by decide +kernel
theorem dX6_move_17 : decode cX6_move 17 = .ok (.invokestatic 24, 3) := by decide +kernel
theorem dX6_move_20 : decode cX6_move 20 = .ok (.return_, 1) := by decide +kernel
theorem dX6_addUp_0 : decode cX6_addUp 0 = .ok (.lconst 0, 1) := by decide +kernel
theorem dX6_addUp_1 : decode cX6_addUp 1 = .ok (.lstore_n 2, 1) := by decide +kernel
theorem dX6_addUp_2 : decode cX6_addUp 2 = .ok (.iconst 0, 1) := by decide +kernel
theorem dX6_addUp_3 : decode cX6_addUp 3 = .ok (.istore 4, 2) := by decide +kernel
theorem dX6_addUp_5 : decode cX6_addUp 5 = .ok (.iload 4, 2) := by decide +kernel
theorem dX6_addUp_7 : decode cX6_addUp 7 = .ok (.aload_n 0, 1) := by decide +kernel
theorem dX6_addUp_8 : decode cX6_addUp 8 = .ok (.getfield 16, 3) := by decide +kernel
theorem dX6_addUp_11 : decode cX6_addUp 11 = .ok (.iload_n 1, 1) := by decide +kernel
theorem dX6_addUp_12 : decode cX6_addUp 12 = .ok (.iaload, 1) := by decide +kernel
theorem dX6_addUp_13 : decode cX6_addUp 13 = .ok (.if_icmp .ge 22, 3) := by decide +kernel
theorem dX6_addUp_16 : decode cX6_addUp 16 = .ok (.lload_n 2, 1) := by decide +kernel
theorem dX6_addUp_17 : decode cX6_addUp 17 = .ok (.aload_n 0, 1) := by decide +kernel
theorem dX6_addUp_18 : decode cX6_addUp 18 = .ok (.getfield 11, 3) := by decide +kernel
theorem dX6_addUp_21 : decode cX6_addUp 21 = .ok (.iload_n 1, 1) := by decide +kernel
theorem dX6_addUp_22 : decode cX6_addUp 22 = .ok (.aaload, 1) := by decide +kernel
theorem dX6_addUp_23 : decode cX6_addUp 23 = .ok (.iload 4, 2) := by decide +kernel
theorem dX6_addUp_25 : decode cX6_addUp 25 = .ok (.iaload, 1) := by decide +kernel
theorem dX6_addUp_26 : decode cX6_addUp 26 = .ok (.i2l, 1) := by decide +kernel
theorem dX6_addUp_27 : decode cX6_addUp 27 = .ok (.ladd, 1) := by decide +kernel
theorem dX6_addUp_28 : decode cX6_addUp 28 = .ok (.lstore_n 2, 1) := by decide +kernel
theorem dX6_addUp_29 : decode cX6_addUp 29 = .ok (.iinc 4 1, 3) := by decide +kernel
theorem dX6_addUp_32 : decode cX6_addUp 32 = .ok (.goto (-27), 3) := by decide +kernel
theorem dX6_addUp_35 : decode cX6_addUp 35 = .ok (.lload_n 2, 1) := by decide +kernel
theorem dX6_addUp_36 : decode cX6_addUp 36 = .ok (.lreturn, 1) := by decide +kernel
theorem dX6_allWithin_0 : decode cX6_allWithin 0 = .ok (.iconst 0, 1) := by decide +kernel
theorem dX6_allWithin_1 : decode cX6_allWithin 1 = .ok (.istore 4, 2) := by decide +kernel
theorem dX6_allWithin_3 : decode cX6_allWithin 3 = .ok (.iload 4, 2) := by decide +kernel
theorem dX6_allWithin_5 : decode cX6_allWithin 5 = .ok (.aload_n 0, 1) := by decide +kernel
theorem dX6_allWithin_6 : decode cX6_allWithin 6 = .ok (.getfield 16, 3) := by decide +kernel
theorem dX6_allWithin_9 : decode cX6_allWithin 9 = .ok (.iload_n 1, 1) := by decide +kernel
theorem dX6_allWithin_10 : decode cX6_allWithin 10 = .ok (.iaload, 1) := by decide +kernel
theorem dX6_allWithin_11 : decode cX6_allWithin 11 = .ok (.if_icmp .ge 37, 3) := by decide +kernel
theorem dX6_allWithin_14 : decode cX6_allWithin 14 = .ok (.aload_n 0, 1) := by decide +kernel
theorem dX6_allWithin_15 : decode cX6_allWithin 15 = .ok (.getfield 11, 3) := by decide +kernel
theorem dX6_allWithin_18 : decode cX6_allWithin 18 = .ok (.iload_n 1, 1) := by decide +kernel
theorem dX6_allWithin_19 : decode cX6_allWithin 19 = .ok (.aaload, 1) := by decide +kernel
theorem dX6_allWithin_20 : decode cX6_allWithin 20 = .ok (.iload 4, 2) := by decide +kernel
theorem dX6_allWithin_22 : decode cX6_allWithin 22 = .ok (.iaload, 1) := by decide +kernel
theorem dX6_allWithin_23 : decode cX6_allWithin 23 = .ok (.iload_n 2, 1) := by decide +kernel
theorem dX6_allWithin_24 : decode cX6_allWithin 24 = .ok (.if_icmp .lt 16, 3) := by decide +kernel
theorem dX6_allWithin_27 : decode cX6_allWithin 27 = .ok (.aload_n 0, 1) := by decide +kernel
theorem dX6_allWithin_28 : decode cX6_allWithin 28 = .ok (.getfield 11, 3) := by decide +kernel
theorem dX6_allWithin_31 : decode cX6_allWithin 31 = .ok (.iload_n 1, 1) := by decide +kernel
theorem dX6_allWithin_32 : decode cX6_allWithin 32 = .ok (.aaload, 1) := by decide +kernel
theorem dX6_allWithin_33 : decode cX6_allWithin 33 = .ok (.iload 4, 2) := by decide +kernel
theorem dX6_allWithin_35 : decode cX6_allWithin 35 = .ok (.iaload, 1) := by decide +kernel
theorem dX6_allWithin_36 : decode cX6_allWithin 36 = .ok (.iload_n 3, 1) := by decide +kernel
theorem dX6_allWithin_37 : decode cX6_allWithin 37 = .ok (.if_icmp .le 5, 3) := by decide +kernel
theorem dX6_allWithin_40 : decode cX6_allWithin 40 = .ok (.iconst 0, 1) := by decide +kernel
theorem dX6_allWithin_41 : decode cX6_allWithin 41 = .ok (.ireturn, 1) := by decide +kernel
theorem dX6_allWithin_42 : decode cX6_allWithin 42 = .ok (.iinc 4 1, 3) := by decide +kernel
theorem dX6_allWithin_45 : decode cX6_allWithin 45 = .ok (.goto (-42), 3) := by decide +kernel
theorem dX6_allWithin_48 : decode cX6_allWithin 48 = .ok (.iconst 1, 1) := by decide +kernel
theorem dX6_allWithin_49 : decode cX6_allWithin 49 = .ok (.ireturn, 1) := by decide +kernel
theorem dX6_howMany_0 : decode cX6_howMany 0 = .ok (.iconst 0, 1) := by decide +kernel
theorem dX6_howMany_1 : decode cX6_howMany 1 = .ok (.istore_n 1, 1) := by decide +kernel
theorem dX6_howMany_2 : decode cX6_howMany 2 = .ok (.iconst 0, 1) := by decide +kernel
theorem dX6_howMany_3 : decode cX6_howMany 3 = .ok (.istore_n 2, 1) := by decide +kernel
theorem dX6_howMany_4 : decode cX6_howMany 4 = .ok (.iload_n 2, 1) := by decide +kernel
theorem dX6_howMany_5 : decode cX6_howMany 5 = .ok (.aload_n 0, 1) := by decide +kernel
theorem dX6_howMany_6 : decode cX6_howMany 6 = .ok (.getfield 16, 3) := by decide +kernel
theorem dX6_howMany_9 : decode cX6_howMany 9 = .ok (.arraylength, 1) := by decide +kernel
theorem dX6_howMany_10 : decode cX6_howMany 10 = .ok (.if_icmp .ge 25, 3) := by decide +kernel
theorem dX6_howMany_13 : decode cX6_howMany 13 = .ok (.iload_n 1, 1) := by decide +kernel
theorem dX6_howMany_14 : decode cX6_howMany 14 = .ok (.aload_n 0, 1) := by decide +kernel
theorem dX6_howMany_15 : decode cX6_howMany 15 = .ok (.iload_n 2, 1) := by decide +kernel
theorem dX6_howMany_16 : decode cX6_howMany 16 = .ok (.invokevirtual 30, 3) := by decide +kernel
theorem dX6_howMany_19 : decode cX6_howMany 19 = .ok (.ifCond .eq 7, 3) := by decide +kernel
theorem dX6_howMany_22 : decode cX6_howMany 22 = .ok (.iconst 1, 1) := by decide +kernel
theorem dX6_howMany_23 : decode cX6_howMany 23 = .ok (.goto 4, 3) := by decide +kernel
theorem dX6_howMany_26 : decode cX6_howMany 26 = .ok (.iconst 0, 1) := by decide +kernel
theorem dX6_howMany_27 : decode cX6_howMany 27 = .ok (.iadd, 1) := by decide +kernel
theorem dX6_howMany_28 : decode cX6_howMany 28 = .ok (.istore_n 1, 1) := by decide +kernel
theorem dX6_howMany_29 : decode cX6_howMany 29 = .ok (.iinc 2 1, 3) := by decide +kernel
theorem dX6_howMany_32 : decode cX6_howMany 32 = .ok (.goto (-28), 3) := by decide +kernel
theorem dX6_howMany_35 : decode cX6_howMany 35 = .ok (.iload_n 1, 1) := by decide +kernel
theorem dX6_howMany_36 : decode cX6_howMany 36 = .ok (.ireturn, 1) := by decide +kernel
theorem dX6_mixInto_0 : decode cX6_mixInto 0 = .ok (.iconst 0, 1) := by decide +kernel
theorem dX6_mixInto_1 : decode cX6_mixInto 1 = .ok (.istore_n 3, 1) := by decide +kernel
theorem dX6_mixInto_2 : decode cX6_mixInto 2 = .ok (.iload_n 3, 1) := by decide +kernel
theorem dX6_mixInto_3 : decode cX6_mixInto 3 = .ok (.aload_n 0, 1) := by decide +kernel
theorem dX6_mixInto_4 : decode cX6_mixInto 4 = .ok (.getfield 16, 3) := by decide +kernel
theorem dX6_mixInto_7 : decode cX6_mixInto 7 = .ok (.arraylength, 1) := by decide +kernel
theorem dX6_mixInto_8 : decode cX6_mixInto 8 = .ok (.if_icmp .ge 60, 3) := by decide +kernel
theorem dX6_mixInto_11 : decode cX6_mixInto 11 = .ok (.ldc2_w 34, 3) := by decide +kernel
theorem dX6_mixInto_14 : decode cX6_mixInto 14 = .ok (.lload_n 1, 1) := by decide +kernel
theorem dX6_mixInto_15 : decode cX6_mixInto 15 = .ok (.lmul, 1) := by decide +kernel
theorem dX6_mixInto_16 : decode cX6_mixInto 16 = .ok (.aload_n 0, 1) := by decide +kernel
theorem dX6_mixInto_17 : decode cX6_mixInto 17 = .ok (.getfield 16, 3) := by decide +kernel
theorem dX6_mixInto_20 : decode cX6_mixInto 20 = .ok (.iload_n 3, 1) := by decide +kernel
theorem dX6_mixInto_21 : decode cX6_mixInto 21 = .ok (.iaload, 1) := by decide +kernel
theorem dX6_mixInto_22 : decode cX6_mixInto 22 = .ok (.i2l, 1) := by decide +kernel
theorem dX6_mixInto_23 : decode cX6_mixInto 23 = .ok (.ladd, 1) := by decide +kernel
theorem dX6_mixInto_24 : decode cX6_mixInto 24 = .ok (.lstore_n 1, 1) := by decide +kernel
theorem dX6_mixInto_25 : decode cX6_mixInto 25 = .ok (.iconst 0, 1) := by decide +kernel
theorem dX6_mixInto_26 : decode cX6_mixInto 26 = .ok (.istore 4, 2) := by decide +kernel
theorem dX6_mixInto_28 : decode cX6_mixInto 28 = .ok (.iload 4, 2) := by decide +kernel
theorem dX6_mixInto_30 : decode cX6_mixInto 30 = .ok (.aload_n 0, 1) := by decide +kernel
theorem dX6_mixInto_31 : decode cX6_mixInto 31 = .ok (.getfield 16, 3) := by decide +kernel
theorem dX6_mixInto_34 : decode cX6_mixInto 34 = .ok (.iload_n 3, 1) := by decide +kernel
theorem dX6_mixInto_35 : decode cX6_mixInto 35 = .ok (.iaload, 1) := by decide +kernel
theorem dX6_mixInto_36 : decode cX6_mixInto 36 = .ok (.if_icmp .ge 26, 3) := by decide +kernel
theorem dX6_mixInto_39 : decode cX6_mixInto 39 = .ok (.ldc2_w 34, 3) := by decide +kernel
theorem dX6_mixInto_42 : decode cX6_mixInto 42 = .ok (.lload_n 1, 1) := by decide +kernel
theorem dX6_mixInto_43 : decode cX6_mixInto 43 = .ok (.lmul, 1) := by decide +kernel
theorem dX6_mixInto_44 : decode cX6_mixInto 44 = .ok (.aload_n 0, 1) := by decide +kernel
theorem dX6_mixInto_45 : decode cX6_mixInto 45 = .ok (.getfield 11, 3) := by decide +kernel
theorem dX6_mixInto_48 : decode cX6_mixInto 48 = .ok (.iload_n 3, 1) := by decide +kernel
theorem dX6_mixInto_49 : decode cX6_mixInto 49 = .ok (.aaload, 1) := by decide +kernel
theorem dX6_mixInto_50 : decode cX6_mixInto 50 = .ok (.iload 4, 2) := by decide +kernel
theorem dX6_mixInto_52 : decode cX6_mixInto 52 = .ok (.iaload, 1) := by decide +kernel
theorem dX6_mixInto_53 : decode cX6_mixInto 53 = .ok (.i2l, 1) := by decide +kernel
theorem dX6_mixInto_54 : decode cX6_mixInto 54 = .ok (.ladd, 1) := by decide +kernel
theorem dX6_mixInto_55 : decode cX6_mixInto 55 = .ok (.lstore_n 1, 1) := by decide +kernel
theorem dX6_mixInto_56 : decode cX6_mixInto 56 = .ok (.iinc 4 1, 3) := by decide +kernel
theorem dX6_mixInto_59 : decode cX6_mixInto 59 = .ok (.goto (-31), 3) := by decide +kernel
theorem dX6_mixInto_62 : decode cX6_mixInto 62 = .ok (.iinc 3 1, 3) := by decide +kernel
theorem dX6_mixInto_65 : decode cX6_mixInto 65 = .ok (.goto (-63), 3) := by decide +kernel
theorem dX6_mixInto_68 : decode cX6_mixInto 68 = .ok (.lload_n 1, 1) := by decide +kernel
theorem dX6_mixInto_69 : decode cX6_mixInto 69 = .ok (.lreturn, 1) := by decide +kernel
theorem dX7_init_0 : decode cX7_init 0 = .ok (.aload_n 0, 1) := by decide +kernel
theorem dX7_init_1 : decode cX7_init 1 = .ok (.invokespecial 3, 3) := by decide +kernel
theorem dX7_init_4 : decode cX7_init 4 = .ok (.aload_n 0, 1) := by decide +kernel
theorem dX7_init_5 : decode cX7_init 5 = .ok (.bipush 8, 2) := by decide +kernel
theorem dX7_init_7 : decode cX7_init 7 = .ok (.newarray .int, 2) := by decide +kernel
theorem dX7_init_9 : decode cX7_init 9 = .ok (.putfield 9, 3) := by decide +kernel
theorem dX7_init_12 : decode cX7_init 12 = .ok (.aload_n 0, 1) := by decide +kernel
theorem dX7_init_13 : decode cX7_init 13 = .ok (.bipush 8, 2) := by decide +kernel
theorem dX7_init_15 : decode cX7_init 15 = .ok (.newarray .int, 2) := by decide +kernel
theorem dX7_init_17 : decode cX7_init 17 = .ok (.putfield 15, 3) := by decide +kernel
theorem dX7_init_20 : decode cX7_init 20 = .ok (.aload_n 0, 1) := by decide +kernel
theorem dX7_init_21 : decode cX7_init 21 = .ok (.bipush 8, 2) := by decide +kernel
theorem dX7_init_23 : decode cX7_init 23 = .ok (.newarray .int, 2) := by decide +kernel
theorem dX7_init_25 : decode cX7_init 25 = .ok (.putfield 18, 3) := by decide +kernel
theorem dX7_init_28 : decode cX7_init 28 = .ok (.aload_n 0, 1) := by decide +kernel
theorem dX7_init_29 : decode cX7_init 29 = .ok (.iconst 0, 1) := by decide +kernel
theorem dX7_init_30 : decode cX7_init 30 = .ok (.putfield 21, 3) := by decide +kernel
theorem dX7_init_33 : decode cX7_init 33 = .ok (.aload_n 0, 1) := by decide +kernel
theorem dX7_init_34 : decode cX7_init 34 = .ok (.aload_n 1, 1) := by decide +kernel
theorem dX7_init_35 : decode cX7_init 35 = .ok (.putfield 25, 3) := by decide +kernel
theorem dX7_init_38 : decode cX7_init 38 = .ok (.return_, 1) := by decide +kernel
theorem dX7_howMany_0 : decode cX7_howMany 0 = .ok (.aload_n 0, 1) := by decide +kernel
theorem dX7_howMany_1 : decode cX7_howMany 1 = .ok (.getfield 21, 3) := by decide +kernel
theorem dX7_howMany_4 : decode cX7_howMany 4 = .ok (.ireturn, 1) := by decide +kernel
theorem dX7_append_0 : decode cX7_append 0 = .ok (.aload_n 0, 1) := by decide +kernel
theorem dX7_append_1 : decode cX7_append 1 = .ok (.getfield 9, 3) := by decide +kernel
theorem dX7_append_4 : decode cX7_append 4 = .ok (.aload_n 0, 1) := by decide +kernel
theorem dX7_append_5 : decode cX7_append 5 = .ok (.getfield 21, 3) := by decide +kernel
theorem dX7_append_8 : decode cX7_append 8 = .ok (.iload_n 1, 1) := by decide +kernel
theorem dX7_append_9 : decode cX7_append 9 = .ok (.iastore, 1) := by decide +kernel
theorem dX7_append_10 : decode cX7_append 10 = .ok (.aload_n 0, 1) := by decide +kernel
theorem dX7_append_11 : decode cX7_append 11 = .ok (.getfield 15, 3) := by decide +kernel
theorem dX7_append_14 : decode cX7_append 14 = .ok (.aload_n 0, 1) := by decide +kernel
theorem dX7_append_15 : decode cX7_append 15 = .ok (.getfield 21, 3) := by decide +kernel
theorem dX7_append_18 : decode cX7_append 18 = .ok (.iload_n 2, 1) := by decide +kernel
theorem dX7_append_19 : decode cX7_append 19 = .ok (.iastore, 1) := by decide +kernel
theorem dX7_append_20 : decode cX7_append 20 = .ok (.aload_n 0, 1) := by decide +kernel
theorem dX7_append_21 : decode cX7_append 21 = .ok (.getfield 18, 3) := by decide +kernel
theorem dX7_append_24 : decode cX7_append 24 = .ok (.aload_n 0, 1) := by decide +kernel
theorem dX7_append_25 : decode cX7_append 25 = .ok (.getfield 21, 3) := by decide +kernel
theorem dX7_append_28 : decode cX7_append 28 = .ok (.iload_n 3, 1) := by decide +kernel
theorem dX7_append_29 : decode cX7_append 29 = .ok (.iastore, 1) := by decide +kernel
theorem dX7_append_30 : decode cX7_append 30 = .ok (.aload_n 0, 1) := by decide +kernel
theorem dX7_append_31 : decode cX7_append 31 = .ok (.dup, 1) := by decide +kernel
theorem dX7_append_32 : decode cX7_append 32 = .ok (.getfield 21, 3) := by decide +kernel
theorem dX7_append_35 : decode cX7_append 35 = .ok (.iconst 1, 1) := by decide +kernel
theorem dX7_append_36 : decode cX7_append 36 = .ok (.iadd, 1) := by decide +kernel
theorem dX7_append_37 : decode cX7_append 37 = .ok (.putfield 21, 3) := by decide +kernel
theorem dX7_append_40 : decode cX7_append 40 = .ok (.return_, 1) := by decide +kernel
theorem dX7_removeAll_0 : decode cX7_removeAll 0 = .ok (.aload_n 0, 1) := by decide +kernel
theorem dX7_removeAll_1 : decode cX7_removeAll 1 = .ok (.iconst 0, 1) := by decide +kernel
theorem dX7_removeAll_2 : decode cX7_removeAll 2 = .ok (.putfield 21, 3) := by decide +kernel
theorem dX7_removeAll_5 : decode cX7_removeAll 5 = .ok (.return_, 1) := by decide +kernel
theorem dX7_totalOf_0 : decode cX7_totalOf 0 = .ok (.aload_n 0, 1) := by decide +kernel
theorem dX7_totalOf_1 : decode cX7_totalOf 1 = .ok (.getfield 18, 3) := by decide +kernel
theorem dX7_totalOf_4 : decode cX7_totalOf 4 = .ok (.iload_n 1, 1) := by decide +kernel
theorem dX7_totalOf_5 : decode cX7_totalOf 5 = .ok (.iaload, 1) := by decide +kernel
theorem dX7_totalOf_6 : decode cX7_totalOf 6 = .ok (.ireturn, 1) := by decide +kernel
theorem dX7_setTotal_0 : decode cX7_setTotal 0 = .ok (.aload_n 0, 1) := by decide +kernel
theorem dX7_setTotal_1 : decode cX7_setTotal 1 = .ok (.getfield 18, 3) := by decide +kernel
theorem dX7_setTotal_4 : decode cX7_setTotal 4 = .ok (.iload_n 1, 1) := by decide +kernel
theorem dX7_setTotal_5 : decode cX7_setTotal 5 = .ok (.iload_n 2, 1) := by decide +kernel
theorem dX7_setTotal_6 : decode cX7_setTotal 6 = .ok (.iastore, 1) := by decide +kernel
theorem dX7_setTotal_7 : decode cX7_setTotal 7 = .ok (.return_, 1) := by decide +kernel
theorem dX7_signOf_0 : decode cX7_signOf 0 = .ok (.aload_n 0, 1) := by decide +kernel
theorem dX7_signOf_1 : decode cX7_signOf 1 = .ok (.getfield 25, 3) := by decide +kernel
theorem dX7_signOf_4 : decode cX7_signOf 4 = .ok (.iload_n 2, 1) := by decide +kernel
theorem dX7_signOf_5 : decode cX7_signOf 5 = .ok (.invokevirtual 29, 3) := by decide +kernel
theorem dX7_signOf_8 : decode cX7_signOf 8 = .ok (.ifCond .ne 5, 3) := by decide +kernel
theorem dX7_signOf_11 : decode cX7_signOf 11 = .ok (.iconst 0, 1) := by decide +kernel
theorem dX7_signOf_12 : decode cX7_signOf 12 = .ok (.ireturn, 1) := by decide +kernel
theorem dX7_signOf_13 : decode cX7_signOf 13 = .ok (.aload_n 0, 1) := by decide +kernel
theorem dX7_signOf_14 : decode cX7_signOf 14 = .ok (.getfield 9, 3) := by decide +kernel
theorem dX7_signOf_17 : decode cX7_signOf 17 = .ok (.iload_n 1, 1) := by decide +kernel
theorem dX7_signOf_18 : decode cX7_signOf 18 = .ok (.iaload, 1) := by decide +kernel
theorem dX7_signOf_19 : decode cX7_signOf 19 = .ok (.iload_n 2, 1) := by decide +kernel
theorem dX7_signOf_20 : decode cX7_signOf 20 = .ok (.ishr, 1) := by decide +kernel
theorem dX7_signOf_21 : decode cX7_signOf 21 = .ok (.iconst 1, 1) := by decide +kernel
theorem dX7_signOf_22 : decode cX7_signOf 22 = .ok (.iand, 1) := by decide +kernel
theorem dX7_signOf_23 : decode cX7_signOf 23 = .ok (.aload_n 0, 1) := by decide +kernel
theorem dX7_signOf_24 : decode cX7_signOf 24 = .ok (.getfield 15, 3) := by decide +kernel
theorem dX7_signOf_27 : decode cX7_signOf 27 = .ok (.iload_n 1, 1) := by decide +kernel
theorem dX7_signOf_28 : decode cX7_signOf 28 = .ok (.iaload, 1) := by decide +kernel
theorem dX7_signOf_29 : decode cX7_signOf 29 = .ok (.iload_n 2, 1) := by decide +kernel
theorem dX7_signOf_30 : decode cX7_signOf 30 = .ok (.ishr, 1) := by decide +kernel
theorem dX7_signOf_31 : decode cX7_signOf 31 = .ok (.iconst 1, 1) := by decide +kernel
theorem dX7_signOf_32 : decode cX7_signOf 32 = .ok (.iand, 1) := by decide +kernel
theorem dX7_signOf_33 : decode cX7_signOf 33 = .ok (.isub, 1) := by decide +kernel
theorem dX7_signOf_34 : decode cX7_signOf 34 = .ok (.ireturn, 1) := by decide +kernel
theorem dX7_comesOut_0 : decode cX7_comesOut 0 = .ok (.aload_n 0, 1) := by decide +kernel
theorem dX7_comesOut_1 : decode cX7_comesOut 1 = .ok (.getfield 9, 3) := by decide +kernel
theorem dX7_comesOut_4 : decode cX7_comesOut 4 = .ok (.iload_n 1, 1) := by decide +kernel
theorem dX7_comesOut_5 : decode cX7_comesOut 5 = .ok (.iaload, 1) := by decide +kernel
theorem dX7_comesOut_6 : decode cX7_comesOut 6 = .ok (.aload_n 0, 1) := by decide +kernel
theorem dX7_comesOut_7 : decode cX7_comesOut 7 = .ok (.getfield 25, 3) := by decide +kernel
theorem dX7_comesOut_10 : decode cX7_comesOut 10 = .ok (.invokevirtual 35, 3) := by decide +kernel
theorem dX7_comesOut_13 : decode cX7_comesOut 13 = .ok (.iand, 1) := by decide +kernel
theorem dX7_comesOut_14 : decode cX7_comesOut 14 = .ok (.istore_n 3, 1) := by decide +kernel
theorem dX7_comesOut_15 : decode cX7_comesOut 15 = .ok (.aload_n 0, 1) := by decide +kernel
theorem dX7_comesOut_16 : decode cX7_comesOut 16 = .ok (.getfield 15, 3) := by decide +kernel
theorem dX7_comesOut_19 : decode cX7_comesOut 19 = .ok (.iload_n 1, 1) := by decide +kernel
theorem dX7_comesOut_20 : decode cX7_comesOut 20 = .ok (.iaload, 1) := by decide +kernel
theorem dX7_comesOut_21 : decode cX7_comesOut 21 = .ok (.aload_n 0, 1) := by decide +kernel
theorem dX7_comesOut_22 : decode cX7_comesOut 22 = .ok (.getfield 25, 3) := by decide +kernel
theorem dX7_comesOut_25 : decode cX7_comesOut 25 = .ok (.invokevirtual 35, 3) := by decide +kernel
theorem dX7_comesOut_28 : decode cX7_comesOut 28 = .ok (.iand, 1) := by decide +kernel
theorem dX7_comesOut_29 : decode cX7_comesOut 29 = .ok (.istore 4, 2) := by decide +kernel
theorem dX7_comesOut_31 : decode cX7_comesOut 31 = .ok (.aload_n 0, 1) := by decide +kernel
theorem dX7_comesOut_32 : decode cX7_comesOut 32 = .ok (.getfield 18, 3) := by decide +kernel
theorem dX7_comesOut_35 : decode cX7_comesOut 35 = .ok (.iload_n 1, 1) := by decide +kernel
theorem dX7_comesOut_36 : decode cX7_comesOut 36 = .ok (.iaload, 1) := by decide +kernel
theorem dX7_comesOut_37 : decode cX7_comesOut 37 = .ok (.istore 5, 2) := by decide +kernel
theorem dX7_comesOut_39 : decode cX7_comesOut 39 = .ok (.iconst 0, 1) := by decide +kernel
theorem dX7_comesOut_40 : decode cX7_comesOut 40 = .ok (.istore 6, 2) := by decide +kernel
theorem dX7_comesOut_42 : decode cX7_comesOut 42 = .ok (.iload 6, 2) := by decide +kernel
theorem dX7_comesOut_44 : decode cX7_comesOut 44 = .ok (.bipush 12, 2) := by decide +kernel
theorem dX7_comesOut_46 : decode cX7_comesOut 46 = .ok (.if_icmp .ge 33, 3) := by decide +kernel
theorem dX7_comesOut_49 : decode cX7_comesOut 49 = .ok (.iload 5, 2) := by decide +kernel
theorem dX7_comesOut_51 : decode cX7_comesOut 51 = .ok (.iload_n 3, 1) := by decide +kernel
theorem dX7_comesOut_52 : decode cX7_comesOut 52 = .ok (.iload 6, 2) := by decide +kernel
theorem dX7_comesOut_54 : decode cX7_comesOut 54 = .ok (.ishr, 1) := by decide +kernel
theorem dX7_comesOut_55 : decode cX7_comesOut 55 = .ok (.iconst 1, 1) := by decide +kernel
theorem dX7_comesOut_56 : decode cX7_comesOut 56 = .ok (.iand, 1) := by decide +kernel
theorem dX7_comesOut_57 : decode cX7_comesOut 57 = .ok (.iload 4, 2) := by decide +kernel
theorem dX7_comesOut_59 : decode cX7_comesOut 59 = .ok (.iload 6, 2) := by decide +kernel
theorem dX7_comesOut_61 : decode cX7_comesOut 61 = .ok (.ishr, 1) := by decide +kernel
theorem dX7_comesOut_62 : decode cX7_comesOut 62 = .ok (.iconst 1, 1) := by decide +kernel
theorem dX7_comesOut_63 : decode cX7_comesOut 63 = .ok (.iand, 1) := by decide +kernel
theorem dX7_comesOut_64 : decode cX7_comesOut 64 = .ok (.isub, 1) := by decide +kernel
theorem dX7_comesOut_65 : decode cX7_comesOut 65 = .ok (.aload_n 2, 1) := by decide +kernel
theorem dX7_comesOut_66 : decode cX7_comesOut 66 = .ok (.iload 6, 2) := by decide +kernel
theorem dX7_comesOut_68 : decode cX7_comesOut 68 = .ok (.iaload, 1) := by decide +kernel
theorem dX7_comesOut_69 : decode cX7_comesOut 69 = .ok (.imul, 1) := by decide +kernel
theorem dX7_comesOut_70 : decode cX7_comesOut 70 = .ok (.isub, 1) := by decide +kernel
theorem dX7_comesOut_71 : decode cX7_comesOut 71 = .ok (.istore 5, 2) := by decide +kernel
theorem dX7_comesOut_73 : decode cX7_comesOut 73 = .ok (.iinc 6 1, 3) := by decide +kernel
theorem dX7_comesOut_76 : decode cX7_comesOut 76 = .ok (.goto (-34), 3) := by decide +kernel
theorem dX7_comesOut_79 : decode cX7_comesOut 79 = .ok (.iload 5, 2) := by decide +kernel
theorem dX7_comesOut_81 : decode cX7_comesOut 81 = .ok (.ifCond .ne 7, 3) := by decide +kernel
theorem dX7_comesOut_84 : decode cX7_comesOut 84 = .ok (.iconst 1, 1) := by decide +kernel
theorem dX7_comesOut_85 : decode cX7_comesOut 85 = .ok (.goto 4, 3) := by decide +kernel
theorem dX7_comesOut_88 : decode cX7_comesOut 88 = .ok (.iconst 0, 1) := by decide +kernel
theorem dX7_comesOut_89 : decode cX7_comesOut 89 = .ok (.ireturn, 1) := by decide +kernel
theorem dX7_lastNamed_0 : decode cX7_lastNamed 0 = .ok (.bipush 11, 2) := by decide +kernel
theorem dX7_lastNamed_2 : decode cX7_lastNamed 2 = .ok (.istore_n 2, 1) := by decide +kernel
theorem dX7_lastNamed_3 : decode cX7_lastNamed 3 = .ok (.iload_n 2, 1) := by decide +kernel
theorem dX7_lastNamed_4 : decode cX7_lastNamed 4 = .ok (.ifCond .lt 20, 3) := by decide +kernel
theorem dX7_lastNamed_7 : decode cX7_lastNamed 7 = .ok (.aload_n 0, 1) := by decide +kernel
theorem dX7_lastNamed_8 : decode cX7_lastNamed 8 = .ok (.iload_n 1, 1) := by decide +kernel
theorem dX7_lastNamed_9 : decode cX7_lastNamed 9 = .ok (.iload_n 2, 1) := by decide +kernel
theorem dX7_lastNamed_10 : decode cX7_lastNamed 10 = .ok (.invokevirtual 39, 3) := by decide +kernel
theorem dX7_lastNamed_13 : decode cX7_lastNamed 13 = .ok (.ifCond .eq 5, 3) := by decide +kernel
theorem dX7_lastNamed_16 : decode cX7_lastNamed 16 = .ok (.iload_n 2, 1) := by decide +kernel
theorem dX7_lastNamed_17 : decode cX7_lastNamed 17 = .ok (.ireturn, 1) := by decide +kernel
theorem dX7_lastNamed_18 : decode cX7_lastNamed 18 = .ok (.iinc 2 (-1), 3) := by decide +kernel
theorem dX7_lastNamed_21 : decode cX7_lastNamed 21 = .ok (.goto (-18), 3) := by decide +kernel
theorem dX7_lastNamed_24 : decode cX7_lastNamed 24 = .ok (.iconst (-1), 1) := by decide +kernel
theorem dX7_lastNamed_25 : decode cX7_lastNamed 25 = .ok (.ireturn, 1) := by decide +kernel
theorem dX7_mixInto_0 : decode cX7_mixInto 0 = .ok (.iconst 0, 1) := by decide +kernel
theorem dX7_mixInto_1 : decode cX7_mixInto 1 = .ok (.istore_n 3, 1) := by decide +kernel
theorem dX7_mixInto_2 : decode cX7_mixInto 2 = .ok (.iload_n 3, 1) := by decide +kernel
theorem dX7_mixInto_3 : decode cX7_mixInto 3 = .ok (.aload_n 0, 1) := by decide +kernel
theorem dX7_mixInto_4 : decode cX7_mixInto 4 = .ok (.getfield 21, 3) := by decide +kernel
theorem dX7_mixInto_7 : decode cX7_mixInto 7 = .ok (.if_icmp .ge 51, 3) := by decide +kernel
theorem dX7_mixInto_10 : decode cX7_mixInto 10 = .ok (.ldc2_w 43, 3) := by decide +kernel
theorem dX7_mixInto_13 : decode cX7_mixInto 13 = .ok (.lload_n 1, 1) := by decide +kernel
theorem dX7_mixInto_14 : decode cX7_mixInto 14 = .ok (.lmul, 1) := by decide +kernel
theorem dX7_mixInto_15 : decode cX7_mixInto 15 = .ok (.aload_n 0, 1) := by decide +kernel
theorem dX7_mixInto_16 : decode cX7_mixInto 16 = .ok (.getfield 9, 3) := by decide +kernel
theorem dX7_mixInto_19 : decode cX7_mixInto 19 = .ok (.iload_n 3, 1) := by decide +kernel
theorem dX7_mixInto_20 : decode cX7_mixInto 20 = .ok (.iaload, 1) := by decide +kernel
theorem dX7_mixInto_21 : decode cX7_mixInto 21 = .ok (.i2l, 1) := by decide +kernel
theorem dX7_mixInto_22 : decode cX7_mixInto 22 = .ok (.ladd, 1) := by decide +kernel
theorem dX7_mixInto_23 : decode cX7_mixInto 23 = .ok (.lstore_n 1, 1) := by decide +kernel
theorem dX7_mixInto_24 : decode cX7_mixInto 24 = .ok (.ldc2_w 43, 3) := by decide +kernel
theorem dX7_mixInto_27 : decode cX7_mixInto 27 = .ok (.lload_n 1, 1) := by decide +kernel
theorem dX7_mixInto_28 : decode cX7_mixInto 28 = .ok (.lmul, 1) := by decide +kernel
theorem dX7_mixInto_29 : decode cX7_mixInto 29 = .ok (.aload_n 0, 1) := by decide +kernel
theorem dX7_mixInto_30 : decode cX7_mixInto 30 = .ok (.getfield 15, 3) := by decide +kernel
theorem dX7_mixInto_33 : decode cX7_mixInto 33 = .ok (.iload_n 3, 1) := by decide +kernel
theorem dX7_mixInto_34 : decode cX7_mixInto 34 = .ok (.iaload, 1) := by decide +kernel
theorem dX7_mixInto_35 : decode cX7_mixInto 35 = .ok (.i2l, 1) := by decide +kernel
theorem dX7_mixInto_36 : decode cX7_mixInto 36 = .ok (.ladd, 1) := by decide +kernel
theorem dX7_mixInto_37 : decode cX7_mixInto 37 = .ok (.lstore_n 1, 1) := by decide +kernel
theorem dX7_mixInto_38 : decode cX7_mixInto 38 = .ok (.ldc2_w 43, 3) := by decide +kernel
theorem dX7_mixInto_41 : decode cX7_mixInto 41 = .ok (.lload_n 1, 1) := by decide +kernel
theorem dX7_mixInto_42 : decode cX7_mixInto 42 = .ok (.lmul, 1) := by decide +kernel
theorem dX7_mixInto_43 : decode cX7_mixInto 43 = .ok (.aload_n 0, 1) := by decide +kernel
theorem dX7_mixInto_44 : decode cX7_mixInto 44 = .ok (.getfield 18, 3) := by decide +kernel
theorem dX7_mixInto_47 : decode cX7_mixInto 47 = .ok (.iload_n 3, 1) := by decide +kernel
theorem dX7_mixInto_48 : decode cX7_mixInto 48 = .ok (.iaload, 1) := by decide +kernel
theorem dX7_mixInto_49 : decode cX7_mixInto 49 = .ok (.i2l, 1) := by decide +kernel
theorem dX7_mixInto_50 : decode cX7_mixInto 50 = .ok (.ladd, 1) := by decide +kernel
theorem dX7_mixInto_51 : decode cX7_mixInto 51 = .ok (.lstore_n 1, 1) := by decide +kernel
theorem dX7_mixInto_52 : decode cX7_mixInto 52 = .ok (.iinc 3 1, 3) := by decide +kernel
theorem dX7_mixInto_55 : decode cX7_mixInto 55 = .ok (.goto (-53), 3) := by decide +kernel
theorem dX7_mixInto_58 : decode cX7_mixInto 58 = .ok (.lload_n 1, 1) := by decide +kernel
theorem dX7_mixInto_59 : decode cX7_mixInto 59 = .ok (.lreturn, 1) := by decide +kernel
theorem dX8_init_0 : decode cX8_init 0 = .ok (.aload_n 0, 1) := by decide +kernel
theorem dX8_init_1 : decode cX8_init 1 = .ok (.invokespecial 3, 3) := by decide +kernel
theorem dX8_init_4 : decode cX8_init 4 = .ok (.aload_n 0, 1) := by decide +kernel
theorem dX8_init_5 : decode cX8_init 5 = .ok (.bipush 12, 2) := by decide +kernel
theorem dX8_init_7 : decode cX8_init 7 = .ok (.newarray .int, 2) := by decide +kernel
theorem dX8_init_9 : decode cX8_init 9 = .ok (.putfield 9, 3) := by decide +kernel
theorem dX8_init_12 : decode cX8_init 12 = .ok (.aload_n 0, 1) := by decide +kernel
theorem dX8_init_13 : decode cX8_init 13 = .ok (.bipush 12, 2) := by decide +kernel
theorem dX8_init_15 : decode cX8_init 15 = .ok (.newarray .int, 2) := by decide +kernel
theorem dX8_init_17 : decode cX8_init 17 = .ok (.putfield 15, 3) := by decide +kernel
theorem dX8_init_20 : decode cX8_init 20 = .ok (.aload_n 0, 1) := by decide +kernel
theorem dX8_init_21 : decode cX8_init 21 = .ok (.bipush 10, 2) := by decide +kernel
theorem dX8_init_23 : decode cX8_init 23 = .ok (.newarray .int, 2) := by decide +kernel
theorem dX8_init_25 : decode cX8_init 25 = .ok (.putfield 18, 3) := by decide +kernel
theorem dX8_init_28 : decode cX8_init 28 = .ok (.aload_n 0, 1) := by decide +kernel
theorem dX8_init_29 : decode cX8_init 29 = .ok (.sipush 1200, 3) := by decide +kernel
theorem dX8_init_32 : decode cX8_init 32 = .ok (.newarray .int, 2) := by decide +kernel
theorem dX8_init_34 : decode cX8_init 34 = .ok (.putfield 21, 3) := by decide +kernel
theorem dX8_init_37 : decode cX8_init 37 = .ok (.aload_n 0, 1) := by decide +kernel
theorem dX8_init_38 : decode cX8_init 38 = .ok (.bipush 12, 2) := by decide +kernel
theorem dX8_init_40 : decode cX8_init 40 = .ok (.newarray .int, 2) := by decide +kernel
theorem dX8_init_42 : decode cX8_init 42 = .ok (.putfield 24, 3) := by decide +kernel
theorem dX8_init_45 : decode cX8_init 45 = .ok (.aload_n 0, 1) := by decide +kernel
theorem dX8_init_46 : decode cX8_init 46 = .ok (.bipush 12, 2) := by decide +kernel
theorem dX8_init_48 : decode cX8_init 48 = .ok (.newarray .int, 2) := by decide +kernel
theorem dX8_init_50 : decode cX8_init 50 = .ok (.putfield 27, 3) := by decide +kernel
theorem dX8_init_53 : decode cX8_init 53 = .ok (.aload_n 0, 1) := by decide +kernel
theorem dX8_init_54 : decode cX8_init 54 = .ok (.iconst (-1), 1) := by decide +kernel
theorem dX8_init_55 : decode cX8_init 55 = .ok (.putfield 30, 3) := by decide +kernel
theorem dX8_init_58 : decode cX8_init 58 = .ok (.aload_n 0, 1) := by decide +kernel
theorem dX8_init_59 : decode cX8_init 59 = .ok (.iconst 0, 1) := by decide +kernel
theorem dX8_init_60 : decode cX8_init 60 = .ok (.putfield 34, 3) := by decide +kernel
theorem dX8_init_63 : decode cX8_init 63 = .ok (.aload_n 0, 1) := by decide +kernel
theorem dX8_init_64 : decode cX8_init 64 = .ok (.iconst 0, 1) := by decide +kernel
theorem dX8_init_65 : decode cX8_init 65 = .ok (.putfield 37, 3) := by decide +kernel
theorem dX8_init_68 : decode cX8_init 68 = .ok (.aload_n 0, 1) := by decide +kernel
theorem dX8_init_69 : decode cX8_init 69 = .ok (.iconst 0, 1) := by decide +kernel
theorem dX8_init_70 : decode cX8_init 70 = .ok (.putfield 40, 3) := by decide +kernel
theorem dX8_init_73 : decode cX8_init 73 = .ok (.aload_n 0, 1) := by decide +kernel
theorem dX8_init_74 : decode cX8_init 74 = .ok (.iconst 0, 1) := by decide +kernel
theorem dX8_init_75 : decode cX8_init 75 = .ok (.putfield 43, 3) := by decide +kernel
theorem dX8_init_78 : decode cX8_init 78 = .ok (.aload_n 0, 1) := by decide +kernel
theorem dX8_init_79 : decode cX8_init 79 = .ok (.iconst 0, 1) := by decide +kernel
theorem dX8_init_80 : decode cX8_init 80 = .ok (.putfield 46, 3) := by decide +kernel
theorem dX8_init_83 : decode cX8_init 83 = .ok (.aload_n 0, 1) := by decide +kernel
theorem dX8_init_84 : decode cX8_init 84 = .ok (.iconst 0, 1) := by decide +kernel
theorem dX8_init_85 : decode cX8_init 85 = .ok (.putfield 50, 3) := by decide +kernel
theorem dX8_init_88 : decode cX8_init 88 = .ok (.aload_n 0, 1) := by decide +kernel
theorem dX8_init_89 : decode cX8_init 89 = .ok (.aload_n 1, 1) := by decide +kernel
theorem dX8_init_90 : decode cX8_init 90 = .ok (.putfield 53, 3) := by decide +kernel
theorem dX8_init_93 : decode cX8_init 93 = .ok (.aload_n 0, 1) := by decide +kernel
theorem dX8_init_94 : decode cX8_init 94 = .ok (.aload_n 2, 1) := by decide +kernel
theorem dX8_init_95 : decode cX8_init 95 = .ok (.putfield 57, 3) := by decide +kernel
theorem dX8_init_98 : decode cX8_init 98 = .ok (.aload_n 0, 1) := by decide +kernel
theorem dX8_init_99 : decode cX8_init 99 = .ok (.aload_n 3, 1) := by decide +kernel
theorem dX8_init_100 : decode cX8_init 100 = .ok (.putfield 61, 3) := by decide +kernel
theorem dX8_init_103 : decode cX8_init 103 = .ok (.return_, 1) := by decide +kernel
theorem dX8_weighBy_0 : decode cX8_weighBy 0 = .ok (.iconst 0, 1) := by decide +kernel
theorem dX8_weighBy_1 : decode cX8_weighBy 1 = .ok (.istore_n 3, 1) := by decide +kernel
theorem dX8_weighBy_2 : decode cX8_weighBy 2 = .ok (.iload_n 3, 1) := by decide +kernel
theorem dX8_weighBy_3 : decode cX8_weighBy 3 = .ok (.bipush 10, 2) := by decide +kernel
theorem dX8_weighBy_5 : decode cX8_weighBy 5 = .ok (.if_icmp .ge 21, 3) := by decide +kernel
theorem dX8_weighBy_8 : decode cX8_weighBy 8 = .ok (.aload_n 0, 1) := by decide +kernel
theorem dX8_weighBy_9 : decode cX8_weighBy 9 = .ok (.getfield 18, 3) := by decide +kernel
theorem dX8_weighBy_12 : decode cX8_weighBy 12 = .ok (.iload_n 3, 1) := by decide +kernel
theorem dX8_weighBy_13 : decode cX8_weighBy 13 = .ok (.aload_n 1, 1) := by decide +kernel
theorem dX8_weighBy_14 : decode cX8_weighBy 14 = .ok (.iload_n 2, 1) := by decide +kernel
theorem dX8_weighBy_15 : decode cX8_weighBy 15 = .ok (.iload_n 3, 1) := by decide +kernel
theorem dX8_weighBy_16 : decode cX8_weighBy 16 = .ok (.invokevirtual 65, 3) := by decide +kernel
theorem dX8_weighBy_19 : decode cX8_weighBy 19 = .ok (.iastore, 1) := by decide +kernel
theorem dX8_weighBy_20 : decode cX8_weighBy 20 = .ok (.iinc 3 1, 3) := by decide +kernel
theorem dX8_weighBy_23 : decode cX8_weighBy 23 = .ok (.goto (-21), 3) := by decide +kernel
theorem dX8_weighBy_26 : decode cX8_weighBy 26 = .ok (.return_, 1) := by decide +kernel
theorem dX8_forgetTally_0 : decode cX8_forgetTally 0 = .ok (.iconst 0, 1) := by decide +kernel
theorem dX8_forgetTally_1 : decode cX8_forgetTally 1 = .ok (.istore_n 1, 1) := by decide +kernel
theorem dX8_forgetTally_2 : decode cX8_forgetTally 2 = .ok (.iload_n 1, 1) := by decide +kernel
theorem dX8_forgetTally_3 : decode cX8_forgetTally 3 = .ok (.aload_n 0, 1) := by decide +kernel
theorem dX8_forgetTally_4 : decode cX8_forgetTally 4 = .ok (.getfield 21, 3) := by decide +kernel
theorem dX8_forgetTally_7 : decode cX8_forgetTally 7 = .ok (.arraylength, 1) := by decide +kernel
theorem dX8_forgetTally_8 : decode cX8_forgetTally 8 = .ok (.if_icmp .ge 16, 3) := by decide +kernel
theorem dX8_forgetTally_11 : decode cX8_forgetTally 11 = .ok (.aload_n 0, 1) := by decide +kernel
theorem dX8_forgetTally_12 : decode cX8_forgetTally 12 = .ok (.getfield 21, 3) := by decide +kernel
theorem dX8_forgetTally_15 : decode cX8_forgetTally 15 = .ok (.iload_n 1, 1) := by decide +kernel
theorem dX8_forgetTally_16 : decode cX8_forgetTally 16 = .ok (.iconst 0, 1) := by decide +kernel
theorem dX8_forgetTally_17 : decode cX8_forgetTally 17 = .ok (.iastore, 1) := by decide +kernel
theorem dX8_forgetTally_18 : decode cX8_forgetTally 18 = .ok (.iinc 1 1, 3) := by decide +kernel
theorem dX8_forgetTally_21 : decode cX8_forgetTally 21 = .ok (.goto (-19), 3) := by decide +kernel
theorem dX8_forgetTally_24 : decode cX8_forgetTally 24 = .ok (.return_, 1) := by decide +kernel
theorem dX8_goTo_0 : decode cX8_goTo 0 = .ok (.aload_n 0, 1) := by decide +kernel
theorem dX8_goTo_1 : decode cX8_goTo 1 = .ok (.iload_n 1, 1) := by decide +kernel
theorem dX8_goTo_2 : decode cX8_goTo 2 = .ok (.putfield 30, 3) := by decide +kernel
theorem dX8_goTo_5 : decode cX8_goTo 5 = .ok (.aload_n 0, 1) := by decide +kernel
theorem dX8_goTo_6 : decode cX8_goTo 6 = .ok (.iload_n 2, 1) := by decide +kernel
theorem dX8_goTo_7 : decode cX8_goTo 7 = .ok (.putfield 34, 3) := by decide +kernel
theorem dX8_goTo_10 : decode cX8_goTo 10 = .ok (.aload_n 0, 1) := by decide +kernel
theorem dX8_goTo_11 : decode cX8_goTo 11 = .ok (.iconst 0, 1) := by decide +kernel
theorem dX8_goTo_12 : decode cX8_goTo 12 = .ok (.putfield 37, 3) := by decide +kernel
theorem dX8_goTo_15 : decode cX8_goTo 15 = .ok (.aload_n 0, 1) := by decide +kernel
theorem dX8_goTo_16 : decode cX8_goTo 16 = .ok (.iconst 0, 1) := by decide +kernel
theorem dX8_goTo_17 : decode cX8_goTo 17 = .ok (.putfield 40, 3) := by decide +kernel
theorem dX8_goTo_20 : decode cX8_goTo 20 = .ok (.aload_n 0, 1) := by decide +kernel
theorem dX8_goTo_21 : decode cX8_goTo 21 = .ok (.iconst (-1), 1) := by decide +kernel
theorem dX8_goTo_22 : decode cX8_goTo 22 = .ok (.putfield 43, 3) := by decide +kernel
theorem dX8_goTo_25 : decode cX8_goTo 25 = .ok (.aload_n 0, 1) := by decide +kernel
theorem dX8_goTo_26 : decode cX8_goTo 26 = .ok (.iconst 0, 1) := by decide +kernel
theorem dX8_goTo_27 : decode cX8_goTo 27 = .ok (.putfield 46, 3) := by decide +kernel
theorem dX8_goTo_30 : decode cX8_goTo 30 = .ok (.aload_n 0, 1) := by decide +kernel
theorem dX8_goTo_31 : decode cX8_goTo 31 = .ok (.iconst 0, 1) := by decide +kernel
theorem dX8_goTo_32 : decode cX8_goTo 32 = .ok (.putfield 50, 3) := by decide +kernel
theorem dX8_goTo_35 : decode cX8_goTo 35 = .ok (.aload_n 0, 1) := by decide +kernel
theorem dX8_goTo_36 : decode cX8_goTo 36 = .ok (.iload_n 3, 1) := by decide +kernel
theorem dX8_goTo_37 : decode cX8_goTo 37 = .ok (.invokevirtual 71, 3) := by decide +kernel
theorem dX8_goTo_40 : decode cX8_goTo 40 = .ok (.ifCond .eq 8, 3) := by decide +kernel
theorem dX8_goTo_43 : decode cX8_goTo 43 = .ok (.aload_n 0, 1) := by decide +kernel
theorem dX8_goTo_44 : decode cX8_goTo 44 = .ok (.iconst 0, 1) := by decide +kernel
theorem dX8_goTo_45 : decode cX8_goTo 45 = .ok (.invokevirtual 75, 3) := by decide +kernel
theorem dX8_goTo_48 : decode cX8_goTo 48 = .ok (.return_, 1) := by decide +kernel
theorem dX8_setChecks_0 : decode cX8_setChecks 0 = .ok (.iconst 0, 1) := by decide +kernel
theorem dX8_setChecks_1 : decode cX8_setChecks 1 = .ok (.istore_n 2, 1) := by decide +kernel
theorem dX8_setChecks_2 : decode cX8_setChecks 2 = .ok (.iload_n 2, 1) := by decide +kernel
theorem dX8_setChecks_3 : decode cX8_setChecks 3 = .ok (.bipush 12, 2) := by decide +kernel
theorem dX8_setChecks_5 : decode cX8_setChecks 5 = .ok (.if_icmp .ge 23, 3) := by decide +kernel
theorem dX8_setChecks_8 : decode cX8_setChecks 8 = .ok (.aload_n 0, 1) := by decide +kernel
theorem dX8_setChecks_9 : decode cX8_setChecks 9 = .ok (.getfield 24, 3) := by decide +kernel
theorem dX8_setChecks_12 : decode cX8_setChecks 12 = .ok (.iload_n 2, 1) := by decide +kernel
theorem dX8_setChecks_13 : decode cX8_setChecks 13 = .ok (.iconst 0, 1) := by decide +kernel
theorem dX8_setChecks_14 : decode cX8_setChecks 14 = .ok (.iastore, 1) := by decide +kernel
theorem dX8_setChecks_15 : decode cX8_setChecks 15 = .ok (.aload_n 0, 1) := by decide +kernel
theorem dX8_setChecks_16 : decode cX8_setChecks 16 = .ok (.getfield 27, 3) := by decide +kernel
theorem dX8_setChecks_19 : decode cX8_setChecks 19 = .ok (.iload_n 2, 1) := by decide +kernel
theorem dX8_setChecks_20 : decode cX8_setChecks 20 = .ok (.iconst 0, 1) := by decide +kernel
theorem dX8_setChecks_21 : decode cX8_setChecks 21 = .ok (.iastore, 1) := by decide +kernel
theorem dX8_setChecks_22 : decode cX8_setChecks 22 = .ok (.iinc 2 1, 3) := by decide +kernel
theorem dX8_setChecks_25 : decode cX8_setChecks 25 = .ok (.goto (-23), 3) := by decide +kernel
theorem dX8_setChecks_28 : decode cX8_setChecks 28 = .ok (.iconst 0, 1) := by decide +kernel
theorem dX8_setChecks_29 : decode cX8_setChecks 29 = .ok (.istore_n 2, 1) := by decide +kernel
theorem dX8_setChecks_30 : decode cX8_setChecks 30 = .ok (.iload_n 2, 1) := by decide +kernel
theorem dX8_setChecks_31 : decode cX8_setChecks 31 = .ok (.bipush 12, 2) := by decide +kernel
theorem dX8_setChecks_33 : decode cX8_setChecks 33 = .ok (.if_icmp .ge 39, 3) := by decide +kernel
theorem dX8_setChecks_36 : decode cX8_setChecks 36 = .ok (.aload_n 0, 1) := by decide +kernel
theorem dX8_setChecks_37 : decode cX8_setChecks 37 = .ok (.getfield 53, 3) := by decide +kernel
theorem dX8_setChecks_40 : decode cX8_setChecks 40 = .ok (.iload_n 2, 1) := by decide +kernel
theorem dX8_setChecks_41 : decode cX8_setChecks 41 = .ok (.invokevirtual 79, 3) := by decide +kernel
theorem dX8_setChecks_44 : decode cX8_setChecks 44 = .ok (.ifCond .eq 22, 3) := by decide +kernel
theorem dX8_setChecks_47 : decode cX8_setChecks 47 = .ok (.aload_n 0, 1) := by decide +kernel
theorem dX8_setChecks_48 : decode cX8_setChecks 48 = .ok (.getfield 24, 3) := by decide +kernel
theorem dX8_setChecks_51 : decode cX8_setChecks 51 = .ok (.aload_n 0, 1) := by decide +kernel
theorem dX8_setChecks_52 : decode cX8_setChecks 52 = .ok (.getfield 53, 3) := by decide +kernel
theorem dX8_setChecks_55 : decode cX8_setChecks 55 = .ok (.iload_n 2, 1) := by decide +kernel
theorem dX8_setChecks_56 : decode cX8_setChecks 56 = .ok (.invokevirtual 84, 3) := by decide +kernel
theorem dX8_setChecks_59 : decode cX8_setChecks 59 = .ok (.dup2, 1) := by decide +kernel
theorem dX8_setChecks_60 : decode cX8_setChecks 60 = .ok (.iaload, 1) := by decide +kernel
theorem dX8_setChecks_61 : decode cX8_setChecks 61 = .ok (.iconst 1, 1) := by decide +kernel
theorem dX8_setChecks_62 : decode cX8_setChecks 62 = .ok (.iload_n 2, 1) := by decide +kernel
theorem dX8_setChecks_63 : decode cX8_setChecks 63 = .ok (.ishl, 1) := by decide +kernel
theorem dX8_setChecks_64 : decode cX8_setChecks 64 = .ok (.ior, 1) := by decide +kernel
theorem dX8_setChecks_65 : decode cX8_setChecks 65 = .ok (.iastore, 1) := by decide +kernel
theorem dX8_setChecks_66 : decode cX8_setChecks 66 = .ok (.iinc 2 1, 3) := by decide +kernel
theorem dX8_setChecks_69 : decode cX8_setChecks 69 = .ok (.goto (-39), 3) := by decide +kernel
theorem dX8_setChecks_72 : decode cX8_setChecks 72 = .ok (.iconst 0, 1) := by decide +kernel
theorem dX8_setChecks_73 : decode cX8_setChecks 73 = .ok (.istore_n 2, 1) := by decide +kernel
theorem dX8_setChecks_74 : decode cX8_setChecks 74 = .ok (.iload_n 2, 1) := by decide +kernel
theorem dX8_setChecks_75 : decode cX8_setChecks 75 = .ok (.aload_n 0, 1) := by decide +kernel
theorem dX8_setChecks_76 : decode cX8_setChecks 76 = .ok (.getfield 57, 3) := by decide +kernel
theorem dX8_setChecks_79 : decode cX8_setChecks 79 = .ok (.invokevirtual 88, 3) := by decide +kernel
theorem dX8_setChecks_82 : decode cX8_setChecks 82 = .ok (.if_icmp .ge 61, 3) := by decide +kernel
theorem dX8_setChecks_85 : decode cX8_setChecks 85 = .ok (.aload_n 0, 1) := by decide +kernel
theorem dX8_setChecks_86 : decode cX8_setChecks 86 = .ok (.getfield 57, 3) := by decide +kernel
theorem dX8_setChecks_89 : decode cX8_setChecks 89 = .ok (.iload_n 2, 1) := by decide +kernel
theorem dX8_setChecks_90 : decode cX8_setChecks 90 = .ok (.invokevirtual 94, 3) := by decide +kernel
theorem dX8_setChecks_93 : decode cX8_setChecks 93 = .ok (.istore_n 3, 1) := by decide +kernel
theorem dX8_setChecks_94 : decode cX8_setChecks 94 = .ok (.iload_n 1, 1) := by decide +kernel
theorem dX8_setChecks_95 : decode cX8_setChecks 95 = .ok (.iload_n 2, 1) := by decide +kernel
theorem dX8_setChecks_96 : decode cX8_setChecks 96 = .ok (.ishr, 1) := by decide +kernel
theorem dX8_setChecks_97 : decode cX8_setChecks 97 = .ok (.iconst 1, 1) := by decide +kernel
theorem dX8_setChecks_98 : decode cX8_setChecks 98 = .ok (.iand, 1) := by decide +kernel
theorem dX8_setChecks_99 : decode cX8_setChecks 99 = .ok (.ifCond .eq 6, 3) := by decide +kernel
theorem dX8_setChecks_102 : decode cX8_setChecks 102 = .ok (.goto 35, 3) := by decide +kernel
theorem dX8_setChecks_105 : decode cX8_setChecks 105 = .ok (.iload_n 3, 1) := by decide +kernel
theorem dX8_setChecks_106 : decode cX8_setChecks 106 = .ok (.ifCond .lt 18, 3) := by decide +kernel
theorem dX8_setChecks_109 : decode cX8_setChecks 109 = .ok (.aload_n 0, 1) := by decide +kernel
theorem dX8_setChecks_110 : decode cX8_setChecks 110 = .ok (.getfield 27, 3) := by decide +kernel
theorem dX8_setChecks_113 : decode cX8_setChecks 113 = .ok (.iload_n 3, 1) := by decide +kernel
theorem dX8_setChecks_114 : decode cX8_setChecks 114 = .ok (.dup2, 1) := by decide +kernel
theorem dX8_setChecks_115 : decode cX8_setChecks 115 = .ok (.iaload, 1) := by decide +kernel
theorem dX8_setChecks_116 : decode cX8_setChecks 116 = .ok (.iconst 1, 1) := by decide +kernel
theorem dX8_setChecks_117 : decode cX8_setChecks 117 = .ok (.iload_n 2, 1) := by decide +kernel
theorem dX8_setChecks_118 : decode cX8_setChecks 118 = .ok (.ishl, 1) := by decide +kernel
theorem dX8_setChecks_119 : decode cX8_setChecks 119 = .ok (.ior, 1) := by decide +kernel
theorem dX8_setChecks_120 : decode cX8_setChecks 120 = .ok (.iastore, 1) := by decide +kernel
theorem dX8_setChecks_121 : decode cX8_setChecks 121 = .ok (.goto 16, 3) := by decide +kernel
theorem dX8_setChecks_124 : decode cX8_setChecks 124 = .ok (.aload_n 0, 1) := by decide +kernel
theorem dX8_setChecks_125 : decode cX8_setChecks 125 = .ok (.getfield 57, 3) := by decide +kernel
theorem dX8_setChecks_128 : decode cX8_setChecks 128 = .ok (.iload_n 2, 1) := by decide +kernel
theorem dX8_setChecks_129 : decode cX8_setChecks 129 = .ok (.invokevirtual 95, 3) := by decide +kernel
theorem dX8_setChecks_132 : decode cX8_setChecks 132 = .ok (.ifCond .eq 5, 3) := by decide +kernel
theorem dX8_setChecks_135 : decode cX8_setChecks 135 = .ok (.iconst 0, 1) := by decide +kernel
theorem dX8_setChecks_136 : decode cX8_setChecks 136 = .ok (.ireturn, 1) := by decide +kernel
theorem dX8_setChecks_137 : decode cX8_setChecks 137 = .ok (.iinc 2 1, 3) := by decide +kernel
theorem dX8_setChecks_140 : decode cX8_setChecks 140 = .ok (.goto (-66), 3) := by decide +kernel
theorem dX8_setChecks_143 : decode cX8_setChecks 143 = .ok (.iconst 1, 1) := by decide +kernel
theorem dX8_setChecks_144 : decode cX8_setChecks 144 = .ok (.ireturn, 1) := by decide +kernel
theorem dX8_isEnded_0 : decode cX8_isEnded 0 = .ok (.aload_n 0, 1) := by decide +kernel
theorem dX8_isEnded_1 : decode cX8_isEnded 1 = .ok (.getfield 46, 3) := by decide +kernel
theorem dX8_isEnded_4 : decode cX8_isEnded 4 = .ok (.ifCond .ne 10, 3) := by decide +kernel
theorem dX8_isEnded_7 : decode cX8_isEnded 7 = .ok (.aload_n 0, 1) := by decide +kernel
theorem dX8_isEnded_8 : decode cX8_isEnded 8 = .ok (.getfield 50, 3) := by decide +kernel
theorem dX8_isEnded_11 : decode cX8_isEnded 11 = .ok (.ifCond .eq 7, 3) := by decide +kernel
theorem dX8_isEnded_14 : decode cX8_isEnded 14 = .ok (.iconst 1, 1) := by decide +kernel
theorem dX8_isEnded_15 : decode cX8_isEnded 15 = .ok (.goto 4, 3) := by decide +kernel
theorem dX8_isEnded_18 : decode cX8_isEnded 18 = .ok (.iconst 0, 1) := by decide +kernel
theorem dX8_isEnded_19 : decode cX8_isEnded 19 = .ok (.ireturn, 1) := by decide +kernel
theorem dX8_tell_0 : decode cX8_tell 0 = .ok (.iload_n 1, 1) := by decide +kernel
theorem dX8_tell_1 : decode cX8_tell 1 = .ok (.bipush 12, 2) := by decide +kernel
theorem dX8_tell_3 : decode cX8_tell 3 = .ok (.if_icmp .lt 8, 3) := by decide +kernel
theorem dX8_tell_6 : decode cX8_tell 6 = .ok (.aload_n 0, 1) := by decide +kernel
theorem dX8_tell_7 : decode cX8_tell 7 = .ok (.invokevirtual 98, 3) := by decide +kernel
theorem dX8_tell_10 : decode cX8_tell 10 = .ok (.return_, 1) := by decide +kernel
theorem dX8_tell_11 : decode cX8_tell 11 = .ok (.aload_n 0, 1) := by decide +kernel
theorem dX8_tell_12 : decode cX8_tell 12 = .ok (.getfield 53, 3) := by decide +kernel
theorem dX8_tell_15 : decode cX8_tell 15 = .ok (.iload_n 1, 1) := by decide +kernel
theorem dX8_tell_16 : decode cX8_tell 16 = .ok (.invokevirtual 101, 3) := by decide +kernel
theorem dX8_tell_19 : decode cX8_tell 19 = .ok (.ifCond .ne 11, 3) := by decide +kernel
theorem dX8_tell_22 : decode cX8_tell 22 = .ok (.aload_n 0, 1) := by decide +kernel
theorem dX8_tell_23 : decode cX8_tell 23 = .ok (.iload_n 1, 1) := by decide +kernel
theorem dX8_tell_24 : decode cX8_tell 24 = .ok (.iconst 1, 1) := by decide +kernel
theorem dX8_tell_25 : decode cX8_tell 25 = .ok (.iadd, 1) := by decide +kernel
theorem dX8_tell_26 : decode cX8_tell 26 = .ok (.invokevirtual 75, 3) := by decide +kernel
theorem dX8_tell_29 : decode cX8_tell 29 = .ok (.return_, 1) := by decide +kernel
theorem dX8_tell_30 : decode cX8_tell 30 = .ok (.aload_n 0, 1) := by decide +kernel
theorem dX8_tell_31 : decode cX8_tell 31 = .ok (.getfield 61, 3) := by decide +kernel
theorem dX8_tell_34 : decode cX8_tell 34 = .ok (.iload_n 1, 1) := by decide +kernel
theorem dX8_tell_35 : decode cX8_tell 35 = .ok (.invokevirtual 104, 3) := by decide +kernel
theorem dX8_tell_38 : decode cX8_tell 38 = .ok (.istore_n 2, 1) := by decide +kernel
theorem dX8_tell_39 : decode cX8_tell 39 = .ok (.iload_n 2, 1) := by decide +kernel
theorem dX8_tell_40 : decode cX8_tell 40 = .ok (.aload_n 0, 1) := by decide +kernel
theorem dX8_tell_41 : decode cX8_tell 41 = .ok (.getfield 61, 3) := by decide +kernel
theorem dX8_tell_44 : decode cX8_tell 44 = .ok (.iload_n 1, 1) := by decide +kernel
theorem dX8_tell_45 : decode cX8_tell 45 = .ok (.invokevirtual 109, 3) := by decide +kernel
theorem dX8_tell_48 : decode cX8_tell 48 = .ok (.if_icmp .gt 44, 3) := by decide +kernel
theorem dX8_tell_51 : decode cX8_tell 51 = .ok (.aload_n 0, 1) := by decide +kernel
theorem dX8_tell_52 : decode cX8_tell 52 = .ok (.invokevirtual 112, 3) := by decide +kernel
theorem dX8_tell_55 : decode cX8_tell 55 = .ok (.ifCond .ne 37, 3) := by decide +kernel
theorem dX8_tell_58 : decode cX8_tell 58 = .ok (.aload_n 0, 1) := by decide +kernel
theorem dX8_tell_59 : decode cX8_tell 59 = .ok (.getfield 61, 3) := by decide +kernel
theorem dX8_tell_62 : decode cX8_tell 62 = .ok (.iload_n 1, 1) := by decide +kernel
theorem dX8_tell_63 : decode cX8_tell 63 = .ok (.iload_n 2, 1) := by decide +kernel
theorem dX8_tell_64 : decode cX8_tell 64 = .ok (.invokevirtual 116, 3) := by decide +kernel
theorem dX8_tell_67 : decode cX8_tell 67 = .ok (.ifCond .eq 19, 3) := by decide +kernel
theorem dX8_tell_70 : decode cX8_tell 70 = .ok (.aload_n 0, 1) := by decide +kernel
theorem dX8_tell_71 : decode cX8_tell 71 = .ok (.iload_n 1, 1) := by decide +kernel
theorem dX8_tell_72 : decode cX8_tell 72 = .ok (.iload_n 2, 1) := by decide +kernel
theorem dX8_tell_73 : decode cX8_tell 73 = .ok (.invokevirtual 120, 3) := by decide +kernel
theorem dX8_tell_76 : decode cX8_tell 76 = .ok (.ifCond .eq 10, 3) := by decide +kernel
theorem dX8_tell_79 : decode cX8_tell 79 = .ok (.aload_n 0, 1) := by decide +kernel
theorem dX8_tell_80 : decode cX8_tell 80 = .ok (.iload_n 1, 1) := by decide +kernel
theorem dX8_tell_81 : decode cX8_tell 81 = .ok (.iconst 1, 1) := by decide +kernel
theorem dX8_tell_82 : decode cX8_tell 82 = .ok (.iadd, 1) := by decide +kernel
theorem dX8_tell_83 : decode cX8_tell 83 = .ok (.invokevirtual 75, 3) := by decide +kernel
theorem dX8_tell_86 : decode cX8_tell 86 = .ok (.iinc 2 1, 3) := by decide +kernel
theorem dX8_tell_89 : decode cX8_tell 89 = .ok (.goto (-50), 3) := by decide +kernel
theorem dX8_tell_92 : decode cX8_tell 92 = .ok (.return_, 1) := by decide +kernel
theorem dX8_tryNumber_0 : decode cX8_tryNumber 0 = .ok (.aload_n 0, 1) := by decide +kernel
theorem dX8_tryNumber_1 : decode cX8_tryNumber 1 = .ok (.getfield 37, 3) := by decide +kernel
theorem dX8_tryNumber_4 : decode cX8_tryNumber 4 = .ok (.aload_n 0, 1) := by decide +kernel
theorem dX8_tryNumber_5 : decode cX8_tryNumber 5 = .ok (.getfield 34, 3) := by decide +kernel
theorem dX8_tryNumber_8 : decode cX8_tryNumber 8 = .ok (.if_icmp .lt 10, 3) := by decide +kernel
theorem dX8_tryNumber_11 : decode cX8_tryNumber 11 = .ok (.aload_n 0, 1) := by decide +kernel
theorem dX8_tryNumber_12 : decode cX8_tryNumber 12 = .ok (.iconst 1, 1) := by decide +kernel
theorem dX8_tryNumber_13 : decode cX8_tryNumber 13 = .ok (.putfield 46, 3) := by decide +kernel
theorem dX8_tryNumber_16 : decode cX8_tryNumber 16 = .ok (.iconst 0, 1) := by decide +kernel
theorem dX8_tryNumber_17 : decode cX8_tryNumber 17 = .ok (.ireturn, 1) := by decide +kernel
theorem dX8_tryNumber_18 : decode cX8_tryNumber 18 = .ok (.aload_n 0, 1) := by decide +kernel
theorem dX8_tryNumber_19 : decode cX8_tryNumber 19 = .ok (.dup, 1) := by decide +kernel
theorem dX8_tryNumber_20 : decode cX8_tryNumber 20 = .ok (.getfield 37, 3) := by decide +kernel
theorem dX8_tryNumber_23 : decode cX8_tryNumber 23 = .ok (.iconst 1, 1) := by decide +kernel
theorem dX8_tryNumber_24 : decode cX8_tryNumber 24 = .ok (.iadd, 1) := by decide +kernel
theorem dX8_tryNumber_25 : decode cX8_tryNumber 25 = .ok (.putfield 37, 3) := by decide +kernel
theorem dX8_tryNumber_28 : decode cX8_tryNumber 28 = .ok (.aload_n 0, 1) := by decide +kernel
theorem dX8_tryNumber_29 : decode cX8_tryNumber 29 = .ok (.getfield 9, 3) := by decide +kernel
theorem dX8_tryNumber_32 : decode cX8_tryNumber 32 = .ok (.iload_n 1, 1) := by decide +kernel
theorem dX8_tryNumber_33 : decode cX8_tryNumber 33 = .ok (.iload_n 2, 1) := by decide +kernel
theorem dX8_tryNumber_34 : decode cX8_tryNumber 34 = .ok (.iastore, 1) := by decide +kernel
theorem dX8_tryNumber_35 : decode cX8_tryNumber 35 = .ok (.aload_n 0, 1) := by decide +kernel
theorem dX8_tryNumber_36 : decode cX8_tryNumber 36 = .ok (.aload_n 0, 1) := by decide +kernel
theorem dX8_tryNumber_37 : decode cX8_tryNumber 37 = .ok (.getfield 24, 3) := by decide +kernel
theorem dX8_tryNumber_40 : decode cX8_tryNumber 40 = .ok (.iload_n 1, 1) := by decide +kernel
theorem dX8_tryNumber_41 : decode cX8_tryNumber 41 = .ok (.iaload, 1) := by decide +kernel
theorem dX8_tryNumber_42 : decode cX8_tryNumber 42 = .ok (.invokevirtual 123, 3) := by decide +kernel
theorem dX8_tryNumber_45 : decode cX8_tryNumber 45 = .ok (.ifCond .eq 20, 3) := by decide +kernel
theorem dX8_tryNumber_48 : decode cX8_tryNumber 48 = .ok (.aload_n 0, 1) := by decide +kernel
theorem dX8_tryNumber_49 : decode cX8_tryNumber 49 = .ok (.aload_n 0, 1) := by decide +kernel
theorem dX8_tryNumber_50 : decode cX8_tryNumber 50 = .ok (.getfield 27, 3) := by decide +kernel
theorem dX8_tryNumber_53 : decode cX8_tryNumber 53 = .ok (.iload_n 1, 1) := by decide +kernel
theorem dX8_tryNumber_54 : decode cX8_tryNumber 54 = .ok (.iaload, 1) := by decide +kernel
theorem dX8_tryNumber_55 : decode cX8_tryNumber 55 = .ok (.invokevirtual 126, 3) := by decide +kernel
theorem dX8_tryNumber_58 : decode cX8_tryNumber 58 = .ok (.ifCond .eq 7, 3) := by decide +kernel
theorem dX8_tryNumber_61 : decode cX8_tryNumber 61 = .ok (.iconst 1, 1) := by decide +kernel
theorem dX8_tryNumber_62 : decode cX8_tryNumber 62 = .ok (.goto 4, 3) := by decide +kernel
theorem dX8_tryNumber_65 : decode cX8_tryNumber 65 = .ok (.iconst 0, 1) := by decide +kernel
theorem dX8_tryNumber_66 : decode cX8_tryNumber 66 = .ok (.ireturn, 1) := by decide +kernel
theorem dX8_rulesHold_0 : decode cX8_rulesHold 0 = .ok (.iconst 0, 1) := by decide +kernel
theorem dX8_rulesHold_1 : decode cX8_rulesHold 1 = .ok (.istore_n 2, 1) := by decide +kernel
theorem dX8_rulesHold_2 : decode cX8_rulesHold 2 = .ok (.iload_n 2, 1) := by decide +kernel
theorem dX8_rulesHold_3 : decode cX8_rulesHold 3 = .ok (.bipush 12, 2) := by decide +kernel
theorem dX8_rulesHold_5 : decode cX8_rulesHold 5 = .ok (.if_icmp .ge 40, 3) := by decide +kernel
theorem dX8_rulesHold_8 : decode cX8_rulesHold 8 = .ok (.iload_n 1, 1) := by decide +kernel
theorem dX8_rulesHold_9 : decode cX8_rulesHold 9 = .ok (.iload_n 2, 1) := by decide +kernel
theorem dX8_rulesHold_10 : decode cX8_rulesHold 10 = .ok (.ishr, 1) := by decide +kernel
theorem dX8_rulesHold_11 : decode cX8_rulesHold 11 = .ok (.ifCond .eq 34, 3) := by decide +kernel
theorem dX8_rulesHold_14 : decode cX8_rulesHold 14 = .ok (.iload_n 1, 1) := by decide +kernel
theorem dX8_rulesHold_15 : decode cX8_rulesHold 15 = .ok (.iload_n 2, 1) := by decide +kernel
theorem dX8_rulesHold_16 : decode cX8_rulesHold 16 = .ok (.ishr, 1) := by decide +kernel
theorem dX8_rulesHold_17 : decode cX8_rulesHold 17 = .ok (.iconst 1, 1) := by decide +kernel
theorem dX8_rulesHold_18 : decode cX8_rulesHold 18 = .ok (.iand, 1) := by decide +kernel
theorem dX8_rulesHold_19 : decode cX8_rulesHold 19 = .ok (.ifCond .eq 20, 3) := by decide +kernel
theorem dX8_rulesHold_22 : decode cX8_rulesHold 22 = .ok (.aload_n 0, 1) := by decide +kernel
theorem dX8_rulesHold_23 : decode cX8_rulesHold 23 = .ok (.getfield 53, 3) := by decide +kernel
theorem dX8_rulesHold_26 : decode cX8_rulesHold 26 = .ok (.iload_n 2, 1) := by decide +kernel
theorem dX8_rulesHold_27 : decode cX8_rulesHold 27 = .ok (.aload_n 0, 1) := by decide +kernel
theorem dX8_rulesHold_28 : decode cX8_rulesHold 28 = .ok (.getfield 9, 3) := by decide +kernel
theorem dX8_rulesHold_31 : decode cX8_rulesHold 31 = .ok (.invokevirtual 129, 3) := by decide +kernel
theorem dX8_rulesHold_34 : decode cX8_rulesHold 34 = .ok (.ifCond .ne 5, 3) := by decide +kernel
theorem dX8_rulesHold_37 : decode cX8_rulesHold 37 = .ok (.iconst 0, 1) := by decide +kernel
theorem dX8_rulesHold_38 : decode cX8_rulesHold 38 = .ok (.ireturn, 1) := by decide +kernel
theorem dX8_rulesHold_39 : decode cX8_rulesHold 39 = .ok (.iinc 2 1, 3) := by decide +kernel
theorem dX8_rulesHold_42 : decode cX8_rulesHold 42 = .ok (.goto (-40), 3) := by decide +kernel
theorem dX8_rulesHold_45 : decode cX8_rulesHold 45 = .ok (.iconst 1, 1) := by decide +kernel
theorem dX8_rulesHold_46 : decode cX8_rulesHold 46 = .ok (.ireturn, 1) := by decide +kernel
theorem dX8_sumsComeOut_0 : decode cX8_sumsComeOut 0 = .ok (.iconst 0, 1) := by decide +kernel
theorem dX8_sumsComeOut_1 : decode cX8_sumsComeOut 1 = .ok (.istore_n 2, 1) := by decide +kernel
theorem dX8_sumsComeOut_2 : decode cX8_sumsComeOut 2 = .ok (.iload_n 2, 1) := by decide +kernel
theorem dX8_sumsComeOut_3 : decode cX8_sumsComeOut 3 = .ok (.bipush 8, 2) := by decide +kernel
theorem dX8_sumsComeOut_5 : decode cX8_sumsComeOut 5 = .ok (.if_icmp .ge 40, 3) := by decide +kernel
theorem dX8_sumsComeOut_8 : decode cX8_sumsComeOut 8 = .ok (.iload_n 1, 1) := by decide +kernel
theorem dX8_sumsComeOut_9 : decode cX8_sumsComeOut 9 = .ok (.iload_n 2, 1) := by decide +kernel
theorem dX8_sumsComeOut_10 : decode cX8_sumsComeOut 10 = .ok (.ishr, 1) := by decide +kernel
theorem dX8_sumsComeOut_11 : decode cX8_sumsComeOut 11 = .ok (.ifCond .eq 34, 3) := by decide +kernel
theorem dX8_sumsComeOut_14 : decode cX8_sumsComeOut 14 = .ok (.iload_n 1, 1) := by decide +kernel
theorem dX8_sumsComeOut_15 : decode cX8_sumsComeOut 15 = .ok (.iload_n 2, 1) := by decide +kernel
theorem dX8_sumsComeOut_16 : decode cX8_sumsComeOut 16 = .ok (.ishr, 1) := by decide +kernel
theorem dX8_sumsComeOut_17 : decode cX8_sumsComeOut 17 = .ok (.iconst 1, 1) := by decide +kernel
theorem dX8_sumsComeOut_18 : decode cX8_sumsComeOut 18 = .ok (.iand, 1) := by decide +kernel
theorem dX8_sumsComeOut_19 : decode cX8_sumsComeOut 19 = .ok (.ifCond .eq 20, 3) := by decide +kernel
theorem dX8_sumsComeOut_22 : decode cX8_sumsComeOut 22 = .ok (.aload_n 0, 1) := by decide +kernel
theorem dX8_sumsComeOut_23 : decode cX8_sumsComeOut 23 = .ok (.getfield 57, 3) := by decide +kernel
theorem dX8_sumsComeOut_26 : decode cX8_sumsComeOut 26 = .ok (.iload_n 2, 1) := by decide +kernel
theorem dX8_sumsComeOut_27 : decode cX8_sumsComeOut 27 = .ok (.aload_n 0, 1) := by decide +kernel
theorem dX8_sumsComeOut_28 : decode cX8_sumsComeOut 28 = .ok (.getfield 9, 3) := by decide +kernel
theorem dX8_sumsComeOut_31 : decode cX8_sumsComeOut 31 = .ok (.invokevirtual 133, 3) := by decide +kernel
theorem dX8_sumsComeOut_34 : decode cX8_sumsComeOut 34 = .ok (.ifCond .ne 5, 3) := by decide +kernel
theorem dX8_sumsComeOut_37 : decode cX8_sumsComeOut 37 = .ok (.iconst 0, 1) := by decide +kernel
theorem dX8_sumsComeOut_38 : decode cX8_sumsComeOut 38 = .ok (.ireturn, 1) := by decide +kernel
theorem dX8_sumsComeOut_39 : decode cX8_sumsComeOut 39 = .ok (.iinc 2 1, 3) := by decide +kernel
theorem dX8_sumsComeOut_42 : decode cX8_sumsComeOut 42 = .ok (.goto (-40), 3) := by decide +kernel
theorem dX8_sumsComeOut_45 : decode cX8_sumsComeOut 45 = .ok (.iconst 1, 1) := by decide +kernel
theorem dX8_sumsComeOut_46 : decode cX8_sumsComeOut 46 = .ok (.ireturn, 1) := by decide +kernel
theorem dX8_takeFilling_0 : decode cX8_takeFilling 0 = .ok (.aload_n 0, 1) := by decide +kernel
theorem dX8_takeFilling_1 : decode cX8_takeFilling 1 = .ok (.getfield 30, 3) := by decide +kernel
theorem dX8_takeFilling_4 : decode cX8_takeFilling 4 = .ok (.iconst (-1), 1) := by decide +kernel
theorem dX8_takeFilling_5 : decode cX8_takeFilling 5 = .ok (.if_icmp .ne 11, 3) := by decide +kernel
theorem dX8_takeFilling_8 : decode cX8_takeFilling 8 = .ok (.aload_n 0, 1) := by decide +kernel
theorem dX8_takeFilling_9 : decode cX8_takeFilling 9 = .ok (.invokevirtual 136, 3) := by decide +kernel
theorem dX8_takeFilling_12 : decode cX8_takeFilling 12 = .ok (.aload_n 0, 1) := by decide +kernel
theorem dX8_takeFilling_13 : decode cX8_takeFilling 13 = .ok (.invokevirtual 139, 3) := by decide +kernel
theorem dX8_takeFilling_16 : decode cX8_takeFilling 16 = .ok (.aload_n 0, 1) := by decide +kernel
theorem dX8_takeFilling_17 : decode cX8_takeFilling 17 = .ok (.aload_n 0, 1) := by decide +kernel
theorem dX8_takeFilling_18 : decode cX8_takeFilling 18 = .ok (.getfield 40, 3) := by decide +kernel
theorem dX8_takeFilling_21 : decode cX8_takeFilling 21 = .ok (.aload_n 0, 1) := by decide +kernel
theorem dX8_takeFilling_22 : decode cX8_takeFilling 22 = .ok (.getfield 30, 3) := by decide +kernel
theorem dX8_takeFilling_25 : decode cX8_takeFilling 25 = .ok (.if_icmp .ne 7, 3) := by decide +kernel
theorem dX8_takeFilling_28 : decode cX8_takeFilling 28 = .ok (.iconst 1, 1) := by decide +kernel
theorem dX8_takeFilling_29 : decode cX8_takeFilling 29 = .ok (.goto 4, 3) := by decide +kernel
theorem dX8_takeFilling_32 : decode cX8_takeFilling 32 = .ok (.iconst 0, 1) := by decide +kernel
theorem dX8_takeFilling_33 : decode cX8_takeFilling 33 = .ok (.putfield 50, 3) := by decide +kernel
theorem dX8_takeFilling_36 : decode cX8_takeFilling 36 = .ok (.aload_n 0, 1) := by decide +kernel
theorem dX8_takeFilling_37 : decode cX8_takeFilling 37 = .ok (.dup, 1) := by decide +kernel
theorem dX8_takeFilling_38 : decode cX8_takeFilling 38 = .ok (.getfield 40, 3) := by decide +kernel
theorem dX8_takeFilling_41 : decode cX8_takeFilling 41 = .ok (.iconst 1, 1) := by decide +kernel
theorem dX8_takeFilling_42 : decode cX8_takeFilling 42 = .ok (.iadd, 1) := by decide +kernel
theorem dX8_takeFilling_43 : decode cX8_takeFilling 43 = .ok (.putfield 40, 3) := by decide +kernel
theorem dX8_takeFilling_46 : decode cX8_takeFilling 46 = .ok (.return_, 1) := by decide +kernel
theorem dX8_tallyFilling_0 : decode cX8_tallyFilling 0 = .ok (.iconst 0, 1) := by decide +kernel
theorem dX8_tallyFilling_1 : decode cX8_tallyFilling 1 = .ok (.istore_n 1, 1) := by decide +kernel
theorem dX8_tallyFilling_2 : decode cX8_tallyFilling 2 = .ok (.iload_n 1, 1) := by decide +kernel
theorem dX8_tallyFilling_3 : decode cX8_tallyFilling 3 = .ok (.bipush 12, 2) := by decide +kernel
theorem dX8_tallyFilling_5 : decode cX8_tallyFilling 5 = .ok (.if_icmp .ge 40, 3) := by decide +kernel
theorem dX8_tallyFilling_8 : decode cX8_tallyFilling 8 = .ok (.aload_n 0, 1) := by decide +kernel
theorem dX8_tallyFilling_9 : decode cX8_tallyFilling 9 = .ok (.getfield 53, 3) := by decide +kernel
theorem dX8_tallyFilling_12 : decode cX8_tallyFilling 12 = .ok (.iload_n 1, 1) := by decide +kernel
theorem dX8_tallyFilling_13 : decode cX8_tallyFilling 13 = .ok (.invokevirtual 101, 3) := by decide +kernel
theorem dX8_tallyFilling_16 : decode cX8_tallyFilling 16 = .ok (.ifCond .eq 23, 3) := by decide +kernel
theorem dX8_tallyFilling_19 : decode cX8_tallyFilling 19 = .ok (.aload_n 0, 1) := by decide +kernel
theorem dX8_tallyFilling_20 : decode cX8_tallyFilling 20 = .ok (.getfield 21, 3) := by decide +kernel
theorem dX8_tallyFilling_23 : decode cX8_tallyFilling 23 = .ok (.iload_n 1, 1) := by decide +kernel
theorem dX8_tallyFilling_24 : decode cX8_tallyFilling 24 = .ok (.bipush 100, 2) := by decide +kernel
theorem dX8_tallyFilling_26 : decode cX8_tallyFilling 26 = .ok (.imul, 1) := by decide +kernel
theorem dX8_tallyFilling_27 : decode cX8_tallyFilling 27 = .ok (.aload_n 0, 1) := by decide +kernel
theorem dX8_tallyFilling_28 : decode cX8_tallyFilling 28 = .ok (.getfield 9, 3) := by decide +kernel
theorem dX8_tallyFilling_31 : decode cX8_tallyFilling 31 = .ok (.iload_n 1, 1) := by decide +kernel
theorem dX8_tallyFilling_32 : decode cX8_tallyFilling 32 = .ok (.iaload, 1) := by decide +kernel
theorem dX8_tallyFilling_33 : decode cX8_tallyFilling 33 = .ok (.iadd, 1) := by decide +kernel
theorem dX8_tallyFilling_34 : decode cX8_tallyFilling 34 = .ok (.dup2, 1) := by decide +kernel
theorem dX8_tallyFilling_35 : decode cX8_tallyFilling 35 = .ok (.iaload, 1) := by decide +kernel
theorem dX8_tallyFilling_36 : decode cX8_tallyFilling 36 = .ok (.iconst 1, 1) := by decide +kernel
theorem dX8_tallyFilling_37 : decode cX8_tallyFilling 37 = .ok (.iadd, 1) := by decide +kernel
theorem dX8_tallyFilling_38 : decode cX8_tallyFilling 38 = .ok (.iastore, 1) := by decide +kernel
theorem dX8_tallyFilling_39 : decode cX8_tallyFilling 39 = .ok (.iinc 1 1, 3) := by decide +kernel
theorem dX8_tallyFilling_42 : decode cX8_tallyFilling 42 = .ok (.goto (-40), 3) := by decide +kernel
theorem dX8_tallyFilling_45 : decode cX8_tallyFilling 45 = .ok (.return_, 1) := by decide +kernel
theorem dX8_weighFilling_0 : decode cX8_weighFilling 0 = .ok (.iconst 0, 1) := by decide +kernel
theorem dX8_weighFilling_1 : decode cX8_weighFilling 1 = .ok (.istore_n 1, 1) := by decide +kernel
theorem dX8_weighFilling_2 : decode cX8_weighFilling 2 = .ok (.iconst 0, 1) := by decide +kernel
theorem dX8_weighFilling_3 : decode cX8_weighFilling 3 = .ok (.istore_n 2, 1) := by decide +kernel
theorem dX8_weighFilling_4 : decode cX8_weighFilling 4 = .ok (.iload_n 2, 1) := by decide +kernel
theorem dX8_weighFilling_5 : decode cX8_weighFilling 5 = .ok (.bipush 12, 2) := by decide +kernel
theorem dX8_weighFilling_7 : decode cX8_weighFilling 7 = .ok (.if_icmp .ge 41, 3) := by decide +kernel
theorem dX8_weighFilling_10 : decode cX8_weighFilling 10 = .ok (.iload_n 1, 1) := by decide +kernel
theorem dX8_weighFilling_11 : decode cX8_weighFilling 11 = .ok (.aload_n 0, 1) := by decide +kernel
theorem dX8_weighFilling_12 : decode cX8_weighFilling 12 = .ok (.getfield 53, 3) := by decide +kernel
theorem dX8_weighFilling_15 : decode cX8_weighFilling 15 = .ok (.iload_n 2, 1) := by decide +kernel
theorem dX8_weighFilling_16 : decode cX8_weighFilling 16 = .ok (.invokevirtual 101, 3) := by decide +kernel
theorem dX8_weighFilling_19 : decode cX8_weighFilling 19 = .ok (.ifCond .eq 20, 3) := by decide +kernel
theorem dX8_weighFilling_22 : decode cX8_weighFilling 22 = .ok (.aload_n 0, 1) := by decide +kernel
theorem dX8_weighFilling_23 : decode cX8_weighFilling 23 = .ok (.getfield 18, 3) := by decide +kernel
theorem dX8_weighFilling_26 : decode cX8_weighFilling 26 = .ok (.aload_n 0, 1) := by decide +kernel
theorem dX8_weighFilling_27 : decode cX8_weighFilling 27 = .ok (.getfield 9, 3) := by decide +kernel
theorem dX8_weighFilling_30 : decode cX8_weighFilling 30 = .ok (.iload_n 2, 1) := by decide +kernel
theorem dX8_weighFilling_31 : decode cX8_weighFilling 31 = .ok (.iaload, 1) := by decide +kernel
theorem dX8_weighFilling_32 : decode cX8_weighFilling 32 = .ok (.bipush 10, 2) := by decide +kernel
theorem dX8_weighFilling_34 : decode cX8_weighFilling 34 = .ok (.irem, 1) := by decide +kernel
theorem dX8_weighFilling_35 : decode cX8_weighFilling 35 = .ok (.iaload, 1) := by decide +kernel
theorem dX8_weighFilling_36 : decode cX8_weighFilling 36 = .ok (.goto 4, 3) := by decide +kernel
theorem dX8_weighFilling_39 : decode cX8_weighFilling 39 = .ok (.iconst 0, 1) := by decide +kernel
theorem dX8_weighFilling_40 : decode cX8_weighFilling 40 = .ok (.iadd, 1) := by decide +kernel
theorem dX8_weighFilling_41 : decode cX8_weighFilling 41 = .ok (.istore_n 1, 1) := by decide +kernel
theorem dX8_weighFilling_42 : decode cX8_weighFilling 42 = .ok (.iinc 2 1, 3) := by decide +kernel
theorem dX8_weighFilling_45 : decode cX8_weighFilling 45 = .ok (.goto (-41), 3) := by decide +kernel
theorem dX8_weighFilling_48 : decode cX8_weighFilling 48 = .ok (.iload_n 1, 1) := by decide +kernel
theorem dX8_weighFilling_49 : decode cX8_weighFilling 49 = .ok (.aload_n 0, 1) := by decide +kernel
theorem dX8_weighFilling_50 : decode cX8_weighFilling 50 = .ok (.getfield 43, 3) := by decide +kernel
theorem dX8_weighFilling_53 : decode cX8_weighFilling 53 = .ok (.if_icmp .le 23, 3) := by decide +kernel
theorem dX8_weighFilling_56 : decode cX8_weighFilling 56 = .ok (.aload_n 0, 1) := by decide +kernel
theorem dX8_weighFilling_57 : decode cX8_weighFilling 57 = .ok (.iload_n 1, 1) := by decide +kernel
theorem dX8_weighFilling_58 : decode cX8_weighFilling 58 = .ok (.putfield 43, 3) := by decide +kernel
theorem dX8_weighFilling_61 : decode cX8_weighFilling 61 = .ok (.aload_n 0, 1) := by decide +kernel
theorem dX8_weighFilling_62 : decode cX8_weighFilling 62 = .ok (.getfield 9, 3) := by decide +kernel
theorem dX8_weighFilling_65 : decode cX8_weighFilling 65 = .ok (.iconst 0, 1) := by decide +kernel
theorem dX8_weighFilling_66 : decode cX8_weighFilling 66 = .ok (.aload_n 0, 1) := by decide +kernel
theorem dX8_weighFilling_67 : decode cX8_weighFilling 67 = .ok (.getfield 15, 3) := by decide +kernel
theorem dX8_weighFilling_70 : decode cX8_weighFilling 70 = .ok (.iconst 0, 1) := by decide +kernel
theorem dX8_weighFilling_71 : decode cX8_weighFilling 71 = .ok (.bipush 12, 2) := by decide +kernel
theorem dX8_weighFilling_73 : decode cX8_weighFilling 73 = .ok (.invokestatic 142, 3) := by decide +kernel
theorem dX8_weighFilling_76 : decode cX8_weighFilling 76 = .ok (.return_, 1) := by decide +kernel
theorem dX8_isSpent_0 : decode cX8_isSpent 0 = .ok (.aload_n 0, 1) := by decide +kernel
theorem dX8_isSpent_1 : decode cX8_isSpent 1 = .ok (.getfield 46, 3) := by decide +kernel
theorem dX8_isSpent_4 : decode cX8_isSpent 4 = .ok (.ireturn, 1) := by decide +kernel
theorem dX8_hasReached_0 : decode cX8_hasReached 0 = .ok (.aload_n 0, 1) := by decide +kernel
theorem dX8_hasReached_1 : decode cX8_hasReached 1 = .ok (.getfield 50, 3) := by decide +kernel
theorem dX8_hasReached_4 : decode cX8_hasReached 4 = .ok (.ireturn, 1) := by decide +kernel
theorem dX8_stepsTaken_0 : decode cX8_stepsTaken 0 = .ok (.aload_n 0, 1) := by decide +kernel
theorem dX8_stepsTaken_1 : decode cX8_stepsTaken 1 = .ok (.getfield 37, 3) := by decide +kernel
theorem dX8_stepsTaken_4 : decode cX8_stepsTaken 4 = .ok (.ireturn, 1) := by decide +kernel
theorem dX8_fillings_0 : decode cX8_fillings 0 = .ok (.aload_n 0, 1) := by decide +kernel
theorem dX8_fillings_1 : decode cX8_fillings 1 = .ok (.getfield 40, 3) := by decide +kernel
theorem dX8_fillings_4 : decode cX8_fillings 4 = .ok (.ireturn, 1) := by decide +kernel
theorem dX8_fillingsWith_0 : decode cX8_fillingsWith 0 = .ok (.aload_n 0, 1) := by decide +kernel
theorem dX8_fillingsWith_1 : decode cX8_fillingsWith 1 = .ok (.getfield 21, 3) := by decide +kernel
theorem dX8_fillingsWith_4 : decode cX8_fillingsWith 4 = .ok (.iload_n 1, 1) := by decide +kernel
theorem dX8_fillingsWith_5 : decode cX8_fillingsWith 5 = .ok (.bipush 100, 2) := by decide +kernel
theorem dX8_fillingsWith_7 : decode cX8_fillingsWith 7 = .ok (.imul, 1) := by decide +kernel
theorem dX8_fillingsWith_8 : decode cX8_fillingsWith 8 = .ok (.iload_n 2, 1) := by decide +kernel
theorem dX8_fillingsWith_9 : decode cX8_fillingsWith 9 = .ok (.iadd, 1) := by decide +kernel
theorem dX8_fillingsWith_10 : decode cX8_fillingsWith 10 = .ok (.iaload, 1) := by decide +kernel
theorem dX8_fillingsWith_11 : decode cX8_fillingsWith 11 = .ok (.ireturn, 1) := by decide +kernel
theorem dX8_greatestWeight_0 : decode cX8_greatestWeight 0 = .ok (.aload_n 0, 1) := by decide +kernel
theorem dX8_greatestWeight_1 : decode cX8_greatestWeight 1 = .ok (.getfield 43, 3) := by decide +kernel
theorem dX8_greatestWeight_4 : decode cX8_greatestWeight 4 = .ok (.ireturn, 1) := by decide +kernel
theorem dX8_leastOf_0 : decode cX8_leastOf 0 = .ok (.iconst 0, 1) := by decide +kernel
theorem dX8_leastOf_1 : decode cX8_leastOf 1 = .ok (.istore_n 2, 1) := by decide +kernel
theorem dX8_leastOf_2 : decode cX8_leastOf 2 = .ok (.iload_n 2, 1) := by decide +kernel
theorem dX8_leastOf_3 : decode cX8_leastOf 3 = .ok (.bipush 99, 2) := by decide +kernel
theorem dX8_leastOf_5 : decode cX8_leastOf 5 = .ok (.if_icmp .ge 18, 3) := by decide +kernel
theorem dX8_leastOf_8 : decode cX8_leastOf 8 = .ok (.aload_n 0, 1) := by decide +kernel
theorem dX8_leastOf_9 : decode cX8_leastOf 9 = .ok (.iload_n 1, 1) := by decide +kernel
theorem dX8_leastOf_10 : decode cX8_leastOf 10 = .ok (.iload_n 2, 1) := by decide +kernel
theorem dX8_leastOf_11 : decode cX8_leastOf 11 = .ok (.invokevirtual 148, 3) := by decide +kernel
theorem dX8_leastOf_14 : decode cX8_leastOf 14 = .ok (.ifCond .ne 9, 3) := by decide +kernel
theorem dX8_leastOf_17 : decode cX8_leastOf 17 = .ok (.iinc 2 1, 3) := by decide +kernel
theorem dX8_leastOf_20 : decode cX8_leastOf 20 = .ok (.goto (-18), 3) := by decide +kernel
theorem dX8_leastOf_23 : decode cX8_leastOf 23 = .ok (.iload_n 2, 1) := by decide +kernel
theorem dX8_leastOf_24 : decode cX8_leastOf 24 = .ok (.ireturn, 1) := by decide +kernel
theorem dX8_greatestOf_0 : decode cX8_greatestOf 0 = .ok (.bipush 99, 2) := by decide +kernel
theorem dX8_greatestOf_2 : decode cX8_greatestOf 2 = .ok (.istore_n 2, 1) := by decide +kernel
theorem dX8_greatestOf_3 : decode cX8_greatestOf 3 = .ok (.iload_n 2, 1) := by decide +kernel
theorem dX8_greatestOf_4 : decode cX8_greatestOf 4 = .ok (.ifCond .le 18, 3) := by decide +kernel
theorem dX8_greatestOf_7 : decode cX8_greatestOf 7 = .ok (.aload_n 0, 1) := by decide +kernel
theorem dX8_greatestOf_8 : decode cX8_greatestOf 8 = .ok (.iload_n 1, 1) := by decide +kernel
theorem dX8_greatestOf_9 : decode cX8_greatestOf 9 = .ok (.iload_n 2, 1) := by decide +kernel
theorem dX8_greatestOf_10 : decode cX8_greatestOf 10 = .ok (.invokevirtual 148, 3) := by decide +kernel
theorem dX8_greatestOf_13 : decode cX8_greatestOf 13 = .ok (.ifCond .ne 9, 3) := by decide +kernel
theorem dX8_greatestOf_16 : decode cX8_greatestOf 16 = .ok (.iinc 2 (-1), 3) := by decide +kernel
theorem dX8_greatestOf_19 : decode cX8_greatestOf 19 = .ok (.goto (-16), 3) := by decide +kernel
theorem dX8_greatestOf_22 : decode cX8_greatestOf 22 = .ok (.iload_n 2, 1) := by decide +kernel
theorem dX8_greatestOf_23 : decode cX8_greatestOf 23 = .ok (.ireturn, 1) := by decide +kernel
theorem dX8_worthOf_0 : decode cX8_worthOf 0 = .ok (.iconst 0, 1) := by decide +kernel
theorem dX8_worthOf_1 : decode cX8_worthOf 1 = .ok (.istore_n 2, 1) := by decide +kernel
theorem dX8_worthOf_2 : decode cX8_worthOf 2 = .ok (.iconst 0, 1) := by decide +kernel
theorem dX8_worthOf_3 : decode cX8_worthOf 3 = .ok (.istore_n 3, 1) := by decide +kernel
theorem dX8_worthOf_4 : decode cX8_worthOf 4 = .ok (.iload_n 3, 1) := by decide +kernel
theorem dX8_worthOf_5 : decode cX8_worthOf 5 = .ok (.bipush 100, 2) := by decide +kernel
theorem dX8_worthOf_7 : decode cX8_worthOf 7 = .ok (.if_icmp .ge 20, 3) := by decide +kernel
theorem dX8_worthOf_10 : decode cX8_worthOf 10 = .ok (.iload_n 2, 1) := by decide +kernel
theorem dX8_worthOf_11 : decode cX8_worthOf 11 = .ok (.aload_n 0, 1) := by decide +kernel
theorem dX8_worthOf_12 : decode cX8_worthOf 12 = .ok (.iload_n 1, 1) := by decide +kernel
theorem dX8_worthOf_13 : decode cX8_worthOf 13 = .ok (.iload_n 3, 1) := by decide +kernel
theorem dX8_worthOf_14 : decode cX8_worthOf 14 = .ok (.invokevirtual 148, 3) := by decide +kernel
theorem dX8_worthOf_17 : decode cX8_worthOf 17 = .ok (.invokestatic 151, 3) := by decide +kernel
theorem dX8_worthOf_20 : decode cX8_worthOf 20 = .ok (.istore_n 2, 1) := by decide +kernel
theorem dX8_worthOf_21 : decode cX8_worthOf 21 = .ok (.iinc 3 1, 3) := by decide +kernel
theorem dX8_worthOf_24 : decode cX8_worthOf 24 = .ok (.goto (-20), 3) := by decide +kernel
theorem dX8_worthOf_27 : decode cX8_worthOf 27 = .ok (.iload_n 2, 1) := by decide +kernel
theorem dX8_worthOf_28 : decode cX8_worthOf 28 = .ok (.ireturn, 1) := by decide +kernel
theorem dX8_writeReached_0 : decode cX8_writeReached 0 = .ok (.aload_n 0, 1) := by decide +kernel
theorem dX8_writeReached_1 : decode cX8_writeReached 1 = .ok (.aload_n 0, 1) := by decide +kernel
theorem dX8_writeReached_2 : decode cX8_writeReached 2 = .ok (.getfield 9, 3) := by decide +kernel
theorem dX8_writeReached_5 : decode cX8_writeReached 5 = .ok (.aload_n 1, 1) := by decide +kernel
theorem dX8_writeReached_6 : decode cX8_writeReached 6 = .ok (.iload_n 2, 1) := by decide +kernel
theorem dX8_writeReached_7 : decode cX8_writeReached 7 = .ok (.invokevirtual 156, 3) := by decide +kernel
theorem dX8_writeReached_10 : decode cX8_writeReached 10 = .ok (.return_, 1) := by decide +kernel
theorem dX8_writeLikeliest_0 : decode cX8_writeLikeliest 0 = .ok (.aload_n 0, 1) := by decide +kernel
theorem dX8_writeLikeliest_1 : decode cX8_writeLikeliest 1 = .ok (.aload_n 0, 1) := by decide +kernel
theorem dX8_writeLikeliest_2 : decode cX8_writeLikeliest 2 = .ok (.getfield 15, 3) := by decide +kernel
theorem dX8_writeLikeliest_5 : decode cX8_writeLikeliest 5 = .ok (.aload_n 1, 1) := by decide +kernel
theorem dX8_writeLikeliest_6 : decode cX8_writeLikeliest 6 = .ok (.iload_n 2, 1) := by decide +kernel
theorem dX8_writeLikeliest_7 : decode cX8_writeLikeliest 7 = .ok (.invokevirtual 156, 3) := by decide +kernel
theorem dX8_writeLikeliest_10 : decode cX8_writeLikeliest 10 = .ok (.return_, 1) := by decide +kernel
theorem dX8_writeFilling_0 : decode cX8_writeFilling 0 = .ok (.aload_n 2, 1) := by decide +kernel
theorem dX8_writeFilling_1 : decode cX8_writeFilling 1 = .ok (.iload_n 3, 1) := by decide +kernel
theorem dX8_writeFilling_2 : decode cX8_writeFilling 2 = .ok (.bipush 12, 2) := by decide +kernel
theorem dX8_writeFilling_4 : decode cX8_writeFilling 4 = .ok (.invokevirtual 160, 3) := by decide +kernel
theorem dX8_writeFilling_7 : decode cX8_writeFilling 7 = .ok (.iconst 0, 1) := by decide +kernel
theorem dX8_writeFilling_8 : decode cX8_writeFilling 8 = .ok (.istore 4, 2) := by decide +kernel
theorem dX8_writeFilling_10 : decode cX8_writeFilling 10 = .ok (.iload 4, 2) := by decide +kernel
theorem dX8_writeFilling_12 : decode cX8_writeFilling 12 = .ok (.bipush 12, 2) := by decide +kernel
theorem dX8_writeFilling_14 : decode cX8_writeFilling 14 = .ok (.if_icmp .ge 36, 3) := by decide +kernel
theorem dX8_writeFilling_17 : decode cX8_writeFilling 17 = .ok (.aload_n 2, 1) := by decide +kernel
theorem dX8_writeFilling_18 : decode cX8_writeFilling 18 = .ok (.iload_n 3, 1) := by decide +kernel
theorem dX8_writeFilling_19 : decode cX8_writeFilling 19 = .ok (.iload 4, 2) := by decide +kernel
theorem dX8_writeFilling_21 : decode cX8_writeFilling 21 = .ok (.aload_n 0, 1) := by decide +kernel
theorem dX8_writeFilling_22 : decode cX8_writeFilling 22 = .ok (.getfield 53, 3) := by decide +kernel
theorem dX8_writeFilling_25 : decode cX8_writeFilling 25 = .ok (.iload 4, 2) := by decide +kernel
theorem dX8_writeFilling_27 : decode cX8_writeFilling 27 = .ok (.invokevirtual 101, 3) := by decide +kernel
theorem dX8_writeFilling_30 : decode cX8_writeFilling 30 = .ok (.ifCond .eq 10, 3) := by decide +kernel
theorem dX8_writeFilling_33 : decode cX8_writeFilling 33 = .ok (.aload_n 1, 1) := by decide +kernel
theorem dX8_writeFilling_34 : decode cX8_writeFilling 34 = .ok (.iload 4, 2) := by decide +kernel
theorem dX8_writeFilling_36 : decode cX8_writeFilling 36 = .ok (.iaload, 1) := by decide +kernel
theorem dX8_writeFilling_37 : decode cX8_writeFilling 37 = .ok (.goto 4, 3) := by decide +kernel
theorem dX8_writeFilling_40 : decode cX8_writeFilling 40 = .ok (.iconst (-1), 1) := by decide +kernel
theorem dX8_writeFilling_41 : decode cX8_writeFilling 41 = .ok (.invokevirtual 164, 3) := by decide +kernel
theorem dX8_writeFilling_44 : decode cX8_writeFilling 44 = .ok (.iinc 4 1, 3) := by decide +kernel
theorem dX8_writeFilling_47 : decode cX8_writeFilling 47 = .ok (.goto (-37), 3) := by decide +kernel
theorem dX8_writeFilling_50 : decode cX8_writeFilling 50 = .ok (.return_, 1) := by decide +kernel
theorem dJ6_bitCount_0f7a4_0 : decode cJ6_bitCount_0f7a4 0 = .ok (.iload_n 0, 1) := by decide +kernel
theorem dJ6_bitCount_0f7a4_1 : decode cJ6_bitCount_0f7a4 1 = .ok (.iload_n 0, 1) := by decide +kernel
theorem dJ6_bitCount_0f7a4_2 : decode cJ6_bitCount_0f7a4 2 = .ok (.iconst 1, 1) := by decide +kernel
theorem dJ6_bitCount_0f7a4_3 : decode cJ6_bitCount_0f7a4 3 = .ok (.iushr, 1) := by decide +kernel
theorem dJ6_bitCount_0f7a4_4 : decode cJ6_bitCount_0f7a4 4 = .ok (.ldc_w 265, 3) := by decide +kernel
theorem dJ6_bitCount_0f7a4_7 : decode cJ6_bitCount_0f7a4 7 = .ok (.iand, 1) := by decide +kernel
theorem dJ6_bitCount_0f7a4_8 : decode cJ6_bitCount_0f7a4 8 = .ok (.isub, 1) := by decide +kernel
theorem dJ6_bitCount_0f7a4_9 : decode cJ6_bitCount_0f7a4 9 = .ok (.istore_n 0, 1) := by decide +kernel
theorem dJ6_bitCount_0f7a4_10 : decode cJ6_bitCount_0f7a4 10 = .ok (.iload_n 0, 1) := by decide +kernel
theorem dJ6_bitCount_0f7a4_11 : decode cJ6_bitCount_0f7a4 11 = .ok (.ldc_w 266, 3) := by decide +kernel
theorem dJ6_bitCount_0f7a4_14 : decode cJ6_bitCount_0f7a4 14 = .ok (.iand, 1) := by decide +kernel
theorem dJ6_bitCount_0f7a4_15 : decode cJ6_bitCount_0f7a4 15 = .ok (.iload_n 0, 1) := by decide +kernel
theorem dJ6_bitCount_0f7a4_16 : decode cJ6_bitCount_0f7a4 16 = .ok (.iconst 2, 1) := by decide +kernel
theorem dJ6_bitCount_0f7a4_17 : decode cJ6_bitCount_0f7a4 17 = .ok (.iushr, 1) := by decide +kernel
theorem dJ6_bitCount_0f7a4_18 : decode cJ6_bitCount_0f7a4 18 = .ok (.ldc_w 266, 3) := by decide +kernel
theorem dJ6_bitCount_0f7a4_21 : decode cJ6_bitCount_0f7a4 21 = .ok (.iand, 1) := by decide +kernel
theorem dJ6_bitCount_0f7a4_22 : decode cJ6_bitCount_0f7a4 22 = .ok (.iadd, 1) := by decide +kernel
theorem dJ6_bitCount_0f7a4_23 : decode cJ6_bitCount_0f7a4 23 = .ok (.istore_n 0, 1) := by decide +kernel
theorem dJ6_bitCount_0f7a4_24 : decode cJ6_bitCount_0f7a4 24 = .ok (.iload_n 0, 1) := by decide +kernel
theorem dJ6_bitCount_0f7a4_25 : decode cJ6_bitCount_0f7a4 25 = .ok (.iload_n 0, 1) := by decide +kernel
theorem dJ6_bitCount_0f7a4_26 : decode cJ6_bitCount_0f7a4 26 = .ok (.iconst 4, 1) := by decide +kernel
theorem dJ6_bitCount_0f7a4_27 : decode cJ6_bitCount_0f7a4 27 = .ok (.iushr, 1) := by decide +kernel
theorem dJ6_bitCount_0f7a4_28 : decode cJ6_bitCount_0f7a4 28 = .ok (.iadd, 1) := by decide +kernel
theorem dJ6_bitCount_0f7a4_29 : decode cJ6_bitCount_0f7a4 29 = .ok (.ldc_w 267, 3) := by decide +kernel
theorem dJ6_bitCount_0f7a4_32 : decode cJ6_bitCount_0f7a4 32 = .ok (.iand, 1) := by decide +kernel
theorem dJ6_bitCount_0f7a4_33 : decode cJ6_bitCount_0f7a4 33 = .ok (.istore_n 0, 1) := by decide +kernel
theorem dJ6_bitCount_0f7a4_34 : decode cJ6_bitCount_0f7a4 34 = .ok (.iload_n 0, 1) := by decide +kernel
theorem dJ6_bitCount_0f7a4_35 : decode cJ6_bitCount_0f7a4 35 = .ok (.iload_n 0, 1) := by decide +kernel
theorem dJ6_bitCount_0f7a4_36 : decode cJ6_bitCount_0f7a4 36 = .ok (.bipush 8, 2) := by decide +kernel
theorem dJ6_bitCount_0f7a4_38 : decode cJ6_bitCount_0f7a4 38 = .ok (.iushr, 1) := by decide +kernel
theorem dJ6_bitCount_0f7a4_39 : decode cJ6_bitCount_0f7a4 39 = .ok (.iadd, 1) := by decide +kernel
theorem dJ6_bitCount_0f7a4_40 : decode cJ6_bitCount_0f7a4 40 = .ok (.istore_n 0, 1) := by decide +kernel
theorem dJ6_bitCount_0f7a4_41 : decode cJ6_bitCount_0f7a4 41 = .ok (.iload_n 0, 1) := by decide +kernel
theorem dJ6_bitCount_0f7a4_42 : decode cJ6_bitCount_0f7a4 42 = .ok (.iload_n 0, 1) := by decide +kernel
theorem dJ6_bitCount_0f7a4_43 : decode cJ6_bitCount_0f7a4 43 = .ok (.bipush 16, 2) := by decide +kernel
theorem dJ6_bitCount_0f7a4_45 : decode cJ6_bitCount_0f7a4 45 = .ok (.iushr, 1) := by decide +kernel
theorem dJ6_bitCount_0f7a4_46 : decode cJ6_bitCount_0f7a4 46 = .ok (.iadd, 1) := by decide +kernel
theorem dJ6_bitCount_0f7a4_47 : decode cJ6_bitCount_0f7a4 47 = .ok (.istore_n 0, 1) := by decide +kernel
theorem dJ6_bitCount_0f7a4_48 : decode cJ6_bitCount_0f7a4 48 = .ok (.iload_n 0, 1) := by decide +kernel
theorem dJ6_bitCount_0f7a4_49 : decode cJ6_bitCount_0f7a4 49 = .ok (.bipush 63, 2) := by decide +kernel
theorem dJ6_bitCount_0f7a4_51 : decode cJ6_bitCount_0f7a4 51 = .ok (.iand, 1) := by decide +kernel
theorem dJ6_bitCount_0f7a4_52 : decode cJ6_bitCount_0f7a4 52 = .ok (.ireturn, 1) := by decide +kernel
theorem dJ9_max_7cf53_0 : decode cJ9_max_7cf53 0 = .ok (.iload_n 0, 1) := by decide +kernel
theorem dJ9_max_7cf53_1 : decode cJ9_max_7cf53 1 = .ok (.iload_n 1, 1) := by decide +kernel
theorem dJ9_max_7cf53_2 : decode cJ9_max_7cf53 2 = .ok (.if_icmp .lt 7, 3) := by decide +kernel
theorem dJ9_max_7cf53_5 : decode cJ9_max_7cf53 5 = .ok (.iload_n 0, 1) := by decide +kernel
theorem dJ9_max_7cf53_6 : decode cJ9_max_7cf53 6 = .ok (.goto 4, 3) := by decide +kernel
theorem dJ9_max_7cf53_9 : decode cJ9_max_7cf53 9 = .ok (.iload_n 1, 1) := by decide +kernel
theorem dJ9_max_7cf53_10 : decode cJ9_max_7cf53 10 = .ok (.ireturn, 1) := by decide +kernel
theorem dJ9_min_7cf53_0 : decode cJ9_min_7cf53 0 = .ok (.iload_n 0, 1) := by decide +kernel
theorem dJ9_min_7cf53_1 : decode cJ9_min_7cf53 1 = .ok (.iload_n 1, 1) := by decide +kernel
theorem dJ9_min_7cf53_2 : decode cJ9_min_7cf53 2 = .ok (.if_icmp .gt 7, 3) := by decide +kernel
theorem dJ9_min_7cf53_5 : decode cJ9_min_7cf53 5 = .ok (.iload_n 0, 1) := by decide +kernel
theorem dJ9_min_7cf53_6 : decode cJ9_min_7cf53 6 = .ok (.goto 4, 3) := by decide +kernel
theorem dJ9_min_7cf53_9 : decode cJ9_min_7cf53 9 = .ok (.iload_n 1, 1) := by decide +kernel
theorem dJ9_min_7cf53_10 : decode cJ9_min_7cf53 10 = .ok (.ireturn, 1) := by decide +kernel

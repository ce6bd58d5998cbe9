theorem dX1_init_0 : decode cX1_init 0 = .ok (.aload_n 0, 1) := by decide +kernel
theorem dX1_init_1 : decode cX1_init 1 = .ok (.invokespecial 3, 3) := by decide +kernel
theorem dX1_init_4 : decode cX1_init 4 = .ok (.aload_n 0, 1) := by decide +kernel
theorem dX1_init_5 : decode cX1_init 5 = .ok (.bipush 8, 2) := by decide +kernel
theorem dX1_init_7 : decode cX1_init 7 = .ok (.anewarray 9, 3) := by decide +kernel
theorem dX1_init_10 : decode cX1_init 10 = .ok (.putfield 11, 3) := by decide +kernel
theorem dX1_init_13 : decode cX1_init 13 = .ok (.aload_n 0, 1) := by decide +kernel
theorem dX1_init_14 : decode cX1_init 14 = .ok (.bipush 8, 2) := by decide +kernel
theorem dX1_init_16 : decode cX1_init 16 = .ok (.anewarray 17, 3) := by decide +kernel
theorem dX1_init_19 : decode cX1_init 19 = .ok (.putfield 19, 3) := by decide +kernel
theorem dX1_init_22 : decode cX1_init 22 = .ok (.iconst 0, 1) := by decide +kernel
theorem dX1_init_23 : decode cX1_init 23 = .ok (.istore_n 1, 1) := by decide +kernel
theorem dX1_init_24 : decode cX1_init 24 = .ok (.iload_n 1, 1) := by decide +kernel
theorem dX1_init_25 : decode cX1_init 25 = .ok (.aload_n 0, 1) := by decide +kernel
theorem dX1_init_26 : decode cX1_init 26 = .ok (.getfield 11, 3) := by decide +kernel
theorem dX1_init_29 : decode cX1_init 29 = .ok (.arraylength, 1) := by decide +kernel
theorem dX1_init_30 : decode cX1_init 30 = .ok (.if_icmp .ge 22, 3) := by decide +kernel
theorem dX1_init_33 : decode cX1_init 33 = .ok (.aload_n 0, 1) := by decide +kernel
theorem dX1_init_34 : decode cX1_init 34 = .ok (.getfield 11, 3) := by decide +kernel
theorem dX1_init_37 : decode cX1_init 37 = .ok (.iload_n 1, 1) := by decide +kernel
theorem dX1_init_38 : decode cX1_init 38 = .ok (.new 9, 3) := by decide +kernel
theorem dX1_init_41 : decode cX1_init 41 = .ok (.dup, 1) := by decide +kernel
theorem dX1_init_42 : decode cX1_init 42 = .ok (.invokespecial 23, 3) := by decide +kernel
theorem dX1_init_45 : decode cX1_init 45 = .ok (.aastore, 1) := by decide +kernel
theorem dX1_init_46 : decode cX1_init 46 = .ok (.iinc 1 1, 3) := by decide +kernel
theorem dX1_init_49 : decode cX1_init 49 = .ok (.goto (-25), 3) := by decide +kernel
theorem dX1_init_52 : decode cX1_init 52 = .ok (.iconst 0, 1) := by decide +kernel
theorem dX1_init_53 : decode cX1_init 53 = .ok (.istore_n 1, 1) := by decide +kernel
theorem dX1_init_54 : decode cX1_init 54 = .ok (.iload_n 1, 1) := by decide +kernel
theorem dX1_init_55 : decode cX1_init 55 = .ok (.aload_n 0, 1) := by decide +kernel
theorem dX1_init_56 : decode cX1_init 56 = .ok (.getfield 19, 3) := by decide +kernel
theorem dX1_init_59 : decode cX1_init 59 = .ok (.arraylength, 1) := by decide +kernel
theorem dX1_init_60 : decode cX1_init 60 = .ok (.if_icmp .ge 22, 3) := by decide +kernel
theorem dX1_init_63 : decode cX1_init 63 = .ok (.aload_n 0, 1) := by decide +kernel
theorem dX1_init_64 : decode cX1_init 64 = .ok (.getfield 19, 3) := by decide +kernel
theorem dX1_init_67 : decode cX1_init 67 = .ok (.iload_n 1, 1) := by decide +kernel
theorem dX1_init_68 : decode cX1_init 68 = .ok (.new 17, 3) := by decide +kernel
theorem dX1_init_71 : decode cX1_init 71 = .ok (.dup, 1) := by decide +kernel
theorem dX1_init_72 : decode cX1_init 72 = .ok (.invokespecial 24, 3) := by decide +kernel
theorem dX1_init_75 : decode cX1_init 75 = .ok (.aastore, 1) := by decide +kernel
theorem dX1_init_76 : decode cX1_init 76 = .ok (.iinc 1 1, 3) := by decide +kernel
theorem dX1_init_79 : decode cX1_init 79 = .ok (.goto (-25), 3) := by decide +kernel
theorem dX1_init_82 : decode cX1_init 82 = .ok (.return_, 1) := by decide +kernel
theorem dX1_hedge_0 : decode cX1_hedge 0 = .ok (.iload_n 1, 1) := by decide +kernel
theorem dX1_hedge_1 : decode cX1_hedge 1 = .ok (.ifCond .lt 20, 3) := by decide +kernel
theorem dX1_hedge_4 : decode cX1_hedge 4 = .ok (.iload_n 1, 1) := by decide +kernel
theorem dX1_hedge_5 : decode cX1_hedge 5 = .ok (.aload_n 0, 1) := by decide +kernel
theorem dX1_hedge_6 : decode cX1_hedge 6 = .ok (.getfield 25, 3) := by decide +kernel
theorem dX1_hedge_9 : decode cX1_hedge 9 = .ok (.if_icmp .ge 12, 3) := by decide +kernel
theorem dX1_hedge_12 : decode cX1_hedge 12 = .ok (.iload_n 1, 1) := by decide +kernel
theorem dX1_hedge_13 : decode cX1_hedge 13 = .ok (.aload_n 0, 1) := by decide +kernel
theorem dX1_hedge_14 : decode cX1_hedge 14 = .ok (.getfield 11, 3) := by decide +kernel
theorem dX1_hedge_17 : decode cX1_hedge 17 = .ok (.arraylength, 1) := by decide +kernel
theorem dX1_hedge_18 : decode cX1_hedge 18 = .ok (.if_icmp .lt 7, 3) := by decide +kernel
theorem dX1_hedge_21 : decode cX1_hedge 21 = .ok (.aconst_null, 1) := by decide +kernel
theorem dX1_hedge_22 : decode cX1_hedge 22 = .ok (.goto 9, 3) := by decide +kernel
theorem dX1_hedge_25 : decode cX1_hedge 25 = .ok (.aload_n 0, 1) := by decide +kernel
theorem dX1_hedge_26 : decode cX1_hedge 26 = .ok (.getfield 11, 3) := by decide +kernel
theorem dX1_hedge_29 : decode cX1_hedge 29 = .ok (.iload_n 1, 1) := by decide +kernel
theorem dX1_hedge_30 : decode cX1_hedge 30 = .ok (.aaload, 1) := by decide +kernel
theorem dX1_hedge_31 : decode cX1_hedge 31 = .ok (.areturn, 1) := by decide +kernel
theorem dX1_rose_0 : decode cX1_rose 0 = .ok (.iload_n 1, 1) := by decide +kernel
theorem dX1_rose_1 : decode cX1_rose 1 = .ok (.ifCond .lt 20, 3) := by decide +kernel
theorem dX1_rose_4 : decode cX1_rose 4 = .ok (.iload_n 1, 1) := by decide +kernel
theorem dX1_rose_5 : decode cX1_rose 5 = .ok (.aload_n 0, 1) := by decide +kernel
theorem dX1_rose_6 : decode cX1_rose 6 = .ok (.getfield 29, 3) := by decide +kernel
theorem dX1_rose_9 : decode cX1_rose 9 = .ok (.if_icmp .ge 12, 3) := by decide +kernel
theorem dX1_rose_12 : decode cX1_rose 12 = .ok (.iload_n 1, 1) := by decide +kernel
theorem dX1_rose_13 : decode cX1_rose 13 = .ok (.aload_n 0, 1) := by decide +kernel
theorem dX1_rose_14 : decode cX1_rose 14 = .ok (.getfield 19, 3) := by decide +kernel
theorem dX1_rose_17 : decode cX1_rose 17 = .ok (.arraylength, 1) := by decide +kernel
theorem dX1_rose_18 : decode cX1_rose 18 = .ok (.if_icmp .lt 7, 3) := by decide +kernel
theorem dX1_rose_21 : decode cX1_rose 21 = .ok (.aconst_null, 1) := by decide +kernel
theorem dX1_rose_22 : decode cX1_rose 22 = .ok (.goto 9, 3) := by decide +kernel
theorem dX1_rose_25 : decode cX1_rose 25 = .ok (.aload_n 0, 1) := by decide +kernel
theorem dX1_rose_26 : decode cX1_rose 26 = .ok (.getfield 19, 3) := by decide +kernel
theorem dX1_rose_29 : decode cX1_rose 29 = .ok (.iload_n 1, 1) := by decide +kernel
theorem dX1_rose_30 : decode cX1_rose 30 = .ok (.aaload, 1) := by decide +kernel
theorem dX1_rose_31 : decode cX1_rose 31 = .ok (.areturn, 1) := by decide +kernel
theorem dX1_begin_0 : decode cX1_begin 0 = .ok (.aload_n 0, 1) := by decide +kernel
theorem dX1_begin_1 : decode cX1_begin 1 = .ok (.aload_n 1, 1) := by decide +kernel
theorem dX1_begin_2 : decode cX1_begin 2 = .ok (.getfield 32, 3) := by decide +kernel
theorem dX1_begin_5 : decode cX1_begin 5 = .ok (.putfield 25, 3) := by decide +kernel
theorem dX1_begin_8 : decode cX1_begin 8 = .ok (.aload_n 0, 1) := by decide +kernel
theorem dX1_begin_9 : decode cX1_begin 9 = .ok (.aload_n 1, 1) := by decide +kernel
theorem dX1_begin_10 : decode cX1_begin 10 = .ok (.getfield 35, 3) := by decide +kernel
theorem dX1_begin_13 : decode cX1_begin 13 = .ok (.putfield 29, 3) := by decide +kernel
theorem dX1_begin_16 : decode cX1_begin 16 = .ok (.iconst 0, 1) := by decide +kernel
theorem dX1_begin_17 : decode cX1_begin 17 = .ok (.istore_n 2, 1) := by decide +kernel
theorem dX1_begin_18 : decode cX1_begin 18 = .ok (.iload_n 2, 1) := by decide +kernel
theorem dX1_begin_19 : decode cX1_begin 19 = .ok (.aload_n 0, 1) := by decide +kernel
theorem dX1_begin_20 : decode cX1_begin 20 = .ok (.getfield 11, 3) := by decide +kernel
theorem dX1_begin_23 : decode cX1_begin 23 = .ok (.arraylength, 1) := by decide +kernel
theorem dX1_begin_24 : decode cX1_begin 24 = .ok (.if_icmp .ge 33, 3) := by decide +kernel
theorem dX1_begin_27 : decode cX1_begin 27 = .ok (.iload_n 2, 1) := by decide +kernel
theorem dX1_begin_28 : decode cX1_begin 28 = .ok (.aload_n 1, 1) := by decide +kernel
theorem dX1_begin_29 : decode cX1_begin 29 = .ok (.getfield 36, 3) := by decide +kernel
theorem dX1_begin_32 : decode cX1_begin 32 = .ok (.arraylength, 1) := by decide +kernel
theorem dX1_begin_33 : decode cX1_begin 33 = .ok (.if_icmp .ge 24, 3) := by decide +kernel
theorem dX1_begin_36 : decode cX1_begin 36 = .ok (.aload_n 0, 1) := by decide +kernel
theorem dX1_begin_37 : decode cX1_begin 37 = .ok (.getfield 11, 3) := by decide +kernel
theorem dX1_begin_40 : decode cX1_begin 40 = .ok (.iload_n 2, 1) := by decide +kernel
theorem dX1_begin_41 : decode cX1_begin 41 = .ok (.aaload, 1) := by decide +kernel
theorem dX1_begin_42 : decode cX1_begin 42 = .ok (.aload_n 1, 1) := by decide +kernel
theorem dX1_begin_43 : decode cX1_begin 43 = .ok (.getfield 36, 3) := by decide +kernel
theorem dX1_begin_46 : decode cX1_begin 46 = .ok (.iload_n 2, 1) := by decide +kernel
theorem dX1_begin_47 : decode cX1_begin 47 = .ok (.iaload, 1) := by decide +kernel
theorem dX1_begin_48 : decode cX1_begin 48 = .ok (.invokevirtual 40, 3) := by decide +kernel
theorem dX1_begin_51 : decode cX1_begin 51 = .ok (.iinc 2 1, 3) := by decide +kernel
theorem dX1_begin_54 : decode cX1_begin 54 = .ok (.goto (-36), 3) := by decide +kernel
theorem dX1_begin_57 : decode cX1_begin 57 = .ok (.iconst 0, 1) := by decide +kernel
theorem dX1_begin_58 : decode cX1_begin 58 = .ok (.istore_n 2, 1) := by decide +kernel
theorem dX1_begin_59 : decode cX1_begin 59 = .ok (.iload_n 2, 1) := by decide +kernel
theorem dX1_begin_60 : decode cX1_begin 60 = .ok (.aload_n 0, 1) := by decide +kernel
theorem dX1_begin_61 : decode cX1_begin 61 = .ok (.getfield 19, 3) := by decide +kernel
theorem dX1_begin_64 : decode cX1_begin 64 = .ok (.arraylength, 1) := by decide +kernel
theorem dX1_begin_65 : decode cX1_begin 65 = .ok (.if_icmp .ge 33, 3) := by decide +kernel
theorem dX1_begin_68 : decode cX1_begin 68 = .ok (.iload_n 2, 1) := by decide +kernel
theorem dX1_begin_69 : decode cX1_begin 69 = .ok (.aload_n 1, 1) := by decide +kernel
theorem dX1_begin_70 : decode cX1_begin 70 = .ok (.getfield 44, 3) := by decide +kernel
theorem dX1_begin_73 : decode cX1_begin 73 = .ok (.arraylength, 1) := by decide +kernel
theorem dX1_begin_74 : decode cX1_begin 74 = .ok (.if_icmp .ge 24, 3) := by decide +kernel
theorem dX1_begin_77 : decode cX1_begin 77 = .ok (.aload_n 0, 1) := by decide +kernel
theorem dX1_begin_78 : decode cX1_begin 78 = .ok (.getfield 19, 3) := by decide +kernel
theorem dX1_begin_81 : decode cX1_begin 81 = .ok (.iload_n 2, 1) := by decide +kernel
theorem dX1_begin_82 : decode cX1_begin 82 = .ok (.aaload, 1) := by decide +kernel
theorem dX1_begin_83 : decode cX1_begin 83 = .ok (.aload_n 1, 1) := by decide +kernel
theorem dX1_begin_84 : decode cX1_begin 84 = .ok (.getfield 44, 3) := by decide +kernel
theorem dX1_begin_87 : decode cX1_begin 87 = .ok (.iload_n 2, 1) := by decide +kernel
theorem dX1_begin_88 : decode cX1_begin 88 = .ok (.iaload, 1) := by decide +kernel
theorem dX1_begin_89 : decode cX1_begin 89 = .ok (.invokevirtual 47, 3) := by decide +kernel
theorem dX1_begin_92 : decode cX1_begin 92 = .ok (.iinc 2 1, 3) := by decide +kernel
theorem dX1_begin_95 : decode cX1_begin 95 = .ok (.goto (-36), 3) := by decide +kernel
theorem dX1_begin_98 : decode cX1_begin 98 = .ok (.aload_n 0, 1) := by decide +kernel
theorem dX1_begin_99 : decode cX1_begin 99 = .ok (.iconst 0, 1) := by decide +kernel
theorem dX1_begin_100 : decode cX1_begin 100 = .ok (.putfield 48, 3) := by decide +kernel
theorem dX1_begin_103 : decode cX1_begin 103 = .ok (.aload_n 0, 1) := by decide +kernel
theorem dX1_begin_104 : decode cX1_begin 104 = .ok (.iconst 0, 1) := by decide +kernel
theorem dX1_begin_105 : decode cX1_begin 105 = .ok (.putfield 51, 3) := by decide +kernel
theorem dX1_begin_108 : decode cX1_begin 108 = .ok (.aload_n 0, 1) := by decide +kernel
theorem dX1_begin_109 : decode cX1_begin 109 = .ok (.iconst 0, 1) := by decide +kernel
theorem dX1_begin_110 : decode cX1_begin 110 = .ok (.putfield 54, 3) := by decide +kernel
theorem dX1_begin_113 : decode cX1_begin 113 = .ok (.aload_n 0, 1) := by decide +kernel
theorem dX1_begin_114 : decode cX1_begin 114 = .ok (.iconst 0, 1) := by decide +kernel
theorem dX1_begin_115 : decode cX1_begin 115 = .ok (.putfield 57, 3) := by decide +kernel
theorem dX1_begin_118 : decode cX1_begin 118 = .ok (.aload_n 0, 1) := by decide +kernel
theorem dX1_begin_119 : decode cX1_begin 119 = .ok (.iconst 0, 1) := by decide +kernel
theorem dX1_begin_120 : decode cX1_begin 120 = .ok (.putfield 60, 3) := by decide +kernel
theorem dX1_begin_123 : decode cX1_begin 123 = .ok (.return_, 1) := by decide +kernel
theorem dX1_copy_0 : decode cX1_copy 0 = .ok (.aload_n 0, 1) := by decide +kernel
theorem dX1_copy_1 : decode cX1_copy 1 = .ok (.aload_n 1, 1) := by decide +kernel
theorem dX1_copy_2 : decode cX1_copy 2 = .ok (.getfield 25, 3) := by decide +kernel
theorem dX1_copy_5 : decode cX1_copy 5 = .ok (.putfield 25, 3) := by decide +kernel
theorem dX1_copy_8 : decode cX1_copy 8 = .ok (.aload_n 0, 1) := by decide +kernel
theorem dX1_copy_9 : decode cX1_copy 9 = .ok (.aload_n 1, 1) := by decide +kernel
theorem dX1_copy_10 : decode cX1_copy 10 = .ok (.getfield 29, 3) := by decide +kernel
theorem dX1_copy_13 : decode cX1_copy 13 = .ok (.putfield 29, 3) := by decide +kernel
theorem dX1_copy_16 : decode cX1_copy 16 = .ok (.iconst 0, 1) := by decide +kernel
theorem dX1_copy_17 : decode cX1_copy 17 = .ok (.istore_n 2, 1) := by decide +kernel
theorem dX1_copy_18 : decode cX1_copy 18 = .ok (.iload_n 2, 1) := by decide +kernel
theorem dX1_copy_19 : decode cX1_copy 19 = .ok (.aload_n 0, 1) := by decide +kernel
theorem dX1_copy_20 : decode cX1_copy 20 = .ok (.getfield 11, 3) := by decide +kernel
theorem dX1_copy_23 : decode cX1_copy 23 = .ok (.arraylength, 1) := by decide +kernel
theorem dX1_copy_24 : decode cX1_copy 24 = .ok (.if_icmp .ge 33, 3) := by decide +kernel
theorem dX1_copy_27 : decode cX1_copy 27 = .ok (.iload_n 2, 1) := by decide +kernel
theorem dX1_copy_28 : decode cX1_copy 28 = .ok (.aload_n 1, 1) := by decide +kernel
theorem dX1_copy_29 : decode cX1_copy 29 = .ok (.getfield 11, 3) := by decide +kernel
theorem dX1_copy_32 : decode cX1_copy 32 = .ok (.arraylength, 1) := by decide +kernel
theorem dX1_copy_33 : decode cX1_copy 33 = .ok (.if_icmp .ge 24, 3) := by decide +kernel
theorem dX1_copy_36 : decode cX1_copy 36 = .ok (.aload_n 0, 1) := by decide +kernel
theorem dX1_copy_37 : decode cX1_copy 37 = .ok (.getfield 11, 3) := by decide +kernel
theorem dX1_copy_40 : decode cX1_copy 40 = .ok (.iload_n 2, 1) := by decide +kernel
theorem dX1_copy_41 : decode cX1_copy 41 = .ok (.aaload, 1) := by decide +kernel
theorem dX1_copy_42 : decode cX1_copy 42 = .ok (.aload_n 1, 1) := by decide +kernel
theorem dX1_copy_43 : decode cX1_copy 43 = .ok (.getfield 11, 3) := by decide +kernel
theorem dX1_copy_46 : decode cX1_copy 46 = .ok (.iload_n 2, 1) := by decide +kernel
theorem dX1_copy_47 : decode cX1_copy 47 = .ok (.aaload, 1) := by decide +kernel
theorem dX1_copy_48 : decode cX1_copy 48 = .ok (.invokevirtual 63, 3) := by decide +kernel
theorem dX1_copy_51 : decode cX1_copy 51 = .ok (.iinc 2 1, 3) := by decide +kernel
theorem dX1_copy_54 : decode cX1_copy 54 = .ok (.goto (-36), 3) := by decide +kernel
theorem dX1_copy_57 : decode cX1_copy 57 = .ok (.iconst 0, 1) := by decide +kernel
theorem dX1_copy_58 : decode cX1_copy 58 = .ok (.istore_n 2, 1) := by decide +kernel
theorem dX1_copy_59 : decode cX1_copy 59 = .ok (.iload_n 2, 1) := by decide +kernel
theorem dX1_copy_60 : decode cX1_copy 60 = .ok (.aload_n 0, 1) := by decide +kernel
theorem dX1_copy_61 : decode cX1_copy 61 = .ok (.getfield 19, 3) := by decide +kernel
theorem dX1_copy_64 : decode cX1_copy 64 = .ok (.arraylength, 1) := by decide +kernel
theorem dX1_copy_65 : decode cX1_copy 65 = .ok (.if_icmp .ge 33, 3) := by decide +kernel
theorem dX1_copy_68 : decode cX1_copy 68 = .ok (.iload_n 2, 1) := by decide +kernel
theorem dX1_copy_69 : decode cX1_copy 69 = .ok (.aload_n 1, 1) := by decide +kernel
theorem dX1_copy_70 : decode cX1_copy 70 = .ok (.getfield 19, 3) := by decide +kernel
theorem dX1_copy_73 : decode cX1_copy 73 = .ok (.arraylength, 1) := by decide +kernel
theorem dX1_copy_74 : decode cX1_copy 74 = .ok (.if_icmp .ge 24, 3) := by decide +kernel
theorem dX1_copy_77 : decode cX1_copy 77 = .ok (.aload_n 0, 1) := by decide +kernel
theorem dX1_copy_78 : decode cX1_copy 78 = .ok (.getfield 19, 3) := by decide +kernel
theorem dX1_copy_81 : decode cX1_copy 81 = .ok (.iload_n 2, 1) := by decide +kernel
theorem dX1_copy_82 : decode cX1_copy 82 = .ok (.aaload, 1) := by decide +kernel
theorem dX1_copy_83 : decode cX1_copy 83 = .ok (.aload_n 1, 1) := by decide +kernel
theorem dX1_copy_84 : decode cX1_copy 84 = .ok (.getfield 19, 3) := by decide +kernel
theorem dX1_copy_87 : decode cX1_copy 87 = .ok (.iload_n 2, 1) := by decide +kernel
theorem dX1_copy_88 : decode cX1_copy 88 = .ok (.aaload, 1) := by decide +kernel
theorem dX1_copy_89 : decode cX1_copy 89 = .ok (.invokevirtual 67, 3) := by decide +kernel
theorem dX1_copy_92 : decode cX1_copy 92 = .ok (.iinc 2 1, 3) := by decide +kernel
theorem dX1_copy_95 : decode cX1_copy 95 = .ok (.goto (-36), 3) := by decide +kernel
theorem dX1_copy_98 : decode cX1_copy 98 = .ok (.aload_n 0, 1) := by decide +kernel
theorem dX1_copy_99 : decode cX1_copy 99 = .ok (.aload_n 1, 1) := by decide +kernel
theorem dX1_copy_100 : decode cX1_copy 100 = .ok (.getfield 48, 3) := by decide +kernel
theorem dX1_copy_103 : decode cX1_copy 103 = .ok (.putfield 48, 3) := by decide +kernel
theorem dX1_copy_106 : decode cX1_copy 106 = .ok (.aload_n 0, 1) := by decide +kernel
theorem dX1_copy_107 : decode cX1_copy 107 = .ok (.aload_n 1, 1) := by decide +kernel
theorem dX1_copy_108 : decode cX1_copy 108 = .ok (.getfield 51, 3) := by decide +kernel
theorem dX1_copy_111 : decode cX1_copy 111 = .ok (.putfield 51, 3) := by decide +kernel
theorem dX1_copy_114 : decode cX1_copy 114 = .ok (.aload_n 0, 1) := by decide +kernel
theorem dX1_copy_115 : decode cX1_copy 115 = .ok (.aload_n 1, 1) := by decide +kernel
theorem dX1_copy_116 : decode cX1_copy 116 = .ok (.getfield 54, 3) := by decide +kernel
theorem dX1_copy_119 : decode cX1_copy 119 = .ok (.putfield 54, 3) := by decide +kernel
theorem dX1_copy_122 : decode cX1_copy 122 = .ok (.aload_n 0, 1) := by decide +kernel
theorem dX1_copy_123 : decode cX1_copy 123 = .ok (.aload_n 1, 1) := by decide +kernel
theorem dX1_copy_124 : decode cX1_copy 124 = .ok (.getfield 57, 3) := by decide +kernel
theorem dX1_copy_127 : decode cX1_copy 127 = .ok (.putfield 57, 3) := by decide +kernel
theorem dX1_copy_130 : decode cX1_copy 130 = .ok (.aload_n 0, 1) := by decide +kernel
theorem dX1_copy_131 : decode cX1_copy 131 = .ok (.aload_n 1, 1) := by decide +kernel
theorem dX1_copy_132 : decode cX1_copy 132 = .ok (.getfield 60, 3) := by decide +kernel
theorem dX1_copy_135 : decode cX1_copy 135 = .ok (.putfield 60, 3) := by decide +kernel
theorem dX1_copy_138 : decode cX1_copy 138 = .ok (.return_, 1) := by decide +kernel
theorem dX1_startListening_0 : decode cX1_startListening 0 = .ok (.aload_n 0, 1) := by decide +kernel
theorem dX1_startListening_1 : decode cX1_startListening 1 = .ok (.iload_n 2, 1) := by decide +kernel
theorem dX1_startListening_2 : decode cX1_startListening 2 = .ok (.invokevirtual 70, 3) := by decide +kernel
theorem dX1_startListening_5 : decode cX1_startListening 5 = .ok (.astore_n 3, 1) := by decide +kernel
theorem dX1_startListening_6 : decode cX1_startListening 6 = .ok (.aload_n 3, 1) := by decide +kernel
theorem dX1_startListening_7 : decode cX1_startListening 7 = .ok (.ifnull 16, 3) := by decide +kernel
theorem dX1_startListening_10 : decode cX1_startListening 10 = .ok (.iload_n 1, 1) := by decide +kernel
theorem dX1_startListening_11 : decode cX1_startListening 11 = .ok (.iload_n 2, 1) := by decide +kernel
theorem dX1_startListening_12 : decode cX1_startListening 12 = .ok (.if_icmp .eq 11, 3) := by decide +kernel
theorem dX1_startListening_15 : decode cX1_startListening 15 = .ok (.aload_n 3, 1) := by decide +kernel
theorem dX1_startListening_16 : decode cX1_startListening 16 = .ok (.iload_n 1, 1) := by decide +kernel
theorem dX1_startListening_17 : decode cX1_startListening 17 = .ok (.invokevirtual 74, 3) := by decide +kernel
theorem dX1_startListening_20 : decode cX1_startListening 20 = .ok (.ifCond .lt 5, 3) := by decide +kernel
theorem dX1_startListening_23 : decode cX1_startListening 23 = .ok (.iconst 0, 1) := by decide +kernel
theorem dX1_startListening_24 : decode cX1_startListening 24 = .ok (.ireturn, 1) := by decide +kernel
theorem dX1_startListening_25 : decode cX1_startListening 25 = .ok (.aload_n 3, 1) := by decide +kernel
theorem dX1_startListening_26 : decode cX1_startListening 26 = .ok (.iload_n 1, 1) := by decide +kernel
theorem dX1_startListening_27 : decode cX1_startListening 27 = .ok (.invokevirtual 78, 3) := by decide +kernel
theorem dX1_startListening_30 : decode cX1_startListening 30 = .ok (.aload_n 0, 1) := by decide +kernel
theorem dX1_startListening_31 : decode cX1_startListening 31 = .ok (.iload_n 1, 1) := by decide +kernel
theorem dX1_startListening_32 : decode cX1_startListening 32 = .ok (.bipush 8, 2) := by decide +kernel
theorem dX1_startListening_34 : decode cX1_startListening 34 = .ok (.isub, 1) := by decide +kernel
theorem dX1_startListening_35 : decode cX1_startListening 35 = .ok (.invokevirtual 81, 3) := by decide +kernel
theorem dX1_startListening_38 : decode cX1_startListening 38 = .ok (.astore 4, 2) := by decide +kernel
theorem dX1_startListening_40 : decode cX1_startListening 40 = .ok (.aload 4, 2) := by decide +kernel
theorem dX1_startListening_42 : decode cX1_startListening 42 = .ok (.ifnull 9, 3) := by decide +kernel
theorem dX1_startListening_45 : decode cX1_startListening 45 = .ok (.aload 4, 2) := by decide +kernel
theorem dX1_startListening_47 : decode cX1_startListening 47 = .ok (.iconst 0, 1) := by decide +kernel
theorem dX1_startListening_48 : decode cX1_startListening 48 = .ok (.putfield 85, 3) := by decide +kernel
theorem dX1_startListening_51 : decode cX1_startListening 51 = .ok (.iconst 1, 1) := by decide +kernel
theorem dX1_startListening_52 : decode cX1_startListening 52 = .ok (.ireturn, 1) := by decide +kernel
theorem dX1_stopListening_0 : decode cX1_stopListening 0 = .ok (.aload_n 0, 1) := by decide +kernel
theorem dX1_stopListening_1 : decode cX1_stopListening 1 = .ok (.iload_n 2, 1) := by decide +kernel
theorem dX1_stopListening_2 : decode cX1_stopListening 2 = .ok (.invokevirtual 70, 3) := by decide +kernel
theorem dX1_stopListening_5 : decode cX1_stopListening 5 = .ok (.astore_n 3, 1) := by decide +kernel
theorem dX1_stopListening_6 : decode cX1_stopListening 6 = .ok (.aload_n 3, 1) := by decide +kernel
theorem dX1_stopListening_7 : decode cX1_stopListening 7 = .ok (.ifnull 11, 3) := by decide +kernel
theorem dX1_stopListening_10 : decode cX1_stopListening 10 = .ok (.aload_n 3, 1) := by decide +kernel
theorem dX1_stopListening_11 : decode cX1_stopListening 11 = .ok (.iload_n 1, 1) := by decide +kernel
theorem dX1_stopListening_12 : decode cX1_stopListening 12 = .ok (.invokevirtual 74, 3) := by decide +kernel
theorem dX1_stopListening_15 : decode cX1_stopListening 15 = .ok (.ifCond .ge 5, 3) := by decide +kernel
theorem dX1_stopListening_18 : decode cX1_stopListening 18 = .ok (.iconst 0, 1) := by decide +kernel
theorem dX1_stopListening_19 : decode cX1_stopListening 19 = .ok (.ireturn, 1) := by decide +kernel
theorem dX1_stopListening_20 : decode cX1_stopListening 20 = .ok (.aload_n 3, 1) := by decide +kernel
theorem dX1_stopListening_21 : decode cX1_stopListening 21 = .ok (.aload_n 3, 1) := by decide +kernel
theorem dX1_stopListening_22 : decode cX1_stopListening 22 = .ok (.iload_n 1, 1) := by decide +kernel
theorem dX1_stopListening_23 : decode cX1_stopListening 23 = .ok (.invokevirtual 74, 3) := by decide +kernel
theorem dX1_stopListening_26 : decode cX1_stopListening 26 = .ok (.invokevirtual 88, 3) := by decide +kernel
theorem dX1_stopListening_29 : decode cX1_stopListening 29 = .ok (.iconst 1, 1) := by decide +kernel
theorem dX1_stopListening_30 : decode cX1_stopListening 30 = .ok (.ireturn, 1) := by decide +kernel
theorem dX1_roseHears_0 : decode cX1_roseHears 0 = .ok (.aload_n 0, 1) := by decide +kernel
theorem dX1_roseHears_1 : decode cX1_roseHears 1 = .ok (.iload_n 1, 1) := by decide +kernel
theorem dX1_roseHears_2 : decode cX1_roseHears 2 = .ok (.bipush 8, 2) := by decide +kernel
theorem dX1_roseHears_4 : decode cX1_roseHears 4 = .ok (.isub, 1) := by decide +kernel
theorem dX1_roseHears_5 : decode cX1_roseHears 5 = .ok (.invokevirtual 81, 3) := by decide +kernel
theorem dX1_roseHears_8 : decode cX1_roseHears 8 = .ok (.astore 4, 2) := by decide +kernel
theorem dX1_roseHears_10 : decode cX1_roseHears 10 = .ok (.aload 4, 2) := by decide +kernel
theorem dX1_roseHears_12 : decode cX1_roseHears 12 = .ok (.ifnonnull 4, 3) := by decide +kernel
theorem dX1_roseHears_15 : decode cX1_roseHears 15 = .ok (.return_, 1) := by decide +kernel
theorem dX1_roseHears_16 : decode cX1_roseHears 16 = .ok (.aload 4, 2) := by decide +kernel
theorem dX1_roseHears_18 : decode cX1_roseHears 18 = .ok (.dup, 1) := by decide +kernel
theorem dX1_roseHears_19 : decode cX1_roseHears 19 = .ok (.getfield 91, 3) := by decide +kernel
theorem dX1_roseHears_22 : decode cX1_roseHears 22 = .ok (.iload_n 3, 1) := by decide +kernel
theorem dX1_roseHears_23 : decode cX1_roseHears 23 = .ok (.iadd, 1) := by decide +kernel
theorem dX1_roseHears_24 : decode cX1_roseHears 24 = .ok (.putfield 91, 3) := by decide +kernel
theorem dX1_roseHears_27 : decode cX1_roseHears 27 = .ok (.aload 4, 2) := by decide +kernel
theorem dX1_roseHears_29 : decode cX1_roseHears 29 = .ok (.dup, 1) := by decide +kernel
theorem dX1_roseHears_30 : decode cX1_roseHears 30 = .ok (.getfield 85, 3) := by decide +kernel
theorem dX1_roseHears_33 : decode cX1_roseHears 33 = .ok (.iconst 1, 1) := by decide +kernel
theorem dX1_roseHears_34 : decode cX1_roseHears 34 = .ok (.iadd, 1) := by decide +kernel
theorem dX1_roseHears_35 : decode cX1_roseHears 35 = .ok (.putfield 85, 3) := by decide +kernel
theorem dX1_roseHears_38 : decode cX1_roseHears 38 = .ok (.aload 4, 2) := by decide +kernel
theorem dX1_roseHears_40 : decode cX1_roseHears 40 = .ok (.getfield 85, 3) := by decide +kernel
theorem dX1_roseHears_43 : decode cX1_roseHears 43 = .ok (.aload 4, 2) := by decide +kernel
theorem dX1_roseHears_45 : decode cX1_roseHears 45 = .ok (.getfield 94, 3) := by decide +kernel
theorem dX1_roseHears_48 : decode cX1_roseHears 48 = .ok (.if_icmp .ne 37, 3) := by decide +kernel
theorem dX1_roseHears_51 : decode cX1_roseHears 51 = .ok (.aload_n 0, 1) := by decide +kernel
theorem dX1_roseHears_52 : decode cX1_roseHears 52 = .ok (.iload_n 1, 1) := by decide +kernel
theorem dX1_roseHears_53 : decode cX1_roseHears 53 = .ok (.iload_n 2, 1) := by decide +kernel
theorem dX1_roseHears_54 : decode cX1_roseHears 54 = .ok (.invokevirtual 97, 3) := by decide +kernel
theorem dX1_roseHears_57 : decode cX1_roseHears 57 = .ok (.pop, 1) := by decide +kernel
theorem dX1_roseHears_58 : decode cX1_roseHears 58 = .ok (.aload 4, 2) := by decide +kernel
theorem dX1_roseHears_60 : decode cX1_roseHears 60 = .ok (.iconst 0, 1) := by decide +kernel
theorem dX1_roseHears_61 : decode cX1_roseHears 61 = .ok (.putfield 85, 3) := by decide +kernel
theorem dX1_roseHears_64 : decode cX1_roseHears 64 = .ok (.aload 4, 2) := by decide +kernel
theorem dX1_roseHears_66 : decode cX1_roseHears 66 = .ok (.dup, 1) := by decide +kernel
theorem dX1_roseHears_67 : decode cX1_roseHears 67 = .ok (.getfield 101, 3) := by decide +kernel
theorem dX1_roseHears_70 : decode cX1_roseHears 70 = .ok (.iconst 1, 1) := by decide +kernel
theorem dX1_roseHears_71 : decode cX1_roseHears 71 = .ok (.iadd, 1) := by decide +kernel
theorem dX1_roseHears_72 : decode cX1_roseHears 72 = .ok (.putfield 101, 3) := by decide +kernel
theorem dX1_roseHears_75 : decode cX1_roseHears 75 = .ok (.aload_n 0, 1) := by decide +kernel
theorem dX1_roseHears_76 : decode cX1_roseHears 76 = .ok (.dup, 1) := by decide +kernel
theorem dX1_roseHears_77 : decode cX1_roseHears 77 = .ok (.getfield 60, 3) := by decide +kernel
theorem dX1_roseHears_80 : decode cX1_roseHears 80 = .ok (.iconst 1, 1) := by decide +kernel
theorem dX1_roseHears_81 : decode cX1_roseHears 81 = .ok (.iadd, 1) := by decide +kernel
theorem dX1_roseHears_82 : decode cX1_roseHears 82 = .ok (.putfield 60, 3) := by decide +kernel
theorem dX1_roseHears_85 : decode cX1_roseHears 85 = .ok (.return_, 1) := by decide +kernel
theorem dX1_endDay_0 : decode cX1_endDay 0 = .ok (.iconst 0, 1) := by decide +kernel
theorem dX1_endDay_1 : decode cX1_endDay 1 = .ok (.istore_n 1, 1) := by decide +kernel
theorem dX1_endDay_2 : decode cX1_endDay 2 = .ok (.iload_n 1, 1) := by decide +kernel
theorem dX1_endDay_3 : decode cX1_endDay 3 = .ok (.aload_n 0, 1) := by decide +kernel
theorem dX1_endDay_4 : decode cX1_endDay 4 = .ok (.getfield 19, 3) := by decide +kernel
theorem dX1_endDay_7 : decode cX1_endDay 7 = .ok (.arraylength, 1) := by decide +kernel
theorem dX1_endDay_8 : decode cX1_endDay 8 = .ok (.if_icmp .ge 36, 3) := by decide +kernel
theorem dX1_endDay_11 : decode cX1_endDay 11 = .ok (.aload_n 0, 1) := by decide +kernel
theorem dX1_endDay_12 : decode cX1_endDay 12 = .ok (.getfield 19, 3) := by decide +kernel
theorem dX1_endDay_15 : decode cX1_endDay 15 = .ok (.iload_n 1, 1) := by decide +kernel
theorem dX1_endDay_16 : decode cX1_endDay 16 = .ok (.aaload, 1) := by decide +kernel
theorem dX1_endDay_17 : decode cX1_endDay 17 = .ok (.getfield 91, 3) := by decide +kernel
theorem dX1_endDay_20 : decode cX1_endDay 20 = .ok (.ifCond .le 18, 3) := by decide +kernel
theorem dX1_endDay_23 : decode cX1_endDay 23 = .ok (.aload_n 0, 1) := by decide +kernel
theorem dX1_endDay_24 : decode cX1_endDay 24 = .ok (.getfield 19, 3) := by decide +kernel
theorem dX1_endDay_27 : decode cX1_endDay 27 = .ok (.iload_n 1, 1) := by decide +kernel
theorem dX1_endDay_28 : decode cX1_endDay 28 = .ok (.aaload, 1) := by decide +kernel
theorem dX1_endDay_29 : decode cX1_endDay 29 = .ok (.dup, 1) := by decide +kernel
theorem dX1_endDay_30 : decode cX1_endDay 30 = .ok (.getfield 91, 3) := by decide +kernel
theorem dX1_endDay_33 : decode cX1_endDay 33 = .ok (.iconst 1, 1) := by decide +kernel
theorem dX1_endDay_34 : decode cX1_endDay 34 = .ok (.isub, 1) := by decide +kernel
theorem dX1_endDay_35 : decode cX1_endDay 35 = .ok (.putfield 91, 3) := by decide +kernel
theorem dX1_endDay_38 : decode cX1_endDay 38 = .ok (.iinc 1 1, 3) := by decide +kernel
theorem dX1_endDay_41 : decode cX1_endDay 41 = .ok (.goto (-39), 3) := by decide +kernel
theorem dX1_endDay_44 : decode cX1_endDay 44 = .ok (.aload_n 0, 1) := by decide +kernel
theorem dX1_endDay_45 : decode cX1_endDay 45 = .ok (.dup, 1) := by decide +kernel
theorem dX1_endDay_46 : decode cX1_endDay 46 = .ok (.getfield 48, 3) := by decide +kernel
theorem dX1_endDay_49 : decode cX1_endDay 49 = .ok (.iconst 1, 1) := by decide +kernel
theorem dX1_endDay_50 : decode cX1_endDay 50 = .ok (.iadd, 1) := by decide +kernel
theorem dX1_endDay_51 : decode cX1_endDay 51 = .ok (.putfield 48, 3) := by decide +kernel
theorem dX1_endDay_54 : decode cX1_endDay 54 = .ok (.return_, 1) := by decide +kernel
theorem dX1_isInRow_0 : decode cX1_isInRow 0 = .ok (.aload_n 0, 1) := by decide +kernel
theorem dX1_isInRow_1 : decode cX1_isInRow 1 = .ok (.iload_n 2, 1) := by decide +kernel
theorem dX1_isInRow_2 : decode cX1_isInRow 2 = .ok (.invokevirtual 70, 3) := by decide +kernel
theorem dX1_isInRow_5 : decode cX1_isInRow 5 = .ok (.astore_n 3, 1) := by decide +kernel
theorem dX1_isInRow_6 : decode cX1_isInRow 6 = .ok (.aload_n 3, 1) := by decide +kernel
theorem dX1_isInRow_7 : decode cX1_isInRow 7 = .ok (.ifnull 15, 3) := by decide +kernel
theorem dX1_isInRow_10 : decode cX1_isInRow 10 = .ok (.aload_n 3, 1) := by decide +kernel
theorem dX1_isInRow_11 : decode cX1_isInRow 11 = .ok (.iload_n 1, 1) := by decide +kernel
theorem dX1_isInRow_12 : decode cX1_isInRow 12 = .ok (.invokevirtual 74, 3) := by decide +kernel
theorem dX1_isInRow_15 : decode cX1_isInRow 15 = .ok (.ifCond .lt 7, 3) := by decide +kernel
theorem dX1_isInRow_18 : decode cX1_isInRow 18 = .ok (.iconst 1, 1) := by decide +kernel
theorem dX1_isInRow_19 : decode cX1_isInRow 19 = .ok (.goto 4, 3) := by decide +kernel
theorem dX1_isInRow_22 : decode cX1_isInRow 22 = .ok (.iconst 0, 1) := by decide +kernel
theorem dX1_isInRow_23 : decode cX1_isInRow 23 = .ok (.ireturn, 1) := by decide +kernel
theorem dX1_rowsWith_0 : decode cX1_rowsWith 0 = .ok (.iconst 0, 1) := by decide +kernel
theorem dX1_rowsWith_1 : decode cX1_rowsWith 1 = .ok (.istore_n 2, 1) := by decide +kernel
theorem dX1_rowsWith_2 : decode cX1_rowsWith 2 = .ok (.iconst 0, 1) := by decide +kernel
theorem dX1_rowsWith_3 : decode cX1_rowsWith 3 = .ok (.istore_n 3, 1) := by decide +kernel
theorem dX1_rowsWith_4 : decode cX1_rowsWith 4 = .ok (.iload_n 3, 1) := by decide +kernel
theorem dX1_rowsWith_5 : decode cX1_rowsWith 5 = .ok (.aload_n 0, 1) := by decide +kernel
theorem dX1_rowsWith_6 : decode cX1_rowsWith 6 = .ok (.getfield 25, 3) := by decide +kernel
theorem dX1_rowsWith_9 : decode cX1_rowsWith 9 = .ok (.if_icmp .ge 21, 3) := by decide +kernel
theorem dX1_rowsWith_12 : decode cX1_rowsWith 12 = .ok (.aload_n 0, 1) := by decide +kernel
theorem dX1_rowsWith_13 : decode cX1_rowsWith 13 = .ok (.iload_n 1, 1) := by decide +kernel
theorem dX1_rowsWith_14 : decode cX1_rowsWith 14 = .ok (.iload_n 3, 1) := by decide +kernel
theorem dX1_rowsWith_15 : decode cX1_rowsWith 15 = .ok (.invokevirtual 102, 3) := by decide +kernel
theorem dX1_rowsWith_18 : decode cX1_rowsWith 18 = .ok (.ifCond .eq 6, 3) := by decide +kernel
theorem dX1_rowsWith_21 : decode cX1_rowsWith 21 = .ok (.iinc 2 1, 3) := by decide +kernel
theorem dX1_rowsWith_24 : decode cX1_rowsWith 24 = .ok (.iinc 3 1, 3) := by decide +kernel
theorem dX1_rowsWith_27 : decode cX1_rowsWith 27 = .ok (.goto (-23), 3) := by decide +kernel
theorem dX1_rowsWith_30 : decode cX1_rowsWith 30 = .ok (.iload_n 2, 1) := by decide +kernel
theorem dX1_rowsWith_31 : decode cX1_rowsWith 31 = .ok (.ireturn, 1) := by decide +kernel
theorem dX1_fullestRose_0 : decode cX1_fullestRose 0 = .ok (.iconst (-1), 1) := by decide +kernel
theorem dX1_fullestRose_1 : decode cX1_fullestRose 1 = .ok (.istore_n 1, 1) := by decide +kernel
theorem dX1_fullestRose_2 : decode cX1_fullestRose 2 = .ok (.iconst (-1), 1) := by decide +kernel
theorem dX1_fullestRose_3 : decode cX1_fullestRose 3 = .ok (.istore_n 2, 1) := by decide +kernel
theorem dX1_fullestRose_4 : decode cX1_fullestRose 4 = .ok (.iconst 0, 1) := by decide +kernel
theorem dX1_fullestRose_5 : decode cX1_fullestRose 5 = .ok (.istore_n 3, 1) := by decide +kernel
theorem dX1_fullestRose_6 : decode cX1_fullestRose 6 = .ok (.iload_n 3, 1) := by decide +kernel
theorem dX1_fullestRose_7 : decode cX1_fullestRose 7 = .ok (.aload_n 0, 1) := by decide +kernel
theorem dX1_fullestRose_8 : decode cX1_fullestRose 8 = .ok (.getfield 29, 3) := by decide +kernel
theorem dX1_fullestRose_11 : decode cX1_fullestRose 11 = .ok (.if_icmp .ge 26, 3) := by decide +kernel
theorem dX1_fullestRose_14 : decode cX1_fullestRose 14 = .ok (.aload_n 0, 1) := by decide +kernel
theorem dX1_fullestRose_15 : decode cX1_fullestRose 15 = .ok (.iload_n 3, 1) := by decide +kernel
theorem dX1_fullestRose_16 : decode cX1_fullestRose 16 = .ok (.invokevirtual 105, 3) := by decide +kernel
theorem dX1_fullestRose_19 : decode cX1_fullestRose 19 = .ok (.iload_n 2, 1) := by decide +kernel
theorem dX1_fullestRose_20 : decode cX1_fullestRose 20 = .ok (.if_icmp .le 11, 3) := by decide +kernel
theorem dX1_fullestRose_23 : decode cX1_fullestRose 23 = .ok (.iload_n 3, 1) := by decide +kernel
theorem dX1_fullestRose_24 : decode cX1_fullestRose 24 = .ok (.istore_n 1, 1) := by decide +kernel
theorem dX1_fullestRose_25 : decode cX1_fullestRose 25 = .ok (.aload_n 0, 1) := by decide +kernel
theorem dX1_fullestRose_26 : decode cX1_fullestRose 26 = .ok (.iload_n 3, 1) := by decide +kernel
theorem dX1_fullestRose_27 : decode cX1_fullestRose 27 = .ok (.invokevirtual 105, 3) := by decide +kernel
theorem dX1_fullestRose_30 : decode cX1_fullestRose 30 = .ok (.istore_n 2, 1) := by decide +kernel
theorem dX1_fullestRose_31 : decode cX1_fullestRose 31 = .ok (.iinc 3 1, 3) := by decide +kernel
theorem dX1_fullestRose_34 : decode cX1_fullestRose 34 = .ok (.goto (-28), 3) := by decide +kernel
theorem dX1_fullestRose_37 : decode cX1_fullestRose 37 = .ok (.iload_n 1, 1) := by decide +kernel
theorem dX1_fullestRose_38 : decode cX1_fullestRose 38 = .ok (.ireturn, 1) := by decide +kernel
theorem dX1_petalsInAll_0 : decode cX1_petalsInAll 0 = .ok (.lconst 0, 1) := by decide +kernel
theorem dX1_petalsInAll_1 : decode cX1_petalsInAll 1 = .ok (.lstore_n 1, 1) := by decide +kernel
theorem dX1_petalsInAll_2 : decode cX1_petalsInAll 2 = .ok (.iconst 0, 1) := by decide +kernel
theorem dX1_petalsInAll_3 : decode cX1_petalsInAll 3 = .ok (.istore_n 3, 1) := by decide +kernel
theorem dX1_petalsInAll_4 : decode cX1_petalsInAll 4 = .ok (.iload_n 3, 1) := by decide +kernel
theorem dX1_petalsInAll_5 : decode cX1_petalsInAll 5 = .ok (.aload_n 0, 1) := by decide +kernel
theorem dX1_petalsInAll_6 : decode cX1_petalsInAll 6 = .ok (.getfield 29, 3) := by decide +kernel
theorem dX1_petalsInAll_9 : decode cX1_petalsInAll 9 = .ok (.if_icmp .ge 18, 3) := by decide +kernel
theorem dX1_petalsInAll_12 : decode cX1_petalsInAll 12 = .ok (.lload_n 1, 1) := by decide +kernel
theorem dX1_petalsInAll_13 : decode cX1_petalsInAll 13 = .ok (.aload_n 0, 1) := by decide +kernel
theorem dX1_petalsInAll_14 : decode cX1_petalsInAll 14 = .ok (.iload_n 3, 1) := by decide +kernel
theorem dX1_petalsInAll_15 : decode cX1_petalsInAll 15 = .ok (.invokevirtual 105, 3) := by decide +kernel
theorem dX1_petalsInAll_18 : decode cX1_petalsInAll 18 = .ok (.i2l, 1) := by decide +kernel
theorem dX1_petalsInAll_19 : decode cX1_petalsInAll 19 = .ok (.ladd, 1) := by decide +kernel
theorem dX1_petalsInAll_20 : decode cX1_petalsInAll 20 = .ok (.lstore_n 1, 1) := by decide +kernel
theorem dX1_petalsInAll_21 : decode cX1_petalsInAll 21 = .ok (.iinc 3 1, 3) := by decide +kernel
theorem dX1_petalsInAll_24 : decode cX1_petalsInAll 24 = .ok (.goto (-20), 3) := by decide +kernel
theorem dX1_petalsInAll_27 : decode cX1_petalsInAll 27 = .ok (.lload_n 1, 1) := by decide +kernel
theorem dX1_petalsInAll_28 : decode cX1_petalsInAll 28 = .ok (.lreturn, 1) := by decide +kernel
theorem dX1_petalsAt_0 : decode cX1_petalsAt 0 = .ok (.aload_n 0, 1) := by decide +kernel
theorem dX1_petalsAt_1 : decode cX1_petalsAt 1 = .ok (.iload_n 1, 1) := by decide +kernel
theorem dX1_petalsAt_2 : decode cX1_petalsAt 2 = .ok (.invokevirtual 81, 3) := by decide +kernel
theorem dX1_petalsAt_5 : decode cX1_petalsAt 5 = .ok (.astore_n 2, 1) := by decide +kernel
theorem dX1_petalsAt_6 : decode cX1_petalsAt 6 = .ok (.aload_n 2, 1) := by decide +kernel
theorem dX1_petalsAt_7 : decode cX1_petalsAt 7 = .ok (.ifnonnull 7, 3) := by decide +kernel
theorem dX1_petalsAt_10 : decode cX1_petalsAt 10 = .ok (.iconst 0, 1) := by decide +kernel
theorem dX1_petalsAt_11 : decode cX1_petalsAt 11 = .ok (.goto 7, 3) := by decide +kernel
theorem dX1_petalsAt_14 : decode cX1_petalsAt 14 = .ok (.aload_n 2, 1) := by decide +kernel
theorem dX1_petalsAt_15 : decode cX1_petalsAt 15 = .ok (.getfield 91, 3) := by decide +kernel
theorem dX1_petalsAt_18 : decode cX1_petalsAt 18 = .ok (.ireturn, 1) := by decide +kernel
theorem dX1_departuresAt_0 : decode cX1_departuresAt 0 = .ok (.aload_n 0, 1) := by decide +kernel
theorem dX1_departuresAt_1 : decode cX1_departuresAt 1 = .ok (.iload_n 1, 1) := by decide +kernel
theorem dX1_departuresAt_2 : decode cX1_departuresAt 2 = .ok (.invokevirtual 81, 3) := by decide +kernel
theorem dX1_departuresAt_5 : decode cX1_departuresAt 5 = .ok (.astore_n 2, 1) := by decide +kernel
theorem dX1_departuresAt_6 : decode cX1_departuresAt 6 = .ok (.aload_n 2, 1) := by decide +kernel
theorem dX1_departuresAt_7 : decode cX1_departuresAt 7 = .ok (.ifnonnull 7, 3) := by decide +kernel
theorem dX1_departuresAt_10 : decode cX1_departuresAt 10 = .ok (.iconst 0, 1) := by decide +kernel
theorem dX1_departuresAt_11 : decode cX1_departuresAt 11 = .ok (.goto 7, 3) := by decide +kernel
theorem dX1_departuresAt_14 : decode cX1_departuresAt 14 = .ok (.aload_n 2, 1) := by decide +kernel
theorem dX1_departuresAt_15 : decode cX1_departuresAt 15 = .ok (.getfield 101, 3) := by decide +kernel
theorem dX1_departuresAt_18 : decode cX1_departuresAt 18 = .ok (.ireturn, 1) := by decide +kernel
theorem dX1_heardAt_0 : decode cX1_heardAt 0 = .ok (.aload_n 0, 1) := by decide +kernel
theorem dX1_heardAt_1 : decode cX1_heardAt 1 = .ok (.iload_n 1, 1) := by decide +kernel
theorem dX1_heardAt_2 : decode cX1_heardAt 2 = .ok (.invokevirtual 70, 3) := by decide +kernel
theorem dX1_heardAt_5 : decode cX1_heardAt 5 = .ok (.astore_n 2, 1) := by decide +kernel
theorem dX1_heardAt_6 : decode cX1_heardAt 6 = .ok (.aload_n 2, 1) := by decide +kernel
theorem dX1_heardAt_7 : decode cX1_heardAt 7 = .ok (.ifnonnull 7, 3) := by decide +kernel
theorem dX1_heardAt_10 : decode cX1_heardAt 10 = .ok (.iconst 0, 1) := by decide +kernel
theorem dX1_heardAt_11 : decode cX1_heardAt 11 = .ok (.goto 7, 3) := by decide +kernel
theorem dX1_heardAt_14 : decode cX1_heardAt 14 = .ok (.aload_n 2, 1) := by decide +kernel
theorem dX1_heardAt_15 : decode cX1_heardAt 15 = .ok (.getfield 108, 3) := by decide +kernel
theorem dX1_heardAt_18 : decode cX1_heardAt 18 = .ok (.ireturn, 1) := by decide +kernel
theorem dX1_latestAt_0 : decode cX1_latestAt 0 = .ok (.aload_n 0, 1) := by decide +kernel
theorem dX1_latestAt_1 : decode cX1_latestAt 1 = .ok (.iload_n 1, 1) := by decide +kernel
theorem dX1_latestAt_2 : decode cX1_latestAt 2 = .ok (.invokevirtual 70, 3) := by decide +kernel
theorem dX1_latestAt_5 : decode cX1_latestAt 5 = .ok (.astore_n 2, 1) := by decide +kernel
theorem dX1_latestAt_6 : decode cX1_latestAt 6 = .ok (.aload_n 2, 1) := by decide +kernel
theorem dX1_latestAt_7 : decode cX1_latestAt 7 = .ok (.ifnonnull 7, 3) := by decide +kernel
theorem dX1_latestAt_10 : decode cX1_latestAt 10 = .ok (.iconst 0, 1) := by decide +kernel
theorem dX1_latestAt_11 : decode cX1_latestAt 11 = .ok (.goto 7, 3) := by decide +kernel
theorem dX1_latestAt_14 : decode cX1_latestAt 14 = .ok (.aload_n 2, 1) := by decide +kernel
theorem dX1_latestAt_15 : decode cX1_latestAt 15 = .ok (.getfield 111, 3) := by decide +kernel
theorem dX1_latestAt_18 : decode cX1_latestAt 18 = .ok (.ireturn, 1) := by decide +kernel
theorem dX2_init_0 : decode cX2_init 0 = .ok (.aload_n 0, 1) := by decide +kernel
theorem dX2_init_1 : decode cX2_init 1 = .ok (.invokespecial 3, 3) := by decide +kernel
theorem dX2_init_4 : decode cX2_init 4 = .ok (.aload_n 0, 1) := by decide +kernel
theorem dX2_init_5 : decode cX2_init 5 = .ok (.sipush 400, 3) := by decide +kernel
theorem dX2_init_8 : decode cX2_init 8 = .ok (.newarray .int, 2) := by decide +kernel
theorem dX2_init_10 : decode cX2_init 10 = .ok (.putfield 9, 3) := by decide +kernel
theorem dX2_init_13 : decode cX2_init 13 = .ok (.aload_n 0, 1) := by decide +kernel
theorem dX2_init_14 : decode cX2_init 14 = .ok (.aload_n 1, 1) := by decide +kernel
theorem dX2_init_15 : decode cX2_init 15 = .ok (.putfield 15, 3) := by decide +kernel
theorem dX2_init_18 : decode cX2_init 18 = .ok (.return_, 1) := by decide +kernel
theorem dX2_letDayPass_0 : decode cX2_letDayPass 0 = .ok (.aload_n 0, 1) := by decide +kernel
theorem dX2_letDayPass_1 : decode cX2_letDayPass 1 = .ok (.iconst 0, 1) := by decide +kernel
theorem dX2_letDayPass_2 : decode cX2_letDayPass 2 = .ok (.putfield 19, 3) := by decide +kernel
theorem dX2_letDayPass_5 : decode cX2_letDayPass 5 = .ok (.iconst 0, 1) := by decide +kernel
theorem dX2_letDayPass_6 : decode cX2_letDayPass 6 = .ok (.istore_n 3, 1) := by decide +kernel
theorem dX2_letDayPass_7 : decode cX2_letDayPass 7 = .ok (.iload_n 3, 1) := by decide +kernel
theorem dX2_letDayPass_8 : decode cX2_letDayPass 8 = .ok (.aload_n 1, 1) := by decide +kernel
theorem dX2_letDayPass_9 : decode cX2_letDayPass 9 = .ok (.getfield 23, 3) := by decide +kernel
theorem dX2_letDayPass_12 : decode cX2_letDayPass 12 = .ok (.if_icmp .ge 39, 3) := by decide +kernel
theorem dX2_letDayPass_15 : decode cX2_letDayPass 15 = .ok (.iload_n 3, 1) := by decide +kernel
theorem dX2_letDayPass_16 : decode cX2_letDayPass 16 = .ok (.sipush 400, 3) := by decide +kernel
theorem dX2_letDayPass_19 : decode cX2_letDayPass 19 = .ok (.if_icmp .ge 32, 3) := by decide +kernel
theorem dX2_letDayPass_22 : decode cX2_letDayPass 22 = .ok (.aload_n 0, 1) := by decide +kernel
theorem dX2_letDayPass_23 : decode cX2_letDayPass 23 = .ok (.aload_n 2, 1) := by decide +kernel
theorem dX2_letDayPass_24 : decode cX2_letDayPass 24 = .ok (.aload_n 1, 1) := by decide +kernel
theorem dX2_letDayPass_25 : decode cX2_letDayPass 25 = .ok (.getfield 28, 3) := by decide +kernel
theorem dX2_letDayPass_28 : decode cX2_letDayPass 28 = .ok (.iload_n 3, 1) := by decide +kernel
theorem dX2_letDayPass_29 : decode cX2_letDayPass 29 = .ok (.aaload, 1) := by decide +kernel
theorem dX2_letDayPass_30 : decode cX2_letDayPass 30 = .ok (.aload_n 1, 1) := by decide +kernel
theorem dX2_letDayPass_31 : decode cX2_letDayPass 31 = .ok (.getfield 32, 3) := by decide +kernel
theorem dX2_letDayPass_34 : decode cX2_letDayPass 34 = .ok (.iload_n 3, 1) := by decide +kernel
theorem dX2_letDayPass_35 : decode cX2_letDayPass 35 = .ok (.iaload, 1) := by decide +kernel
theorem dX2_letDayPass_36 : decode cX2_letDayPass 36 = .ok (.aload_n 1, 1) := by decide +kernel
theorem dX2_letDayPass_37 : decode cX2_letDayPass 37 = .ok (.getfield 35, 3) := by decide +kernel
theorem dX2_letDayPass_40 : decode cX2_letDayPass 40 = .ok (.iload_n 3, 1) := by decide +kernel
theorem dX2_letDayPass_41 : decode cX2_letDayPass 41 = .ok (.iaload, 1) := by decide +kernel
theorem dX2_letDayPass_42 : decode cX2_letDayPass 42 = .ok (.invokevirtual 38, 3) := by decide +kernel
theorem dX2_letDayPass_45 : decode cX2_letDayPass 45 = .ok (.iinc 3 1, 3) := by decide +kernel
theorem dX2_letDayPass_48 : decode cX2_letDayPass 48 = .ok (.goto (-41), 3) := by decide +kernel
theorem dX2_letDayPass_51 : decode cX2_letDayPass 51 = .ok (.aload_n 2, 1) := by decide +kernel
theorem dX2_letDayPass_52 : decode cX2_letDayPass 52 = .ok (.invokevirtual 42, 3) := by decide +kernel
theorem dX2_letDayPass_55 : decode cX2_letDayPass 55 = .ok (.return_, 1) := by decide +kernel
theorem dX2_step_0 : decode cX2_step 0 = .ok (.getstatic 47, 3) := by decide +kernel
theorem dX2_step_3 : decode cX2_step 3 = .ok (.aload_n 2, 1) := by decide +kernel
theorem dX2_step_4 : decode cX2_step 4 = .ok (.invokevirtual 52, 3) := by decide +kernel
theorem dX2_step_7 : decode cX2_step 7 = .ok (.iaload, 1) := by decide +kernel
theorem dX2_step_8 : decode cX2_step 8 = .ok (.tableswitch 243 3 21 #[231, 231, 231, 209, 243, 180, 92, 108, 119, 130, 141, 153, 165, 243, 243, 243, 243, 100, 197], 92) := by decide +kernel
theorem dX2_step_100 : decode cX2_step 100 = .ok (.aload_n 0, 1) := by decide +kernel
theorem dX2_step_101 : decode cX2_step 101 = .ok (.iload_n 3, 1) := by decide +kernel
theorem dX2_step_102 : decode cX2_step 102 = .ok (.invokevirtual 58, 3) := by decide +kernel
theorem dX2_step_105 : decode cX2_step 105 = .ok (.goto 151, 3) := by decide +kernel
theorem dX2_step_108 : decode cX2_step 108 = .ok (.aload_n 0, 1) := by decide +kernel
theorem dX2_step_109 : decode cX2_step 109 = .ok (.iconst 1, 1) := by decide +kernel
theorem dX2_step_110 : decode cX2_step 110 = .ok (.invokevirtual 58, 3) := by decide +kernel
theorem dX2_step_113 : decode cX2_step 113 = .ok (.goto 143, 3) := by decide +kernel
theorem dX2_step_116 : decode cX2_step 116 = .ok (.aload_n 0, 1) := by decide +kernel
theorem dX2_step_117 : decode cX2_step 117 = .ok (.aload_n 1, 1) := by decide +kernel
theorem dX2_step_118 : decode cX2_step 118 = .ok (.getfield 62, 3) := by decide +kernel
theorem dX2_step_121 : decode cX2_step 121 = .ok (.invokevirtual 58, 3) := by decide +kernel
theorem dX2_step_124 : decode cX2_step 124 = .ok (.goto 132, 3) := by decide +kernel
theorem dX2_step_127 : decode cX2_step 127 = .ok (.aload_n 0, 1) := by decide +kernel
theorem dX2_step_128 : decode cX2_step 128 = .ok (.aload_n 1, 1) := by decide +kernel
theorem dX2_step_129 : decode cX2_step 129 = .ok (.getfield 65, 3) := by decide +kernel
theorem dX2_step_132 : decode cX2_step 132 = .ok (.invokevirtual 58, 3) := by decide +kernel
theorem dX2_step_135 : decode cX2_step 135 = .ok (.goto 121, 3) := by decide +kernel
theorem dX2_step_138 : decode cX2_step 138 = .ok (.aload_n 0, 1) := by decide +kernel
theorem dX2_step_139 : decode cX2_step 139 = .ok (.aload_n 1, 1) := by decide +kernel
theorem dX2_step_140 : decode cX2_step 140 = .ok (.getfield 68, 3) := by decide +kernel
theorem dX2_step_143 : decode cX2_step 143 = .ok (.invokevirtual 58, 3) := by decide +kernel
theorem dX2_step_146 : decode cX2_step 146 = .ok (.goto 110, 3) := by decide +kernel
theorem dX2_step_149 : decode cX2_step 149 = .ok (.aload_n 0, 1) := by decide +kernel
theorem dX2_step_150 : decode cX2_step 150 = .ok (.aload_n 1, 1) := by decide +kernel
theorem dX2_step_151 : decode cX2_step 151 = .ok (.iload_n 3, 1) := by decide +kernel
theorem dX2_step_152 : decode cX2_step 152 = .ok (.invokevirtual 71, 3) := by decide +kernel
theorem dX2_step_155 : decode cX2_step 155 = .ok (.invokevirtual 58, 3) := by decide +kernel
theorem dX2_step_158 : decode cX2_step 158 = .ok (.goto 98, 3) := by decide +kernel
theorem dX2_step_161 : decode cX2_step 161 = .ok (.aload_n 0, 1) := by decide +kernel
theorem dX2_step_162 : decode cX2_step 162 = .ok (.aload_n 1, 1) := by decide +kernel
theorem dX2_step_163 : decode cX2_step 163 = .ok (.iload_n 3, 1) := by decide +kernel
theorem dX2_step_164 : decode cX2_step 164 = .ok (.invokevirtual 75, 3) := by decide +kernel
theorem dX2_step_167 : decode cX2_step 167 = .ok (.invokevirtual 58, 3) := by decide +kernel
theorem dX2_step_170 : decode cX2_step 170 = .ok (.goto 86, 3) := by decide +kernel
theorem dX2_step_173 : decode cX2_step 173 = .ok (.aload_n 0, 1) := by decide +kernel
theorem dX2_step_174 : decode cX2_step 174 = .ok (.aload_n 1, 1) := by decide +kernel
theorem dX2_step_175 : decode cX2_step 175 = .ok (.iload_n 3, 1) := by decide +kernel
theorem dX2_step_176 : decode cX2_step 176 = .ok (.bipush 8, 2) := by decide +kernel
theorem dX2_step_178 : decode cX2_step 178 = .ok (.isub, 1) := by decide +kernel
theorem dX2_step_179 : decode cX2_step 179 = .ok (.invokevirtual 78, 3) := by decide +kernel
theorem dX2_step_182 : decode cX2_step 182 = .ok (.invokevirtual 58, 3) := by decide +kernel
theorem dX2_step_185 : decode cX2_step 185 = .ok (.goto 71, 3) := by decide +kernel
theorem dX2_step_188 : decode cX2_step 188 = .ok (.aload_n 0, 1) := by decide +kernel
theorem dX2_step_189 : decode cX2_step 189 = .ok (.aload_n 1, 1) := by decide +kernel
theorem dX2_step_190 : decode cX2_step 190 = .ok (.iload_n 3, 1) := by decide +kernel
theorem dX2_step_191 : decode cX2_step 191 = .ok (.iload 4, 2) := by decide +kernel
theorem dX2_step_193 : decode cX2_step 193 = .ok (.invokevirtual 81, 3) := by decide +kernel
theorem dX2_step_196 : decode cX2_step 196 = .ok (.invokestatic 85, 3) := by decide +kernel
theorem dX2_step_199 : decode cX2_step 199 = .ok (.invokevirtual 58, 3) := by decide +kernel
theorem dX2_step_202 : decode cX2_step 202 = .ok (.goto 54, 3) := by decide +kernel
theorem dX2_step_205 : decode cX2_step 205 = .ok (.aload_n 0, 1) := by decide +kernel
theorem dX2_step_206 : decode cX2_step 206 = .ok (.aload_n 0, 1) := by decide +kernel
theorem dX2_step_207 : decode cX2_step 207 = .ok (.invokevirtual 89, 3) := by decide +kernel
theorem dX2_step_210 : decode cX2_step 210 = .ok (.ineg, 1) := by decide +kernel
theorem dX2_step_211 : decode cX2_step 211 = .ok (.invokevirtual 58, 3) := by decide +kernel
theorem dX2_step_214 : decode cX2_step 214 = .ok (.goto 42, 3) := by decide +kernel
theorem dX2_step_217 : decode cX2_step 217 = .ok (.aload_n 0, 1) := by decide +kernel
theorem dX2_step_218 : decode cX2_step 218 = .ok (.aload_n 0, 1) := by decide +kernel
theorem dX2_step_219 : decode cX2_step 219 = .ok (.invokevirtual 89, 3) := by decide +kernel
theorem dX2_step_222 : decode cX2_step 222 = .ok (.ifCond .ne 7, 3) := by decide +kernel
theorem dX2_step_225 : decode cX2_step 225 = .ok (.iconst 1, 1) := by decide +kernel
theorem dX2_step_226 : decode cX2_step 226 = .ok (.goto 4, 3) := by decide +kernel
theorem dX2_step_229 : decode cX2_step 229 = .ok (.iconst 0, 1) := by decide +kernel
theorem dX2_step_230 : decode cX2_step 230 = .ok (.invokestatic 85, 3) := by decide +kernel
theorem dX2_step_233 : decode cX2_step 233 = .ok (.invokevirtual 58, 3) := by decide +kernel
theorem dX2_step_236 : decode cX2_step 236 = .ok (.goto 20, 3) := by decide +kernel
theorem dX2_step_239 : decode cX2_step 239 = .ok (.aload_n 0, 1) := by decide +kernel
theorem dX2_step_240 : decode cX2_step 240 = .ok (.aload_n 1, 1) := by decide +kernel
theorem dX2_step_241 : decode cX2_step 241 = .ok (.aload_n 2, 1) := by decide +kernel
theorem dX2_step_242 : decode cX2_step 242 = .ok (.iload_n 3, 1) := by decide +kernel
theorem dX2_step_243 : decode cX2_step 243 = .ok (.iload 4, 2) := by decide +kernel
theorem dX2_step_245 : decode cX2_step 245 = .ok (.invokevirtual 92, 3) := by decide +kernel
theorem dX2_step_248 : decode cX2_step 248 = .ok (.goto 8, 3) := by decide +kernel
theorem dX2_step_251 : decode cX2_step 251 = .ok (.aload_n 0, 1) := by decide +kernel
theorem dX2_step_252 : decode cX2_step 252 = .ok (.aload_n 2, 1) := by decide +kernel
theorem dX2_step_253 : decode cX2_step 253 = .ok (.invokevirtual 95, 3) := by decide +kernel
theorem dX2_step_256 : decode cX2_step 256 = .ok (.return_, 1) := by decide +kernel
theorem dX2_join_0 : decode cX2_join 0 = .ok (.aload_n 0, 1) := by decide +kernel
theorem dX2_join_1 : decode cX2_join 1 = .ok (.invokevirtual 89, 3) := by decide +kernel
theorem dX2_join_4 : decode cX2_join 4 = .ok (.istore_n 2, 1) := by decide +kernel
theorem dX2_join_5 : decode cX2_join 5 = .ok (.aload_n 0, 1) := by decide +kernel
theorem dX2_join_6 : decode cX2_join 6 = .ok (.invokevirtual 89, 3) := by decide +kernel
theorem dX2_join_9 : decode cX2_join 9 = .ok (.istore_n 3, 1) := by decide +kernel
theorem dX2_join_10 : decode cX2_join 10 = .ok (.aload_n 0, 1) := by decide +kernel
theorem dX2_join_11 : decode cX2_join 11 = .ok (.aload_n 1, 1) := by decide +kernel
theorem dX2_join_12 : decode cX2_join 12 = .ok (.iload_n 3, 1) := by decide +kernel
theorem dX2_join_13 : decode cX2_join 13 = .ok (.iload_n 2, 1) := by decide +kernel
theorem dX2_join_14 : decode cX2_join 14 = .ok (.invokestatic 99, 3) := by decide +kernel
theorem dX2_join_17 : decode cX2_join 17 = .ok (.invokevirtual 58, 3) := by decide +kernel
theorem dX2_join_20 : decode cX2_join 20 = .ok (.return_, 1) := by decide +kernel
theorem dX2_order_0 : decode cX2_order 0 = .ok (.aload_n 0, 1) := by decide +kernel
theorem dX2_order_1 : decode cX2_order 1 = .ok (.invokevirtual 89, 3) := by decide +kernel
theorem dX2_order_4 : decode cX2_order 4 = .ok (.ifCond .eq 7, 3) := by decide +kernel
theorem dX2_order_7 : decode cX2_order 7 = .ok (.iconst 1, 1) := by decide +kernel
theorem dX2_order_8 : decode cX2_order 8 = .ok (.goto 4, 3) := by decide +kernel
theorem dX2_order_11 : decode cX2_order 11 = .ok (.iconst 0, 1) := by decide +kernel
theorem dX2_order_12 : decode cX2_order 12 = .ok (.istore 5, 2) := by decide +kernel
theorem dX2_order_14 : decode cX2_order 14 = .ok (.aload_n 2, 1) := by decide +kernel
theorem dX2_order_15 : decode cX2_order 15 = .ok (.getstatic 103, 3) := by decide +kernel
theorem dX2_order_18 : decode cX2_order 18 = .ok (.if_acmp .ne 19, 3) := by decide +kernel
theorem dX2_order_21 : decode cX2_order 21 = .ok (.iconst 1, 1) := by decide +kernel
theorem dX2_order_22 : decode cX2_order 22 = .ok (.bipush 99, 2) := by decide +kernel
theorem dX2_order_24 : decode cX2_order 24 = .ok (.aload_n 0, 1) := by decide +kernel
theorem dX2_order_25 : decode cX2_order 25 = .ok (.invokevirtual 89, 3) := by decide +kernel
theorem dX2_order_28 : decode cX2_order 28 = .ok (.invokestatic 107, 3) := by decide +kernel
theorem dX2_order_31 : decode cX2_order 31 = .ok (.invokestatic 113, 3) := by decide +kernel
theorem dX2_order_34 : decode cX2_order 34 = .ok (.goto 4, 3) := by decide +kernel
theorem dX2_order_37 : decode cX2_order 37 = .ok (.iconst 0, 1) := by decide +kernel
theorem dX2_order_38 : decode cX2_order 38 = .ok (.istore 6, 2) := by decide +kernel
theorem dX2_order_40 : decode cX2_order 40 = .ok (.iload 5, 2) := by decide +kernel
theorem dX2_order_42 : decode cX2_order 42 = .ok (.ifCond .ne 4, 3) := by decide +kernel
theorem dX2_order_45 : decode cX2_order 45 = .ok (.return_, 1) := by decide +kernel
theorem dX2_order_46 : decode cX2_order 46 = .ok (.iconst 1, 1) := by decide +kernel
theorem dX2_order_47 : decode cX2_order 47 = .ok (.istore 7, 2) := by decide +kernel
theorem dX2_order_49 : decode cX2_order 49 = .ok (.aload_n 2, 1) := by decide +kernel
theorem dX2_order_50 : decode cX2_order 50 = .ok (.getstatic 116, 3) := by decide +kernel
theorem dX2_order_53 : decode cX2_order 53 = .ok (.if_acmp .ne 15, 3) := by decide +kernel
theorem dX2_order_56 : decode cX2_order 56 = .ok (.aload_n 1, 1) := by decide +kernel
theorem dX2_order_57 : decode cX2_order 57 = .ok (.iload_n 3, 1) := by decide +kernel
theorem dX2_order_58 : decode cX2_order 58 = .ok (.iload 4, 2) := by decide +kernel
theorem dX2_order_60 : decode cX2_order 60 = .ok (.invokevirtual 119, 3) := by decide +kernel
theorem dX2_order_63 : decode cX2_order 63 = .ok (.istore 7, 2) := by decide +kernel
theorem dX2_order_65 : decode cX2_order 65 = .ok (.goto 35, 3) := by decide +kernel
theorem dX2_order_68 : decode cX2_order 68 = .ok (.aload_n 2, 1) := by decide +kernel
theorem dX2_order_69 : decode cX2_order 69 = .ok (.getstatic 122, 3) := by decide +kernel
theorem dX2_order_72 : decode cX2_order 72 = .ok (.if_acmp .ne 15, 3) := by decide +kernel
theorem dX2_order_75 : decode cX2_order 75 = .ok (.aload_n 1, 1) := by decide +kernel
theorem dX2_order_76 : decode cX2_order 76 = .ok (.iload_n 3, 1) := by decide +kernel
theorem dX2_order_77 : decode cX2_order 77 = .ok (.iload 4, 2) := by decide +kernel
theorem dX2_order_79 : decode cX2_order 79 = .ok (.invokevirtual 125, 3) := by decide +kernel
theorem dX2_order_82 : decode cX2_order 82 = .ok (.istore 7, 2) := by decide +kernel
theorem dX2_order_84 : decode cX2_order 84 = .ok (.goto 16, 3) := by decide +kernel
theorem dX2_order_87 : decode cX2_order 87 = .ok (.aload_n 0, 1) := by decide +kernel
theorem dX2_order_88 : decode cX2_order 88 = .ok (.getfield 15, 3) := by decide +kernel
theorem dX2_order_91 : decode cX2_order 91 = .ok (.aload_n 1, 1) := by decide +kernel
theorem dX2_order_92 : decode cX2_order 92 = .ok (.iload 4, 2) := by decide +kernel
theorem dX2_order_94 : decode cX2_order 94 = .ok (.iload 6, 2) := by decide +kernel
theorem dX2_order_96 : decode cX2_order 96 = .ok (.invokevirtual 128, 3) := by decide +kernel
theorem dX2_order_99 : decode cX2_order 99 = .ok (.pop, 1) := by decide +kernel
theorem dX2_order_100 : decode cX2_order 100 = .ok (.iload 7, 2) := by decide +kernel
theorem dX2_order_102 : decode cX2_order 102 = .ok (.ifCond .eq 13, 3) := by decide +kernel
theorem dX2_order_105 : decode cX2_order 105 = .ok (.aload_n 1, 1) := by decide +kernel
theorem dX2_order_106 : decode cX2_order 106 = .ok (.dup, 1) := by decide +kernel
theorem dX2_order_107 : decode cX2_order 107 = .ok (.getfield 134, 3) := by decide +kernel
theorem dX2_order_110 : decode cX2_order 110 = .ok (.iconst 1, 1) := by decide +kernel
theorem dX2_order_111 : decode cX2_order 111 = .ok (.iadd, 1) := by decide +kernel
theorem dX2_order_112 : decode cX2_order 112 = .ok (.putfield 134, 3) := by decide +kernel
theorem dX2_order_115 : decode cX2_order 115 = .ok (.return_, 1) := by decide +kernel
theorem dX2_joined_0 : decode cX2_joined 0 = .ok (.getstatic 47, 3) := by decide +kernel
theorem dX2_joined_3 : decode cX2_joined 3 = .ok (.aload_n 0, 1) := by decide +kernel
theorem dX2_joined_4 : decode cX2_joined 4 = .ok (.invokevirtual 52, 3) := by decide +kernel
theorem dX2_joined_7 : decode cX2_joined 7 = .ok (.iaload, 1) := by decide +kernel
theorem dX2_joined_8 : decode cX2_joined 8 = .ok (.tableswitch 194 16 31 #[84, 194, 104, 110, 194, 194, 80, 88, 92, 116, 130, 144, 158, 172, 186, 190], 80) := by decide +kernel
theorem dX2_joined_88 : decode cX2_joined 88 = .ok (.iload_n 1, 1) := by decide +kernel
theorem dX2_joined_89 : decode cX2_joined 89 = .ok (.iload_n 2, 1) := by decide +kernel
theorem dX2_joined_90 : decode cX2_joined 90 = .ok (.iadd, 1) := by decide +kernel
theorem dX2_joined_91 : decode cX2_joined 91 = .ok (.ireturn, 1) := by decide +kernel
theorem dX2_joined_92 : decode cX2_joined 92 = .ok (.iload_n 1, 1) := by decide +kernel
theorem dX2_joined_93 : decode cX2_joined 93 = .ok (.iload_n 2, 1) := by decide +kernel
theorem dX2_joined_94 : decode cX2_joined 94 = .ok (.isub, 1) := by decide +kernel
theorem dX2_joined_95 : decode cX2_joined 95 = .ok (.ireturn, 1) := by decide +kernel
theorem dX2_joined_96 : decode cX2_joined 96 = .ok (.iload_n 1, 1) := by decide +kernel
theorem dX2_joined_97 : decode cX2_joined 97 = .ok (.iload_n 2, 1) := by decide +kernel
theorem dX2_joined_98 : decode cX2_joined 98 = .ok (.imul, 1) := by decide +kernel
theorem dX2_joined_99 : decode cX2_joined 99 = .ok (.ireturn, 1) := by decide +kernel
theorem dX2_joined_100 : decode cX2_joined 100 = .ok (.iload_n 2, 1) := by decide +kernel
theorem dX2_joined_101 : decode cX2_joined 101 = .ok (.ifCond .ne 7, 3) := by decide +kernel
theorem dX2_joined_104 : decode cX2_joined 104 = .ok (.iconst 0, 1) := by decide +kernel
theorem dX2_joined_105 : decode cX2_joined 105 = .ok (.goto 6, 3) := by decide +kernel
theorem dX2_joined_108 : decode cX2_joined 108 = .ok (.iload_n 1, 1) := by decide +kernel
theorem dX2_joined_109 : decode cX2_joined 109 = .ok (.iload_n 2, 1) := by decide +kernel
theorem dX2_joined_110 : decode cX2_joined 110 = .ok (.idiv, 1) := by decide +kernel
theorem dX2_joined_111 : decode cX2_joined 111 = .ok (.ireturn, 1) := by decide +kernel
theorem dX2_joined_112 : decode cX2_joined 112 = .ok (.iload_n 1, 1) := by decide +kernel
theorem dX2_joined_113 : decode cX2_joined 113 = .ok (.iload_n 2, 1) := by decide +kernel
theorem dX2_joined_114 : decode cX2_joined 114 = .ok (.invokestatic 107, 3) := by decide +kernel
theorem dX2_joined_117 : decode cX2_joined 117 = .ok (.ireturn, 1) := by decide +kernel
theorem dX2_joined_118 : decode cX2_joined 118 = .ok (.iload_n 1, 1) := by decide +kernel
theorem dX2_joined_119 : decode cX2_joined 119 = .ok (.iload_n 2, 1) := by decide +kernel
theorem dX2_joined_120 : decode cX2_joined 120 = .ok (.invokestatic 113, 3) := by decide +kernel
theorem dX2_joined_123 : decode cX2_joined 123 = .ok (.ireturn, 1) := by decide +kernel
theorem dX2_joined_124 : decode cX2_joined 124 = .ok (.iload_n 1, 1) := by decide +kernel
theorem dX2_joined_125 : decode cX2_joined 125 = .ok (.iload_n 2, 1) := by decide +kernel
theorem dX2_joined_126 : decode cX2_joined 126 = .ok (.if_icmp .ge 7, 3) := by decide +kernel
theorem dX2_joined_129 : decode cX2_joined 129 = .ok (.iconst 1, 1) := by decide +kernel
theorem dX2_joined_130 : decode cX2_joined 130 = .ok (.goto 4, 3) := by decide +kernel
theorem dX2_joined_133 : decode cX2_joined 133 = .ok (.iconst 0, 1) := by decide +kernel
theorem dX2_joined_134 : decode cX2_joined 134 = .ok (.invokestatic 85, 3) := by decide +kernel
theorem dX2_joined_137 : decode cX2_joined 137 = .ok (.ireturn, 1) := by decide +kernel
theorem dX2_joined_138 : decode cX2_joined 138 = .ok (.iload_n 1, 1) := by decide +kernel
theorem dX2_joined_139 : decode cX2_joined 139 = .ok (.iload_n 2, 1) := by decide +kernel
theorem dX2_joined_140 : decode cX2_joined 140 = .ok (.if_icmp .le 7, 3) := by decide +kernel
theorem dX2_joined_143 : decode cX2_joined 143 = .ok (.iconst 1, 1) := by decide +kernel
theorem dX2_joined_144 : decode cX2_joined 144 = .ok (.goto 4, 3) := by decide +kernel
theorem dX2_joined_147 : decode cX2_joined 147 = .ok (.iconst 0, 1) := by decide +kernel
theorem dX2_joined_148 : decode cX2_joined 148 = .ok (.invokestatic 85, 3) := by decide +kernel
theorem dX2_joined_151 : decode cX2_joined 151 = .ok (.ireturn, 1) := by decide +kernel
theorem dX2_joined_152 : decode cX2_joined 152 = .ok (.iload_n 1, 1) := by decide +kernel
theorem dX2_joined_153 : decode cX2_joined 153 = .ok (.iload_n 2, 1) := by decide +kernel
theorem dX2_joined_154 : decode cX2_joined 154 = .ok (.if_icmp .ne 7, 3) := by decide +kernel
theorem dX2_joined_157 : decode cX2_joined 157 = .ok (.iconst 1, 1) := by decide +kernel
theorem dX2_joined_158 : decode cX2_joined 158 = .ok (.goto 4, 3) := by decide +kernel
theorem dX2_joined_161 : decode cX2_joined 161 = .ok (.iconst 0, 1) := by decide +kernel
theorem dX2_joined_162 : decode cX2_joined 162 = .ok (.invokestatic 85, 3) := by decide +kernel
theorem dX2_joined_165 : decode cX2_joined 165 = .ok (.ireturn, 1) := by decide +kernel
theorem dX2_joined_166 : decode cX2_joined 166 = .ok (.iload_n 1, 1) := by decide +kernel
theorem dX2_joined_167 : decode cX2_joined 167 = .ok (.iload_n 2, 1) := by decide +kernel
theorem dX2_joined_168 : decode cX2_joined 168 = .ok (.if_icmp .gt 7, 3) := by decide +kernel
theorem dX2_joined_171 : decode cX2_joined 171 = .ok (.iconst 1, 1) := by decide +kernel
theorem dX2_joined_172 : decode cX2_joined 172 = .ok (.goto 4, 3) := by decide +kernel
theorem dX2_joined_175 : decode cX2_joined 175 = .ok (.iconst 0, 1) := by decide +kernel
theorem dX2_joined_176 : decode cX2_joined 176 = .ok (.invokestatic 85, 3) := by decide +kernel
theorem dX2_joined_179 : decode cX2_joined 179 = .ok (.ireturn, 1) := by decide +kernel
theorem dX2_joined_180 : decode cX2_joined 180 = .ok (.iload_n 1, 1) := by decide +kernel
theorem dX2_joined_181 : decode cX2_joined 181 = .ok (.iload_n 2, 1) := by decide +kernel
theorem dX2_joined_182 : decode cX2_joined 182 = .ok (.if_icmp .lt 7, 3) := by decide +kernel
theorem dX2_joined_185 : decode cX2_joined 185 = .ok (.iconst 1, 1) := by decide +kernel
theorem dX2_joined_186 : decode cX2_joined 186 = .ok (.goto 4, 3) := by decide +kernel
theorem dX2_joined_189 : decode cX2_joined 189 = .ok (.iconst 0, 1) := by decide +kernel
theorem dX2_joined_190 : decode cX2_joined 190 = .ok (.invokestatic 85, 3) := by decide +kernel
theorem dX2_joined_193 : decode cX2_joined 193 = .ok (.ireturn, 1) := by decide +kernel
theorem dX2_joined_194 : decode cX2_joined 194 = .ok (.iload_n 1, 1) := by decide +kernel
theorem dX2_joined_195 : decode cX2_joined 195 = .ok (.iload_n 2, 1) := by decide +kernel
theorem dX2_joined_196 : decode cX2_joined 196 = .ok (.iand, 1) := by decide +kernel
theorem dX2_joined_197 : decode cX2_joined 197 = .ok (.ireturn, 1) := by decide +kernel
theorem dX2_joined_198 : decode cX2_joined 198 = .ok (.iload_n 1, 1) := by decide +kernel
theorem dX2_joined_199 : decode cX2_joined 199 = .ok (.iload_n 2, 1) := by decide +kernel
theorem dX2_joined_200 : decode cX2_joined 200 = .ok (.ior, 1) := by decide +kernel
theorem dX2_joined_201 : decode cX2_joined 201 = .ok (.ireturn, 1) := by decide +kernel
theorem dX2_joined_202 : decode cX2_joined 202 = .ok (.iconst 0, 1) := by decide +kernel
theorem dX2_joined_203 : decode cX2_joined 203 = .ok (.ireturn, 1) := by decide +kernel
theorem dX2_oneIf_0 : decode cX2_oneIf 0 = .ok (.iload_n 0, 1) := by decide +kernel
theorem dX2_oneIf_1 : decode cX2_oneIf 1 = .ok (.ifCond .eq 7, 3) := by decide +kernel
theorem dX2_oneIf_4 : decode cX2_oneIf 4 = .ok (.iconst 1, 1) := by decide +kernel
theorem dX2_oneIf_5 : decode cX2_oneIf 5 = .ok (.goto 4, 3) := by decide +kernel
theorem dX2_oneIf_8 : decode cX2_oneIf 8 = .ok (.iconst 0, 1) := by decide +kernel
theorem dX2_oneIf_9 : decode cX2_oneIf 9 = .ok (.ireturn, 1) := by decide +kernel
theorem dX2_push_0 : decode cX2_push 0 = .ok (.aload_n 0, 1) := by decide +kernel
theorem dX2_push_1 : decode cX2_push 1 = .ok (.getfield 19, 3) := by decide +kernel
theorem dX2_push_4 : decode cX2_push 4 = .ok (.ifCond .lt 35, 3) := by decide +kernel
theorem dX2_push_7 : decode cX2_push 7 = .ok (.aload_n 0, 1) := by decide +kernel
theorem dX2_push_8 : decode cX2_push 8 = .ok (.getfield 19, 3) := by decide +kernel
theorem dX2_push_11 : decode cX2_push 11 = .ok (.aload_n 0, 1) := by decide +kernel
theorem dX2_push_12 : decode cX2_push 12 = .ok (.getfield 9, 3) := by decide +kernel
theorem dX2_push_15 : decode cX2_push 15 = .ok (.arraylength, 1) := by decide +kernel
theorem dX2_push_16 : decode cX2_push 16 = .ok (.if_icmp .ge 23, 3) := by decide +kernel
theorem dX2_push_19 : decode cX2_push 19 = .ok (.aload_n 0, 1) := by decide +kernel
theorem dX2_push_20 : decode cX2_push 20 = .ok (.getfield 9, 3) := by decide +kernel
theorem dX2_push_23 : decode cX2_push 23 = .ok (.aload_n 0, 1) := by decide +kernel
theorem dX2_push_24 : decode cX2_push 24 = .ok (.getfield 19, 3) := by decide +kernel
theorem dX2_push_27 : decode cX2_push 27 = .ok (.iload_n 1, 1) := by decide +kernel
theorem dX2_push_28 : decode cX2_push 28 = .ok (.iastore, 1) := by decide +kernel
theorem dX2_push_29 : decode cX2_push 29 = .ok (.aload_n 0, 1) := by decide +kernel
theorem dX2_push_30 : decode cX2_push 30 = .ok (.dup, 1) := by decide +kernel
theorem dX2_push_31 : decode cX2_push 31 = .ok (.getfield 19, 3) := by decide +kernel
theorem dX2_push_34 : decode cX2_push 34 = .ok (.iconst 1, 1) := by decide +kernel
theorem dX2_push_35 : decode cX2_push 35 = .ok (.iadd, 1) := by decide +kernel
theorem dX2_push_36 : decode cX2_push 36 = .ok (.putfield 19, 3) := by decide +kernel
theorem dX2_push_39 : decode cX2_push 39 = .ok (.return_, 1) := by decide +kernel
theorem dX2_pop_0 : decode cX2_pop 0 = .ok (.aload_n 0, 1) := by decide +kernel
theorem dX2_pop_1 : decode cX2_pop 1 = .ok (.getfield 19, 3) := by decide +kernel
theorem dX2_pop_4 : decode cX2_pop 4 = .ok (.ifCond .le 15, 3) := by decide +kernel
theorem dX2_pop_7 : decode cX2_pop 7 = .ok (.aload_n 0, 1) := by decide +kernel
theorem dX2_pop_8 : decode cX2_pop 8 = .ok (.getfield 19, 3) := by decide +kernel
theorem dX2_pop_11 : decode cX2_pop 11 = .ok (.aload_n 0, 1) := by decide +kernel
theorem dX2_pop_12 : decode cX2_pop 12 = .ok (.getfield 9, 3) := by decide +kernel
theorem dX2_pop_15 : decode cX2_pop 15 = .ok (.arraylength, 1) := by decide +kernel
theorem dX2_pop_16 : decode cX2_pop 16 = .ok (.if_icmp .le 5, 3) := by decide +kernel
theorem dX2_pop_19 : decode cX2_pop 19 = .ok (.iconst 0, 1) := by decide +kernel
theorem dX2_pop_20 : decode cX2_pop 20 = .ok (.ireturn, 1) := by decide +kernel
theorem dX2_pop_21 : decode cX2_pop 21 = .ok (.aload_n 0, 1) := by decide +kernel
theorem dX2_pop_22 : decode cX2_pop 22 = .ok (.dup, 1) := by decide +kernel
theorem dX2_pop_23 : decode cX2_pop 23 = .ok (.getfield 19, 3) := by decide +kernel
theorem dX2_pop_26 : decode cX2_pop 26 = .ok (.iconst 1, 1) := by decide +kernel
theorem dX2_pop_27 : decode cX2_pop 27 = .ok (.isub, 1) := by decide +kernel
theorem dX2_pop_28 : decode cX2_pop 28 = .ok (.putfield 19, 3) := by decide +kernel
theorem dX2_pop_31 : decode cX2_pop 31 = .ok (.aload_n 0, 1) := by decide +kernel
theorem dX2_pop_32 : decode cX2_pop 32 = .ok (.getfield 9, 3) := by decide +kernel
theorem dX2_pop_35 : decode cX2_pop 35 = .ok (.aload_n 0, 1) := by decide +kernel
theorem dX2_pop_36 : decode cX2_pop 36 = .ok (.getfield 19, 3) := by decide +kernel
theorem dX2_pop_39 : decode cX2_pop 39 = .ok (.iaload, 1) := by decide +kernel
theorem dX2_pop_40 : decode cX2_pop 40 = .ok (.ireturn, 1) := by decide +kernel
theorem dX3_init_0 : decode cX3_init 0 = .ok (.aload_n 0, 1) := by decide +kernel
theorem dX3_init_1 : decode cX3_init 1 = .ok (.invokespecial 3, 3) := by decide +kernel
theorem dX3_init_4 : decode cX3_init 4 = .ok (.aload_n 0, 1) := by decide +kernel
theorem dX3_init_5 : decode cX3_init 5 = .ok (.bipush 16, 2) := by decide +kernel
theorem dX3_init_7 : decode cX3_init 7 = .ok (.newarray .int, 2) := by decide +kernel
theorem dX3_init_9 : decode cX3_init 9 = .ok (.putfield 9, 3) := by decide +kernel
theorem dX3_init_12 : decode cX3_init 12 = .ok (.return_, 1) := by decide +kernel
theorem dX3_begin_0 : decode cX3_begin 0 = .ok (.aload_n 0, 1) := by decide +kernel
theorem dX3_begin_1 : decode cX3_begin 1 = .ok (.iload_n 1, 1) := by decide +kernel
theorem dX3_begin_2 : decode cX3_begin 2 = .ok (.putfield 15, 3) := by decide +kernel
theorem dX3_begin_5 : decode cX3_begin 5 = .ok (.aload_n 0, 1) := by decide +kernel
theorem dX3_begin_6 : decode cX3_begin 6 = .ok (.iconst 0, 1) := by decide +kernel
theorem dX3_begin_7 : decode cX3_begin 7 = .ok (.putfield 19, 3) := by decide +kernel
theorem dX3_begin_10 : decode cX3_begin 10 = .ok (.aload_n 0, 1) := by decide +kernel
theorem dX3_begin_11 : decode cX3_begin 11 = .ok (.iconst 0, 1) := by decide +kernel
theorem dX3_begin_12 : decode cX3_begin 12 = .ok (.putfield 22, 3) := by decide +kernel
theorem dX3_begin_15 : decode cX3_begin 15 = .ok (.aload_n 0, 1) := by decide +kernel
theorem dX3_begin_16 : decode cX3_begin 16 = .ok (.iconst 0, 1) := by decide +kernel
theorem dX3_begin_17 : decode cX3_begin 17 = .ok (.putfield 25, 3) := by decide +kernel
theorem dX3_begin_20 : decode cX3_begin 20 = .ok (.return_, 1) := by decide +kernel
theorem dX3_copy_0 : decode cX3_copy 0 = .ok (.aload_n 0, 1) := by decide +kernel
theorem dX3_copy_1 : decode cX3_copy 1 = .ok (.aload_n 1, 1) := by decide +kernel
theorem dX3_copy_2 : decode cX3_copy 2 = .ok (.getfield 15, 3) := by decide +kernel
theorem dX3_copy_5 : decode cX3_copy 5 = .ok (.putfield 15, 3) := by decide +kernel
theorem dX3_copy_8 : decode cX3_copy 8 = .ok (.aload_n 0, 1) := by decide +kernel
theorem dX3_copy_9 : decode cX3_copy 9 = .ok (.aload_n 1, 1) := by decide +kernel
theorem dX3_copy_10 : decode cX3_copy 10 = .ok (.getfield 19, 3) := by decide +kernel
theorem dX3_copy_13 : decode cX3_copy 13 = .ok (.putfield 19, 3) := by decide +kernel
theorem dX3_copy_16 : decode cX3_copy 16 = .ok (.aload_n 0, 1) := by decide +kernel
theorem dX3_copy_17 : decode cX3_copy 17 = .ok (.aload_n 1, 1) := by decide +kernel
theorem dX3_copy_18 : decode cX3_copy 18 = .ok (.getfield 22, 3) := by decide +kernel
theorem dX3_copy_21 : decode cX3_copy 21 = .ok (.putfield 22, 3) := by decide +kernel
theorem dX3_copy_24 : decode cX3_copy 24 = .ok (.aload_n 0, 1) := by decide +kernel
theorem dX3_copy_25 : decode cX3_copy 25 = .ok (.aload_n 1, 1) := by decide +kernel
theorem dX3_copy_26 : decode cX3_copy 26 = .ok (.getfield 25, 3) := by decide +kernel
theorem dX3_copy_29 : decode cX3_copy 29 = .ok (.putfield 25, 3) := by decide +kernel
theorem dX3_copy_32 : decode cX3_copy 32 = .ok (.iconst 0, 1) := by decide +kernel
theorem dX3_copy_33 : decode cX3_copy 33 = .ok (.istore_n 2, 1) := by decide +kernel
theorem dX3_copy_34 : decode cX3_copy 34 = .ok (.iload_n 2, 1) := by decide +kernel
theorem dX3_copy_35 : decode cX3_copy 35 = .ok (.aload_n 0, 1) := by decide +kernel
theorem dX3_copy_36 : decode cX3_copy 36 = .ok (.getfield 9, 3) := by decide +kernel
theorem dX3_copy_39 : decode cX3_copy 39 = .ok (.arraylength, 1) := by decide +kernel
theorem dX3_copy_40 : decode cX3_copy 40 = .ok (.if_icmp .ge 30, 3) := by decide +kernel
theorem dX3_copy_43 : decode cX3_copy 43 = .ok (.iload_n 2, 1) := by decide +kernel
theorem dX3_copy_44 : decode cX3_copy 44 = .ok (.aload_n 1, 1) := by decide +kernel
theorem dX3_copy_45 : decode cX3_copy 45 = .ok (.getfield 9, 3) := by decide +kernel
theorem dX3_copy_48 : decode cX3_copy 48 = .ok (.arraylength, 1) := by decide +kernel
theorem dX3_copy_49 : decode cX3_copy 49 = .ok (.if_icmp .ge 21, 3) := by decide +kernel
theorem dX3_copy_52 : decode cX3_copy 52 = .ok (.aload_n 0, 1) := by decide +kernel
theorem dX3_copy_53 : decode cX3_copy 53 = .ok (.getfield 9, 3) := by decide +kernel
theorem dX3_copy_56 : decode cX3_copy 56 = .ok (.iload_n 2, 1) := by decide +kernel
theorem dX3_copy_57 : decode cX3_copy 57 = .ok (.aload_n 1, 1) := by decide +kernel
theorem dX3_copy_58 : decode cX3_copy 58 = .ok (.getfield 9, 3) := by decide +kernel
theorem dX3_copy_61 : decode cX3_copy 61 = .ok (.iload_n 2, 1) := by decide +kernel
theorem dX3_copy_62 : decode cX3_copy 62 = .ok (.iaload, 1) := by decide +kernel
theorem dX3_copy_63 : decode cX3_copy 63 = .ok (.iastore, 1) := by decide +kernel
theorem dX3_copy_64 : decode cX3_copy 64 = .ok (.iinc 2 1, 3) := by decide +kernel
theorem dX3_copy_67 : decode cX3_copy 67 = .ok (.goto (-33), 3) := by decide +kernel
theorem dX3_copy_70 : decode cX3_copy 70 = .ok (.return_, 1) := by decide +kernel
theorem dX3_listenerAt_0 : decode cX3_listenerAt 0 = .ok (.iload_n 1, 1) := by decide +kernel
theorem dX3_listenerAt_1 : decode cX3_listenerAt 1 = .ok (.ifCond .lt 12, 3) := by decide +kernel
theorem dX3_listenerAt_4 : decode cX3_listenerAt 4 = .ok (.iload_n 1, 1) := by decide +kernel
theorem dX3_listenerAt_5 : decode cX3_listenerAt 5 = .ok (.aload_n 0, 1) := by decide +kernel
theorem dX3_listenerAt_6 : decode cX3_listenerAt 6 = .ok (.getfield 9, 3) := by decide +kernel
theorem dX3_listenerAt_9 : decode cX3_listenerAt 9 = .ok (.arraylength, 1) := by decide +kernel
theorem dX3_listenerAt_10 : decode cX3_listenerAt 10 = .ok (.if_icmp .lt 7, 3) := by decide +kernel
theorem dX3_listenerAt_13 : decode cX3_listenerAt 13 = .ok (.iconst (-1), 1) := by decide +kernel
theorem dX3_listenerAt_14 : decode cX3_listenerAt 14 = .ok (.goto 9, 3) := by decide +kernel
theorem dX3_listenerAt_17 : decode cX3_listenerAt 17 = .ok (.aload_n 0, 1) := by decide +kernel
theorem dX3_listenerAt_18 : decode cX3_listenerAt 18 = .ok (.getfield 9, 3) := by decide +kernel
theorem dX3_listenerAt_21 : decode cX3_listenerAt 21 = .ok (.iload_n 1, 1) := by decide +kernel
theorem dX3_listenerAt_22 : decode cX3_listenerAt 22 = .ok (.iaload, 1) := by decide +kernel
theorem dX3_listenerAt_23 : decode cX3_listenerAt 23 = .ok (.ireturn, 1) := by decide +kernel
theorem dX3_placeOf_0 : decode cX3_placeOf 0 = .ok (.iconst 0, 1) := by decide +kernel
theorem dX3_placeOf_1 : decode cX3_placeOf 1 = .ok (.istore_n 2, 1) := by decide +kernel
theorem dX3_placeOf_2 : decode cX3_placeOf 2 = .ok (.iload_n 2, 1) := by decide +kernel
theorem dX3_placeOf_3 : decode cX3_placeOf 3 = .ok (.aload_n 0, 1) := by decide +kernel
theorem dX3_placeOf_4 : decode cX3_placeOf 4 = .ok (.getfield 25, 3) := by decide +kernel
theorem dX3_placeOf_7 : decode cX3_placeOf 7 = .ok (.if_icmp .ge 30, 3) := by decide +kernel
theorem dX3_placeOf_10 : decode cX3_placeOf 10 = .ok (.iload_n 2, 1) := by decide +kernel
theorem dX3_placeOf_11 : decode cX3_placeOf 11 = .ok (.aload_n 0, 1) := by decide +kernel
theorem dX3_placeOf_12 : decode cX3_placeOf 12 = .ok (.getfield 9, 3) := by decide +kernel
theorem dX3_placeOf_15 : decode cX3_placeOf 15 = .ok (.arraylength, 1) := by decide +kernel
theorem dX3_placeOf_16 : decode cX3_placeOf 16 = .ok (.if_icmp .ge 21, 3) := by decide +kernel
theorem dX3_placeOf_19 : decode cX3_placeOf 19 = .ok (.aload_n 0, 1) := by decide +kernel
theorem dX3_placeOf_20 : decode cX3_placeOf 20 = .ok (.getfield 9, 3) := by decide +kernel
theorem dX3_placeOf_23 : decode cX3_placeOf 23 = .ok (.iload_n 2, 1) := by decide +kernel
theorem dX3_placeOf_24 : decode cX3_placeOf 24 = .ok (.iaload, 1) := by decide +kernel
theorem dX3_placeOf_25 : decode cX3_placeOf 25 = .ok (.iload_n 1, 1) := by decide +kernel
theorem dX3_placeOf_26 : decode cX3_placeOf 26 = .ok (.if_icmp .ne 5, 3) := by decide +kernel
theorem dX3_placeOf_29 : decode cX3_placeOf 29 = .ok (.iload_n 2, 1) := by decide +kernel
theorem dX3_placeOf_30 : decode cX3_placeOf 30 = .ok (.ireturn, 1) := by decide +kernel
theorem dX3_placeOf_31 : decode cX3_placeOf 31 = .ok (.iinc 2 1, 3) := by decide +kernel
theorem dX3_placeOf_34 : decode cX3_placeOf 34 = .ok (.goto (-32), 3) := by decide +kernel
theorem dX3_placeOf_37 : decode cX3_placeOf 37 = .ok (.iconst (-1), 1) := by decide +kernel
theorem dX3_placeOf_38 : decode cX3_placeOf 38 = .ok (.ireturn, 1) := by decide +kernel
theorem dX3_add_0 : decode cX3_add 0 = .ok (.aload_n 0, 1) := by decide +kernel
theorem dX3_add_1 : decode cX3_add 1 = .ok (.getfield 25, 3) := by decide +kernel
theorem dX3_add_4 : decode cX3_add 4 = .ok (.ifCond .lt 35, 3) := by decide +kernel
theorem dX3_add_7 : decode cX3_add 7 = .ok (.aload_n 0, 1) := by decide +kernel
theorem dX3_add_8 : decode cX3_add 8 = .ok (.getfield 25, 3) := by decide +kernel
theorem dX3_add_11 : decode cX3_add 11 = .ok (.aload_n 0, 1) := by decide +kernel
theorem dX3_add_12 : decode cX3_add 12 = .ok (.getfield 9, 3) := by decide +kernel
theorem dX3_add_15 : decode cX3_add 15 = .ok (.arraylength, 1) := by decide +kernel
theorem dX3_add_16 : decode cX3_add 16 = .ok (.if_icmp .ge 23, 3) := by decide +kernel
theorem dX3_add_19 : decode cX3_add 19 = .ok (.aload_n 0, 1) := by decide +kernel
theorem dX3_add_20 : decode cX3_add 20 = .ok (.getfield 9, 3) := by decide +kernel
theorem dX3_add_23 : decode cX3_add 23 = .ok (.aload_n 0, 1) := by decide +kernel
theorem dX3_add_24 : decode cX3_add 24 = .ok (.getfield 25, 3) := by decide +kernel
theorem dX3_add_27 : decode cX3_add 27 = .ok (.iload_n 1, 1) := by decide +kernel
theorem dX3_add_28 : decode cX3_add 28 = .ok (.iastore, 1) := by decide +kernel
theorem dX3_add_29 : decode cX3_add 29 = .ok (.aload_n 0, 1) := by decide +kernel
theorem dX3_add_30 : decode cX3_add 30 = .ok (.dup, 1) := by decide +kernel
theorem dX3_add_31 : decode cX3_add 31 = .ok (.getfield 25, 3) := by decide +kernel
theorem dX3_add_34 : decode cX3_add 34 = .ok (.iconst 1, 1) := by decide +kernel
theorem dX3_add_35 : decode cX3_add 35 = .ok (.iadd, 1) := by decide +kernel
theorem dX3_add_36 : decode cX3_add 36 = .ok (.putfield 25, 3) := by decide +kernel
theorem dX3_add_39 : decode cX3_add 39 = .ok (.return_, 1) := by decide +kernel
theorem dX3_removeAt_0 : decode cX3_removeAt 0 = .ok (.iload_n 1, 1) := by decide +kernel
theorem dX3_removeAt_1 : decode cX3_removeAt 1 = .ok (.ifCond .lt 11, 3) := by decide +kernel
theorem dX3_removeAt_4 : decode cX3_removeAt 4 = .ok (.iload_n 1, 1) := by decide +kernel
theorem dX3_removeAt_5 : decode cX3_removeAt 5 = .ok (.aload_n 0, 1) := by decide +kernel
theorem dX3_removeAt_6 : decode cX3_removeAt 6 = .ok (.getfield 25, 3) := by decide +kernel
theorem dX3_removeAt_9 : decode cX3_removeAt 9 = .ok (.if_icmp .lt 4, 3) := by decide +kernel
theorem dX3_removeAt_12 : decode cX3_removeAt 12 = .ok (.return_, 1) := by decide +kernel
theorem dX3_removeAt_13 : decode cX3_removeAt 13 = .ok (.iload_n 1, 1) := by decide +kernel
theorem dX3_removeAt_14 : decode cX3_removeAt 14 = .ok (.istore_n 2, 1) := by decide +kernel
theorem dX3_removeAt_15 : decode cX3_removeAt 15 = .ok (.iload_n 2, 1) := by decide +kernel
theorem dX3_removeAt_16 : decode cX3_removeAt 16 = .ok (.aload_n 0, 1) := by decide +kernel
theorem dX3_removeAt_17 : decode cX3_removeAt 17 = .ok (.getfield 25, 3) := by decide +kernel
theorem dX3_removeAt_20 : decode cX3_removeAt 20 = .ok (.iconst 1, 1) := by decide +kernel
theorem dX3_removeAt_21 : decode cX3_removeAt 21 = .ok (.isub, 1) := by decide +kernel
theorem dX3_removeAt_22 : decode cX3_removeAt 22 = .ok (.if_icmp .ge 34, 3) := by decide +kernel
theorem dX3_removeAt_25 : decode cX3_removeAt 25 = .ok (.iload_n 2, 1) := by decide +kernel
theorem dX3_removeAt_26 : decode cX3_removeAt 26 = .ok (.aload_n 0, 1) := by decide +kernel
theorem dX3_removeAt_27 : decode cX3_removeAt 27 = .ok (.getfield 9, 3) := by decide +kernel
theorem dX3_removeAt_30 : decode cX3_removeAt 30 = .ok (.arraylength, 1) := by decide +kernel
theorem dX3_removeAt_31 : decode cX3_removeAt 31 = .ok (.iconst 1, 1) := by decide +kernel
theorem dX3_removeAt_32 : decode cX3_removeAt 32 = .ok (.isub, 1) := by decide +kernel
theorem dX3_removeAt_33 : decode cX3_removeAt 33 = .ok (.if_icmp .ge 23, 3) := by decide +kernel
theorem dX3_removeAt_36 : decode cX3_removeAt 36 = .ok (.aload_n 0, 1) := by decide +kernel
theorem dX3_removeAt_37 : decode cX3_removeAt 37 = .ok (.getfield 9, 3) := by decide +kernel
theorem dX3_removeAt_40 : decode cX3_removeAt 40 = .ok (.iload_n 2, 1) := by decide +kernel
theorem dX3_removeAt_41 : decode cX3_removeAt 41 = .ok (.aload_n 0, 1) := by decide +kernel
theorem dX3_removeAt_42 : decode cX3_removeAt 42 = .ok (.getfield 9, 3) := by decide +kernel
theorem dX3_removeAt_45 : decode cX3_removeAt 45 = .ok (.iload_n 2, 1) := by decide +kernel
theorem dX3_removeAt_46 : decode cX3_removeAt 46 = .ok (.iconst 1, 1) := by decide +kernel
theorem dX3_removeAt_47 : decode cX3_removeAt 47 = .ok (.iadd, 1) := by decide +kernel
theorem dX3_removeAt_48 : decode cX3_removeAt 48 = .ok (.iaload, 1) := by decide +kernel
theorem dX3_removeAt_49 : decode cX3_removeAt 49 = .ok (.iastore, 1) := by decide +kernel
theorem dX3_removeAt_50 : decode cX3_removeAt 50 = .ok (.iinc 2 1, 3) := by decide +kernel
theorem dX3_removeAt_53 : decode cX3_removeAt 53 = .ok (.goto (-38), 3) := by decide +kernel
theorem dX3_removeAt_56 : decode cX3_removeAt 56 = .ok (.aload_n 0, 1) := by decide +kernel
theorem dX3_removeAt_57 : decode cX3_removeAt 57 = .ok (.dup, 1) := by decide +kernel
theorem dX3_removeAt_58 : decode cX3_removeAt 58 = .ok (.getfield 25, 3) := by decide +kernel
theorem dX3_removeAt_61 : decode cX3_removeAt 61 = .ok (.iconst 1, 1) := by decide +kernel
theorem dX3_removeAt_62 : decode cX3_removeAt 62 = .ok (.isub, 1) := by decide +kernel
theorem dX3_removeAt_63 : decode cX3_removeAt 63 = .ok (.putfield 25, 3) := by decide +kernel
theorem dX3_removeAt_66 : decode cX3_removeAt 66 = .ok (.return_, 1) := by decide +kernel
theorem dX4_longerKey_0 : decode cX4_longerKey 0 = .ok (.iload_n 2, 1) := by decide +kernel
theorem dX4_longerKey_1 : decode cX4_longerKey 1 = .ok (.bipush 97, 2) := by decide +kernel
theorem dX4_longerKey_3 : decode cX4_longerKey 3 = .ok (.if_icmp .lt 12, 3) := by decide +kernel
theorem dX4_longerKey_6 : decode cX4_longerKey 6 = .ok (.iload_n 2, 1) := by decide +kernel
theorem dX4_longerKey_7 : decode cX4_longerKey 7 = .ok (.bipush 97, 2) := by decide +kernel
theorem dX4_longerKey_9 : decode cX4_longerKey 9 = .ok (.isub, 1) := by decide +kernel
theorem dX4_longerKey_10 : decode cX4_longerKey 10 = .ok (.iconst 1, 1) := by decide +kernel
theorem dX4_longerKey_11 : decode cX4_longerKey 11 = .ok (.iadd, 1) := by decide +kernel
theorem dX4_longerKey_12 : decode cX4_longerKey 12 = .ok (.goto 10, 3) := by decide +kernel
theorem dX4_longerKey_15 : decode cX4_longerKey 15 = .ok (.iload_n 2, 1) := by decide +kernel
theorem dX4_longerKey_16 : decode cX4_longerKey 16 = .ok (.bipush 48, 2) := by decide +kernel
theorem dX4_longerKey_18 : decode cX4_longerKey 18 = .ok (.isub, 1) := by decide +kernel
theorem dX4_longerKey_19 : decode cX4_longerKey 19 = .ok (.bipush 27, 2) := by decide +kernel
theorem dX4_longerKey_21 : decode cX4_longerKey 21 = .ok (.iadd, 1) := by decide +kernel
theorem dX4_longerKey_22 : decode cX4_longerKey 22 = .ok (.istore_n 3, 1) := by decide +kernel
theorem dX4_longerKey_23 : decode cX4_longerKey 23 = .ok (.lload_n 0, 1) := by decide +kernel
theorem dX4_longerKey_24 : decode cX4_longerKey 24 = .ok (.bipush 6, 2) := by decide +kernel
theorem dX4_longerKey_26 : decode cX4_longerKey 26 = .ok (.lshl, 1) := by decide +kernel
theorem dX4_longerKey_27 : decode cX4_longerKey 27 = .ok (.iload_n 3, 1) := by decide +kernel
theorem dX4_longerKey_28 : decode cX4_longerKey 28 = .ok (.i2l, 1) := by decide +kernel
theorem dX4_longerKey_29 : decode cX4_longerKey 29 = .ok (.lor, 1) := by decide +kernel
theorem dX4_longerKey_30 : decode cX4_longerKey 30 = .ok (.lreturn, 1) := by decide +kernel
theorem dX4_ofWord_0 : decode cX4_ofWord 0 = .ok (.iconst 0, 1) := by decide +kernel
theorem dX4_ofWord_1 : decode cX4_ofWord 1 = .ok (.istore_n 2, 1) := by decide +kernel
theorem dX4_ofWord_2 : decode cX4_ofWord 2 = .ok (.iload_n 2, 1) := by decide +kernel
theorem dX4_ofWord_3 : decode cX4_ofWord 3 = .ok (.getstatic 173, 3) := by decide +kernel
theorem dX4_ofWord_6 : decode cX4_ofWord 6 = .ok (.arraylength, 1) := by decide +kernel
theorem dX4_ofWord_7 : decode cX4_ofWord 7 = .ok (.if_icmp .ge 28, 3) := by decide +kernel
theorem dX4_ofWord_10 : decode cX4_ofWord 10 = .ok (.getstatic 173, 3) := by decide +kernel
theorem dX4_ofWord_13 : decode cX4_ofWord 13 = .ok (.iload_n 2, 1) := by decide +kernel
theorem dX4_ofWord_14 : decode cX4_ofWord 14 = .ok (.aaload, 1) := by decide +kernel
theorem dX4_ofWord_15 : decode cX4_ofWord 15 = .ok (.getfield 155, 3) := by decide +kernel
theorem dX4_ofWord_18 : decode cX4_ofWord 18 = .ok (.lload_n 0, 1) := by decide +kernel
theorem dX4_ofWord_19 : decode cX4_ofWord 19 = .ok (.lcmp, 1) := by decide +kernel
theorem dX4_ofWord_20 : decode cX4_ofWord 20 = .ok (.ifCond .ne 9, 3) := by decide +kernel
theorem dX4_ofWord_23 : decode cX4_ofWord 23 = .ok (.getstatic 173, 3) := by decide +kernel
theorem dX4_ofWord_26 : decode cX4_ofWord 26 = .ok (.iload_n 2, 1) := by decide +kernel
theorem dX4_ofWord_27 : decode cX4_ofWord 27 = .ok (.aaload, 1) := by decide +kernel
theorem dX4_ofWord_28 : decode cX4_ofWord 28 = .ok (.areturn, 1) := by decide +kernel
theorem dX4_ofWord_29 : decode cX4_ofWord 29 = .ok (.iinc 2 1, 3) := by decide +kernel
theorem dX4_ofWord_32 : decode cX4_ofWord 32 = .ok (.goto (-30), 3) := by decide +kernel
theorem dX4_ofWord_35 : decode cX4_ofWord 35 = .ok (.getstatic 10, 3) := by decide +kernel
theorem dX4_ofWord_38 : decode cX4_ofWord 38 = .ok (.areturn, 1) := by decide +kernel
theorem dX4_isOrder_0 : decode cX4_isOrder 0 = .ok (.aload_n 0, 1) := by decide +kernel
theorem dX4_isOrder_1 : decode cX4_isOrder 1 = .ok (.getstatic 34, 3) := by decide +kernel
theorem dX4_isOrder_4 : decode cX4_isOrder 4 = .ok (.if_acmp .eq 17, 3) := by decide +kernel
theorem dX4_isOrder_7 : decode cX4_isOrder 7 = .ok (.aload_n 0, 1) := by decide +kernel
theorem dX4_isOrder_8 : decode cX4_isOrder 8 = .ok (.getstatic 37, 3) := by decide +kernel
theorem dX4_isOrder_11 : decode cX4_isOrder 11 = .ok (.if_acmp .eq 10, 3) := by decide +kernel
theorem dX4_isOrder_14 : decode cX4_isOrder 14 = .ok (.aload_n 0, 1) := by decide +kernel
theorem dX4_isOrder_15 : decode cX4_isOrder 15 = .ok (.getstatic 43, 3) := by decide +kernel
theorem dX4_isOrder_18 : decode cX4_isOrder 18 = .ok (.if_acmp .ne 7, 3) := by decide +kernel
theorem dX4_isOrder_21 : decode cX4_isOrder 21 = .ok (.iconst 1, 1) := by decide +kernel
theorem dX4_isOrder_22 : decode cX4_isOrder 22 = .ok (.goto 4, 3) := by decide +kernel
theorem dX4_isOrder_25 : decode cX4_isOrder 25 = .ok (.iconst 0, 1) := by decide +kernel
theorem dX4_isOrder_26 : decode cX4_isOrder 26 = .ok (.ireturn, 1) := by decide +kernel
theorem dX4_isComparison_0 : decode cX4_isComparison 0 = .ok (.aload_n 0, 1) := by decide +kernel
theorem dX4_isComparison_1 : decode cX4_isComparison 1 = .ok (.getstatic 121, 3) := by decide +kernel
theorem dX4_isComparison_4 : decode cX4_isComparison 4 = .ok (.if_acmp .eq 31, 3) := by decide +kernel
theorem dX4_isComparison_7 : decode cX4_isComparison 7 = .ok (.aload_n 0, 1) := by decide +kernel
theorem dX4_isComparison_8 : decode cX4_isComparison 8 = .ok (.getstatic 124, 3) := by decide +kernel
theorem dX4_isComparison_11 : decode cX4_isComparison 11 = .ok (.if_acmp .eq 24, 3) := by decide +kernel
theorem dX4_isComparison_14 : decode cX4_isComparison 14 = .ok (.aload_n 0, 1) := by decide +kernel
theorem dX4_isComparison_15 : decode cX4_isComparison 15 = .ok (.getstatic 127, 3) := by decide +kernel
theorem dX4_isComparison_18 : decode cX4_isComparison 18 = .ok (.if_acmp .eq 17, 3) := by decide +kernel
theorem dX4_isComparison_21 : decode cX4_isComparison 21 = .ok (.aload_n 0, 1) := by decide +kernel
theorem dX4_isComparison_22 : decode cX4_isComparison 22 = .ok (.getstatic 130, 3) := by decide +kernel
theorem dX4_isComparison_25 : decode cX4_isComparison 25 = .ok (.if_acmp .eq 10, 3) := by decide +kernel
theorem dX4_isComparison_28 : decode cX4_isComparison 28 = .ok (.aload_n 0, 1) := by decide +kernel
theorem dX4_isComparison_29 : decode cX4_isComparison 29 = .ok (.getstatic 133, 3) := by decide +kernel
theorem dX4_isComparison_32 : decode cX4_isComparison 32 = .ok (.if_acmp .ne 7, 3) := by decide +kernel
theorem dX4_isComparison_35 : decode cX4_isComparison 35 = .ok (.iconst 1, 1) := by decide +kernel
theorem dX4_isComparison_36 : decode cX4_isComparison 36 = .ok (.goto 4, 3) := by decide +kernel
theorem dX4_isComparison_39 : decode cX4_isComparison 39 = .ok (.iconst 0, 1) := by decide +kernel
theorem dX4_isComparison_40 : decode cX4_isComparison 40 = .ok (.ireturn, 1) := by decide +kernel
theorem dX4_addsUp_0 : decode cX4_addsUp 0 = .ok (.aload_n 0, 1) := by decide +kernel
theorem dX4_addsUp_1 : decode cX4_addsUp 1 = .ok (.getstatic 109, 3) := by decide +kernel
theorem dX4_addsUp_4 : decode cX4_addsUp 4 = .ok (.if_acmp .eq 10, 3) := by decide +kernel
theorem dX4_addsUp_7 : decode cX4_addsUp 7 = .ok (.aload_n 0, 1) := by decide +kernel
theorem dX4_addsUp_8 : decode cX4_addsUp 8 = .ok (.getstatic 112, 3) := by decide +kernel
theorem dX4_addsUp_11 : decode cX4_addsUp 11 = .ok (.if_acmp .ne 7, 3) := by decide +kernel
theorem dX4_addsUp_14 : decode cX4_addsUp 14 = .ok (.iconst 1, 1) := by decide +kernel
theorem dX4_addsUp_15 : decode cX4_addsUp 15 = .ok (.goto 4, 3) := by decide +kernel
theorem dX4_addsUp_18 : decode cX4_addsUp 18 = .ok (.iconst 0, 1) := by decide +kernel
theorem dX4_addsUp_19 : decode cX4_addsUp 19 = .ok (.ireturn, 1) := by decide +kernel
theorem dX4_multiplies_0 : decode cX4_multiplies 0 = .ok (.aload_n 0, 1) := by decide +kernel
theorem dX4_multiplies_1 : decode cX4_multiplies 1 = .ok (.getstatic 115, 3) := by decide +kernel
theorem dX4_multiplies_4 : decode cX4_multiplies 4 = .ok (.if_acmp .eq 10, 3) := by decide +kernel
theorem dX4_multiplies_7 : decode cX4_multiplies 7 = .ok (.aload_n 0, 1) := by decide +kernel
theorem dX4_multiplies_8 : decode cX4_multiplies 8 = .ok (.getstatic 118, 3) := by decide +kernel
theorem dX4_multiplies_11 : decode cX4_multiplies 11 = .ok (.if_acmp .ne 7, 3) := by decide +kernel
theorem dX4_multiplies_14 : decode cX4_multiplies 14 = .ok (.iconst 1, 1) := by decide +kernel
theorem dX4_multiplies_15 : decode cX4_multiplies 15 = .ok (.goto 4, 3) := by decide +kernel
theorem dX4_multiplies_18 : decode cX4_multiplies 18 = .ok (.iconst 0, 1) := by decide +kernel
theorem dX4_multiplies_19 : decode cX4_multiplies 19 = .ok (.ireturn, 1) := by decide +kernel
theorem dX5_init_0 : decode cX5_init 0 = .ok (.aload_n 0, 1) := by decide +kernel
theorem dX5_init_1 : decode cX5_init 1 = .ok (.invokespecial 3, 3) := by decide +kernel
theorem dX5_init_4 : decode cX5_init 4 = .ok (.aload_n 0, 1) := by decide +kernel
theorem dX5_init_5 : decode cX5_init 5 = .ok (.bipush 16, 2) := by decide +kernel
theorem dX5_init_7 : decode cX5_init 7 = .ok (.newarray .long, 2) := by decide +kernel
theorem dX5_init_9 : decode cX5_init 9 = .ok (.putfield 9, 3) := by decide +kernel
theorem dX5_init_12 : decode cX5_init 12 = .ok (.return_, 1) := by decide +kernel
theorem dX5_check_0 : decode cX5_check 0 = .ok (.aload_n 0, 1) := by decide +kernel
theorem dX5_check_1 : decode cX5_check 1 = .ok (.iconst 0, 1) := by decide +kernel
theorem dX5_check_2 : decode cX5_check 2 = .ok (.putfield 15, 3) := by decide +kernel
theorem dX5_check_5 : decode cX5_check 5 = .ok (.iconst 0, 1) := by decide +kernel
theorem dX5_check_6 : decode cX5_check 6 = .ok (.istore_n 3, 1) := by decide +kernel
theorem dX5_check_7 : decode cX5_check 7 = .ok (.iload_n 3, 1) := by decide +kernel
theorem dX5_check_8 : decode cX5_check 8 = .ok (.sipush 400, 3) := by decide +kernel
theorem dX5_check_11 : decode cX5_check 11 = .ok (.if_icmp .ge 42, 3) := by decide +kernel
theorem dX5_check_14 : decode cX5_check 14 = .ok (.aload_n 1, 1) := by decide +kernel
theorem dX5_check_15 : decode cX5_check 15 = .ok (.iload_n 3, 1) := by decide +kernel
theorem dX5_check_16 : decode cX5_check 16 = .ok (.invokevirtual 19, 3) := by decide +kernel
theorem dX5_check_19 : decode cX5_check 19 = .ok (.getstatic 25, 3) := by decide +kernel
theorem dX5_check_22 : decode cX5_check 22 = .ok (.if_acmp .eq 31, 3) := by decide +kernel
theorem dX5_check_25 : decode cX5_check 25 = .ok (.aload_n 0, 1) := by decide +kernel
theorem dX5_check_26 : decode cX5_check 26 = .ok (.aload_n 1, 1) := by decide +kernel
theorem dX5_check_27 : decode cX5_check 27 = .ok (.iload_n 3, 1) := by decide +kernel
theorem dX5_check_28 : decode cX5_check 28 = .ok (.aload_n 2, 1) := by decide +kernel
theorem dX5_check_29 : decode cX5_check 29 = .ok (.invokevirtual 31, 3) := by decide +kernel
theorem dX5_check_32 : decode cX5_check 32 = .ok (.istore 4, 2) := by decide +kernel
theorem dX5_check_34 : decode cX5_check 34 = .ok (.iload 4, 2) := by decide +kernel
theorem dX5_check_36 : decode cX5_check 36 = .ok (.ifCond .eq 11, 3) := by decide +kernel
theorem dX5_check_39 : decode cX5_check 39 = .ok (.aload_n 0, 1) := by decide +kernel
theorem dX5_check_40 : decode cX5_check 40 = .ok (.iload_n 3, 1) := by decide +kernel
theorem dX5_check_41 : decode cX5_check 41 = .ok (.putfield 35, 3) := by decide +kernel
theorem dX5_check_44 : decode cX5_check 44 = .ok (.iload 4, 2) := by decide +kernel
theorem dX5_check_46 : decode cX5_check 46 = .ok (.ireturn, 1) := by decide +kernel
theorem dX5_check_47 : decode cX5_check 47 = .ok (.iinc 3 1, 3) := by decide +kernel
theorem dX5_check_50 : decode cX5_check 50 = .ok (.goto (-43), 3) := by decide +kernel
theorem dX5_check_53 : decode cX5_check 53 = .ok (.iconst 0, 1) := by decide +kernel
theorem dX5_check_54 : decode cX5_check 54 = .ok (.ireturn, 1) := by decide +kernel
theorem dX5_errorOf_0 : decode cX5_errorOf 0 = .ok (.aload_n 1, 1) := by decide +kernel
theorem dX5_errorOf_1 : decode cX5_errorOf 1 = .ok (.iload_n 2, 1) := by decide +kernel
theorem dX5_errorOf_2 : decode cX5_errorOf 2 = .ok (.invokevirtual 19, 3) := by decide +kernel
theorem dX5_errorOf_5 : decode cX5_errorOf 5 = .ok (.astore 4, 2) := by decide +kernel
theorem dX5_errorOf_7 : decode cX5_errorOf 7 = .ok (.aload_n 1, 1) := by decide +kernel
theorem dX5_errorOf_8 : decode cX5_errorOf 8 = .ok (.iload_n 2, 1) := by decide +kernel
theorem dX5_errorOf_9 : decode cX5_errorOf 9 = .ok (.iconst 1, 1) := by decide +kernel
theorem dX5_errorOf_10 : decode cX5_errorOf 10 = .ok (.isub, 1) := by decide +kernel
theorem dX5_errorOf_11 : decode cX5_errorOf 11 = .ok (.invokevirtual 19, 3) := by decide +kernel
theorem dX5_errorOf_14 : decode cX5_errorOf 14 = .ok (.astore 5, 2) := by decide +kernel
theorem dX5_errorOf_16 : decode cX5_errorOf 16 = .ok (.aload 4, 2) := by decide +kernel
theorem dX5_errorOf_18 : decode cX5_errorOf 18 = .ok (.invokevirtual 38, 3) := by decide +kernel
theorem dX5_errorOf_21 : decode cX5_errorOf 21 = .ok (.ifCond .eq 28, 3) := by decide +kernel
theorem dX5_errorOf_24 : decode cX5_errorOf 24 = .ok (.aload_n 0, 1) := by decide +kernel
theorem dX5_errorOf_25 : decode cX5_errorOf 25 = .ok (.dup, 1) := by decide +kernel
theorem dX5_errorOf_26 : decode cX5_errorOf 26 = .ok (.getfield 15, 3) := by decide +kernel
theorem dX5_errorOf_29 : decode cX5_errorOf 29 = .ok (.iconst 1, 1) := by decide +kernel
theorem dX5_errorOf_30 : decode cX5_errorOf 30 = .ok (.iadd, 1) := by decide +kernel
theorem dX5_errorOf_31 : decode cX5_errorOf 31 = .ok (.putfield 15, 3) := by decide +kernel
theorem dX5_errorOf_34 : decode cX5_errorOf 34 = .ok (.aload_n 0, 1) := by decide +kernel
theorem dX5_errorOf_35 : decode cX5_errorOf 35 = .ok (.getfield 15, 3) := by decide +kernel
theorem dX5_errorOf_38 : decode cX5_errorOf 38 = .ok (.bipush 16, 2) := by decide +kernel
theorem dX5_errorOf_40 : decode cX5_errorOf 40 = .ok (.if_icmp .le 7, 3) := by decide +kernel
theorem dX5_errorOf_43 : decode cX5_errorOf 43 = .ok (.iconst 4, 1) := by decide +kernel
theorem dX5_errorOf_44 : decode cX5_errorOf 44 = .ok (.goto 4, 3) := by decide +kernel
theorem dX5_errorOf_47 : decode cX5_errorOf 47 = .ok (.iconst 0, 1) := by decide +kernel
theorem dX5_errorOf_48 : decode cX5_errorOf 48 = .ok (.ireturn, 1) := by decide +kernel
theorem dX5_errorOf_49 : decode cX5_errorOf 49 = .ok (.aload 4, 2) := by decide +kernel
theorem dX5_errorOf_51 : decode cX5_errorOf 51 = .ok (.getstatic 42, 3) := by decide +kernel
theorem dX5_errorOf_54 : decode cX5_errorOf 54 = .ok (.if_acmp .ne 16, 3) := by decide +kernel
theorem dX5_errorOf_57 : decode cX5_errorOf 57 = .ok (.aload_n 0, 1) := by decide +kernel
theorem dX5_errorOf_58 : decode cX5_errorOf 58 = .ok (.aload_n 1, 1) := by decide +kernel
theorem dX5_errorOf_59 : decode cX5_errorOf 59 = .ok (.iload_n 2, 1) := by decide +kernel
theorem dX5_errorOf_60 : decode cX5_errorOf 60 = .ok (.invokevirtual 45, 3) := by decide +kernel
theorem dX5_errorOf_63 : decode cX5_errorOf 63 = .ok (.aload 5, 2) := by decide +kernel
theorem dX5_errorOf_65 : decode cX5_errorOf 65 = .ok (.aload_n 3, 1) := by decide +kernel
theorem dX5_errorOf_66 : decode cX5_errorOf 66 = .ok (.invokevirtual 49, 3) := by decide +kernel
theorem dX5_errorOf_69 : decode cX5_errorOf 69 = .ok (.ireturn, 1) := by decide +kernel
theorem dX5_errorOf_70 : decode cX5_errorOf 70 = .ok (.aload 4, 2) := by decide +kernel
theorem dX5_errorOf_72 : decode cX5_errorOf 72 = .ok (.getstatic 53, 3) := by decide +kernel
theorem dX5_errorOf_75 : decode cX5_errorOf 75 = .ok (.if_acmp .eq 5, 3) := by decide +kernel
theorem dX5_errorOf_78 : decode cX5_errorOf 78 = .ok (.iconst 0, 1) := by decide +kernel
theorem dX5_errorOf_79 : decode cX5_errorOf 79 = .ok (.ireturn, 1) := by decide +kernel
theorem dX5_errorOf_80 : decode cX5_errorOf 80 = .ok (.aload 5, 2) := by decide +kernel
theorem dX5_errorOf_82 : decode cX5_errorOf 82 = .ok (.getstatic 56, 3) := by decide +kernel
theorem dX5_errorOf_85 : decode cX5_errorOf 85 = .ok (.if_acmp .eq 11, 3) := by decide +kernel
theorem dX5_errorOf_88 : decode cX5_errorOf 88 = .ok (.aload 5, 2) := by decide +kernel
theorem dX5_errorOf_90 : decode cX5_errorOf 90 = .ok (.getstatic 59, 3) := by decide +kernel
theorem dX5_errorOf_93 : decode cX5_errorOf 93 = .ok (.if_acmp .ne 16, 3) := by decide +kernel
theorem dX5_errorOf_96 : decode cX5_errorOf 96 = .ok (.aload_n 0, 1) := by decide +kernel
theorem dX5_errorOf_97 : decode cX5_errorOf 97 = .ok (.aload_n 1, 1) := by decide +kernel
theorem dX5_errorOf_98 : decode cX5_errorOf 98 = .ok (.iload_n 2, 1) := by decide +kernel
theorem dX5_errorOf_99 : decode cX5_errorOf 99 = .ok (.invokevirtual 62, 3) := by decide +kernel
theorem dX5_errorOf_102 : decode cX5_errorOf 102 = .ok (.aload 5, 2) := by decide +kernel
theorem dX5_errorOf_104 : decode cX5_errorOf 104 = .ok (.aload_n 3, 1) := by decide +kernel
theorem dX5_errorOf_105 : decode cX5_errorOf 105 = .ok (.invokevirtual 66, 3) := by decide +kernel
theorem dX5_errorOf_108 : decode cX5_errorOf 108 = .ok (.ireturn, 1) := by decide +kernel
theorem dX5_errorOf_109 : decode cX5_errorOf 109 = .ok (.aload_n 0, 1) := by decide +kernel
theorem dX5_errorOf_110 : decode cX5_errorOf 110 = .ok (.aload_n 1, 1) := by decide +kernel
theorem dX5_errorOf_111 : decode cX5_errorOf 111 = .ok (.iload_n 2, 1) := by decide +kernel
theorem dX5_errorOf_112 : decode cX5_errorOf 112 = .ok (.aload_n 3, 1) := by decide +kernel
theorem dX5_errorOf_113 : decode cX5_errorOf 113 = .ok (.invokevirtual 70, 3) := by decide +kernel
theorem dX5_errorOf_116 : decode cX5_errorOf 116 = .ok (.ireturn, 1) := by decide +kernel
theorem dX5_errorOfNumber_0 : decode cX5_errorOfNumber 0 = .ok (.aload_n 2, 1) := by decide +kernel
theorem dX5_errorOfNumber_1 : decode cX5_errorOfNumber 1 = .ok (.getstatic 73, 3) := by decide +kernel
theorem dX5_errorOfNumber_4 : decode cX5_errorOfNumber 4 = .ok (.if_acmp .eq 12, 3) := by decide +kernel
theorem dX5_errorOfNumber_7 : decode cX5_errorOfNumber 7 = .ok (.aload_n 2, 1) := by decide +kernel
theorem dX5_errorOfNumber_8 : decode cX5_errorOfNumber 8 = .ok (.getstatic 76, 3) := by decide +kernel
theorem dX5_errorOfNumber_11 : decode cX5_errorOfNumber 11 = .ok (.if_acmp .eq 5, 3) := by decide +kernel
theorem dX5_errorOfNumber_14 : decode cX5_errorOfNumber 14 = .ok (.iconst 0, 1) := by decide +kernel
theorem dX5_errorOfNumber_15 : decode cX5_errorOfNumber 15 = .ok (.ireturn, 1) := by decide +kernel
theorem dX5_errorOfNumber_16 : decode cX5_errorOfNumber 16 = .ok (.iload_n 1, 1) := by decide +kernel
theorem dX5_errorOfNumber_17 : decode cX5_errorOfNumber 17 = .ok (.iconst 1, 1) := by decide +kernel
theorem dX5_errorOfNumber_18 : decode cX5_errorOfNumber 18 = .ok (.if_icmp .lt 9, 3) := by decide +kernel
theorem dX5_errorOfNumber_21 : decode cX5_errorOfNumber 21 = .ok (.iload_n 1, 1) := by decide +kernel
theorem dX5_errorOfNumber_22 : decode cX5_errorOfNumber 22 = .ok (.bipush 9, 2) := by decide +kernel
theorem dX5_errorOfNumber_24 : decode cX5_errorOfNumber 24 = .ok (.if_icmp .le 5, 3) := by decide +kernel
theorem dX5_errorOfNumber_27 : decode cX5_errorOfNumber 27 = .ok (.iconst 5, 1) := by decide +kernel
theorem dX5_errorOfNumber_28 : decode cX5_errorOfNumber 28 = .ok (.ireturn, 1) := by decide +kernel
theorem dX5_errorOfNumber_29 : decode cX5_errorOfNumber 29 = .ok (.aload_n 2, 1) := by decide +kernel
theorem dX5_errorOfNumber_30 : decode cX5_errorOfNumber 30 = .ok (.getstatic 73, 3) := by decide +kernel
theorem dX5_errorOfNumber_33 : decode cX5_errorOfNumber 33 = .ok (.if_acmp .ne 11, 3) := by decide +kernel
theorem dX5_errorOfNumber_36 : decode cX5_errorOfNumber 36 = .ok (.aload_n 3, 1) := by decide +kernel
theorem dX5_errorOfNumber_37 : decode cX5_errorOfNumber 37 = .ok (.iload_n 1, 1) := by decide +kernel
theorem dX5_errorOfNumber_38 : decode cX5_errorOfNumber 38 = .ok (.invokevirtual 79, 3) := by decide +kernel
theorem dX5_errorOfNumber_41 : decode cX5_errorOfNumber 41 = .ok (.goto 8, 3) := by decide +kernel
theorem dX5_errorOfNumber_44 : decode cX5_errorOfNumber 44 = .ok (.aload_n 3, 1) := by decide +kernel
theorem dX5_errorOfNumber_45 : decode cX5_errorOfNumber 45 = .ok (.iload_n 1, 1) := by decide +kernel
theorem dX5_errorOfNumber_46 : decode cX5_errorOfNumber 46 = .ok (.invokevirtual 85, 3) := by decide +kernel
theorem dX5_errorOfNumber_49 : decode cX5_errorOfNumber 49 = .ok (.iconst 0, 1) := by decide +kernel
theorem dX5_errorOfNumber_50 : decode cX5_errorOfNumber 50 = .ok (.ireturn, 1) := by decide +kernel
theorem dX5_errorOfNewName_0 : decode cX5_errorOfNewName 0 = .ok (.aload_n 0, 1) := by decide +kernel
theorem dX5_errorOfNewName_1 : decode cX5_errorOfNewName 1 = .ok (.lload_n 1, 1) := by decide +kernel
theorem dX5_errorOfNewName_2 : decode cX5_errorOfNewName 2 = .ok (.aload 4, 2) := by decide +kernel
theorem dX5_errorOfNewName_4 : decode cX5_errorOfNewName 4 = .ok (.invokevirtual 88, 3) := by decide +kernel
theorem dX5_errorOfNewName_7 : decode cX5_errorOfNewName 7 = .ok (.iconst (-1), 1) := by decide +kernel
theorem dX5_errorOfNewName_8 : decode cX5_errorOfNewName 8 = .ok (.if_icmp .eq 5, 3) := by decide +kernel
theorem dX5_errorOfNewName_11 : decode cX5_errorOfNewName 11 = .ok (.iconst 2, 1) := by decide +kernel
theorem dX5_errorOfNewName_12 : decode cX5_errorOfNewName 12 = .ok (.ireturn, 1) := by decide +kernel
theorem dX5_errorOfNewName_13 : decode cX5_errorOfNewName 13 = .ok (.aload_n 3, 1) := by decide +kernel
theorem dX5_errorOfNewName_14 : decode cX5_errorOfNewName 14 = .ok (.getstatic 56, 3) := by decide +kernel
theorem dX5_errorOfNewName_17 : decode cX5_errorOfNewName 17 = .ok (.if_acmp .ne 11, 3) := by decide +kernel
theorem dX5_errorOfNewName_20 : decode cX5_errorOfNewName 20 = .ok (.aload 4, 2) := by decide +kernel
theorem dX5_errorOfNewName_22 : decode cX5_errorOfNewName 22 = .ok (.getfield 92, 3) := by decide +kernel
theorem dX5_errorOfNewName_25 : decode cX5_errorOfNewName 25 = .ok (.goto 8, 3) := by decide +kernel
theorem dX5_errorOfNewName_28 : decode cX5_errorOfNewName 28 = .ok (.aload 4, 2) := by decide +kernel
theorem dX5_errorOfNewName_30 : decode cX5_errorOfNewName 30 = .ok (.getfield 95, 3) := by decide +kernel
theorem dX5_errorOfNewName_33 : decode cX5_errorOfNewName 33 = .ok (.istore 5, 2) := by decide +kernel
theorem dX5_errorOfNewName_35 : decode cX5_errorOfNewName 35 = .ok (.aload_n 3, 1) := by decide +kernel
theorem dX5_errorOfNewName_36 : decode cX5_errorOfNewName 36 = .ok (.getstatic 56, 3) := by decide +kernel
theorem dX5_errorOfNewName_39 : decode cX5_errorOfNewName 39 = .ok (.if_acmp .ne 8, 3) := by decide +kernel
theorem dX5_errorOfNewName_42 : decode cX5_errorOfNewName 42 = .ok (.bipush 8, 2) := by decide +kernel
theorem dX5_errorOfNewName_44 : decode cX5_errorOfNewName 44 = .ok (.goto 5, 3) := by decide +kernel
theorem dX5_errorOfNewName_47 : decode cX5_errorOfNewName 47 = .ok (.bipush 8, 2) := by decide +kernel
theorem dX5_errorOfNewName_49 : decode cX5_errorOfNewName 49 = .ok (.istore 6, 2) := by decide +kernel
theorem dX5_errorOfNewName_51 : decode cX5_errorOfNewName 51 = .ok (.aload_n 3, 1) := by decide +kernel
theorem dX5_errorOfNewName_52 : decode cX5_errorOfNewName 52 = .ok (.getstatic 56, 3) := by decide +kernel
theorem dX5_errorOfNewName_55 : decode cX5_errorOfNewName 55 = .ok (.if_acmp .ne 8, 3) := by decide +kernel
theorem dX5_errorOfNewName_58 : decode cX5_errorOfNewName 58 = .ok (.iload 5, 2) := by decide +kernel
theorem dX5_errorOfNewName_60 : decode cX5_errorOfNewName 60 = .ok (.goto 8, 3) := by decide +kernel
theorem dX5_errorOfNewName_63 : decode cX5_errorOfNewName 63 = .ok (.bipush 8, 2) := by decide +kernel
theorem dX5_errorOfNewName_65 : decode cX5_errorOfNewName 65 = .ok (.iload 5, 2) := by decide +kernel
theorem dX5_errorOfNewName_67 : decode cX5_errorOfNewName 67 = .ok (.iadd, 1) := by decide +kernel
theorem dX5_errorOfNewName_68 : decode cX5_errorOfNewName 68 = .ok (.istore 7, 2) := by decide +kernel
theorem dX5_errorOfNewName_70 : decode cX5_errorOfNewName 70 = .ok (.iload 5, 2) := by decide +kernel
theorem dX5_errorOfNewName_72 : decode cX5_errorOfNewName 72 = .ok (.iload 6, 2) := by decide +kernel
theorem dX5_errorOfNewName_74 : decode cX5_errorOfNewName 74 = .ok (.if_icmp .ge 18, 3) := by decide +kernel
theorem dX5_errorOfNewName_77 : decode cX5_errorOfNewName 77 = .ok (.iload 7, 2) := by decide +kernel
theorem dX5_errorOfNewName_79 : decode cX5_errorOfNewName 79 = .ok (.ifCond .lt 13, 3) := by decide +kernel
theorem dX5_errorOfNewName_82 : decode cX5_errorOfNewName 82 = .ok (.iload 7, 2) := by decide +kernel
theorem dX5_errorOfNewName_84 : decode cX5_errorOfNewName 84 = .ok (.aload_n 0, 1) := by decide +kernel
theorem dX5_errorOfNewName_85 : decode cX5_errorOfNewName 85 = .ok (.getfield 9, 3) := by decide +kernel
theorem dX5_errorOfNewName_88 : decode cX5_errorOfNewName 88 = .ok (.arraylength, 1) := by decide +kernel
theorem dX5_errorOfNewName_89 : decode cX5_errorOfNewName 89 = .ok (.if_icmp .lt 5, 3) := by decide +kernel
theorem dX5_errorOfNewName_92 : decode cX5_errorOfNewName 92 = .ok (.iconst 4, 1) := by decide +kernel
theorem dX5_errorOfNewName_93 : decode cX5_errorOfNewName 93 = .ok (.ireturn, 1) := by decide +kernel
theorem dX5_errorOfNewName_94 : decode cX5_errorOfNewName 94 = .ok (.aload_n 0, 1) := by decide +kernel
theorem dX5_errorOfNewName_95 : decode cX5_errorOfNewName 95 = .ok (.getfield 9, 3) := by decide +kernel
theorem dX5_errorOfNewName_98 : decode cX5_errorOfNewName 98 = .ok (.iload 7, 2) := by decide +kernel
theorem dX5_errorOfNewName_100 : decode cX5_errorOfNewName 100 = .ok (.lload_n 1, 1) := by decide +kernel
theorem dX5_errorOfNewName_101 : decode cX5_errorOfNewName 101 = .ok (.lastore, 1) := by decide +kernel
theorem dX5_errorOfNewName_102 : decode cX5_errorOfNewName 102 = .ok (.iconst 0, 1) := by decide +kernel
theorem dX5_errorOfNewName_103 : decode cX5_errorOfNewName 103 = .ok (.ireturn, 1) := by decide +kernel
theorem dX5_errorOfOldName_0 : decode cX5_errorOfOldName 0 = .ok (.aload_n 0, 1) := by decide +kernel
theorem dX5_errorOfOldName_1 : decode cX5_errorOfOldName 1 = .ok (.aload_n 1, 1) := by decide +kernel
theorem dX5_errorOfOldName_2 : decode cX5_errorOfOldName 2 = .ok (.iload_n 2, 1) := by decide +kernel
theorem dX5_errorOfOldName_3 : decode cX5_errorOfOldName 3 = .ok (.invokevirtual 62, 3) := by decide +kernel
theorem dX5_errorOfOldName_6 : decode cX5_errorOfOldName 6 = .ok (.aload_n 3, 1) := by decide +kernel
theorem dX5_errorOfOldName_7 : decode cX5_errorOfOldName 7 = .ok (.invokevirtual 88, 3) := by decide +kernel
theorem dX5_errorOfOldName_10 : decode cX5_errorOfOldName 10 = .ok (.istore 4, 2) := by decide +kernel
theorem dX5_errorOfOldName_12 : decode cX5_errorOfOldName 12 = .ok (.aload_n 1, 1) := by decide +kernel
theorem dX5_errorOfOldName_13 : decode cX5_errorOfOldName 13 = .ok (.iload_n 2, 1) := by decide +kernel
theorem dX5_errorOfOldName_14 : decode cX5_errorOfOldName 14 = .ok (.iconst 1, 1) := by decide +kernel
theorem dX5_errorOfOldName_15 : decode cX5_errorOfOldName 15 = .ok (.isub, 1) := by decide +kernel
theorem dX5_errorOfOldName_16 : decode cX5_errorOfOldName 16 = .ok (.invokevirtual 19, 3) := by decide +kernel
theorem dX5_errorOfOldName_19 : decode cX5_errorOfOldName 19 = .ok (.astore 5, 2) := by decide +kernel
theorem dX5_errorOfOldName_21 : decode cX5_errorOfOldName 21 = .ok (.aload 5, 2) := by decide +kernel
theorem dX5_errorOfOldName_23 : decode cX5_errorOfOldName 23 = .ok (.getstatic 98, 3) := by decide +kernel
theorem dX5_errorOfOldName_26 : decode cX5_errorOfOldName 26 = .ok (.if_acmp .eq 19, 3) := by decide +kernel
theorem dX5_errorOfOldName_29 : decode cX5_errorOfOldName 29 = .ok (.aload 5, 2) := by decide +kernel
theorem dX5_errorOfOldName_31 : decode cX5_errorOfOldName 31 = .ok (.getstatic 101, 3) := by decide +kernel
theorem dX5_errorOfOldName_34 : decode cX5_errorOfOldName 34 = .ok (.if_acmp .eq 11, 3) := by decide +kernel
theorem dX5_errorOfOldName_37 : decode cX5_errorOfOldName 37 = .ok (.aload 5, 2) := by decide +kernel
theorem dX5_errorOfOldName_39 : decode cX5_errorOfOldName 39 = .ok (.getstatic 104, 3) := by decide +kernel
theorem dX5_errorOfOldName_42 : decode cX5_errorOfOldName 42 = .ok (.if_acmp .ne 7, 3) := by decide +kernel
theorem dX5_errorOfOldName_45 : decode cX5_errorOfOldName 45 = .ok (.iconst 1, 1) := by decide +kernel
theorem dX5_errorOfOldName_46 : decode cX5_errorOfOldName 46 = .ok (.goto 4, 3) := by decide +kernel
theorem dX5_errorOfOldName_49 : decode cX5_errorOfOldName 49 = .ok (.iconst 0, 1) := by decide +kernel
theorem dX5_errorOfOldName_50 : decode cX5_errorOfOldName 50 = .ok (.istore 6, 2) := by decide +kernel
theorem dX5_errorOfOldName_52 : decode cX5_errorOfOldName 52 = .ok (.aload 5, 2) := by decide +kernel
theorem dX5_errorOfOldName_54 : decode cX5_errorOfOldName 54 = .ok (.getstatic 107, 3) := by decide +kernel
theorem dX5_errorOfOldName_57 : decode cX5_errorOfOldName 57 = .ok (.if_acmp .ne 20, 3) := by decide +kernel
theorem dX5_errorOfOldName_60 : decode cX5_errorOfOldName 60 = .ok (.aload_n 1, 1) := by decide +kernel
theorem dX5_errorOfOldName_61 : decode cX5_errorOfOldName 61 = .ok (.iload_n 2, 1) := by decide +kernel
theorem dX5_errorOfOldName_62 : decode cX5_errorOfOldName 62 = .ok (.iconst 2, 1) := by decide +kernel
theorem dX5_errorOfOldName_63 : decode cX5_errorOfOldName 63 = .ok (.isub, 1) := by decide +kernel
theorem dX5_errorOfOldName_64 : decode cX5_errorOfOldName 64 = .ok (.invokevirtual 19, 3) := by decide +kernel
theorem dX5_errorOfOldName_67 : decode cX5_errorOfOldName 67 = .ok (.getstatic 110, 3) := by decide +kernel
theorem dX5_errorOfOldName_70 : decode cX5_errorOfOldName 70 = .ok (.if_acmp .ne 7, 3) := by decide +kernel
theorem dX5_errorOfOldName_73 : decode cX5_errorOfOldName 73 = .ok (.iconst 1, 1) := by decide +kernel
theorem dX5_errorOfOldName_74 : decode cX5_errorOfOldName 74 = .ok (.goto 4, 3) := by decide +kernel
theorem dX5_errorOfOldName_77 : decode cX5_errorOfOldName 77 = .ok (.iconst 0, 1) := by decide +kernel
theorem dX5_errorOfOldName_78 : decode cX5_errorOfOldName 78 = .ok (.istore 7, 2) := by decide +kernel
theorem dX5_errorOfOldName_80 : decode cX5_errorOfOldName 80 = .ok (.iload 4, 2) := by decide +kernel
theorem dX5_errorOfOldName_82 : decode cX5_errorOfOldName 82 = .ok (.bipush 8, 2) := by decide +kernel
theorem dX5_errorOfOldName_84 : decode cX5_errorOfOldName 84 = .ok (.if_icmp .lt 7, 3) := by decide +kernel
theorem dX5_errorOfOldName_87 : decode cX5_errorOfOldName 87 = .ok (.iconst 1, 1) := by decide +kernel
theorem dX5_errorOfOldName_88 : decode cX5_errorOfOldName 88 = .ok (.goto 4, 3) := by decide +kernel
theorem dX5_errorOfOldName_91 : decode cX5_errorOfOldName 91 = .ok (.iconst 0, 1) := by decide +kernel
theorem dX5_errorOfOldName_92 : decode cX5_errorOfOldName 92 = .ok (.istore 8, 2) := by decide +kernel
theorem dX5_errorOfOldName_94 : decode cX5_errorOfOldName 94 = .ok (.iload 4, 2) := by decide +kernel
theorem dX5_errorOfOldName_96 : decode cX5_errorOfOldName 96 = .ok (.iconst (-1), 1) := by decide +kernel
theorem dX5_errorOfOldName_97 : decode cX5_errorOfOldName 97 = .ok (.if_icmp .eq 15, 3) := by decide +kernel
theorem dX5_errorOfOldName_100 : decode cX5_errorOfOldName 100 = .ok (.iload 6, 2) := by decide +kernel
theorem dX5_errorOfOldName_102 : decode cX5_errorOfOldName 102 = .ok (.ifCond .ne 12, 3) := by decide +kernel
theorem dX5_errorOfOldName_105 : decode cX5_errorOfOldName 105 = .ok (.iload 7, 2) := by decide +kernel
theorem dX5_errorOfOldName_107 : decode cX5_errorOfOldName 107 = .ok (.iload 8, 2) := by decide +kernel
theorem dX5_errorOfOldName_109 : decode cX5_errorOfOldName 109 = .ok (.if_icmp .eq 5, 3) := by decide +kernel
theorem dX5_errorOfOldName_112 : decode cX5_errorOfOldName 112 = .ok (.iconst 3, 1) := by decide +kernel
theorem dX5_errorOfOldName_113 : decode cX5_errorOfOldName 113 = .ok (.ireturn, 1) := by decide +kernel
theorem dX5_errorOfOldName_114 : decode cX5_errorOfOldName 114 = .ok (.aload_n 1, 1) := by decide +kernel
theorem dX5_errorOfOldName_115 : decode cX5_errorOfOldName 115 = .ok (.iload_n 2, 1) := by decide +kernel
theorem dX5_errorOfOldName_116 : decode cX5_errorOfOldName 116 = .ok (.iload 4, 2) := by decide +kernel
theorem dX5_errorOfOldName_118 : decode cX5_errorOfOldName 118 = .ok (.invokevirtual 113, 3) := by decide +kernel
theorem dX5_errorOfOldName_121 : decode cX5_errorOfOldName 121 = .ok (.iconst 0, 1) := by decide +kernel
theorem dX5_errorOfOldName_122 : decode cX5_errorOfOldName 122 = .ok (.ireturn, 1) := by decide +kernel
theorem dX5_listenerNamed_0 : decode cX5_listenerNamed 0 = .ok (.iconst 0, 1) := by decide +kernel
theorem dX5_listenerNamed_1 : decode cX5_listenerNamed 1 = .ok (.istore 4, 2) := by decide +kernel
theorem dX5_listenerNamed_3 : decode cX5_listenerNamed 3 = .ok (.iload 4, 2) := by decide +kernel
theorem dX5_listenerNamed_5 : decode cX5_listenerNamed 5 = .ok (.aload_n 0, 1) := by decide +kernel
theorem dX5_listenerNamed_6 : decode cX5_listenerNamed 6 = .ok (.getfield 9, 3) := by decide +kernel
theorem dX5_listenerNamed_9 : decode cX5_listenerNamed 9 = .ok (.arraylength, 1) := by decide +kernel
theorem dX5_listenerNamed_10 : decode cX5_listenerNamed 10 = .ok (.if_icmp .ge 72, 3) := by decide +kernel
theorem dX5_listenerNamed_13 : decode cX5_listenerNamed 13 = .ok (.iload 4, 2) := by decide +kernel
theorem dX5_listenerNamed_15 : decode cX5_listenerNamed 15 = .ok (.bipush 8, 2) := by decide +kernel
theorem dX5_listenerNamed_17 : decode cX5_listenerNamed 17 = .ok (.if_icmp .ge 20, 3) := by decide +kernel
theorem dX5_listenerNamed_20 : decode cX5_listenerNamed 20 = .ok (.iload 4, 2) := by decide +kernel
theorem dX5_listenerNamed_22 : decode cX5_listenerNamed 22 = .ok (.aload_n 3, 1) := by decide +kernel
theorem dX5_listenerNamed_23 : decode cX5_listenerNamed 23 = .ok (.getfield 92, 3) := by decide +kernel
theorem dX5_listenerNamed_26 : decode cX5_listenerNamed 26 = .ok (.if_icmp .ge 7, 3) := by decide +kernel
theorem dX5_listenerNamed_29 : decode cX5_listenerNamed 29 = .ok (.iconst 1, 1) := by decide +kernel
theorem dX5_listenerNamed_30 : decode cX5_listenerNamed 30 = .ok (.goto 24, 3) := by decide +kernel
theorem dX5_listenerNamed_33 : decode cX5_listenerNamed 33 = .ok (.iconst 0, 1) := by decide +kernel
theorem dX5_listenerNamed_34 : decode cX5_listenerNamed 34 = .ok (.goto 20, 3) := by decide +kernel
theorem dX5_listenerNamed_37 : decode cX5_listenerNamed 37 = .ok (.iload 4, 2) := by decide +kernel
theorem dX5_listenerNamed_39 : decode cX5_listenerNamed 39 = .ok (.bipush 8, 2) := by decide +kernel
theorem dX5_listenerNamed_41 : decode cX5_listenerNamed 41 = .ok (.isub, 1) := by decide +kernel
theorem dX5_listenerNamed_42 : decode cX5_listenerNamed 42 = .ok (.aload_n 3, 1) := by decide +kernel
theorem dX5_listenerNamed_43 : decode cX5_listenerNamed 43 = .ok (.getfield 95, 3) := by decide +kernel
theorem dX5_listenerNamed_46 : decode cX5_listenerNamed 46 = .ok (.if_icmp .ge 7, 3) := by decide +kernel
theorem dX5_listenerNamed_49 : decode cX5_listenerNamed 49 = .ok (.iconst 1, 1) := by decide +kernel
theorem dX5_listenerNamed_50 : decode cX5_listenerNamed 50 = .ok (.goto 4, 3) := by decide +kernel
theorem dX5_listenerNamed_53 : decode cX5_listenerNamed 53 = .ok (.iconst 0, 1) := by decide +kernel
theorem dX5_listenerNamed_54 : decode cX5_listenerNamed 54 = .ok (.istore 5, 2) := by decide +kernel
theorem dX5_listenerNamed_56 : decode cX5_listenerNamed 56 = .ok (.iload 5, 2) := by decide +kernel
theorem dX5_listenerNamed_58 : decode cX5_listenerNamed 58 = .ok (.ifCond .eq 18, 3) := by decide +kernel
theorem dX5_listenerNamed_61 : decode cX5_listenerNamed 61 = .ok (.aload_n 0, 1) := by decide +kernel
theorem dX5_listenerNamed_62 : decode cX5_listenerNamed 62 = .ok (.getfield 9, 3) := by decide +kernel
theorem dX5_listenerNamed_65 : decode cX5_listenerNamed 65 = .ok (.iload 4, 2) := by decide +kernel
theorem dX5_listenerNamed_67 : decode cX5_listenerNamed 67 = .ok (.laload, 1) := by decide +kernel
theorem dX5_listenerNamed_68 : decode cX5_listenerNamed 68 = .ok (.lload_n 1, 1) := by decide +kernel
theorem dX5_listenerNamed_69 : decode cX5_listenerNamed 69 = .ok (.lcmp, 1) := by decide +kernel
theorem dX5_listenerNamed_70 : decode cX5_listenerNamed 70 = .ok (.ifCond .ne 6, 3) := by decide +kernel
theorem dX5_listenerNamed_73 : decode cX5_listenerNamed 73 = .ok (.iload 4, 2) := by decide +kernel
theorem dX5_listenerNamed_75 : decode cX5_listenerNamed 75 = .ok (.ireturn, 1) := by decide +kernel
theorem dX5_listenerNamed_76 : decode cX5_listenerNamed 76 = .ok (.iinc 4 1, 3) := by decide +kernel
theorem dX5_listenerNamed_79 : decode cX5_listenerNamed 79 = .ok (.goto (-76), 3) := by decide +kernel
theorem dX5_listenerNamed_82 : decode cX5_listenerNamed 82 = .ok (.iconst (-1), 1) := by decide +kernel
theorem dX5_listenerNamed_83 : decode cX5_listenerNamed 83 = .ok (.ireturn, 1) := by decide +kernel
theorem dX6_init_0 : decode cX6_init 0 = .ok (.aload_n 0, 1) := by decide +kernel
theorem dX6_init_1 : decode cX6_init 1 = .ok (.invokespecial 3, 3) := by decide +kernel
theorem dX6_init_4 : decode cX6_init 4 = .ok (.aload_n 0, 1) := by decide +kernel
theorem dX6_init_5 : decode cX6_init 5 = .ok (.sipush 128, 3) := by decide +kernel
theorem dX6_init_8 : decode cX6_init 8 = .ok (.newarray .int, 2) := by decide +kernel
theorem dX6_init_10 : decode cX6_init 10 = .ok (.putfield 9, 3) := by decide +kernel
theorem dX6_init_13 : decode cX6_init 13 = .ok (.aload_n 0, 1) := by decide +kernel
theorem dX6_init_14 : decode cX6_init 14 = .ok (.sipush 128, 3) := by decide +kernel
theorem dX6_init_17 : decode cX6_init 17 = .ok (.newarray .int, 2) := by decide +kernel
theorem dX6_init_19 : decode cX6_init 19 = .ok (.putfield 15, 3) := by decide +kernel
theorem dX6_init_22 : decode cX6_init 22 = .ok (.aload_n 0, 1) := by decide +kernel
theorem dX6_init_23 : decode cX6_init 23 = .ok (.sipush 128, 3) := by decide +kernel
theorem dX6_init_26 : decode cX6_init 26 = .ok (.newarray .int, 2) := by decide +kernel
theorem dX6_init_28 : decode cX6_init 28 = .ok (.putfield 18, 3) := by decide +kernel
theorem dX6_init_31 : decode cX6_init 31 = .ok (.aload_n 0, 1) := by decide +kernel
theorem dX6_init_32 : decode cX6_init 32 = .ok (.bipush 8, 2) := by decide +kernel
theorem dX6_init_34 : decode cX6_init 34 = .ok (.newarray .int, 2) := by decide +kernel
theorem dX6_init_36 : decode cX6_init 36 = .ok (.putfield 21, 3) := by decide +kernel
theorem dX6_init_39 : decode cX6_init 39 = .ok (.aload_n 0, 1) := by decide +kernel
theorem dX6_init_40 : decode cX6_init 40 = .ok (.bipush 8, 2) := by decide +kernel
theorem dX6_init_42 : decode cX6_init 42 = .ok (.newarray .boolean, 2) := by decide +kernel
theorem dX6_init_44 : decode cX6_init 44 = .ok (.putfield 24, 3) := by decide +kernel
theorem dX6_init_47 : decode cX6_init 47 = .ok (.return_, 1) := by decide +kernel
theorem dX6_carry_0 : decode cX6_carry 0 = .ok (.iconst 0, 1) := by decide +kernel
theorem dX6_carry_1 : decode cX6_carry 1 = .ok (.istore 4, 2) := by decide +kernel
theorem dX6_carry_3 : decode cX6_carry 3 = .ok (.iload 4, 2) := by decide +kernel
theorem dX6_carry_5 : decode cX6_carry 5 = .ok (.bipush 8, 2) := by decide +kernel
theorem dX6_carry_7 : decode cX6_carry 7 = .ok (.if_icmp .ge 25, 3) := by decide +kernel
theorem dX6_carry_10 : decode cX6_carry 10 = .ok (.aload_n 0, 1) := by decide +kernel
theorem dX6_carry_11 : decode cX6_carry 11 = .ok (.getfield 21, 3) := by decide +kernel
theorem dX6_carry_14 : decode cX6_carry 14 = .ok (.iload 4, 2) := by decide +kernel
theorem dX6_carry_16 : decode cX6_carry 16 = .ok (.iconst 0, 1) := by decide +kernel
theorem dX6_carry_17 : decode cX6_carry 17 = .ok (.iastore, 1) := by decide +kernel
theorem dX6_carry_18 : decode cX6_carry 18 = .ok (.aload_n 0, 1) := by decide +kernel
theorem dX6_carry_19 : decode cX6_carry 19 = .ok (.getfield 24, 3) := by decide +kernel
theorem dX6_carry_22 : decode cX6_carry 22 = .ok (.iload 4, 2) := by decide +kernel
theorem dX6_carry_24 : decode cX6_carry 24 = .ok (.iconst 0, 1) := by decide +kernel
theorem dX6_carry_25 : decode cX6_carry 25 = .ok (.bastore, 1) := by decide +kernel
theorem dX6_carry_26 : decode cX6_carry 26 = .ok (.iinc 4 1, 3) := by decide +kernel
theorem dX6_carry_29 : decode cX6_carry 29 = .ok (.goto (-26), 3) := by decide +kernel
theorem dX6_carry_32 : decode cX6_carry 32 = .ok (.aload_n 0, 1) := by decide +kernel
theorem dX6_carry_33 : decode cX6_carry 33 = .ok (.iconst 0, 1) := by decide +kernel
theorem dX6_carry_34 : decode cX6_carry 34 = .ok (.putfield 28, 3) := by decide +kernel
theorem dX6_carry_37 : decode cX6_carry 37 = .ok (.aload_n 0, 1) := by decide +kernel
theorem dX6_carry_38 : decode cX6_carry 38 = .ok (.aload_n 1, 1) := by decide +kernel
theorem dX6_carry_39 : decode cX6_carry 39 = .ok (.iload_n 2, 1) := by decide +kernel
theorem dX6_carry_40 : decode cX6_carry 40 = .ok (.iload_n 3, 1) := by decide +kernel
theorem dX6_carry_41 : decode cX6_carry 41 = .ok (.invokevirtual 32, 3) := by decide +kernel
theorem dX6_carry_44 : decode cX6_carry 44 = .ok (.iconst 0, 1) := by decide +kernel
theorem dX6_carry_45 : decode cX6_carry 45 = .ok (.istore 4, 2) := by decide +kernel
theorem dX6_carry_47 : decode cX6_carry 47 = .ok (.iload 4, 2) := by decide +kernel
theorem dX6_carry_49 : decode cX6_carry 49 = .ok (.sipush 128, 3) := by decide +kernel
theorem dX6_carry_52 : decode cX6_carry 52 = .ok (.if_icmp .ge 77, 3) := by decide +kernel
theorem dX6_carry_55 : decode cX6_carry 55 = .ok (.iload 4, 2) := by decide +kernel
theorem dX6_carry_57 : decode cX6_carry 57 = .ok (.aload_n 0, 1) := by decide +kernel
theorem dX6_carry_58 : decode cX6_carry 58 = .ok (.getfield 28, 3) := by decide +kernel
theorem dX6_carry_61 : decode cX6_carry 61 = .ok (.if_icmp .ge 68, 3) := by decide +kernel
theorem dX6_carry_64 : decode cX6_carry 64 = .ok (.aload_n 0, 1) := by decide +kernel
theorem dX6_carry_65 : decode cX6_carry 65 = .ok (.getfield 15, 3) := by decide +kernel
theorem dX6_carry_68 : decode cX6_carry 68 = .ok (.iload 4, 2) := by decide +kernel
theorem dX6_carry_70 : decode cX6_carry 70 = .ok (.iaload, 1) := by decide +kernel
theorem dX6_carry_71 : decode cX6_carry 71 = .ok (.bipush 8, 2) := by decide +kernel
theorem dX6_carry_73 : decode cX6_carry 73 = .ok (.if_icmp .ge 25, 3) := by decide +kernel
theorem dX6_carry_76 : decode cX6_carry 76 = .ok (.aload_n 0, 1) := by decide +kernel
theorem dX6_carry_77 : decode cX6_carry 77 = .ok (.aload_n 1, 1) := by decide +kernel
theorem dX6_carry_78 : decode cX6_carry 78 = .ok (.aload_n 0, 1) := by decide +kernel
theorem dX6_carry_79 : decode cX6_carry 79 = .ok (.getfield 15, 3) := by decide +kernel
theorem dX6_carry_82 : decode cX6_carry 82 = .ok (.iload 4, 2) := by decide +kernel
theorem dX6_carry_84 : decode cX6_carry 84 = .ok (.iaload, 1) := by decide +kernel
theorem dX6_carry_85 : decode cX6_carry 85 = .ok (.aload_n 0, 1) := by decide +kernel
theorem dX6_carry_86 : decode cX6_carry 86 = .ok (.getfield 18, 3) := by decide +kernel
theorem dX6_carry_89 : decode cX6_carry 89 = .ok (.iload 4, 2) := by decide +kernel
theorem dX6_carry_91 : decode cX6_carry 91 = .ok (.iaload, 1) := by decide +kernel
theorem dX6_carry_92 : decode cX6_carry 92 = .ok (.invokevirtual 32, 3) := by decide +kernel
theorem dX6_carry_95 : decode cX6_carry 95 = .ok (.goto 28, 3) := by decide +kernel
theorem dX6_carry_98 : decode cX6_carry 98 = .ok (.aload_n 1, 1) := by decide +kernel
theorem dX6_carry_99 : decode cX6_carry 99 = .ok (.aload_n 0, 1) := by decide +kernel
theorem dX6_carry_100 : decode cX6_carry 100 = .ok (.getfield 15, 3) := by decide +kernel
theorem dX6_carry_103 : decode cX6_carry 103 = .ok (.iload 4, 2) := by decide +kernel
theorem dX6_carry_105 : decode cX6_carry 105 = .ok (.iaload, 1) := by decide +kernel
theorem dX6_carry_106 : decode cX6_carry 106 = .ok (.aload_n 0, 1) := by decide +kernel
theorem dX6_carry_107 : decode cX6_carry 107 = .ok (.getfield 9, 3) := by decide +kernel
theorem dX6_carry_110 : decode cX6_carry 110 = .ok (.iload 4, 2) := by decide +kernel
theorem dX6_carry_112 : decode cX6_carry 112 = .ok (.iaload, 1) := by decide +kernel
theorem dX6_carry_113 : decode cX6_carry 113 = .ok (.aload_n 0, 1) := by decide +kernel
theorem dX6_carry_114 : decode cX6_carry 114 = .ok (.getfield 18, 3) := by decide +kernel
theorem dX6_carry_117 : decode cX6_carry 117 = .ok (.iload 4, 2) := by decide +kernel
theorem dX6_carry_119 : decode cX6_carry 119 = .ok (.iaload, 1) := by decide +kernel
theorem dX6_carry_120 : decode cX6_carry 120 = .ok (.invokevirtual 36, 3) := by decide +kernel
theorem dX6_carry_123 : decode cX6_carry 123 = .ok (.iinc 4 1, 3) := by decide +kernel
theorem dX6_carry_126 : decode cX6_carry 126 = .ok (.goto (-79), 3) := by decide +kernel
theorem dX6_carry_129 : decode cX6_carry 129 = .ok (.aload_n 1, 1) := by decide +kernel
theorem dX6_carry_130 : decode cX6_carry 130 = .ok (.dup, 1) := by decide +kernel
theorem dX6_carry_131 : decode cX6_carry 131 = .ok (.getfield 42, 3) := by decide +kernel
theorem dX6_carry_134 : decode cX6_carry 134 = .ok (.aload_n 0, 1) := by decide +kernel
theorem dX6_carry_135 : decode cX6_carry 135 = .ok (.getfield 28, 3) := by decide +kernel
theorem dX6_carry_138 : decode cX6_carry 138 = .ok (.iadd, 1) := by decide +kernel
theorem dX6_carry_139 : decode cX6_carry 139 = .ok (.putfield 42, 3) := by decide +kernel
theorem dX6_carry_142 : decode cX6_carry 142 = .ok (.aload_n 0, 1) := by decide +kernel
theorem dX6_carry_143 : decode cX6_carry 143 = .ok (.getfield 28, 3) := by decide +kernel
theorem dX6_carry_146 : decode cX6_carry 146 = .ok (.ireturn, 1) := by decide +kernel
theorem dX6_hedgeHears_0 : decode cX6_hedgeHears 0 = .ok (.aload_n 1, 1) := by decide +kernel
theorem dX6_hedgeHears_1 : decode cX6_hedgeHears 1 = .ok (.iload_n 2, 1) := by decide +kernel
theorem dX6_hedgeHears_2 : decode cX6_hedgeHears 2 = .ok (.invokevirtual 45, 3) := by decide +kernel
theorem dX6_hedgeHears_5 : decode cX6_hedgeHears 5 = .ok (.astore 4, 2) := by decide +kernel
theorem dX6_hedgeHears_7 : decode cX6_hedgeHears 7 = .ok (.aload 4, 2) := by decide +kernel
theorem dX6_hedgeHears_9 : decode cX6_hedgeHears 9 = .ok (.ifnull 13, 3) := by decide +kernel
theorem dX6_hedgeHears_12 : decode cX6_hedgeHears 12 = .ok (.iload_n 2, 1) := by decide +kernel
theorem dX6_hedgeHears_13 : decode cX6_hedgeHears 13 = .ok (.ifCond .lt 9, 3) := by decide +kernel
theorem dX6_hedgeHears_16 : decode cX6_hedgeHears 16 = .ok (.iload_n 2, 1) := by decide +kernel
theorem dX6_hedgeHears_17 : decode cX6_hedgeHears 17 = .ok (.bipush 8, 2) := by decide +kernel
theorem dX6_hedgeHears_19 : decode cX6_hedgeHears 19 = .ok (.if_icmp .lt 4, 3) := by decide +kernel
theorem dX6_hedgeHears_22 : decode cX6_hedgeHears 22 = .ok (.return_, 1) := by decide +kernel
theorem dX6_hedgeHears_23 : decode cX6_hedgeHears 23 = .ok (.aload_n 0, 1) := by decide +kernel
theorem dX6_hedgeHears_24 : decode cX6_hedgeHears 24 = .ok (.getfield 21, 3) := by decide +kernel
theorem dX6_hedgeHears_27 : decode cX6_hedgeHears 27 = .ok (.iload_n 2, 1) := by decide +kernel
theorem dX6_hedgeHears_28 : decode cX6_hedgeHears 28 = .ok (.iaload, 1) := by decide +kernel
theorem dX6_hedgeHears_29 : decode cX6_hedgeHears 29 = .ok (.ifCond .le 21, 3) := by decide +kernel
theorem dX6_hedgeHears_32 : decode cX6_hedgeHears 32 = .ok (.aload_n 0, 1) := by decide +kernel
theorem dX6_hedgeHears_33 : decode cX6_hedgeHears 33 = .ok (.getfield 24, 3) := by decide +kernel
theorem dX6_hedgeHears_36 : decode cX6_hedgeHears 36 = .ok (.iload_n 2, 1) := by decide +kernel
theorem dX6_hedgeHears_37 : decode cX6_hedgeHears 37 = .ok (.iconst 1, 1) := by decide +kernel
theorem dX6_hedgeHears_38 : decode cX6_hedgeHears 38 = .ok (.bastore, 1) := by decide +kernel
theorem dX6_hedgeHears_39 : decode cX6_hedgeHears 39 = .ok (.aload_n 1, 1) := by decide +kernel
theorem dX6_hedgeHears_40 : decode cX6_hedgeHears 40 = .ok (.dup, 1) := by decide +kernel
theorem dX6_hedgeHears_41 : decode cX6_hedgeHears 41 = .ok (.getfield 49, 3) := by decide +kernel
theorem dX6_hedgeHears_44 : decode cX6_hedgeHears 44 = .ok (.iconst 1, 1) := by decide +kernel
theorem dX6_hedgeHears_45 : decode cX6_hedgeHears 45 = .ok (.iadd, 1) := by decide +kernel
theorem dX6_hedgeHears_46 : decode cX6_hedgeHears 46 = .ok (.putfield 49, 3) := by decide +kernel
theorem dX6_hedgeHears_49 : decode cX6_hedgeHears 49 = .ok (.return_, 1) := by decide +kernel
theorem dX6_hedgeHears_50 : decode cX6_hedgeHears 50 = .ok (.aload_n 0, 1) := by decide +kernel
theorem dX6_hedgeHears_51 : decode cX6_hedgeHears 51 = .ok (.getfield 21, 3) := by decide +kernel
theorem dX6_hedgeHears_54 : decode cX6_hedgeHears 54 = .ok (.iload_n 2, 1) := by decide +kernel
theorem dX6_hedgeHears_55 : decode cX6_hedgeHears 55 = .ok (.iload_n 3, 1) := by decide +kernel
theorem dX6_hedgeHears_56 : decode cX6_hedgeHears 56 = .ok (.iastore, 1) := by decide +kernel
theorem dX6_hedgeHears_57 : decode cX6_hedgeHears 57 = .ok (.aload 4, 2) := by decide +kernel
theorem dX6_hedgeHears_59 : decode cX6_hedgeHears 59 = .ok (.dup, 1) := by decide +kernel
theorem dX6_hedgeHears_60 : decode cX6_hedgeHears 60 = .ok (.getfield 52, 3) := by decide +kernel
theorem dX6_hedgeHears_63 : decode cX6_hedgeHears 63 = .ok (.iconst 1, 1) := by decide +kernel
theorem dX6_hedgeHears_64 : decode cX6_hedgeHears 64 = .ok (.iadd, 1) := by decide +kernel
theorem dX6_hedgeHears_65 : decode cX6_hedgeHears 65 = .ok (.putfield 52, 3) := by decide +kernel
theorem dX6_hedgeHears_68 : decode cX6_hedgeHears 68 = .ok (.aload 4, 2) := by decide +kernel
theorem dX6_hedgeHears_70 : decode cX6_hedgeHears 70 = .ok (.iload_n 3, 1) := by decide +kernel
theorem dX6_hedgeHears_71 : decode cX6_hedgeHears 71 = .ok (.putfield 57, 3) := by decide +kernel
theorem dX6_hedgeHears_74 : decode cX6_hedgeHears 74 = .ok (.iload_n 3, 1) := by decide +kernel
theorem dX6_hedgeHears_75 : decode cX6_hedgeHears 75 = .ok (.aload 4, 2) := by decide +kernel
theorem dX6_hedgeHears_77 : decode cX6_hedgeHears 77 = .ok (.getfield 60, 3) := by decide +kernel
theorem dX6_hedgeHears_80 : decode cX6_hedgeHears 80 = .ok (.isub, 1) := by decide +kernel
theorem dX6_hedgeHears_81 : decode cX6_hedgeHears 81 = .ok (.iconst 1, 1) := by decide +kernel
theorem dX6_hedgeHears_82 : decode cX6_hedgeHears 82 = .ok (.if_icmp .ge 4, 3) := by decide +kernel
theorem dX6_hedgeHears_85 : decode cX6_hedgeHears 85 = .ok (.return_, 1) := by decide +kernel
theorem dX6_hedgeHears_86 : decode cX6_hedgeHears 86 = .ok (.iconst 0, 1) := by decide +kernel
theorem dX6_hedgeHears_87 : decode cX6_hedgeHears 87 = .ok (.istore 5, 2) := by decide +kernel
theorem dX6_hedgeHears_89 : decode cX6_hedgeHears 89 = .ok (.iload 5, 2) := by decide +kernel
theorem dX6_hedgeHears_91 : decode cX6_hedgeHears 91 = .ok (.aload 4, 2) := by decide +kernel
theorem dX6_hedgeHears_93 : decode cX6_hedgeHears 93 = .ok (.getfield 63, 3) := by decide +kernel
theorem dX6_hedgeHears_96 : decode cX6_hedgeHears 96 = .ok (.if_icmp .ge 28, 3) := by decide +kernel
theorem dX6_hedgeHears_99 : decode cX6_hedgeHears 99 = .ok (.aload_n 0, 1) := by decide +kernel
theorem dX6_hedgeHears_100 : decode cX6_hedgeHears 100 = .ok (.iload_n 2, 1) := by decide +kernel
theorem dX6_hedgeHears_101 : decode cX6_hedgeHears 101 = .ok (.aload 4, 2) := by decide +kernel
theorem dX6_hedgeHears_103 : decode cX6_hedgeHears 103 = .ok (.iload 5, 2) := by decide +kernel
theorem dX6_hedgeHears_105 : decode cX6_hedgeHears 105 = .ok (.invokevirtual 66, 3) := by decide +kernel
theorem dX6_hedgeHears_108 : decode cX6_hedgeHears 108 = .ok (.iload_n 3, 1) := by decide +kernel
theorem dX6_hedgeHears_109 : decode cX6_hedgeHears 109 = .ok (.aload 4, 2) := by decide +kernel
theorem dX6_hedgeHears_111 : decode cX6_hedgeHears 111 = .ok (.getfield 60, 3) := by decide +kernel
theorem dX6_hedgeHears_114 : decode cX6_hedgeHears 114 = .ok (.isub, 1) := by decide +kernel
theorem dX6_hedgeHears_115 : decode cX6_hedgeHears 115 = .ok (.invokevirtual 70, 3) := by decide +kernel
theorem dX6_hedgeHears_118 : decode cX6_hedgeHears 118 = .ok (.iinc 5 1, 3) := by decide +kernel
theorem dX6_hedgeHears_121 : decode cX6_hedgeHears 121 = .ok (.goto (-32), 3) := by decide +kernel
theorem dX6_hedgeHears_124 : decode cX6_hedgeHears 124 = .ok (.return_, 1) := by decide +kernel
theorem dX6_whisper_0 : decode cX6_whisper 0 = .ok (.aload_n 0, 1) := by decide +kernel
theorem dX6_whisper_1 : decode cX6_whisper 1 = .ok (.getfield 28, 3) := by decide +kernel
theorem dX6_whisper_4 : decode cX6_whisper 4 = .ok (.ifCond .lt 53, 3) := by decide +kernel
theorem dX6_whisper_7 : decode cX6_whisper 7 = .ok (.aload_n 0, 1) := by decide +kernel
theorem dX6_whisper_8 : decode cX6_whisper 8 = .ok (.getfield 28, 3) := by decide +kernel
theorem dX6_whisper_11 : decode cX6_whisper 11 = .ok (.sipush 128, 3) := by decide +kernel
theorem dX6_whisper_14 : decode cX6_whisper 14 = .ok (.if_icmp .ge 43, 3) := by decide +kernel
theorem dX6_whisper_17 : decode cX6_whisper 17 = .ok (.aload_n 0, 1) := by decide +kernel
theorem dX6_whisper_18 : decode cX6_whisper 18 = .ok (.getfield 9, 3) := by decide +kernel
theorem dX6_whisper_21 : decode cX6_whisper 21 = .ok (.aload_n 0, 1) := by decide +kernel
theorem dX6_whisper_22 : decode cX6_whisper 22 = .ok (.getfield 28, 3) := by decide +kernel
theorem dX6_whisper_25 : decode cX6_whisper 25 = .ok (.iload_n 1, 1) := by decide +kernel
theorem dX6_whisper_26 : decode cX6_whisper 26 = .ok (.iastore, 1) := by decide +kernel
theorem dX6_whisper_27 : decode cX6_whisper 27 = .ok (.aload_n 0, 1) := by decide +kernel
theorem dX6_whisper_28 : decode cX6_whisper 28 = .ok (.getfield 15, 3) := by decide +kernel
theorem dX6_whisper_31 : decode cX6_whisper 31 = .ok (.aload_n 0, 1) := by decide +kernel
theorem dX6_whisper_32 : decode cX6_whisper 32 = .ok (.getfield 28, 3) := by decide +kernel
theorem dX6_whisper_35 : decode cX6_whisper 35 = .ok (.iload_n 2, 1) := by decide +kernel
theorem dX6_whisper_36 : decode cX6_whisper 36 = .ok (.iastore, 1) := by decide +kernel
theorem dX6_whisper_37 : decode cX6_whisper 37 = .ok (.aload_n 0, 1) := by decide +kernel
theorem dX6_whisper_38 : decode cX6_whisper 38 = .ok (.getfield 18, 3) := by decide +kernel
theorem dX6_whisper_41 : decode cX6_whisper 41 = .ok (.aload_n 0, 1) := by decide +kernel
theorem dX6_whisper_42 : decode cX6_whisper 42 = .ok (.getfield 28, 3) := by decide +kernel
theorem dX6_whisper_45 : decode cX6_whisper 45 = .ok (.iload_n 3, 1) := by decide +kernel
theorem dX6_whisper_46 : decode cX6_whisper 46 = .ok (.iastore, 1) := by decide +kernel
theorem dX6_whisper_47 : decode cX6_whisper 47 = .ok (.aload_n 0, 1) := by decide +kernel
theorem dX6_whisper_48 : decode cX6_whisper 48 = .ok (.dup, 1) := by decide +kernel
theorem dX6_whisper_49 : decode cX6_whisper 49 = .ok (.getfield 28, 3) := by decide +kernel
theorem dX6_whisper_52 : decode cX6_whisper 52 = .ok (.iconst 1, 1) := by decide +kernel
theorem dX6_whisper_53 : decode cX6_whisper 53 = .ok (.iadd, 1) := by decide +kernel
theorem dX6_whisper_54 : decode cX6_whisper 54 = .ok (.putfield 28, 3) := by decide +kernel
theorem dX6_whisper_57 : decode cX6_whisper 57 = .ok (.return_, 1) := by decide +kernel
theorem dX6_hedgesReached_0 : decode cX6_hedgesReached 0 = .ok (.iconst 0, 1) := by decide +kernel
theorem dX6_hedgesReached_1 : decode cX6_hedgesReached 1 = .ok (.istore_n 1, 1) := by decide +kernel
theorem dX6_hedgesReached_2 : decode cX6_hedgesReached 2 = .ok (.iconst 0, 1) := by decide +kernel
theorem dX6_hedgesReached_3 : decode cX6_hedgesReached 3 = .ok (.istore_n 2, 1) := by decide +kernel
theorem dX6_hedgesReached_4 : decode cX6_hedgesReached 4 = .ok (.iload_n 2, 1) := by decide +kernel
theorem dX6_hedgesReached_5 : decode cX6_hedgesReached 5 = .ok (.aload_n 0, 1) := by decide +kernel
theorem dX6_hedgesReached_6 : decode cX6_hedgesReached 6 = .ok (.getfield 21, 3) := by decide +kernel
theorem dX6_hedgesReached_9 : decode cX6_hedgesReached 9 = .ok (.arraylength, 1) := by decide +kernel
theorem dX6_hedgesReached_10 : decode cX6_hedgesReached 10 = .ok (.if_icmp .ge 21, 3) := by decide +kernel
theorem dX6_hedgesReached_13 : decode cX6_hedgesReached 13 = .ok (.aload_n 0, 1) := by decide +kernel
theorem dX6_hedgesReached_14 : decode cX6_hedgesReached 14 = .ok (.getfield 21, 3) := by decide +kernel
theorem dX6_hedgesReached_17 : decode cX6_hedgesReached 17 = .ok (.iload_n 2, 1) := by decide +kernel
theorem dX6_hedgesReached_18 : decode cX6_hedgesReached 18 = .ok (.iaload, 1) := by decide +kernel
theorem dX6_hedgesReached_19 : decode cX6_hedgesReached 19 = .ok (.ifCond .le 6, 3) := by decide +kernel
theorem dX6_hedgesReached_22 : decode cX6_hedgesReached 22 = .ok (.iinc 1 1, 3) := by decide +kernel
theorem dX6_hedgesReached_25 : decode cX6_hedgesReached 25 = .ok (.iinc 2 1, 3) := by decide +kernel
theorem dX6_hedgesReached_28 : decode cX6_hedgesReached 28 = .ok (.goto (-24), 3) := by decide +kernel
theorem dX6_hedgesReached_31 : decode cX6_hedgesReached 31 = .ok (.iload_n 1, 1) := by decide +kernel
theorem dX6_hedgesReached_32 : decode cX6_hedgesReached 32 = .ok (.ireturn, 1) := by decide +kernel
theorem dX6_firstLoudnessAt_0 : decode cX6_firstLoudnessAt 0 = .ok (.iload_n 1, 1) := by decide +kernel
theorem dX6_firstLoudnessAt_1 : decode cX6_firstLoudnessAt 1 = .ok (.ifCond .lt 12, 3) := by decide +kernel
theorem dX6_firstLoudnessAt_4 : decode cX6_firstLoudnessAt 4 = .ok (.iload_n 1, 1) := by decide +kernel
theorem dX6_firstLoudnessAt_5 : decode cX6_firstLoudnessAt 5 = .ok (.aload_n 0, 1) := by decide +kernel
theorem dX6_firstLoudnessAt_6 : decode cX6_firstLoudnessAt 6 = .ok (.getfield 21, 3) := by decide +kernel
theorem dX6_firstLoudnessAt_9 : decode cX6_firstLoudnessAt 9 = .ok (.arraylength, 1) := by decide +kernel
theorem dX6_firstLoudnessAt_10 : decode cX6_firstLoudnessAt 10 = .ok (.if_icmp .lt 7, 3) := by decide +kernel
theorem dX6_firstLoudnessAt_13 : decode cX6_firstLoudnessAt 13 = .ok (.iconst 0, 1) := by decide +kernel
theorem dX6_firstLoudnessAt_14 : decode cX6_firstLoudnessAt 14 = .ok (.goto 9, 3) := by decide +kernel
theorem dX6_firstLoudnessAt_17 : decode cX6_firstLoudnessAt 17 = .ok (.aload_n 0, 1) := by decide +kernel
theorem dX6_firstLoudnessAt_18 : decode cX6_firstLoudnessAt 18 = .ok (.getfield 21, 3) := by decide +kernel
theorem dX6_firstLoudnessAt_21 : decode cX6_firstLoudnessAt 21 = .ok (.iload_n 1, 1) := by decide +kernel
theorem dX6_firstLoudnessAt_22 : decode cX6_firstLoudnessAt 22 = .ok (.iaload, 1) := by decide +kernel
theorem dX6_firstLoudnessAt_23 : decode cX6_firstLoudnessAt 23 = .ok (.ireturn, 1) := by decide +kernel
theorem dX6_cameAgainTo_0 : decode cX6_cameAgainTo 0 = .ok (.iload_n 1, 1) := by decide +kernel
theorem dX6_cameAgainTo_1 : decode cX6_cameAgainTo 1 = .ok (.ifCond .lt 25, 3) := by decide +kernel
theorem dX6_cameAgainTo_4 : decode cX6_cameAgainTo 4 = .ok (.iload_n 1, 1) := by decide +kernel
theorem dX6_cameAgainTo_5 : decode cX6_cameAgainTo 5 = .ok (.aload_n 0, 1) := by decide +kernel
theorem dX6_cameAgainTo_6 : decode cX6_cameAgainTo 6 = .ok (.getfield 24, 3) := by decide +kernel
theorem dX6_cameAgainTo_9 : decode cX6_cameAgainTo 9 = .ok (.arraylength, 1) := by decide +kernel
theorem dX6_cameAgainTo_10 : decode cX6_cameAgainTo 10 = .ok (.if_icmp .ge 16, 3) := by decide +kernel
theorem dX6_cameAgainTo_13 : decode cX6_cameAgainTo 13 = .ok (.aload_n 0, 1) := by decide +kernel
theorem dX6_cameAgainTo_14 : decode cX6_cameAgainTo 14 = .ok (.getfield 24, 3) := by decide +kernel
theorem dX6_cameAgainTo_17 : decode cX6_cameAgainTo 17 = .ok (.iload_n 1, 1) := by decide +kernel
theorem dX6_cameAgainTo_18 : decode cX6_cameAgainTo 18 = .ok (.baload, 1) := by decide +kernel
theorem dX6_cameAgainTo_19 : decode cX6_cameAgainTo 19 = .ok (.ifCond .eq 7, 3) := by decide +kernel
theorem dX6_cameAgainTo_22 : decode cX6_cameAgainTo 22 = .ok (.iconst 1, 1) := by decide +kernel
theorem dX6_cameAgainTo_23 : decode cX6_cameAgainTo 23 = .ok (.goto 4, 3) := by decide +kernel
theorem dX6_cameAgainTo_26 : decode cX6_cameAgainTo 26 = .ok (.iconst 0, 1) := by decide +kernel
theorem dX6_cameAgainTo_27 : decode cX6_cameAgainTo 27 = .ok (.ireturn, 1) := by decide +kernel
theorem dX7_init_0 : decode cX7_init 0 = .ok (.aload_n 0, 1) := by decide +kernel
theorem dX7_init_1 : decode cX7_init 1 = .ok (.invokespecial 3, 3) := by decide +kernel
theorem dX7_init_4 : decode cX7_init 4 = .ok (.aload_n 0, 1) := by decide +kernel
theorem dX7_init_5 : decode cX7_init 5 = .ok (.getstatic 9, 3) := by decide +kernel
theorem dX7_init_8 : decode cX7_init 8 = .ok (.putfield 15, 3) := by decide +kernel
theorem dX7_init_11 : decode cX7_init 11 = .ok (.aload_n 0, 1) := by decide +kernel
theorem dX7_init_12 : decode cX7_init 12 = .ok (.aload_n 1, 1) := by decide +kernel
theorem dX7_init_13 : decode cX7_init 13 = .ok (.putfield 20, 3) := by decide +kernel
theorem dX7_init_16 : decode cX7_init 16 = .ok (.aload_n 0, 1) := by decide +kernel
theorem dX7_init_17 : decode cX7_init 17 = .ok (.aload_n 2, 1) := by decide +kernel
theorem dX7_init_18 : decode cX7_init 18 = .ok (.putfield 24, 3) := by decide +kernel
theorem dX7_init_21 : decode cX7_init 21 = .ok (.return_, 1) := by decide +kernel
theorem dX7_readsInto_0 : decode cX7_readsInto 0 = .ok (.aload_n 0, 1) := by decide +kernel
theorem dX7_readsInto_1 : decode cX7_readsInto 1 = .ok (.aload_n 1, 1) := by decide +kernel
theorem dX7_readsInto_2 : decode cX7_readsInto 2 = .ok (.putfield 24, 3) := by decide +kernel
theorem dX7_readsInto_5 : decode cX7_readsInto 5 = .ok (.aload_n 0, 1) := by decide +kernel
theorem dX7_readsInto_6 : decode cX7_readsInto 6 = .ok (.iconst 0, 1) := by decide +kernel
theorem dX7_readsInto_7 : decode cX7_readsInto 7 = .ok (.putfield 28, 3) := by decide +kernel
theorem dX7_readsInto_10 : decode cX7_readsInto 10 = .ok (.aload_n 0, 1) := by decide +kernel
theorem dX7_readsInto_11 : decode cX7_readsInto 11 = .ok (.aload_n 0, 1) := by decide +kernel
theorem dX7_readsInto_12 : decode cX7_readsInto 12 = .ok (.getfield 20, 3) := by decide +kernel
theorem dX7_readsInto_15 : decode cX7_readsInto 15 = .ok (.getfield 32, 3) := by decide +kernel
theorem dX7_readsInto_18 : decode cX7_readsInto 18 = .ok (.iconst 0, 1) := by decide +kernel
theorem dX7_readsInto_19 : decode cX7_readsInto 19 = .ok (.aaload, 1) := by decide +kernel
theorem dX7_readsInto_20 : decode cX7_readsInto 20 = .ok (.putfield 15, 3) := by decide +kernel
theorem dX7_readsInto_23 : decode cX7_readsInto 23 = .ok (.iconst 1, 1) := by decide +kernel
theorem dX7_readsInto_24 : decode cX7_readsInto 24 = .ok (.istore_n 2, 1) := by decide +kernel
theorem dX7_readsInto_25 : decode cX7_readsInto 25 = .ok (.iconst 0, 1) := by decide +kernel
theorem dX7_readsInto_26 : decode cX7_readsInto 26 = .ok (.istore_n 3, 1) := by decide +kernel
theorem dX7_readsInto_27 : decode cX7_readsInto 27 = .ok (.iload_n 3, 1) := by decide +kernel
theorem dX7_readsInto_28 : decode cX7_readsInto 28 = .ok (.sipush 400, 3) := by decide +kernel
theorem dX7_readsInto_31 : decode cX7_readsInto 31 = .ok (.if_icmp .gt 46, 3) := by decide +kernel
theorem dX7_readsInto_34 : decode cX7_readsInto 34 = .ok (.iload_n 2, 1) := by decide +kernel
theorem dX7_readsInto_35 : decode cX7_readsInto 35 = .ok (.ifCond .eq 42, 3) := by decide +kernel
theorem dX7_readsInto_38 : decode cX7_readsInto 38 = .ok (.aload_n 0, 1) := by decide +kernel
theorem dX7_readsInto_39 : decode cX7_readsInto 39 = .ok (.getfield 15, 3) := by decide +kernel
theorem dX7_readsInto_42 : decode cX7_readsInto 42 = .ok (.getstatic 9, 3) := by decide +kernel
theorem dX7_readsInto_45 : decode cX7_readsInto 45 = .ok (.if_acmp .eq 32, 3) := by decide +kernel
theorem dX7_readsInto_48 : decode cX7_readsInto 48 = .ok (.aload_n 0, 1) := by decide +kernel
theorem dX7_readsInto_49 : decode cX7_readsInto 49 = .ok (.invokevirtual 38, 3) := by decide +kernel
theorem dX7_readsInto_52 : decode cX7_readsInto 52 = .ok (.ifCond .eq 17, 3) := by decide +kernel
theorem dX7_readsInto_55 : decode cX7_readsInto 55 = .ok (.aload_n 0, 1) := by decide +kernel
theorem dX7_readsInto_56 : decode cX7_readsInto 56 = .ok (.getstatic 42, 3) := by decide +kernel
theorem dX7_readsInto_59 : decode cX7_readsInto 59 = .ok (.invokevirtual 45, 3) := by decide +kernel
theorem dX7_readsInto_62 : decode cX7_readsInto 62 = .ok (.ifCond .eq 7, 3) := by decide +kernel
theorem dX7_readsInto_65 : decode cX7_readsInto 65 = .ok (.iconst 1, 1) := by decide +kernel
theorem dX7_readsInto_66 : decode cX7_readsInto 66 = .ok (.goto 4, 3) := by decide +kernel
theorem dX7_readsInto_69 : decode cX7_readsInto 69 = .ok (.iconst 0, 1) := by decide +kernel
theorem dX7_readsInto_70 : decode cX7_readsInto 70 = .ok (.istore_n 2, 1) := by decide +kernel
theorem dX7_readsInto_71 : decode cX7_readsInto 71 = .ok (.iinc 3 1, 3) := by decide +kernel
theorem dX7_readsInto_74 : decode cX7_readsInto 74 = .ok (.goto (-47), 3) := by decide +kernel
theorem dX7_readsInto_77 : decode cX7_readsInto 77 = .ok (.iload_n 2, 1) := by decide +kernel
theorem dX7_readsInto_78 : decode cX7_readsInto 78 = .ok (.ifCond .eq 17, 3) := by decide +kernel
theorem dX7_readsInto_81 : decode cX7_readsInto 81 = .ok (.aload_n 0, 1) := by decide +kernel
theorem dX7_readsInto_82 : decode cX7_readsInto 82 = .ok (.getfield 15, 3) := by decide +kernel
theorem dX7_readsInto_85 : decode cX7_readsInto 85 = .ok (.getstatic 9, 3) := by decide +kernel
theorem dX7_readsInto_88 : decode cX7_readsInto 88 = .ok (.if_acmp .ne 7, 3) := by decide +kernel
theorem dX7_readsInto_91 : decode cX7_readsInto 91 = .ok (.iconst 1, 1) := by decide +kernel
theorem dX7_readsInto_92 : decode cX7_readsInto 92 = .ok (.goto 4, 3) := by decide +kernel
theorem dX7_readsInto_95 : decode cX7_readsInto 95 = .ok (.iconst 0, 1) := by decide +kernel
theorem dX7_readsInto_96 : decode cX7_readsInto 96 = .ok (.ireturn, 1) := by decide +kernel
theorem dX7_take_0 : decode cX7_take 0 = .ok (.aload_n 0, 1) := by decide +kernel
theorem dX7_take_1 : decode cX7_take 1 = .ok (.getfield 15, 3) := by decide +kernel
theorem dX7_take_4 : decode cX7_take 4 = .ok (.aload_n 1, 1) := by decide +kernel
theorem dX7_take_5 : decode cX7_take 5 = .ok (.if_acmp .ne 20, 3) := by decide +kernel
theorem dX7_take_8 : decode cX7_take 8 = .ok (.aload_n 0, 1) := by decide +kernel
theorem dX7_take_9 : decode cX7_take 9 = .ok (.getfield 28, 3) := by decide +kernel
theorem dX7_take_12 : decode cX7_take 12 = .ok (.ifCond .lt 13, 3) := by decide +kernel
theorem dX7_take_15 : decode cX7_take 15 = .ok (.aload_n 0, 1) := by decide +kernel
theorem dX7_take_16 : decode cX7_take 16 = .ok (.getfield 28, 3) := by decide +kernel
theorem dX7_take_19 : decode cX7_take 19 = .ok (.sipush 400, 3) := by decide +kernel
theorem dX7_take_22 : decode cX7_take 22 = .ok (.if_icmp .lt 5, 3) := by decide +kernel
theorem dX7_take_25 : decode cX7_take 25 = .ok (.iconst 0, 1) := by decide +kernel
theorem dX7_take_26 : decode cX7_take 26 = .ok (.ireturn, 1) := by decide +kernel
theorem dX7_take_27 : decode cX7_take 27 = .ok (.aload_n 0, 1) := by decide +kernel
theorem dX7_take_28 : decode cX7_take 28 = .ok (.dup, 1) := by decide +kernel
theorem dX7_take_29 : decode cX7_take 29 = .ok (.getfield 28, 3) := by decide +kernel
theorem dX7_take_32 : decode cX7_take 32 = .ok (.iconst 1, 1) := by decide +kernel
theorem dX7_take_33 : decode cX7_take 33 = .ok (.iadd, 1) := by decide +kernel
theorem dX7_take_34 : decode cX7_take 34 = .ok (.putfield 28, 3) := by decide +kernel
theorem dX7_take_37 : decode cX7_take 37 = .ok (.aload_n 0, 1) := by decide +kernel
theorem dX7_take_38 : decode cX7_take 38 = .ok (.aload_n 0, 1) := by decide +kernel
theorem dX7_take_39 : decode cX7_take 39 = .ok (.getfield 20, 3) := by decide +kernel
theorem dX7_take_42 : decode cX7_take 42 = .ok (.getfield 32, 3) := by decide +kernel
theorem dX7_take_45 : decode cX7_take 45 = .ok (.aload_n 0, 1) := by decide +kernel
theorem dX7_take_46 : decode cX7_take 46 = .ok (.getfield 28, 3) := by decide +kernel
theorem dX7_take_49 : decode cX7_take 49 = .ok (.aaload, 1) := by decide +kernel
theorem dX7_take_50 : decode cX7_take 50 = .ok (.putfield 15, 3) := by decide +kernel
theorem dX7_take_53 : decode cX7_take 53 = .ok (.iconst 1, 1) := by decide +kernel
theorem dX7_take_54 : decode cX7_take 54 = .ok (.ireturn, 1) := by decide +kernel
theorem dX7_line_0 : decode cX7_line 0 = .ok (.aload_n 0, 1) := by decide +kernel
theorem dX7_line_1 : decode cX7_line 1 = .ok (.getfield 15, 3) := by decide +kernel
theorem dX7_line_4 : decode cX7_line 4 = .ok (.astore_n 1, 1) := by decide +kernel
theorem dX7_line_5 : decode cX7_line 5 = .ok (.aload_n 0, 1) := by decide +kernel
theorem dX7_line_6 : decode cX7_line 6 = .ok (.getfield 28, 3) := by decide +kernel
theorem dX7_line_9 : decode cX7_line 9 = .ok (.istore_n 2, 1) := by decide +kernel
theorem dX7_line_10 : decode cX7_line 10 = .ok (.getstatic 49, 3) := by decide +kernel
theorem dX7_line_13 : decode cX7_line 13 = .ok (.aload_n 1, 1) := by decide +kernel
theorem dX7_line_14 : decode cX7_line 14 = .ok (.invokevirtual 55, 3) := by decide +kernel
theorem dX7_line_17 : decode cX7_line 17 = .ok (.iaload, 1) := by decide +kernel
theorem dX7_line_18 : decode cX7_line 18 = .ok (.tableswitch 201 1 5 #[34, 78, 122, 122, 122], 34) := by decide +kernel
theorem dX7_line_52 : decode cX7_line 52 = .ok (.aload_n 0, 1) := by decide +kernel
theorem dX7_line_53 : decode cX7_line 53 = .ok (.aload_n 1, 1) := by decide +kernel
theorem dX7_line_54 : decode cX7_line 54 = .ok (.invokevirtual 45, 3) := by decide +kernel
theorem dX7_line_57 : decode cX7_line 57 = .ok (.ifCond .eq 37, 3) := by decide +kernel
theorem dX7_line_60 : decode cX7_line 60 = .ok (.aload_n 0, 1) := by decide +kernel
theorem dX7_line_61 : decode cX7_line 61 = .ok (.getstatic 59, 3) := by decide +kernel
theorem dX7_line_64 : decode cX7_line 64 = .ok (.invokevirtual 45, 3) := by decide +kernel
theorem dX7_line_67 : decode cX7_line 67 = .ok (.ifCond .eq 27, 3) := by decide +kernel
theorem dX7_line_70 : decode cX7_line 70 = .ok (.aload_n 0, 1) := by decide +kernel
theorem dX7_line_71 : decode cX7_line 71 = .ok (.getstatic 62, 3) := by decide +kernel
theorem dX7_line_74 : decode cX7_line 74 = .ok (.invokevirtual 45, 3) := by decide +kernel
theorem dX7_line_77 : decode cX7_line 77 = .ok (.ifCond .eq 17, 3) := by decide +kernel
theorem dX7_line_80 : decode cX7_line 80 = .ok (.aload_n 0, 1) := by decide +kernel
theorem dX7_line_81 : decode cX7_line 81 = .ok (.getstatic 65, 3) := by decide +kernel
theorem dX7_line_84 : decode cX7_line 84 = .ok (.invokevirtual 45, 3) := by decide +kernel
theorem dX7_line_87 : decode cX7_line 87 = .ok (.ifCond .eq 7, 3) := by decide +kernel
theorem dX7_line_90 : decode cX7_line 90 = .ok (.iconst 1, 1) := by decide +kernel
theorem dX7_line_91 : decode cX7_line 91 = .ok (.goto 4, 3) := by decide +kernel
theorem dX7_line_94 : decode cX7_line 94 = .ok (.iconst 0, 1) := by decide +kernel
theorem dX7_line_95 : decode cX7_line 95 = .ok (.ireturn, 1) := by decide +kernel
theorem dX7_line_96 : decode cX7_line 96 = .ok (.aload_n 0, 1) := by decide +kernel
theorem dX7_line_97 : decode cX7_line 97 = .ok (.aload_n 1, 1) := by decide +kernel
theorem dX7_line_98 : decode cX7_line 98 = .ok (.invokevirtual 45, 3) := by decide +kernel
theorem dX7_line_101 : decode cX7_line 101 = .ok (.ifCond .eq 37, 3) := by decide +kernel
theorem dX7_line_104 : decode cX7_line 104 = .ok (.aload_n 0, 1) := by decide +kernel
theorem dX7_line_105 : decode cX7_line 105 = .ok (.getstatic 59, 3) := by decide +kernel
theorem dX7_line_108 : decode cX7_line 108 = .ok (.invokevirtual 45, 3) := by decide +kernel
theorem dX7_line_111 : decode cX7_line 111 = .ok (.ifCond .eq 27, 3) := by decide +kernel
theorem dX7_line_114 : decode cX7_line 114 = .ok (.aload_n 0, 1) := by decide +kernel
theorem dX7_line_115 : decode cX7_line 115 = .ok (.getstatic 68, 3) := by decide +kernel
theorem dX7_line_118 : decode cX7_line 118 = .ok (.invokevirtual 45, 3) := by decide +kernel
theorem dX7_line_121 : decode cX7_line 121 = .ok (.ifCond .eq 17, 3) := by decide +kernel
theorem dX7_line_124 : decode cX7_line 124 = .ok (.aload_n 0, 1) := by decide +kernel
theorem dX7_line_125 : decode cX7_line 125 = .ok (.getstatic 65, 3) := by decide +kernel
theorem dX7_line_128 : decode cX7_line 128 = .ok (.invokevirtual 45, 3) := by decide +kernel
theorem dX7_line_131 : decode cX7_line 131 = .ok (.ifCond .eq 7, 3) := by decide +kernel
theorem dX7_line_134 : decode cX7_line 134 = .ok (.iconst 1, 1) := by decide +kernel
theorem dX7_line_135 : decode cX7_line 135 = .ok (.goto 4, 3) := by decide +kernel
theorem dX7_line_138 : decode cX7_line 138 = .ok (.iconst 0, 1) := by decide +kernel
theorem dX7_line_139 : decode cX7_line 139 = .ok (.ireturn, 1) := by decide +kernel
theorem dX7_line_140 : decode cX7_line 140 = .ok (.aload_n 0, 1) := by decide +kernel
theorem dX7_line_141 : decode cX7_line 141 = .ok (.invokevirtual 71, 3) := by decide +kernel
theorem dX7_line_144 : decode cX7_line 144 = .ok (.ifCond .eq 73, 3) := by decide +kernel
theorem dX7_line_147 : decode cX7_line 147 = .ok (.aload_n 0, 1) := by decide +kernel
theorem dX7_line_148 : decode cX7_line 148 = .ok (.getstatic 74, 3) := by decide +kernel
theorem dX7_line_151 : decode cX7_line 151 = .ok (.invokevirtual 45, 3) := by decide +kernel
theorem dX7_line_154 : decode cX7_line 154 = .ok (.ifCond .eq 14, 3) := by decide +kernel
theorem dX7_line_157 : decode cX7_line 157 = .ok (.aload_n 0, 1) := by decide +kernel
theorem dX7_line_158 : decode cX7_line 158 = .ok (.iconst 0, 1) := by decide +kernel
theorem dX7_line_159 : decode cX7_line 159 = .ok (.invokevirtual 77, 3) := by decide +kernel
theorem dX7_line_162 : decode cX7_line 162 = .ok (.ifCond .eq 55, 3) := by decide +kernel
theorem dX7_line_165 : decode cX7_line 165 = .ok (.goto 18, 3) := by decide +kernel
theorem dX7_line_168 : decode cX7_line 168 = .ok (.aload_n 0, 1) := by decide +kernel
theorem dX7_line_169 : decode cX7_line 169 = .ok (.getfield 24, 3) := by decide +kernel
theorem dX7_line_172 : decode cX7_line 172 = .ok (.getstatic 81, 3) := by decide +kernel
theorem dX7_line_175 : decode cX7_line 175 = .ok (.iconst (-1), 1) := by decide +kernel
theorem dX7_line_176 : decode cX7_line 176 = .ok (.iconst (-1), 1) := by decide +kernel
theorem dX7_line_177 : decode cX7_line 177 = .ok (.invokevirtual 84, 3) := by decide +kernel
theorem dX7_line_180 : decode cX7_line 180 = .ok (.ifCond .eq 37, 3) := by decide +kernel
theorem dX7_line_183 : decode cX7_line 183 = .ok (.aload_n 0, 1) := by decide +kernel
theorem dX7_line_184 : decode cX7_line 184 = .ok (.getfield 24, 3) := by decide +kernel
theorem dX7_line_187 : decode cX7_line 187 = .ok (.aload_n 1, 1) := by decide +kernel
theorem dX7_line_188 : decode cX7_line 188 = .ok (.iload_n 2, 1) := by decide +kernel
theorem dX7_line_189 : decode cX7_line 189 = .ok (.iconst 1, 1) := by decide +kernel
theorem dX7_line_190 : decode cX7_line 190 = .ok (.iadd, 1) := by decide +kernel
theorem dX7_line_191 : decode cX7_line 191 = .ok (.aload_n 1, 1) := by decide +kernel
theorem dX7_line_192 : decode cX7_line 192 = .ok (.getstatic 90, 3) := by decide +kernel
theorem dX7_line_195 : decode cX7_line 195 = .ok (.if_acmp .ne 9, 3) := by decide +kernel
theorem dX7_line_198 : decode cX7_line 198 = .ok (.iload_n 2, 1) := by decide +kernel
theorem dX7_line_199 : decode cX7_line 199 = .ok (.iconst 1, 1) := by decide +kernel
theorem dX7_line_200 : decode cX7_line 200 = .ok (.iadd, 1) := by decide +kernel
theorem dX7_line_201 : decode cX7_line 201 = .ok (.goto 6, 3) := by decide +kernel
theorem dX7_line_204 : decode cX7_line 204 = .ok (.iload_n 2, 1) := by decide +kernel
theorem dX7_line_205 : decode cX7_line 205 = .ok (.iconst 3, 1) := by decide +kernel
theorem dX7_line_206 : decode cX7_line 206 = .ok (.iadd, 1) := by decide +kernel
theorem dX7_line_207 : decode cX7_line 207 = .ok (.invokevirtual 84, 3) := by decide +kernel
theorem dX7_line_210 : decode cX7_line 210 = .ok (.ifCond .eq 7, 3) := by decide +kernel
theorem dX7_line_213 : decode cX7_line 213 = .ok (.iconst 1, 1) := by decide +kernel
theorem dX7_line_214 : decode cX7_line 214 = .ok (.goto 4, 3) := by decide +kernel
theorem dX7_line_217 : decode cX7_line 217 = .ok (.iconst 0, 1) := by decide +kernel
theorem dX7_line_218 : decode cX7_line 218 = .ok (.ireturn, 1) := by decide +kernel
theorem dX7_line_219 : decode cX7_line 219 = .ok (.iconst 0, 1) := by decide +kernel
theorem dX7_line_220 : decode cX7_line 220 = .ok (.ireturn, 1) := by decide +kernel
theorem dX7_order_0 : decode cX7_order 0 = .ok (.aload_n 0, 1) := by decide +kernel
theorem dX7_order_1 : decode cX7_order 1 = .ok (.getfield 15, 3) := by decide +kernel
theorem dX7_order_4 : decode cX7_order 4 = .ok (.getstatic 90, 3) := by decide +kernel
theorem dX7_order_7 : decode cX7_order 7 = .ok (.if_acmp .ne 47, 3) := by decide +kernel
theorem dX7_order_10 : decode cX7_order 10 = .ok (.aload_n 0, 1) := by decide +kernel
theorem dX7_order_11 : decode cX7_order 11 = .ok (.getstatic 90, 3) := by decide +kernel
theorem dX7_order_14 : decode cX7_order 14 = .ok (.invokevirtual 45, 3) := by decide +kernel
theorem dX7_order_17 : decode cX7_order 17 = .ok (.ifCond .eq 35, 3) := by decide +kernel
theorem dX7_order_20 : decode cX7_order 20 = .ok (.aload_n 0, 1) := by decide +kernel
theorem dX7_order_21 : decode cX7_order 21 = .ok (.getstatic 59, 3) := by decide +kernel
theorem dX7_order_24 : decode cX7_order 24 = .ok (.invokevirtual 45, 3) := by decide +kernel
theorem dX7_order_27 : decode cX7_order 27 = .ok (.ifCond .eq 25, 3) := by decide +kernel
theorem dX7_order_30 : decode cX7_order 30 = .ok (.aload_n 0, 1) := by decide +kernel
theorem dX7_order_31 : decode cX7_order 31 = .ok (.getstatic 93, 3) := by decide +kernel
theorem dX7_order_34 : decode cX7_order 34 = .ok (.invokevirtual 45, 3) := by decide +kernel
theorem dX7_order_37 : decode cX7_order 37 = .ok (.ifCond .eq 15, 3) := by decide +kernel
theorem dX7_order_40 : decode cX7_order 40 = .ok (.aload_n 0, 1) := by decide +kernel
theorem dX7_order_41 : decode cX7_order 41 = .ok (.iconst 0, 1) := by decide +kernel
theorem dX7_order_42 : decode cX7_order 42 = .ok (.invokevirtual 96, 3) := by decide +kernel
theorem dX7_order_45 : decode cX7_order 45 = .ok (.ifCond .eq 7, 3) := by decide +kernel
theorem dX7_order_48 : decode cX7_order 48 = .ok (.iconst 1, 1) := by decide +kernel
theorem dX7_order_49 : decode cX7_order 49 = .ok (.goto 4, 3) := by decide +kernel
theorem dX7_order_52 : decode cX7_order 52 = .ok (.iconst 0, 1) := by decide +kernel
theorem dX7_order_53 : decode cX7_order 53 = .ok (.ireturn, 1) := by decide +kernel
theorem dX7_order_54 : decode cX7_order 54 = .ok (.aload_n 0, 1) := by decide +kernel
theorem dX7_order_55 : decode cX7_order 55 = .ok (.aload_n 0, 1) := by decide +kernel
theorem dX7_order_56 : decode cX7_order 56 = .ok (.getfield 15, 3) := by decide +kernel
theorem dX7_order_59 : decode cX7_order 59 = .ok (.invokevirtual 45, 3) := by decide +kernel
theorem dX7_order_62 : decode cX7_order 62 = .ok (.ifCond .eq 37, 3) := by decide +kernel
theorem dX7_order_65 : decode cX7_order 65 = .ok (.aload_n 0, 1) := by decide +kernel
theorem dX7_order_66 : decode cX7_order 66 = .ok (.getstatic 59, 3) := by decide +kernel
theorem dX7_order_69 : decode cX7_order 69 = .ok (.invokevirtual 45, 3) := by decide +kernel
theorem dX7_order_72 : decode cX7_order 72 = .ok (.ifCond .eq 27, 3) := by decide +kernel
theorem dX7_order_75 : decode cX7_order 75 = .ok (.aload_n 0, 1) := by decide +kernel
theorem dX7_order_76 : decode cX7_order 76 = .ok (.getstatic 99, 3) := by decide +kernel
theorem dX7_order_79 : decode cX7_order 79 = .ok (.invokevirtual 45, 3) := by decide +kernel
theorem dX7_order_82 : decode cX7_order 82 = .ok (.ifCond .eq 17, 3) := by decide +kernel
theorem dX7_order_85 : decode cX7_order 85 = .ok (.aload_n 0, 1) := by decide +kernel
theorem dX7_order_86 : decode cX7_order 86 = .ok (.getstatic 59, 3) := by decide +kernel
theorem dX7_order_89 : decode cX7_order 89 = .ok (.invokevirtual 45, 3) := by decide +kernel
theorem dX7_order_92 : decode cX7_order 92 = .ok (.ifCond .eq 7, 3) := by decide +kernel
theorem dX7_order_95 : decode cX7_order 95 = .ok (.iconst 1, 1) := by decide +kernel
theorem dX7_order_96 : decode cX7_order 96 = .ok (.goto 4, 3) := by decide +kernel
theorem dX7_order_99 : decode cX7_order 99 = .ok (.iconst 0, 1) := by decide +kernel
theorem dX7_order_100 : decode cX7_order 100 = .ok (.ireturn, 1) := by decide +kernel
theorem dX7_test_0 : decode cX7_test 0 = .ok (.iconst 0, 1) := by decide +kernel
theorem dX7_test_1 : decode cX7_test 1 = .ok (.istore_n 2, 1) := by decide +kernel
theorem dX7_test_2 : decode cX7_test 2 = .ok (.aload_n 0, 1) := by decide +kernel
theorem dX7_test_3 : decode cX7_test 3 = .ok (.iload_n 1, 1) := by decide +kernel
theorem dX7_test_4 : decode cX7_test 4 = .ok (.invokevirtual 102, 3) := by decide +kernel
theorem dX7_test_7 : decode cX7_test 7 = .ok (.istore_n 3, 1) := by decide +kernel
theorem dX7_test_8 : decode cX7_test 8 = .ok (.iconst 0, 1) := by decide +kernel
theorem dX7_test_9 : decode cX7_test 9 = .ok (.istore 4, 2) := by decide +kernel
theorem dX7_test_11 : decode cX7_test 11 = .ok (.iload 4, 2) := by decide +kernel
theorem dX7_test_13 : decode cX7_test 13 = .ok (.sipush 400, 3) := by decide +kernel
theorem dX7_test_16 : decode cX7_test 16 = .ok (.if_icmp .ge 130, 3) := by decide +kernel
theorem dX7_test_19 : decode cX7_test 19 = .ok (.iload_n 3, 1) := by decide +kernel
theorem dX7_test_20 : decode cX7_test 20 = .ok (.ifCond .eq 126, 3) := by decide +kernel
theorem dX7_test_23 : decode cX7_test 23 = .ok (.aload_n 0, 1) := by decide +kernel
theorem dX7_test_24 : decode cX7_test 24 = .ok (.getfield 15, 3) := by decide +kernel
theorem dX7_test_27 : decode cX7_test 27 = .ok (.getstatic 105, 3) := by decide +kernel
theorem dX7_test_30 : decode cX7_test 30 = .ok (.if_acmp .eq 13, 3) := by decide +kernel
theorem dX7_test_33 : decode cX7_test 33 = .ok (.aload_n 0, 1) := by decide +kernel
theorem dX7_test_34 : decode cX7_test 34 = .ok (.getfield 15, 3) := by decide +kernel
theorem dX7_test_37 : decode cX7_test 37 = .ok (.getstatic 108, 3) := by decide +kernel
theorem dX7_test_40 : decode cX7_test 40 = .ok (.if_acmp .ne 106, 3) := by decide +kernel
theorem dX7_test_43 : decode cX7_test 43 = .ok (.aload_n 0, 1) := by decide +kernel
theorem dX7_test_44 : decode cX7_test 44 = .ok (.getfield 15, 3) := by decide +kernel
theorem dX7_test_47 : decode cX7_test 47 = .ok (.getstatic 105, 3) := by decide +kernel
theorem dX7_test_50 : decode cX7_test 50 = .ok (.if_acmp .ne 45, 3) := by decide +kernel
theorem dX7_test_53 : decode cX7_test 53 = .ok (.aload_n 0, 1) := by decide +kernel
theorem dX7_test_54 : decode cX7_test 54 = .ok (.getstatic 105, 3) := by decide +kernel
theorem dX7_test_57 : decode cX7_test 57 = .ok (.invokevirtual 45, 3) := by decide +kernel
theorem dX7_test_60 : decode cX7_test 60 = .ok (.ifCond .eq 30, 3) := by decide +kernel
theorem dX7_test_63 : decode cX7_test 63 = .ok (.aload_n 0, 1) := by decide +kernel
theorem dX7_test_64 : decode cX7_test 64 = .ok (.iload_n 1, 1) := by decide +kernel
theorem dX7_test_65 : decode cX7_test 65 = .ok (.invokevirtual 102, 3) := by decide +kernel
theorem dX7_test_68 : decode cX7_test 68 = .ok (.ifCond .eq 22, 3) := by decide +kernel
theorem dX7_test_71 : decode cX7_test 71 = .ok (.aload_n 0, 1) := by decide +kernel
theorem dX7_test_72 : decode cX7_test 72 = .ok (.getfield 24, 3) := by decide +kernel
theorem dX7_test_75 : decode cX7_test 75 = .ok (.getstatic 105, 3) := by decide +kernel
theorem dX7_test_78 : decode cX7_test 78 = .ok (.iconst (-1), 1) := by decide +kernel
theorem dX7_test_79 : decode cX7_test 79 = .ok (.iconst (-1), 1) := by decide +kernel
theorem dX7_test_80 : decode cX7_test 80 = .ok (.invokevirtual 84, 3) := by decide +kernel
theorem dX7_test_83 : decode cX7_test 83 = .ok (.ifCond .eq 7, 3) := by decide +kernel
theorem dX7_test_86 : decode cX7_test 86 = .ok (.iconst 1, 1) := by decide +kernel
theorem dX7_test_87 : decode cX7_test 87 = .ok (.goto 4, 3) := by decide +kernel
theorem dX7_test_90 : decode cX7_test 90 = .ok (.iconst 0, 1) := by decide +kernel
theorem dX7_test_91 : decode cX7_test 91 = .ok (.istore_n 3, 1) := by decide +kernel
theorem dX7_test_92 : decode cX7_test 92 = .ok (.goto 48, 3) := by decide +kernel
theorem dX7_test_95 : decode cX7_test 95 = .ok (.iload_n 2, 1) := by decide +kernel
theorem dX7_test_96 : decode cX7_test 96 = .ok (.ifCond .eq 18, 3) := by decide +kernel
theorem dX7_test_99 : decode cX7_test 99 = .ok (.aload_n 0, 1) := by decide +kernel
theorem dX7_test_100 : decode cX7_test 100 = .ok (.getfield 24, 3) := by decide +kernel
theorem dX7_test_103 : decode cX7_test 103 = .ok (.getstatic 108, 3) := by decide +kernel
theorem dX7_test_106 : decode cX7_test 106 = .ok (.iconst (-1), 1) := by decide +kernel
theorem dX7_test_107 : decode cX7_test 107 = .ok (.iconst (-1), 1) := by decide +kernel
theorem dX7_test_108 : decode cX7_test 108 = .ok (.invokevirtual 84, 3) := by decide +kernel
theorem dX7_test_111 : decode cX7_test 111 = .ok (.ifCond .eq 25, 3) := by decide +kernel
theorem dX7_test_114 : decode cX7_test 114 = .ok (.aload_n 0, 1) := by decide +kernel
theorem dX7_test_115 : decode cX7_test 115 = .ok (.getstatic 108, 3) := by decide +kernel
theorem dX7_test_118 : decode cX7_test 118 = .ok (.invokevirtual 45, 3) := by decide +kernel
theorem dX7_test_121 : decode cX7_test 121 = .ok (.ifCond .eq 15, 3) := by decide +kernel
theorem dX7_test_124 : decode cX7_test 124 = .ok (.aload_n 0, 1) := by decide +kernel
theorem dX7_test_125 : decode cX7_test 125 = .ok (.iload_n 1, 1) := by decide +kernel
theorem dX7_test_126 : decode cX7_test 126 = .ok (.invokevirtual 102, 3) := by decide +kernel
theorem dX7_test_129 : decode cX7_test 129 = .ok (.ifCond .eq 7, 3) := by decide +kernel
theorem dX7_test_132 : decode cX7_test 132 = .ok (.iconst 1, 1) := by decide +kernel
theorem dX7_test_133 : decode cX7_test 133 = .ok (.goto 4, 3) := by decide +kernel
theorem dX7_test_136 : decode cX7_test 136 = .ok (.iconst 0, 1) := by decide +kernel
theorem dX7_test_137 : decode cX7_test 137 = .ok (.istore_n 3, 1) := by decide +kernel
theorem dX7_test_138 : decode cX7_test 138 = .ok (.iconst 1, 1) := by decide +kernel
theorem dX7_test_139 : decode cX7_test 139 = .ok (.istore_n 2, 1) := by decide +kernel
theorem dX7_test_140 : decode cX7_test 140 = .ok (.iinc 4 1, 3) := by decide +kernel
theorem dX7_test_143 : decode cX7_test 143 = .ok (.goto (-132), 3) := by decide +kernel
theorem dX7_test_146 : decode cX7_test 146 = .ok (.iload_n 3, 1) := by decide +kernel
theorem dX7_test_147 : decode cX7_test 147 = .ok (.ifCond .eq 26, 3) := by decide +kernel
theorem dX7_test_150 : decode cX7_test 150 = .ok (.iload_n 2, 1) := by decide +kernel
theorem dX7_test_151 : decode cX7_test 151 = .ok (.ifCond .eq 18, 3) := by decide +kernel
theorem dX7_test_154 : decode cX7_test 154 = .ok (.aload_n 0, 1) := by decide +kernel
theorem dX7_test_155 : decode cX7_test 155 = .ok (.getfield 24, 3) := by decide +kernel
theorem dX7_test_158 : decode cX7_test 158 = .ok (.getstatic 108, 3) := by decide +kernel
theorem dX7_test_161 : decode cX7_test 161 = .ok (.iconst (-1), 1) := by decide +kernel
theorem dX7_test_162 : decode cX7_test 162 = .ok (.iconst (-1), 1) := by decide +kernel
theorem dX7_test_163 : decode cX7_test 163 = .ok (.invokevirtual 84, 3) := by decide +kernel
theorem dX7_test_166 : decode cX7_test 166 = .ok (.ifCond .eq 7, 3) := by decide +kernel
theorem dX7_test_169 : decode cX7_test 169 = .ok (.iconst 1, 1) := by decide +kernel
theorem dX7_test_170 : decode cX7_test 170 = .ok (.goto 4, 3) := by decide +kernel
theorem dX7_test_173 : decode cX7_test 173 = .ok (.iconst 0, 1) := by decide +kernel
theorem dX7_test_174 : decode cX7_test 174 = .ok (.ireturn, 1) := by decide +kernel
theorem dX7_single_0 : decode cX7_single 0 = .ok (.aload_n 0, 1) := by decide +kernel
theorem dX7_single_1 : decode cX7_single 1 = .ok (.getfield 28, 3) := by decide +kernel
theorem dX7_single_4 : decode cX7_single 4 = .ok (.istore_n 2, 1) := by decide +kernel
theorem dX7_single_5 : decode cX7_single 5 = .ok (.getstatic 49, 3) := by decide +kernel
theorem dX7_single_8 : decode cX7_single 8 = .ok (.aload_n 0, 1) := by decide +kernel
theorem dX7_single_9 : decode cX7_single 9 = .ok (.getfield 15, 3) := by decide +kernel
theorem dX7_single_12 : decode cX7_single 12 = .ok (.invokevirtual 55, 3) := by decide +kernel
theorem dX7_single_15 : decode cX7_single 15 = .ok (.iaload, 1) := by decide +kernel
theorem dX7_single_16 : decode cX7_single 16 = .ok (.tableswitch 182 6 8 #[28, 75, 117], 28) := by decide +kernel
theorem dX7_single_44 : decode cX7_single 44 = .ok (.iload_n 1, 1) := by decide +kernel
theorem dX7_single_45 : decode cX7_single 45 = .ok (.bipush 8, 2) := by decide +kernel
theorem dX7_single_47 : decode cX7_single 47 = .ok (.if_icmp .ge 42, 3) := by decide +kernel
theorem dX7_single_50 : decode cX7_single 50 = .ok (.aload_n 0, 1) := by decide +kernel
theorem dX7_single_51 : decode cX7_single 51 = .ok (.getstatic 111, 3) := by decide +kernel
theorem dX7_single_54 : decode cX7_single 54 = .ok (.invokevirtual 45, 3) := by decide +kernel
theorem dX7_single_57 : decode cX7_single 57 = .ok (.ifCond .eq 32, 3) := by decide +kernel
theorem dX7_single_60 : decode cX7_single 60 = .ok (.aload_n 0, 1) := by decide +kernel
theorem dX7_single_61 : decode cX7_single 61 = .ok (.iload_n 1, 1) := by decide +kernel
theorem dX7_single_62 : decode cX7_single 62 = .ok (.iconst 1, 1) := by decide +kernel
theorem dX7_single_63 : decode cX7_single 63 = .ok (.iadd, 1) := by decide +kernel
theorem dX7_single_64 : decode cX7_single 64 = .ok (.invokevirtual 102, 3) := by decide +kernel
theorem dX7_single_67 : decode cX7_single 67 = .ok (.ifCond .eq 22, 3) := by decide +kernel
theorem dX7_single_70 : decode cX7_single 70 = .ok (.aload_n 0, 1) := by decide +kernel
theorem dX7_single_71 : decode cX7_single 71 = .ok (.getfield 24, 3) := by decide +kernel
theorem dX7_single_74 : decode cX7_single 74 = .ok (.getstatic 111, 3) := by decide +kernel
theorem dX7_single_77 : decode cX7_single 77 = .ok (.iconst (-1), 1) := by decide +kernel
theorem dX7_single_78 : decode cX7_single 78 = .ok (.iconst (-1), 1) := by decide +kernel
theorem dX7_single_79 : decode cX7_single 79 = .ok (.invokevirtual 84, 3) := by decide +kernel
theorem dX7_single_82 : decode cX7_single 82 = .ok (.ifCond .eq 7, 3) := by decide +kernel
theorem dX7_single_85 : decode cX7_single 85 = .ok (.iconst 1, 1) := by decide +kernel
theorem dX7_single_86 : decode cX7_single 86 = .ok (.goto 4, 3) := by decide +kernel
theorem dX7_single_89 : decode cX7_single 89 = .ok (.iconst 0, 1) := by decide +kernel
theorem dX7_single_90 : decode cX7_single 90 = .ok (.ireturn, 1) := by decide +kernel
theorem dX7_single_91 : decode cX7_single 91 = .ok (.iload_n 1, 1) := by decide +kernel
theorem dX7_single_92 : decode cX7_single 92 = .ok (.bipush 8, 2) := by decide +kernel
theorem dX7_single_94 : decode cX7_single 94 = .ok (.if_icmp .ge 37, 3) := by decide +kernel
theorem dX7_single_97 : decode cX7_single 97 = .ok (.aload_n 0, 1) := by decide +kernel
theorem dX7_single_98 : decode cX7_single 98 = .ok (.getstatic 114, 3) := by decide +kernel
theorem dX7_single_101 : decode cX7_single 101 = .ok (.invokevirtual 45, 3) := by decide +kernel
theorem dX7_single_104 : decode cX7_single 104 = .ok (.ifCond .eq 27, 3) := by decide +kernel
theorem dX7_single_107 : decode cX7_single 107 = .ok (.aload_n 0, 1) := by decide +kernel
theorem dX7_single_108 : decode cX7_single 108 = .ok (.iload_n 1, 1) := by decide +kernel
theorem dX7_single_109 : decode cX7_single 109 = .ok (.iconst 1, 1) := by decide +kernel
theorem dX7_single_110 : decode cX7_single 110 = .ok (.iadd, 1) := by decide +kernel
theorem dX7_single_111 : decode cX7_single 111 = .ok (.invokevirtual 77, 3) := by decide +kernel
theorem dX7_single_114 : decode cX7_single 114 = .ok (.ifCond .eq 17, 3) := by decide +kernel
theorem dX7_single_117 : decode cX7_single 117 = .ok (.aload_n 0, 1) := by decide +kernel
theorem dX7_single_118 : decode cX7_single 118 = .ok (.getstatic 117, 3) := by decide +kernel
theorem dX7_single_121 : decode cX7_single 121 = .ok (.invokevirtual 45, 3) := by decide +kernel
theorem dX7_single_124 : decode cX7_single 124 = .ok (.ifCond .eq 7, 3) := by decide +kernel
theorem dX7_single_127 : decode cX7_single 127 = .ok (.iconst 1, 1) := by decide +kernel
theorem dX7_single_128 : decode cX7_single 128 = .ok (.goto 4, 3) := by decide +kernel
theorem dX7_single_131 : decode cX7_single 131 = .ok (.iconst 0, 1) := by decide +kernel
theorem dX7_single_132 : decode cX7_single 132 = .ok (.ireturn, 1) := by decide +kernel
theorem dX7_single_133 : decode cX7_single 133 = .ok (.aload_n 0, 1) := by decide +kernel
theorem dX7_single_134 : decode cX7_single 134 = .ok (.getstatic 120, 3) := by decide +kernel
theorem dX7_single_137 : decode cX7_single 137 = .ok (.invokevirtual 45, 3) := by decide +kernel
theorem dX7_single_140 : decode cX7_single 140 = .ok (.ifCond .eq 56, 3) := by decide +kernel
theorem dX7_single_143 : decode cX7_single 143 = .ok (.aload_n 0, 1) := by decide +kernel
theorem dX7_single_144 : decode cX7_single 144 = .ok (.getstatic 59, 3) := by decide +kernel
theorem dX7_single_147 : decode cX7_single 147 = .ok (.invokevirtual 45, 3) := by decide +kernel
theorem dX7_single_150 : decode cX7_single 150 = .ok (.ifCond .eq 46, 3) := by decide +kernel
theorem dX7_single_153 : decode cX7_single 153 = .ok (.aload_n 0, 1) := by decide +kernel
theorem dX7_single_154 : decode cX7_single 154 = .ok (.getstatic 123, 3) := by decide +kernel
theorem dX7_single_157 : decode cX7_single 157 = .ok (.invokevirtual 45, 3) := by decide +kernel
theorem dX7_single_160 : decode cX7_single 160 = .ok (.ifCond .eq 36, 3) := by decide +kernel
theorem dX7_single_163 : decode cX7_single 163 = .ok (.aload_n 0, 1) := by decide +kernel
theorem dX7_single_164 : decode cX7_single 164 = .ok (.getstatic 59, 3) := by decide +kernel
theorem dX7_single_167 : decode cX7_single 167 = .ok (.invokevirtual 45, 3) := by decide +kernel
theorem dX7_single_170 : decode cX7_single 170 = .ok (.ifCond .eq 26, 3) := by decide +kernel
theorem dX7_single_173 : decode cX7_single 173 = .ok (.aload_n 0, 1) := by decide +kernel
theorem dX7_single_174 : decode cX7_single 174 = .ok (.getfield 24, 3) := by decide +kernel
theorem dX7_single_177 : decode cX7_single 177 = .ok (.getstatic 120, 3) := by decide +kernel
theorem dX7_single_180 : decode cX7_single 180 = .ok (.iload_n 2, 1) := by decide +kernel
theorem dX7_single_181 : decode cX7_single 181 = .ok (.iconst 1, 1) := by decide +kernel
theorem dX7_single_182 : decode cX7_single 182 = .ok (.iadd, 1) := by decide +kernel
theorem dX7_single_183 : decode cX7_single 183 = .ok (.iload_n 2, 1) := by decide +kernel
theorem dX7_single_184 : decode cX7_single 184 = .ok (.iconst 3, 1) := by decide +kernel
theorem dX7_single_185 : decode cX7_single 185 = .ok (.iadd, 1) := by decide +kernel
theorem dX7_single_186 : decode cX7_single 186 = .ok (.invokevirtual 84, 3) := by decide +kernel
theorem dX7_single_189 : decode cX7_single 189 = .ok (.ifCond .eq 7, 3) := by decide +kernel
theorem dX7_single_192 : decode cX7_single 192 = .ok (.iconst 1, 1) := by decide +kernel
theorem dX7_single_193 : decode cX7_single 193 = .ok (.goto 4, 3) := by decide +kernel
theorem dX7_single_196 : decode cX7_single 196 = .ok (.iconst 0, 1) := by decide +kernel
theorem dX7_single_197 : decode cX7_single 197 = .ok (.ireturn, 1) := by decide +kernel
theorem dX7_single_198 : decode cX7_single 198 = .ok (.aload_n 0, 1) := by decide +kernel
theorem dX7_single_199 : decode cX7_single 199 = .ok (.iload_n 1, 1) := by decide +kernel
theorem dX7_single_200 : decode cX7_single 200 = .ok (.invokevirtual 96, 3) := by decide +kernel
theorem dX7_single_203 : decode cX7_single 203 = .ok (.istore_n 3, 1) := by decide +kernel
theorem dX7_single_204 : decode cX7_single 204 = .ok (.aload_n 0, 1) := by decide +kernel
theorem dX7_single_205 : decode cX7_single 205 = .ok (.getfield 15, 3) := by decide +kernel
theorem dX7_single_208 : decode cX7_single 208 = .ok (.astore 4, 2) := by decide +kernel
theorem dX7_single_210 : decode cX7_single 210 = .ok (.iload_n 3, 1) := by decide +kernel
theorem dX7_single_211 : decode cX7_single 211 = .ok (.ifCond .eq 46, 3) := by decide +kernel
theorem dX7_single_214 : decode cX7_single 214 = .ok (.aload 4, 2) := by decide +kernel
theorem dX7_single_216 : decode cX7_single 216 = .ok (.invokevirtual 126, 3) := by decide +kernel
theorem dX7_single_219 : decode cX7_single 219 = .ok (.ifCond .eq 38, 3) := by decide +kernel
theorem dX7_single_222 : decode cX7_single 222 = .ok (.aload_n 0, 1) := by decide +kernel
theorem dX7_single_223 : decode cX7_single 223 = .ok (.aload 4, 2) := by decide +kernel
theorem dX7_single_225 : decode cX7_single 225 = .ok (.invokevirtual 45, 3) := by decide +kernel
theorem dX7_single_228 : decode cX7_single 228 = .ok (.ifCond .eq 29, 3) := by decide +kernel
theorem dX7_single_231 : decode cX7_single 231 = .ok (.aload_n 0, 1) := by decide +kernel
theorem dX7_single_232 : decode cX7_single 232 = .ok (.iload_n 1, 1) := by decide +kernel
theorem dX7_single_233 : decode cX7_single 233 = .ok (.invokevirtual 96, 3) := by decide +kernel
theorem dX7_single_236 : decode cX7_single 236 = .ok (.ifCond .eq 21, 3) := by decide +kernel
theorem dX7_single_239 : decode cX7_single 239 = .ok (.aload_n 0, 1) := by decide +kernel
theorem dX7_single_240 : decode cX7_single 240 = .ok (.getfield 24, 3) := by decide +kernel
theorem dX7_single_243 : decode cX7_single 243 = .ok (.aload 4, 2) := by decide +kernel
theorem dX7_single_245 : decode cX7_single 245 = .ok (.iconst (-1), 1) := by decide +kernel
theorem dX7_single_246 : decode cX7_single 246 = .ok (.iconst (-1), 1) := by decide +kernel
theorem dX7_single_247 : decode cX7_single 247 = .ok (.invokevirtual 84, 3) := by decide +kernel
theorem dX7_single_250 : decode cX7_single 250 = .ok (.ifCond .eq 7, 3) := by decide +kernel
theorem dX7_single_253 : decode cX7_single 253 = .ok (.iconst 1, 1) := by decide +kernel
theorem dX7_single_254 : decode cX7_single 254 = .ok (.goto 4, 3) := by decide +kernel
theorem dX7_single_257 : decode cX7_single 257 = .ok (.iconst 0, 1) := by decide +kernel
theorem dX7_single_258 : decode cX7_single 258 = .ok (.ireturn, 1) := by decide +kernel
theorem dX7_sum_0 : decode cX7_sum 0 = .ok (.getstatic 9, 3) := by decide +kernel
theorem dX7_sum_3 : decode cX7_sum 3 = .ok (.astore_n 2, 1) := by decide +kernel
theorem dX7_sum_4 : decode cX7_sum 4 = .ok (.aload_n 0, 1) := by decide +kernel
theorem dX7_sum_5 : decode cX7_sum 5 = .ok (.iload_n 1, 1) := by decide +kernel
theorem dX7_sum_6 : decode cX7_sum 6 = .ok (.invokevirtual 129, 3) := by decide +kernel
theorem dX7_sum_9 : decode cX7_sum 9 = .ok (.istore_n 3, 1) := by decide +kernel
theorem dX7_sum_10 : decode cX7_sum 10 = .ok (.iconst 0, 1) := by decide +kernel
theorem dX7_sum_11 : decode cX7_sum 11 = .ok (.istore 4, 2) := by decide +kernel
theorem dX7_sum_13 : decode cX7_sum 13 = .ok (.iload 4, 2) := by decide +kernel
theorem dX7_sum_15 : decode cX7_sum 15 = .ok (.sipush 400, 3) := by decide +kernel
theorem dX7_sum_18 : decode cX7_sum 18 = .ok (.if_icmp .ge 133, 3) := by decide +kernel
theorem dX7_sum_21 : decode cX7_sum 21 = .ok (.iload_n 3, 1) := by decide +kernel
theorem dX7_sum_22 : decode cX7_sum 22 = .ok (.ifCond .eq 129, 3) := by decide +kernel
theorem dX7_sum_25 : decode cX7_sum 25 = .ok (.aload_n 0, 1) := by decide +kernel
theorem dX7_sum_26 : decode cX7_sum 26 = .ok (.getfield 15, 3) := by decide +kernel
theorem dX7_sum_29 : decode cX7_sum 29 = .ok (.invokevirtual 132, 3) := by decide +kernel
theorem dX7_sum_32 : decode cX7_sum 32 = .ok (.ifCond .ne 13, 3) := by decide +kernel
theorem dX7_sum_35 : decode cX7_sum 35 = .ok (.aload_n 0, 1) := by decide +kernel
theorem dX7_sum_36 : decode cX7_sum 36 = .ok (.getfield 15, 3) := by decide +kernel
theorem dX7_sum_39 : decode cX7_sum 39 = .ok (.invokevirtual 135, 3) := by decide +kernel
theorem dX7_sum_42 : decode cX7_sum 42 = .ok (.ifCond .eq 109, 3) := by decide +kernel
theorem dX7_sum_45 : decode cX7_sum 45 = .ok (.aload_n 0, 1) := by decide +kernel
theorem dX7_sum_46 : decode cX7_sum 46 = .ok (.getfield 15, 3) := by decide +kernel
theorem dX7_sum_49 : decode cX7_sum 49 = .ok (.astore 5, 2) := by decide +kernel
theorem dX7_sum_51 : decode cX7_sum 51 = .ok (.aload 5, 2) := by decide +kernel
theorem dX7_sum_53 : decode cX7_sum 53 = .ok (.invokevirtual 135, 3) := by decide +kernel
theorem dX7_sum_56 : decode cX7_sum 56 = .ok (.ifCond .eq 43, 3) := by decide +kernel
theorem dX7_sum_59 : decode cX7_sum 59 = .ok (.aload_n 0, 1) := by decide +kernel
theorem dX7_sum_60 : decode cX7_sum 60 = .ok (.aload 5, 2) := by decide +kernel
theorem dX7_sum_62 : decode cX7_sum 62 = .ok (.invokevirtual 45, 3) := by decide +kernel
theorem dX7_sum_65 : decode cX7_sum 65 = .ok (.ifCond .eq 29, 3) := by decide +kernel
theorem dX7_sum_68 : decode cX7_sum 68 = .ok (.aload_n 0, 1) := by decide +kernel
theorem dX7_sum_69 : decode cX7_sum 69 = .ok (.iload_n 1, 1) := by decide +kernel
theorem dX7_sum_70 : decode cX7_sum 70 = .ok (.invokevirtual 129, 3) := by decide +kernel
theorem dX7_sum_73 : decode cX7_sum 73 = .ok (.ifCond .eq 21, 3) := by decide +kernel
theorem dX7_sum_76 : decode cX7_sum 76 = .ok (.aload_n 0, 1) := by decide +kernel
theorem dX7_sum_77 : decode cX7_sum 77 = .ok (.getfield 24, 3) := by decide +kernel
theorem dX7_sum_80 : decode cX7_sum 80 = .ok (.aload 5, 2) := by decide +kernel
theorem dX7_sum_82 : decode cX7_sum 82 = .ok (.iconst (-1), 1) := by decide +kernel
theorem dX7_sum_83 : decode cX7_sum 83 = .ok (.iconst (-1), 1) := by decide +kernel
theorem dX7_sum_84 : decode cX7_sum 84 = .ok (.invokevirtual 84, 3) := by decide +kernel
theorem dX7_sum_87 : decode cX7_sum 87 = .ok (.ifCond .eq 7, 3) := by decide +kernel
theorem dX7_sum_90 : decode cX7_sum 90 = .ok (.iconst 1, 1) := by decide +kernel
theorem dX7_sum_91 : decode cX7_sum 91 = .ok (.goto 4, 3) := by decide +kernel
theorem dX7_sum_94 : decode cX7_sum 94 = .ok (.iconst 0, 1) := by decide +kernel
theorem dX7_sum_95 : decode cX7_sum 95 = .ok (.istore_n 3, 1) := by decide +kernel
theorem dX7_sum_96 : decode cX7_sum 96 = .ok (.goto 49, 3) := by decide +kernel
theorem dX7_sum_99 : decode cX7_sum 99 = .ok (.aload_n 2, 1) := by decide +kernel
theorem dX7_sum_100 : decode cX7_sum 100 = .ok (.getstatic 9, 3) := by decide +kernel
theorem dX7_sum_103 : decode cX7_sum 103 = .ok (.if_acmp .eq 16, 3) := by decide +kernel
theorem dX7_sum_106 : decode cX7_sum 106 = .ok (.aload_n 0, 1) := by decide +kernel
theorem dX7_sum_107 : decode cX7_sum 107 = .ok (.getfield 24, 3) := by decide +kernel
theorem dX7_sum_110 : decode cX7_sum 110 = .ok (.aload_n 2, 1) := by decide +kernel
theorem dX7_sum_111 : decode cX7_sum 111 = .ok (.iconst (-1), 1) := by decide +kernel
theorem dX7_sum_112 : decode cX7_sum 112 = .ok (.iconst (-1), 1) := by decide +kernel
theorem dX7_sum_113 : decode cX7_sum 113 = .ok (.invokevirtual 84, 3) := by decide +kernel
theorem dX7_sum_116 : decode cX7_sum 116 = .ok (.ifCond .eq 24, 3) := by decide +kernel
theorem dX7_sum_119 : decode cX7_sum 119 = .ok (.aload_n 0, 1) := by decide +kernel
theorem dX7_sum_120 : decode cX7_sum 120 = .ok (.aload 5, 2) := by decide +kernel
theorem dX7_sum_122 : decode cX7_sum 122 = .ok (.invokevirtual 45, 3) := by decide +kernel
theorem dX7_sum_125 : decode cX7_sum 125 = .ok (.ifCond .eq 15, 3) := by decide +kernel
theorem dX7_sum_128 : decode cX7_sum 128 = .ok (.aload_n 0, 1) := by decide +kernel
theorem dX7_sum_129 : decode cX7_sum 129 = .ok (.iload_n 1, 1) := by decide +kernel
theorem dX7_sum_130 : decode cX7_sum 130 = .ok (.invokevirtual 129, 3) := by decide +kernel
theorem dX7_sum_133 : decode cX7_sum 133 = .ok (.ifCond .eq 7, 3) := by decide +kernel
theorem dX7_sum_136 : decode cX7_sum 136 = .ok (.iconst 1, 1) := by decide +kernel
theorem dX7_sum_137 : decode cX7_sum 137 = .ok (.goto 4, 3) := by decide +kernel
theorem dX7_sum_140 : decode cX7_sum 140 = .ok (.iconst 0, 1) := by decide +kernel
theorem dX7_sum_141 : decode cX7_sum 141 = .ok (.istore_n 3, 1) := by decide +kernel
theorem dX7_sum_142 : decode cX7_sum 142 = .ok (.aload 5, 2) := by decide +kernel
theorem dX7_sum_144 : decode cX7_sum 144 = .ok (.astore_n 2, 1) := by decide +kernel
theorem dX7_sum_145 : decode cX7_sum 145 = .ok (.iinc 4 1, 3) := by decide +kernel
theorem dX7_sum_148 : decode cX7_sum 148 = .ok (.goto (-135), 3) := by decide +kernel
theorem dX7_sum_151 : decode cX7_sum 151 = .ok (.iload_n 3, 1) := by decide +kernel
theorem dX7_sum_152 : decode cX7_sum 152 = .ok (.ifCond .eq 27, 3) := by decide +kernel
theorem dX7_sum_155 : decode cX7_sum 155 = .ok (.aload_n 2, 1) := by decide +kernel
theorem dX7_sum_156 : decode cX7_sum 156 = .ok (.getstatic 9, 3) := by decide +kernel
theorem dX7_sum_159 : decode cX7_sum 159 = .ok (.if_acmp .eq 16, 3) := by decide +kernel
theorem dX7_sum_162 : decode cX7_sum 162 = .ok (.aload_n 0, 1) := by decide +kernel
theorem dX7_sum_163 : decode cX7_sum 163 = .ok (.getfield 24, 3) := by decide +kernel
theorem dX7_sum_166 : decode cX7_sum 166 = .ok (.aload_n 2, 1) := by decide +kernel
theorem dX7_sum_167 : decode cX7_sum 167 = .ok (.iconst (-1), 1) := by decide +kernel
theorem dX7_sum_168 : decode cX7_sum 168 = .ok (.iconst (-1), 1) := by decide +kernel
theorem dX7_sum_169 : decode cX7_sum 169 = .ok (.invokevirtual 84, 3) := by decide +kernel
theorem dX7_sum_172 : decode cX7_sum 172 = .ok (.ifCond .eq 7, 3) := by decide +kernel
theorem dX7_sum_175 : decode cX7_sum 175 = .ok (.iconst 1, 1) := by decide +kernel
theorem dX7_sum_176 : decode cX7_sum 176 = .ok (.goto 4, 3) := by decide +kernel
theorem dX7_sum_179 : decode cX7_sum 179 = .ok (.iconst 0, 1) := by decide +kernel
theorem dX7_sum_180 : decode cX7_sum 180 = .ok (.ireturn, 1) := by decide +kernel
theorem dX7_value_0 : decode cX7_value 0 = .ok (.aload_n 0, 1) := by decide +kernel
theorem dX7_value_1 : decode cX7_value 1 = .ok (.getfield 15, 3) := by decide +kernel
theorem dX7_value_4 : decode cX7_value 4 = .ok (.astore_n 2, 1) := by decide +kernel
theorem dX7_value_5 : decode cX7_value 5 = .ok (.aload_n 0, 1) := by decide +kernel
theorem dX7_value_6 : decode cX7_value 6 = .ok (.getfield 28, 3) := by decide +kernel
theorem dX7_value_9 : decode cX7_value 9 = .ok (.istore_n 3, 1) := by decide +kernel
theorem dX7_value_10 : decode cX7_value 10 = .ok (.getstatic 49, 3) := by decide +kernel
theorem dX7_value_13 : decode cX7_value 13 = .ok (.aload_n 2, 1) := by decide +kernel
theorem dX7_value_14 : decode cX7_value 14 = .ok (.invokevirtual 55, 3) := by decide +kernel
theorem dX7_value_17 : decode cX7_value 17 = .ok (.iaload, 1) := by decide +kernel
theorem dX7_value_18 : decode cX7_value 18 = .ok (.tableswitch 302 9 19 #[58, 58, 58, 58, 85, 85, 85, 134, 179, 219, 219], 58) := by decide +kernel
theorem dX7_value_76 : decode cX7_value 76 = .ok (.aload_n 0, 1) := by decide +kernel
theorem dX7_value_77 : decode cX7_value 77 = .ok (.aload_n 2, 1) := by decide +kernel
theorem dX7_value_78 : decode cX7_value 78 = .ok (.invokevirtual 45, 3) := by decide +kernel
theorem dX7_value_81 : decode cX7_value 81 = .ok (.ifCond .eq 20, 3) := by decide +kernel
theorem dX7_value_84 : decode cX7_value 84 = .ok (.aload_n 0, 1) := by decide +kernel
theorem dX7_value_85 : decode cX7_value 85 = .ok (.getfield 24, 3) := by decide +kernel
theorem dX7_value_88 : decode cX7_value 88 = .ok (.aload_n 2, 1) := by decide +kernel
theorem dX7_value_89 : decode cX7_value 89 = .ok (.iload_n 3, 1) := by decide +kernel
theorem dX7_value_90 : decode cX7_value 90 = .ok (.iconst (-1), 1) := by decide +kernel
theorem dX7_value_91 : decode cX7_value 91 = .ok (.invokevirtual 84, 3) := by decide +kernel
theorem dX7_value_94 : decode cX7_value 94 = .ok (.ifCond .eq 7, 3) := by decide +kernel
theorem dX7_value_97 : decode cX7_value 97 = .ok (.iconst 1, 1) := by decide +kernel
theorem dX7_value_98 : decode cX7_value 98 = .ok (.goto 4, 3) := by decide +kernel
theorem dX7_value_101 : decode cX7_value 101 = .ok (.iconst 0, 1) := by decide +kernel
theorem dX7_value_102 : decode cX7_value 102 = .ok (.ireturn, 1) := by decide +kernel
theorem dX7_value_103 : decode cX7_value 103 = .ok (.aload_n 0, 1) := by decide +kernel
theorem dX7_value_104 : decode cX7_value 104 = .ok (.aload_n 2, 1) := by decide +kernel
theorem dX7_value_105 : decode cX7_value 105 = .ok (.invokevirtual 45, 3) := by decide +kernel
theorem dX7_value_108 : decode cX7_value 108 = .ok (.ifCond .eq 42, 3) := by decide +kernel
theorem dX7_value_111 : decode cX7_value 111 = .ok (.aload_n 0, 1) := by decide +kernel
theorem dX7_value_112 : decode cX7_value 112 = .ok (.getstatic 123, 3) := by decide +kernel
theorem dX7_value_115 : decode cX7_value 115 = .ok (.invokevirtual 45, 3) := by decide +kernel
theorem dX7_value_118 : decode cX7_value 118 = .ok (.ifCond .eq 32, 3) := by decide +kernel
theorem dX7_value_121 : decode cX7_value 121 = .ok (.aload_n 0, 1) := by decide +kernel
theorem dX7_value_122 : decode cX7_value 122 = .ok (.getstatic 59, 3) := by decide +kernel
theorem dX7_value_125 : decode cX7_value 125 = .ok (.invokevirtual 45, 3) := by decide +kernel
theorem dX7_value_128 : decode cX7_value 128 = .ok (.ifCond .eq 22, 3) := by decide +kernel
theorem dX7_value_131 : decode cX7_value 131 = .ok (.aload_n 0, 1) := by decide +kernel
theorem dX7_value_132 : decode cX7_value 132 = .ok (.getfield 24, 3) := by decide +kernel
theorem dX7_value_135 : decode cX7_value 135 = .ok (.aload_n 2, 1) := by decide +kernel
theorem dX7_value_136 : decode cX7_value 136 = .ok (.iload_n 3, 1) := by decide +kernel
theorem dX7_value_137 : decode cX7_value 137 = .ok (.iconst 2, 1) := by decide +kernel
theorem dX7_value_138 : decode cX7_value 138 = .ok (.iadd, 1) := by decide +kernel
theorem dX7_value_139 : decode cX7_value 139 = .ok (.iconst (-1), 1) := by decide +kernel
theorem dX7_value_140 : decode cX7_value 140 = .ok (.invokevirtual 84, 3) := by decide +kernel
theorem dX7_value_143 : decode cX7_value 143 = .ok (.ifCond .eq 7, 3) := by decide +kernel
theorem dX7_value_146 : decode cX7_value 146 = .ok (.iconst 1, 1) := by decide +kernel
theorem dX7_value_147 : decode cX7_value 147 = .ok (.goto 4, 3) := by decide +kernel
theorem dX7_value_150 : decode cX7_value 150 = .ok (.iconst 0, 1) := by decide +kernel
theorem dX7_value_151 : decode cX7_value 151 = .ok (.ireturn, 1) := by decide +kernel
theorem dX7_value_152 : decode cX7_value 152 = .ok (.iload_n 1, 1) := by decide +kernel
theorem dX7_value_153 : decode cX7_value 153 = .ok (.bipush 8, 2) := by decide +kernel
theorem dX7_value_155 : decode cX7_value 155 = .ok (.if_icmp .ge 40, 3) := by decide +kernel
theorem dX7_value_158 : decode cX7_value 158 = .ok (.aload_n 0, 1) := by decide +kernel
theorem dX7_value_159 : decode cX7_value 159 = .ok (.aload_n 2, 1) := by decide +kernel
theorem dX7_value_160 : decode cX7_value 160 = .ok (.invokevirtual 45, 3) := by decide +kernel
theorem dX7_value_163 : decode cX7_value 163 = .ok (.ifCond .eq 32, 3) := by decide +kernel
theorem dX7_value_166 : decode cX7_value 166 = .ok (.aload_n 0, 1) := by decide +kernel
theorem dX7_value_167 : decode cX7_value 167 = .ok (.iload_n 1, 1) := by decide +kernel
theorem dX7_value_168 : decode cX7_value 168 = .ok (.iconst 1, 1) := by decide +kernel
theorem dX7_value_169 : decode cX7_value 169 = .ok (.iadd, 1) := by decide +kernel
theorem dX7_value_170 : decode cX7_value 170 = .ok (.invokevirtual 129, 3) := by decide +kernel
theorem dX7_value_173 : decode cX7_value 173 = .ok (.ifCond .eq 22, 3) := by decide +kernel
theorem dX7_value_176 : decode cX7_value 176 = .ok (.aload_n 0, 1) := by decide +kernel
theorem dX7_value_177 : decode cX7_value 177 = .ok (.getfield 24, 3) := by decide +kernel
theorem dX7_value_180 : decode cX7_value 180 = .ok (.getstatic 138, 3) := by decide +kernel
theorem dX7_value_183 : decode cX7_value 183 = .ok (.iconst (-1), 1) := by decide +kernel
theorem dX7_value_184 : decode cX7_value 184 = .ok (.iconst (-1), 1) := by decide +kernel
theorem dX7_value_185 : decode cX7_value 185 = .ok (.invokevirtual 84, 3) := by decide +kernel
theorem dX7_value_188 : decode cX7_value 188 = .ok (.ifCond .eq 7, 3) := by decide +kernel
theorem dX7_value_191 : decode cX7_value 191 = .ok (.iconst 1, 1) := by decide +kernel
theorem dX7_value_192 : decode cX7_value 192 = .ok (.goto 4, 3) := by decide +kernel
theorem dX7_value_195 : decode cX7_value 195 = .ok (.iconst 0, 1) := by decide +kernel
theorem dX7_value_196 : decode cX7_value 196 = .ok (.ireturn, 1) := by decide +kernel
theorem dX7_value_197 : decode cX7_value 197 = .ok (.iload_n 1, 1) := by decide +kernel
theorem dX7_value_198 : decode cX7_value 198 = .ok (.bipush 8, 2) := by decide +kernel
theorem dX7_value_200 : decode cX7_value 200 = .ok (.if_icmp .ge 35, 3) := by decide +kernel
theorem dX7_value_203 : decode cX7_value 203 = .ok (.aload_n 0, 1) := by decide +kernel
theorem dX7_value_204 : decode cX7_value 204 = .ok (.aload_n 2, 1) := by decide +kernel
theorem dX7_value_205 : decode cX7_value 205 = .ok (.invokevirtual 45, 3) := by decide +kernel
theorem dX7_value_208 : decode cX7_value 208 = .ok (.ifCond .eq 27, 3) := by decide +kernel
theorem dX7_value_211 : decode cX7_value 211 = .ok (.aload_n 0, 1) := by decide +kernel
theorem dX7_value_212 : decode cX7_value 212 = .ok (.iload_n 1, 1) := by decide +kernel
theorem dX7_value_213 : decode cX7_value 213 = .ok (.iconst 1, 1) := by decide +kernel
theorem dX7_value_214 : decode cX7_value 214 = .ok (.iadd, 1) := by decide +kernel
theorem dX7_value_215 : decode cX7_value 215 = .ok (.invokevirtual 96, 3) := by decide +kernel
theorem dX7_value_218 : decode cX7_value 218 = .ok (.ifCond .eq 17, 3) := by decide +kernel
theorem dX7_value_221 : decode cX7_value 221 = .ok (.aload_n 0, 1) := by decide +kernel
theorem dX7_value_222 : decode cX7_value 222 = .ok (.getstatic 141, 3) := by decide +kernel
theorem dX7_value_225 : decode cX7_value 225 = .ok (.invokevirtual 45, 3) := by decide +kernel
theorem dX7_value_228 : decode cX7_value 228 = .ok (.ifCond .eq 7, 3) := by decide +kernel
theorem dX7_value_231 : decode cX7_value 231 = .ok (.iconst 1, 1) := by decide +kernel
theorem dX7_value_232 : decode cX7_value 232 = .ok (.goto 4, 3) := by decide +kernel
theorem dX7_value_235 : decode cX7_value 235 = .ok (.iconst 0, 1) := by decide +kernel
theorem dX7_value_236 : decode cX7_value 236 = .ok (.ireturn, 1) := by decide +kernel
theorem dX7_value_237 : decode cX7_value 237 = .ok (.aload_n 0, 1) := by decide +kernel
theorem dX7_value_238 : decode cX7_value 238 = .ok (.aload_n 2, 1) := by decide +kernel
theorem dX7_value_239 : decode cX7_value 239 = .ok (.invokevirtual 45, 3) := by decide +kernel
theorem dX7_value_242 : decode cX7_value 242 = .ok (.ifCond .eq 76, 3) := by decide +kernel
theorem dX7_value_245 : decode cX7_value 245 = .ok (.iload_n 1, 1) := by decide +kernel
theorem dX7_value_246 : decode cX7_value 246 = .ok (.bipush 8, 2) := by decide +kernel
theorem dX7_value_248 : decode cX7_value 248 = .ok (.if_icmp .ge 70, 3) := by decide +kernel
theorem dX7_value_251 : decode cX7_value 251 = .ok (.aload_n 0, 1) := by decide +kernel
theorem dX7_value_252 : decode cX7_value 252 = .ok (.getstatic 144, 3) := by decide +kernel
theorem dX7_value_255 : decode cX7_value 255 = .ok (.invokevirtual 45, 3) := by decide +kernel
theorem dX7_value_258 : decode cX7_value 258 = .ok (.ifCond .eq 60, 3) := by decide +kernel
theorem dX7_value_261 : decode cX7_value 261 = .ok (.aload_n 0, 1) := by decide +kernel
theorem dX7_value_262 : decode cX7_value 262 = .ok (.iload_n 1, 1) := by decide +kernel
theorem dX7_value_263 : decode cX7_value 263 = .ok (.iconst 1, 1) := by decide +kernel
theorem dX7_value_264 : decode cX7_value 264 = .ok (.iadd, 1) := by decide +kernel
theorem dX7_value_265 : decode cX7_value 265 = .ok (.invokevirtual 96, 3) := by decide +kernel
theorem dX7_value_268 : decode cX7_value 268 = .ok (.ifCond .eq 50, 3) := by decide +kernel
theorem dX7_value_271 : decode cX7_value 271 = .ok (.aload_n 0, 1) := by decide +kernel
theorem dX7_value_272 : decode cX7_value 272 = .ok (.getstatic 147, 3) := by decide +kernel
theorem dX7_value_275 : decode cX7_value 275 = .ok (.invokevirtual 45, 3) := by decide +kernel
theorem dX7_value_278 : decode cX7_value 278 = .ok (.ifCond .eq 40, 3) := by decide +kernel
theorem dX7_value_281 : decode cX7_value 281 = .ok (.aload_n 0, 1) := by decide +kernel
theorem dX7_value_282 : decode cX7_value 282 = .ok (.iload_n 1, 1) := by decide +kernel
theorem dX7_value_283 : decode cX7_value 283 = .ok (.iconst 1, 1) := by decide +kernel
theorem dX7_value_284 : decode cX7_value 284 = .ok (.iadd, 1) := by decide +kernel
theorem dX7_value_285 : decode cX7_value 285 = .ok (.invokevirtual 96, 3) := by decide +kernel
theorem dX7_value_288 : decode cX7_value 288 = .ok (.ifCond .eq 30, 3) := by decide +kernel
theorem dX7_value_291 : decode cX7_value 291 = .ok (.aload_n 0, 1) := by decide +kernel
theorem dX7_value_292 : decode cX7_value 292 = .ok (.getstatic 141, 3) := by decide +kernel
theorem dX7_value_295 : decode cX7_value 295 = .ok (.invokevirtual 45, 3) := by decide +kernel
theorem dX7_value_298 : decode cX7_value 298 = .ok (.ifCond .eq 20, 3) := by decide +kernel
theorem dX7_value_301 : decode cX7_value 301 = .ok (.aload_n 0, 1) := by decide +kernel
theorem dX7_value_302 : decode cX7_value 302 = .ok (.getfield 24, 3) := by decide +kernel
theorem dX7_value_305 : decode cX7_value 305 = .ok (.aload_n 2, 1) := by decide +kernel
theorem dX7_value_306 : decode cX7_value 306 = .ok (.iconst (-1), 1) := by decide +kernel
theorem dX7_value_307 : decode cX7_value 307 = .ok (.iconst (-1), 1) := by decide +kernel
theorem dX7_value_308 : decode cX7_value 308 = .ok (.invokevirtual 84, 3) := by decide +kernel
theorem dX7_value_311 : decode cX7_value 311 = .ok (.ifCond .eq 7, 3) := by decide +kernel
theorem dX7_value_314 : decode cX7_value 314 = .ok (.iconst 1, 1) := by decide +kernel
theorem dX7_value_315 : decode cX7_value 315 = .ok (.goto 4, 3) := by decide +kernel
theorem dX7_value_318 : decode cX7_value 318 = .ok (.iconst 0, 1) := by decide +kernel
theorem dX7_value_319 : decode cX7_value 319 = .ok (.ireturn, 1) := by decide +kernel
theorem dX7_value_320 : decode cX7_value 320 = .ok (.iconst 0, 1) := by decide +kernel
theorem dX7_value_321 : decode cX7_value 321 = .ok (.ireturn, 1) := by decide +kernel
theorem dX8_init_0 : decode cX8_init 0 = .ok (.aload_n 0, 1) := by decide +kernel
theorem dX8_init_1 : decode cX8_init 1 = .ok (.invokespecial 3, 3) := by decide +kernel
theorem dX8_init_4 : decode cX8_init 4 = .ok (.aload_n 0, 1) := by decide +kernel
theorem dX8_init_5 : decode cX8_init 5 = .ok (.bipush 8, 2) := by decide +kernel
theorem dX8_init_7 : decode cX8_init 7 = .ok (.newarray .int, 2) := by decide +kernel
theorem dX8_init_9 : decode cX8_init 9 = .ok (.putfield 9, 3) := by decide +kernel
theorem dX8_init_12 : decode cX8_init 12 = .ok (.aload_n 0, 1) := by decide +kernel
theorem dX8_init_13 : decode cX8_init 13 = .ok (.bipush 8, 2) := by decide +kernel
theorem dX8_init_15 : decode cX8_init 15 = .ok (.newarray .int, 2) := by decide +kernel
theorem dX8_init_17 : decode cX8_init 17 = .ok (.putfield 15, 3) := by decide +kernel
theorem dX8_init_20 : decode cX8_init 20 = .ok (.aload_n 0, 1) := by decide +kernel
theorem dX8_init_21 : decode cX8_init 21 = .ok (.sipush 400, 3) := by decide +kernel
theorem dX8_init_24 : decode cX8_init 24 = .ok (.anewarray 18, 3) := by decide +kernel
theorem dX8_init_27 : decode cX8_init 27 = .ok (.putfield 20, 3) := by decide +kernel
theorem dX8_init_30 : decode cX8_init 30 = .ok (.aload_n 0, 1) := by decide +kernel
theorem dX8_init_31 : decode cX8_init 31 = .ok (.sipush 400, 3) := by decide +kernel
theorem dX8_init_34 : decode cX8_init 34 = .ok (.newarray .int, 2) := by decide +kernel
theorem dX8_init_36 : decode cX8_init 36 = .ok (.putfield 24, 3) := by decide +kernel
theorem dX8_init_39 : decode cX8_init 39 = .ok (.aload_n 0, 1) := by decide +kernel
theorem dX8_init_40 : decode cX8_init 40 = .ok (.sipush 400, 3) := by decide +kernel
theorem dX8_init_43 : decode cX8_init 43 = .ok (.newarray .int, 2) := by decide +kernel
theorem dX8_init_45 : decode cX8_init 45 = .ok (.putfield 27, 3) := by decide +kernel
theorem dX8_init_48 : decode cX8_init 48 = .ok (.iconst 0, 1) := by decide +kernel
theorem dX8_init_49 : decode cX8_init 49 = .ok (.istore_n 1, 1) := by decide +kernel
theorem dX8_init_50 : decode cX8_init 50 = .ok (.iload_n 1, 1) := by decide +kernel
theorem dX8_init_51 : decode cX8_init 51 = .ok (.aload_n 0, 1) := by decide +kernel
theorem dX8_init_52 : decode cX8_init 52 = .ok (.getfield 20, 3) := by decide +kernel
theorem dX8_init_55 : decode cX8_init 55 = .ok (.arraylength, 1) := by decide +kernel
theorem dX8_init_56 : decode cX8_init 56 = .ok (.if_icmp .ge 18, 3) := by decide +kernel
theorem dX8_init_59 : decode cX8_init 59 = .ok (.aload_n 0, 1) := by decide +kernel
theorem dX8_init_60 : decode cX8_init 60 = .ok (.getfield 20, 3) := by decide +kernel
theorem dX8_init_63 : decode cX8_init 63 = .ok (.iload_n 1, 1) := by decide +kernel
theorem dX8_init_64 : decode cX8_init 64 = .ok (.getstatic 30, 3) := by decide +kernel
theorem dX8_init_67 : decode cX8_init 67 = .ok (.aastore, 1) := by decide +kernel
theorem dX8_init_68 : decode cX8_init 68 = .ok (.iinc 1 1, 3) := by decide +kernel
theorem dX8_init_71 : decode cX8_init 71 = .ok (.goto (-21), 3) := by decide +kernel
theorem dX8_init_74 : decode cX8_init 74 = .ok (.return_, 1) := by decide +kernel
theorem dX8_clear_0 : decode cX8_clear 0 = .ok (.aload_n 0, 1) := by decide +kernel
theorem dX8_clear_1 : decode cX8_clear 1 = .ok (.iconst 0, 1) := by decide +kernel
theorem dX8_clear_2 : decode cX8_clear 2 = .ok (.putfield 34, 3) := by decide +kernel
theorem dX8_clear_5 : decode cX8_clear 5 = .ok (.aload_n 0, 1) := by decide +kernel
theorem dX8_clear_6 : decode cX8_clear 6 = .ok (.iconst 0, 1) := by decide +kernel
theorem dX8_clear_7 : decode cX8_clear 7 = .ok (.putfield 38, 3) := by decide +kernel
theorem dX8_clear_10 : decode cX8_clear 10 = .ok (.aload_n 0, 1) := by decide +kernel
theorem dX8_clear_11 : decode cX8_clear 11 = .ok (.iconst 0, 1) := by decide +kernel
theorem dX8_clear_12 : decode cX8_clear 12 = .ok (.putfield 41, 3) := by decide +kernel
theorem dX8_clear_15 : decode cX8_clear 15 = .ok (.return_, 1) := by decide +kernel
theorem dX8_addHedge_0 : decode cX8_addHedge 0 = .ok (.aload_n 0, 1) := by decide +kernel
theorem dX8_addHedge_1 : decode cX8_addHedge 1 = .ok (.getfield 34, 3) := by decide +kernel
theorem dX8_addHedge_4 : decode cX8_addHedge 4 = .ok (.ifCond .lt 35, 3) := by decide +kernel
theorem dX8_addHedge_7 : decode cX8_addHedge 7 = .ok (.aload_n 0, 1) := by decide +kernel
theorem dX8_addHedge_8 : decode cX8_addHedge 8 = .ok (.getfield 34, 3) := by decide +kernel
theorem dX8_addHedge_11 : decode cX8_addHedge 11 = .ok (.aload_n 0, 1) := by decide +kernel
theorem dX8_addHedge_12 : decode cX8_addHedge 12 = .ok (.getfield 9, 3) := by decide +kernel
theorem dX8_addHedge_15 : decode cX8_addHedge 15 = .ok (.arraylength, 1) := by decide +kernel
theorem dX8_addHedge_16 : decode cX8_addHedge 16 = .ok (.if_icmp .ge 23, 3) := by decide +kernel
theorem dX8_addHedge_19 : decode cX8_addHedge 19 = .ok (.aload_n 0, 1) := by decide +kernel
theorem dX8_addHedge_20 : decode cX8_addHedge 20 = .ok (.getfield 9, 3) := by decide +kernel
theorem dX8_addHedge_23 : decode cX8_addHedge 23 = .ok (.aload_n 0, 1) := by decide +kernel
theorem dX8_addHedge_24 : decode cX8_addHedge 24 = .ok (.getfield 34, 3) := by decide +kernel
theorem dX8_addHedge_27 : decode cX8_addHedge 27 = .ok (.iload_n 1, 1) := by decide +kernel
theorem dX8_addHedge_28 : decode cX8_addHedge 28 = .ok (.iastore, 1) := by decide +kernel
theorem dX8_addHedge_29 : decode cX8_addHedge 29 = .ok (.aload_n 0, 1) := by decide +kernel
theorem dX8_addHedge_30 : decode cX8_addHedge 30 = .ok (.dup, 1) := by decide +kernel
theorem dX8_addHedge_31 : decode cX8_addHedge 31 = .ok (.getfield 34, 3) := by decide +kernel
theorem dX8_addHedge_34 : decode cX8_addHedge 34 = .ok (.iconst 1, 1) := by decide +kernel
theorem dX8_addHedge_35 : decode cX8_addHedge 35 = .ok (.iadd, 1) := by decide +kernel
theorem dX8_addHedge_36 : decode cX8_addHedge 36 = .ok (.putfield 34, 3) := by decide +kernel
theorem dX8_addHedge_39 : decode cX8_addHedge 39 = .ok (.return_, 1) := by decide +kernel
theorem dX8_addRose_0 : decode cX8_addRose 0 = .ok (.aload_n 0, 1) := by decide +kernel
theorem dX8_addRose_1 : decode cX8_addRose 1 = .ok (.getfield 38, 3) := by decide +kernel
theorem dX8_addRose_4 : decode cX8_addRose 4 = .ok (.ifCond .lt 35, 3) := by decide +kernel
theorem dX8_addRose_7 : decode cX8_addRose 7 = .ok (.aload_n 0, 1) := by decide +kernel
theorem dX8_addRose_8 : decode cX8_addRose 8 = .ok (.getfield 38, 3) := by decide +kernel
theorem dX8_addRose_11 : decode cX8_addRose 11 = .ok (.aload_n 0, 1) := by decide +kernel
theorem dX8_addRose_12 : decode cX8_addRose 12 = .ok (.getfield 15, 3) := by decide +kernel
theorem dX8_addRose_15 : decode cX8_addRose 15 = .ok (.arraylength, 1) := by decide +kernel
theorem dX8_addRose_16 : decode cX8_addRose 16 = .ok (.if_icmp .ge 23, 3) := by decide +kernel
theorem dX8_addRose_19 : decode cX8_addRose 19 = .ok (.aload_n 0, 1) := by decide +kernel
theorem dX8_addRose_20 : decode cX8_addRose 20 = .ok (.getfield 15, 3) := by decide +kernel
theorem dX8_addRose_23 : decode cX8_addRose 23 = .ok (.aload_n 0, 1) := by decide +kernel
theorem dX8_addRose_24 : decode cX8_addRose 24 = .ok (.getfield 38, 3) := by decide +kernel
theorem dX8_addRose_27 : decode cX8_addRose 27 = .ok (.iload_n 1, 1) := by decide +kernel
theorem dX8_addRose_28 : decode cX8_addRose 28 = .ok (.iastore, 1) := by decide +kernel
theorem dX8_addRose_29 : decode cX8_addRose 29 = .ok (.aload_n 0, 1) := by decide +kernel
theorem dX8_addRose_30 : decode cX8_addRose 30 = .ok (.dup, 1) := by decide +kernel
theorem dX8_addRose_31 : decode cX8_addRose 31 = .ok (.getfield 38, 3) := by decide +kernel
theorem dX8_addRose_34 : decode cX8_addRose 34 = .ok (.iconst 1, 1) := by decide +kernel
theorem dX8_addRose_35 : decode cX8_addRose 35 = .ok (.iadd, 1) := by decide +kernel
theorem dX8_addRose_36 : decode cX8_addRose 36 = .ok (.putfield 38, 3) := by decide +kernel
theorem dX8_addRose_39 : decode cX8_addRose 39 = .ok (.return_, 1) := by decide +kernel
theorem dX8_add_0 : decode cX8_add 0 = .ok (.aload_n 0, 1) := by decide +kernel
theorem dX8_add_1 : decode cX8_add 1 = .ok (.getfield 41, 3) := by decide +kernel
theorem dX8_add_4 : decode cX8_add 4 = .ok (.ifCond .lt 13, 3) := by decide +kernel
theorem dX8_add_7 : decode cX8_add 7 = .ok (.aload_n 0, 1) := by decide +kernel
theorem dX8_add_8 : decode cX8_add 8 = .ok (.getfield 41, 3) := by decide +kernel
theorem dX8_add_11 : decode cX8_add 11 = .ok (.sipush 400, 3) := by decide +kernel
theorem dX8_add_14 : decode cX8_add 14 = .ok (.if_icmp .lt 5, 3) := by decide +kernel
theorem dX8_add_17 : decode cX8_add 17 = .ok (.iconst 0, 1) := by decide +kernel
theorem dX8_add_18 : decode cX8_add 18 = .ok (.ireturn, 1) := by decide +kernel
theorem dX8_add_19 : decode cX8_add 19 = .ok (.aload_n 0, 1) := by decide +kernel
theorem dX8_add_20 : decode cX8_add 20 = .ok (.getfield 20, 3) := by decide +kernel
theorem dX8_add_23 : decode cX8_add 23 = .ok (.aload_n 0, 1) := by decide +kernel
theorem dX8_add_24 : decode cX8_add 24 = .ok (.getfield 41, 3) := by decide +kernel
theorem dX8_add_27 : decode cX8_add 27 = .ok (.aload_n 1, 1) := by decide +kernel
theorem dX8_add_28 : decode cX8_add 28 = .ok (.aastore, 1) := by decide +kernel
theorem dX8_add_29 : decode cX8_add 29 = .ok (.aload_n 0, 1) := by decide +kernel
theorem dX8_add_30 : decode cX8_add 30 = .ok (.getfield 24, 3) := by decide +kernel
theorem dX8_add_33 : decode cX8_add 33 = .ok (.aload_n 0, 1) := by decide +kernel
theorem dX8_add_34 : decode cX8_add 34 = .ok (.getfield 41, 3) := by decide +kernel
theorem dX8_add_37 : decode cX8_add 37 = .ok (.iload_n 2, 1) := by decide +kernel
theorem dX8_add_38 : decode cX8_add 38 = .ok (.iastore, 1) := by decide +kernel
theorem dX8_add_39 : decode cX8_add 39 = .ok (.aload_n 0, 1) := by decide +kernel
theorem dX8_add_40 : decode cX8_add 40 = .ok (.getfield 27, 3) := by decide +kernel
theorem dX8_add_43 : decode cX8_add 43 = .ok (.aload_n 0, 1) := by decide +kernel
theorem dX8_add_44 : decode cX8_add 44 = .ok (.getfield 41, 3) := by decide +kernel
theorem dX8_add_47 : decode cX8_add 47 = .ok (.iload_n 3, 1) := by decide +kernel
theorem dX8_add_48 : decode cX8_add 48 = .ok (.iastore, 1) := by decide +kernel
theorem dX8_add_49 : decode cX8_add 49 = .ok (.aload_n 0, 1) := by decide +kernel
theorem dX8_add_50 : decode cX8_add 50 = .ok (.dup, 1) := by decide +kernel
theorem dX8_add_51 : decode cX8_add 51 = .ok (.getfield 41, 3) := by decide +kernel
theorem dX8_add_54 : decode cX8_add 54 = .ok (.iconst 1, 1) := by decide +kernel
theorem dX8_add_55 : decode cX8_add 55 = .ok (.iadd, 1) := by decide +kernel
theorem dX8_add_56 : decode cX8_add 56 = .ok (.putfield 41, 3) := by decide +kernel
theorem dX8_add_59 : decode cX8_add 59 = .ok (.iconst 1, 1) := by decide +kernel
theorem dX8_add_60 : decode cX8_add 60 = .ok (.ireturn, 1) := by decide +kernel
theorem dX8_link_0 : decode cX8_link 0 = .ok (.iconst 0, 1) := by decide +kernel
theorem dX8_link_1 : decode cX8_link 1 = .ok (.istore_n 2, 1) := by decide +kernel
theorem dX8_link_2 : decode cX8_link 2 = .ok (.iload_n 2, 1) := by decide +kernel
theorem dX8_link_3 : decode cX8_link 3 = .ok (.aload_n 0, 1) := by decide +kernel
theorem dX8_link_4 : decode cX8_link 4 = .ok (.getfield 41, 3) := by decide +kernel
theorem dX8_link_7 : decode cX8_link 7 = .ok (.if_icmp .ge 48, 3) := by decide +kernel
theorem dX8_link_10 : decode cX8_link 10 = .ok (.iload_n 2, 1) := by decide +kernel
theorem dX8_link_11 : decode cX8_link 11 = .ok (.sipush 400, 3) := by decide +kernel
theorem dX8_link_14 : decode cX8_link 14 = .ok (.if_icmp .ge 41, 3) := by decide +kernel
theorem dX8_link_17 : decode cX8_link 17 = .ok (.aload_n 0, 1) := by decide +kernel
theorem dX8_link_18 : decode cX8_link 18 = .ok (.getfield 24, 3) := by decide +kernel
theorem dX8_link_21 : decode cX8_link 21 = .ok (.iload_n 2, 1) := by decide +kernel
theorem dX8_link_22 : decode cX8_link 22 = .ok (.aload_n 1, 1) := by decide +kernel
theorem dX8_link_23 : decode cX8_link 23 = .ok (.aload_n 0, 1) := by decide +kernel
theorem dX8_link_24 : decode cX8_link 24 = .ok (.getfield 24, 3) := by decide +kernel
theorem dX8_link_27 : decode cX8_link 27 = .ok (.iload_n 2, 1) := by decide +kernel
theorem dX8_link_28 : decode cX8_link 28 = .ok (.iaload, 1) := by decide +kernel
theorem dX8_link_29 : decode cX8_link 29 = .ok (.invokevirtual 44, 3) := by decide +kernel
theorem dX8_link_32 : decode cX8_link 32 = .ok (.iastore, 1) := by decide +kernel
theorem dX8_link_33 : decode cX8_link 33 = .ok (.aload_n 0, 1) := by decide +kernel
theorem dX8_link_34 : decode cX8_link 34 = .ok (.getfield 27, 3) := by decide +kernel
theorem dX8_link_37 : decode cX8_link 37 = .ok (.iload_n 2, 1) := by decide +kernel
theorem dX8_link_38 : decode cX8_link 38 = .ok (.aload_n 1, 1) := by decide +kernel
theorem dX8_link_39 : decode cX8_link 39 = .ok (.aload_n 0, 1) := by decide +kernel
theorem dX8_link_40 : decode cX8_link 40 = .ok (.getfield 27, 3) := by decide +kernel
theorem dX8_link_43 : decode cX8_link 43 = .ok (.iload_n 2, 1) := by decide +kernel
theorem dX8_link_44 : decode cX8_link 44 = .ok (.iaload, 1) := by decide +kernel
theorem dX8_link_45 : decode cX8_link 45 = .ok (.invokevirtual 44, 3) := by decide +kernel
theorem dX8_link_48 : decode cX8_link 48 = .ok (.iastore, 1) := by decide +kernel
theorem dX8_link_49 : decode cX8_link 49 = .ok (.iinc 2 1, 3) := by decide +kernel
theorem dX8_link_52 : decode cX8_link 52 = .ok (.goto (-50), 3) := by decide +kernel
theorem dX8_link_55 : decode cX8_link 55 = .ok (.return_, 1) := by decide +kernel
theorem dX9_init_0 : decode cX9_init 0 = .ok (.aload_n 0, 1) := by decide +kernel
theorem dX9_init_1 : decode cX9_init 1 = .ok (.invokespecial 1, 3) := by decide +kernel
theorem dX9_init_4 : decode cX9_init 4 = .ok (.return_, 1) := by decide +kernel
theorem dX9_begin_0 : decode cX9_begin 0 = .ok (.aload_n 0, 1) := by decide +kernel
theorem dX9_begin_1 : decode cX9_begin 1 = .ok (.iload_n 1, 1) := by decide +kernel
theorem dX9_begin_2 : decode cX9_begin 2 = .ok (.putfield 7, 3) := by decide +kernel
theorem dX9_begin_5 : decode cX9_begin 5 = .ok (.aload_n 0, 1) := by decide +kernel
theorem dX9_begin_6 : decode cX9_begin 6 = .ok (.iconst 0, 1) := by decide +kernel
theorem dX9_begin_7 : decode cX9_begin 7 = .ok (.putfield 13, 3) := by decide +kernel
theorem dX9_begin_10 : decode cX9_begin 10 = .ok (.aload_n 0, 1) := by decide +kernel
theorem dX9_begin_11 : decode cX9_begin 11 = .ok (.iconst 0, 1) := by decide +kernel
theorem dX9_begin_12 : decode cX9_begin 12 = .ok (.putfield 16, 3) := by decide +kernel
theorem dX9_begin_15 : decode cX9_begin 15 = .ok (.aload_n 0, 1) := by decide +kernel
theorem dX9_begin_16 : decode cX9_begin 16 = .ok (.iconst 0, 1) := by decide +kernel
theorem dX9_begin_17 : decode cX9_begin 17 = .ok (.putfield 19, 3) := by decide +kernel
theorem dX9_begin_20 : decode cX9_begin 20 = .ok (.return_, 1) := by decide +kernel
theorem dX9_copy_0 : decode cX9_copy 0 = .ok (.aload_n 0, 1) := by decide +kernel
theorem dX9_copy_1 : decode cX9_copy 1 = .ok (.aload_n 1, 1) := by decide +kernel
theorem dX9_copy_2 : decode cX9_copy 2 = .ok (.getfield 7, 3) := by decide +kernel
theorem dX9_copy_5 : decode cX9_copy 5 = .ok (.putfield 7, 3) := by decide +kernel
theorem dX9_copy_8 : decode cX9_copy 8 = .ok (.aload_n 0, 1) := by decide +kernel
theorem dX9_copy_9 : decode cX9_copy 9 = .ok (.aload_n 1, 1) := by decide +kernel
theorem dX9_copy_10 : decode cX9_copy 10 = .ok (.getfield 13, 3) := by decide +kernel
theorem dX9_copy_13 : decode cX9_copy 13 = .ok (.putfield 13, 3) := by decide +kernel
theorem dX9_copy_16 : decode cX9_copy 16 = .ok (.aload_n 0, 1) := by decide +kernel
theorem dX9_copy_17 : decode cX9_copy 17 = .ok (.aload_n 1, 1) := by decide +kernel
theorem dX9_copy_18 : decode cX9_copy 18 = .ok (.getfield 16, 3) := by decide +kernel
theorem dX9_copy_21 : decode cX9_copy 21 = .ok (.putfield 16, 3) := by decide +kernel
theorem dX9_copy_24 : decode cX9_copy 24 = .ok (.aload_n 0, 1) := by decide +kernel
theorem dX9_copy_25 : decode cX9_copy 25 = .ok (.aload_n 1, 1) := by decide +kernel
theorem dX9_copy_26 : decode cX9_copy 26 = .ok (.getfield 19, 3) := by decide +kernel
theorem dX9_copy_29 : decode cX9_copy 29 = .ok (.putfield 19, 3) := by decide +kernel
theorem dX9_copy_32 : decode cX9_copy 32 = .ok (.return_, 1) := by decide +kernel
theorem dX10_init_0 : decode cX10_init 0 = .ok (.aload_n 0, 1) := by decide +kernel
theorem dX10_init_1 : decode cX10_init 1 = .ok (.invokespecial 3, 3) := by decide +kernel
theorem dX10_init_4 : decode cX10_init 4 = .ok (.aload_n 0, 1) := by decide +kernel
theorem dX10_init_5 : decode cX10_init 5 = .ok (.sipush 2000, 3) := by decide +kernel
theorem dX10_init_8 : decode cX10_init 8 = .ok (.newarray .byte, 2) := by decide +kernel
theorem dX10_init_10 : decode cX10_init 10 = .ok (.putfield 9, 3) := by decide +kernel
theorem dX10_init_13 : decode cX10_init 13 = .ok (.return_, 1) := by decide +kernel
theorem dX10_add_0 : decode cX10_add 0 = .ok (.bipush 24, 2) := by decide +kernel
theorem dX10_add_2 : decode cX10_add 2 = .ok (.istore_n 2, 1) := by decide +kernel
theorem dX10_add_3 : decode cX10_add 3 = .ok (.iload_n 2, 1) := by decide +kernel
theorem dX10_add_4 : decode cX10_add 4 = .ok (.ifCond .lt 51, 3) := by decide +kernel
theorem dX10_add_7 : decode cX10_add 7 = .ok (.aload_n 0, 1) := by decide +kernel
theorem dX10_add_8 : decode cX10_add 8 = .ok (.getfield 15, 3) := by decide +kernel
theorem dX10_add_11 : decode cX10_add 11 = .ok (.ifCond .lt 38, 3) := by decide +kernel
theorem dX10_add_14 : decode cX10_add 14 = .ok (.aload_n 0, 1) := by decide +kernel
theorem dX10_add_15 : decode cX10_add 15 = .ok (.getfield 15, 3) := by decide +kernel
theorem dX10_add_18 : decode cX10_add 18 = .ok (.aload_n 0, 1) := by decide +kernel
theorem dX10_add_19 : decode cX10_add 19 = .ok (.getfield 9, 3) := by decide +kernel
theorem dX10_add_22 : decode cX10_add 22 = .ok (.arraylength, 1) := by decide +kernel
theorem dX10_add_23 : decode cX10_add 23 = .ok (.if_icmp .ge 26, 3) := by decide +kernel
theorem dX10_add_26 : decode cX10_add 26 = .ok (.aload_n 0, 1) := by decide +kernel
theorem dX10_add_27 : decode cX10_add 27 = .ok (.getfield 9, 3) := by decide +kernel
theorem dX10_add_30 : decode cX10_add 30 = .ok (.aload_n 0, 1) := by decide +kernel
theorem dX10_add_31 : decode cX10_add 31 = .ok (.getfield 15, 3) := by decide +kernel
theorem dX10_add_34 : decode cX10_add 34 = .ok (.iload_n 1, 1) := by decide +kernel
theorem dX10_add_35 : decode cX10_add 35 = .ok (.iload_n 2, 1) := by decide +kernel
theorem dX10_add_36 : decode cX10_add 36 = .ok (.ishr, 1) := by decide +kernel
theorem dX10_add_37 : decode cX10_add 37 = .ok (.i2b, 1) := by decide +kernel
theorem dX10_add_38 : decode cX10_add 38 = .ok (.bastore, 1) := by decide +kernel
theorem dX10_add_39 : decode cX10_add 39 = .ok (.aload_n 0, 1) := by decide +kernel
theorem dX10_add_40 : decode cX10_add 40 = .ok (.dup, 1) := by decide +kernel
theorem dX10_add_41 : decode cX10_add 41 = .ok (.getfield 15, 3) := by decide +kernel
theorem dX10_add_44 : decode cX10_add 44 = .ok (.iconst 1, 1) := by decide +kernel
theorem dX10_add_45 : decode cX10_add 45 = .ok (.iadd, 1) := by decide +kernel
theorem dX10_add_46 : decode cX10_add 46 = .ok (.putfield 15, 3) := by decide +kernel
theorem dX10_add_49 : decode cX10_add 49 = .ok (.iinc 2 (-8), 3) := by decide +kernel
theorem dX10_add_52 : decode cX10_add 52 = .ok (.goto (-49), 3) := by decide +kernel
theorem dX10_add_55 : decode cX10_add 55 = .ok (.return_, 1) := by decide +kernel
theorem dX10_at_0 : decode cX10_at 0 = .ok (.iload_n 1, 1) := by decide +kernel
theorem dX10_at_1 : decode cX10_at 1 = .ok (.ifCond .lt 20, 3) := by decide +kernel
theorem dX10_at_4 : decode cX10_at 4 = .ok (.iload_n 1, 1) := by decide +kernel
theorem dX10_at_5 : decode cX10_at 5 = .ok (.aload_n 0, 1) := by decide +kernel
theorem dX10_at_6 : decode cX10_at 6 = .ok (.getfield 15, 3) := by decide +kernel
theorem dX10_at_9 : decode cX10_at 9 = .ok (.if_icmp .ge 12, 3) := by decide +kernel
theorem dX10_at_12 : decode cX10_at 12 = .ok (.iload_n 1, 1) := by decide +kernel
theorem dX10_at_13 : decode cX10_at 13 = .ok (.aload_n 0, 1) := by decide +kernel
theorem dX10_at_14 : decode cX10_at 14 = .ok (.getfield 9, 3) := by decide +kernel
theorem dX10_at_17 : decode cX10_at 17 = .ok (.arraylength, 1) := by decide +kernel
theorem dX10_at_18 : decode cX10_at 18 = .ok (.if_icmp .lt 5, 3) := by decide +kernel
theorem dX10_at_21 : decode cX10_at 21 = .ok (.iconst (-1), 1) := by decide +kernel
theorem dX10_at_22 : decode cX10_at 22 = .ok (.ireturn, 1) := by decide +kernel
theorem dX10_at_23 : decode cX10_at 23 = .ok (.aload_n 0, 1) := by decide +kernel
theorem dX10_at_24 : decode cX10_at 24 = .ok (.getfield 9, 3) := by decide +kernel
theorem dX10_at_27 : decode cX10_at 27 = .ok (.iload_n 1, 1) := by decide +kernel
theorem dX10_at_28 : decode cX10_at 28 = .ok (.baload, 1) := by decide +kernel
theorem dX10_at_29 : decode cX10_at 29 = .ok (.sipush 255, 3) := by decide +kernel
theorem dX10_at_32 : decode cX10_at 32 = .ok (.iand, 1) := by decide +kernel
theorem dX10_at_33 : decode cX10_at 33 = .ok (.ireturn, 1) := by decide +kernel
theorem dX11_init_0 : decode cX11_init 0 = .ok (.aload_n 0, 1) := by decide +kernel
theorem dX11_init_1 : decode cX11_init 1 = .ok (.invokespecial 3, 3) := by decide +kernel
theorem dX11_init_4 : decode cX11_init 4 = .ok (.aload_n 0, 1) := by decide +kernel
theorem dX11_init_5 : decode cX11_init 5 = .ok (.sipush 401, 3) := by decide +kernel
theorem dX11_init_8 : decode cX11_init 8 = .ok (.anewarray 9, 3) := by decide +kernel
theorem dX11_init_11 : decode cX11_init 11 = .ok (.putfield 11, 3) := by decide +kernel
theorem dX11_init_14 : decode cX11_init 14 = .ok (.aload_n 0, 1) := by decide +kernel
theorem dX11_init_15 : decode cX11_init 15 = .ok (.sipush 401, 3) := by decide +kernel
theorem dX11_init_18 : decode cX11_init 18 = .ok (.newarray .int, 2) := by decide +kernel
theorem dX11_init_20 : decode cX11_init 20 = .ok (.putfield 17, 3) := by decide +kernel
theorem dX11_init_23 : decode cX11_init 23 = .ok (.aload_n 0, 1) := by decide +kernel
theorem dX11_init_24 : decode cX11_init 24 = .ok (.sipush 401, 3) := by decide +kernel
theorem dX11_init_27 : decode cX11_init 27 = .ok (.newarray .long, 2) := by decide +kernel
theorem dX11_init_29 : decode cX11_init 29 = .ok (.putfield 21, 3) := by decide +kernel
theorem dX11_init_32 : decode cX11_init 32 = .ok (.aload_n 0, 1) := by decide +kernel
theorem dX11_init_33 : decode cX11_init 33 = .ok (.sipush 401, 3) := by decide +kernel
theorem dX11_init_36 : decode cX11_init 36 = .ok (.newarray .int, 2) := by decide +kernel
theorem dX11_init_38 : decode cX11_init 38 = .ok (.putfield 25, 3) := by decide +kernel
theorem dX11_init_41 : decode cX11_init 41 = .ok (.iconst 0, 1) := by decide +kernel
theorem dX11_init_42 : decode cX11_init 42 = .ok (.istore_n 1, 1) := by decide +kernel
theorem dX11_init_43 : decode cX11_init 43 = .ok (.iload_n 1, 1) := by decide +kernel
theorem dX11_init_44 : decode cX11_init 44 = .ok (.aload_n 0, 1) := by decide +kernel
theorem dX11_init_45 : decode cX11_init 45 = .ok (.getfield 11, 3) := by decide +kernel
theorem dX11_init_48 : decode cX11_init 48 = .ok (.arraylength, 1) := by decide +kernel
theorem dX11_init_49 : decode cX11_init 49 = .ok (.if_icmp .ge 18, 3) := by decide +kernel
theorem dX11_init_52 : decode cX11_init 52 = .ok (.aload_n 0, 1) := by decide +kernel
theorem dX11_init_53 : decode cX11_init 53 = .ok (.getfield 11, 3) := by decide +kernel
theorem dX11_init_56 : decode cX11_init 56 = .ok (.iload_n 1, 1) := by decide +kernel
theorem dX11_init_57 : decode cX11_init 57 = .ok (.getstatic 28, 3) := by decide +kernel
theorem dX11_init_60 : decode cX11_init 60 = .ok (.aastore, 1) := by decide +kernel
theorem dX11_init_61 : decode cX11_init 61 = .ok (.iinc 1 1, 3) := by decide +kernel
theorem dX11_init_64 : decode cX11_init 64 = .ok (.goto (-21), 3) := by decide +kernel
theorem dX11_init_67 : decode cX11_init 67 = .ok (.return_, 1) := by decide +kernel
theorem dX11_scan_0 : decode cX11_scan 0 = .ok (.aload_n 0, 1) := by decide +kernel
theorem dX11_scan_1 : decode cX11_scan 1 = .ok (.iconst 0, 1) := by decide +kernel
theorem dX11_scan_2 : decode cX11_scan 2 = .ok (.putfield 32, 3) := by decide +kernel
theorem dX11_scan_5 : decode cX11_scan 5 = .ok (.iconst 0, 1) := by decide +kernel
theorem dX11_scan_6 : decode cX11_scan 6 = .ok (.istore_n 2, 1) := by decide +kernel
theorem dX11_scan_7 : decode cX11_scan 7 = .ok (.iload_n 2, 1) := by decide +kernel
theorem dX11_scan_8 : decode cX11_scan 8 = .ok (.sipush 400, 3) := by decide +kernel
theorem dX11_scan_11 : decode cX11_scan 11 = .ok (.if_icmp .gt 95, 3) := by decide +kernel
theorem dX11_scan_14 : decode cX11_scan 14 = .ok (.aload_n 0, 1) := by decide +kernel
theorem dX11_scan_15 : decode cX11_scan 15 = .ok (.aload_n 1, 1) := by decide +kernel
theorem dX11_scan_16 : decode cX11_scan 16 = .ok (.invokevirtual 36, 3) := by decide +kernel
theorem dX11_scan_19 : decode cX11_scan 19 = .ok (.aload_n 0, 1) := by decide +kernel
theorem dX11_scan_20 : decode cX11_scan 20 = .ok (.getfield 17, 3) := by decide +kernel
theorem dX11_scan_23 : decode cX11_scan 23 = .ok (.iload_n 2, 1) := by decide +kernel
theorem dX11_scan_24 : decode cX11_scan 24 = .ok (.aload_n 0, 1) := by decide +kernel
theorem dX11_scan_25 : decode cX11_scan 25 = .ok (.getfield 32, 3) := by decide +kernel
theorem dX11_scan_28 : decode cX11_scan 28 = .ok (.iastore, 1) := by decide +kernel
theorem dX11_scan_29 : decode cX11_scan 29 = .ok (.aload_n 0, 1) := by decide +kernel
theorem dX11_scan_30 : decode cX11_scan 30 = .ok (.aload_n 1, 1) := by decide +kernel
theorem dX11_scan_31 : decode cX11_scan 31 = .ok (.invokevirtual 40, 3) := by decide +kernel
theorem dX11_scan_34 : decode cX11_scan 34 = .ok (.astore_n 3, 1) := by decide +kernel
theorem dX11_scan_35 : decode cX11_scan 35 = .ok (.iload_n 2, 1) := by decide +kernel
theorem dX11_scan_36 : decode cX11_scan 36 = .ok (.sipush 400, 3) := by decide +kernel
theorem dX11_scan_39 : decode cX11_scan 39 = .ok (.if_icmp .ne 14, 3) := by decide +kernel
theorem dX11_scan_42 : decode cX11_scan 42 = .ok (.aload_n 3, 1) := by decide +kernel
theorem dX11_scan_43 : decode cX11_scan 43 = .ok (.getstatic 28, 3) := by decide +kernel
theorem dX11_scan_46 : decode cX11_scan 46 = .ok (.if_acmp .eq 7, 3) := by decide +kernel
theorem dX11_scan_49 : decode cX11_scan 49 = .ok (.getstatic 44, 3) := by decide +kernel
theorem dX11_scan_52 : decode cX11_scan 52 = .ok (.astore_n 3, 1) := by decide +kernel
theorem dX11_scan_53 : decode cX11_scan 53 = .ok (.aload_n 0, 1) := by decide +kernel
theorem dX11_scan_54 : decode cX11_scan 54 = .ok (.getfield 11, 3) := by decide +kernel
theorem dX11_scan_57 : decode cX11_scan 57 = .ok (.iload_n 2, 1) := by decide +kernel
theorem dX11_scan_58 : decode cX11_scan 58 = .ok (.aload_n 3, 1) := by decide +kernel
theorem dX11_scan_59 : decode cX11_scan 59 = .ok (.aastore, 1) := by decide +kernel
theorem dX11_scan_60 : decode cX11_scan 60 = .ok (.aload_n 0, 1) := by decide +kernel
theorem dX11_scan_61 : decode cX11_scan 61 = .ok (.getfield 21, 3) := by decide +kernel
theorem dX11_scan_64 : decode cX11_scan 64 = .ok (.iload_n 2, 1) := by decide +kernel
theorem dX11_scan_65 : decode cX11_scan 65 = .ok (.aload_n 0, 1) := by decide +kernel
theorem dX11_scan_66 : decode cX11_scan 66 = .ok (.getfield 47, 3) := by decide +kernel
theorem dX11_scan_69 : decode cX11_scan 69 = .ok (.lastore, 1) := by decide +kernel
theorem dX11_scan_70 : decode cX11_scan 70 = .ok (.aload_n 0, 1) := by decide +kernel
theorem dX11_scan_71 : decode cX11_scan 71 = .ok (.getfield 25, 3) := by decide +kernel
theorem dX11_scan_74 : decode cX11_scan 74 = .ok (.iload_n 2, 1) := by decide +kernel
theorem dX11_scan_75 : decode cX11_scan 75 = .ok (.aload_n 0, 1) := by decide +kernel
theorem dX11_scan_76 : decode cX11_scan 76 = .ok (.getfield 51, 3) := by decide +kernel
theorem dX11_scan_79 : decode cX11_scan 79 = .ok (.iastore, 1) := by decide +kernel
theorem dX11_scan_80 : decode cX11_scan 80 = .ok (.aload_n 0, 1) := by decide +kernel
theorem dX11_scan_81 : decode cX11_scan 81 = .ok (.iload_n 2, 1) := by decide +kernel
theorem dX11_scan_82 : decode cX11_scan 82 = .ok (.putfield 54, 3) := by decide +kernel
theorem dX11_scan_85 : decode cX11_scan 85 = .ok (.aload_n 3, 1) := by decide +kernel
theorem dX11_scan_86 : decode cX11_scan 86 = .ok (.getstatic 28, 3) := by decide +kernel
theorem dX11_scan_89 : decode cX11_scan 89 = .ok (.if_acmp .eq 10, 3) := by decide +kernel
theorem dX11_scan_92 : decode cX11_scan 92 = .ok (.aload_n 3, 1) := by decide +kernel
theorem dX11_scan_93 : decode cX11_scan 93 = .ok (.getstatic 44, 3) := by decide +kernel
theorem dX11_scan_96 : decode cX11_scan 96 = .ok (.if_acmp .ne 4, 3) := by decide +kernel
theorem dX11_scan_99 : decode cX11_scan 99 = .ok (.return_, 1) := by decide +kernel
theorem dX11_scan_100 : decode cX11_scan 100 = .ok (.iinc 2 1, 3) := by decide +kernel
theorem dX11_scan_103 : decode cX11_scan 103 = .ok (.goto (-96), 3) := by decide +kernel
theorem dX11_scan_106 : decode cX11_scan 106 = .ok (.return_, 1) := by decide +kernel
theorem dX11_skipBlanks_0 : decode cX11_skipBlanks 0 = .ok (.aload_n 0, 1) := by decide +kernel
theorem dX11_skipBlanks_1 : decode cX11_skipBlanks 1 = .ok (.getfield 32, 3) := by decide +kernel
theorem dX11_skipBlanks_4 : decode cX11_skipBlanks 4 = .ok (.aload_n 1, 1) := by decide +kernel
theorem dX11_skipBlanks_5 : decode cX11_skipBlanks 5 = .ok (.getfield 57, 3) := by decide +kernel
theorem dX11_skipBlanks_8 : decode cX11_skipBlanks 8 = .ok (.if_icmp .ge 42, 3) := by decide +kernel
theorem dX11_skipBlanks_11 : decode cX11_skipBlanks 11 = .ok (.aload_n 1, 1) := by decide +kernel
theorem dX11_skipBlanks_12 : decode cX11_skipBlanks 12 = .ok (.aload_n 0, 1) := by decide +kernel
theorem dX11_skipBlanks_13 : decode cX11_skipBlanks 13 = .ok (.getfield 32, 3) := by decide +kernel
theorem dX11_skipBlanks_16 : decode cX11_skipBlanks 16 = .ok (.invokevirtual 62, 3) := by decide +kernel
theorem dX11_skipBlanks_19 : decode cX11_skipBlanks 19 = .ok (.bipush 32, 2) := by decide +kernel
theorem dX11_skipBlanks_21 : decode cX11_skipBlanks 21 = .ok (.if_icmp .eq 16, 3) := by decide +kernel
theorem dX11_skipBlanks_24 : decode cX11_skipBlanks 24 = .ok (.aload_n 1, 1) := by decide +kernel
theorem dX11_skipBlanks_25 : decode cX11_skipBlanks 25 = .ok (.aload_n 0, 1) := by decide +kernel
theorem dX11_skipBlanks_26 : decode cX11_skipBlanks 26 = .ok (.getfield 32, 3) := by decide +kernel
theorem dX11_skipBlanks_29 : decode cX11_skipBlanks 29 = .ok (.invokevirtual 62, 3) := by decide +kernel
theorem dX11_skipBlanks_32 : decode cX11_skipBlanks 32 = .ok (.bipush 10, 2) := by decide +kernel
theorem dX11_skipBlanks_34 : decode cX11_skipBlanks 34 = .ok (.if_icmp .ne 16, 3) := by decide +kernel
theorem dX11_skipBlanks_37 : decode cX11_skipBlanks 37 = .ok (.aload_n 0, 1) := by decide +kernel
theorem dX11_skipBlanks_38 : decode cX11_skipBlanks 38 = .ok (.dup, 1) := by decide +kernel
theorem dX11_skipBlanks_39 : decode cX11_skipBlanks 39 = .ok (.getfield 32, 3) := by decide +kernel
theorem dX11_skipBlanks_42 : decode cX11_skipBlanks 42 = .ok (.iconst 1, 1) := by decide +kernel
theorem dX11_skipBlanks_43 : decode cX11_skipBlanks 43 = .ok (.iadd, 1) := by decide +kernel
theorem dX11_skipBlanks_44 : decode cX11_skipBlanks 44 = .ok (.putfield 32, 3) := by decide +kernel
theorem dX11_skipBlanks_47 : decode cX11_skipBlanks 47 = .ok (.goto (-47), 3) := by decide +kernel
theorem dX11_skipBlanks_50 : decode cX11_skipBlanks 50 = .ok (.return_, 1) := by decide +kernel
theorem dX11_next_0 : decode cX11_next 0 = .ok (.aload_n 1, 1) := by decide +kernel
theorem dX11_next_1 : decode cX11_next 1 = .ok (.aload_n 0, 1) := by decide +kernel
theorem dX11_next_2 : decode cX11_next 2 = .ok (.getfield 32, 3) := by decide +kernel
theorem dX11_next_5 : decode cX11_next 5 = .ok (.invokevirtual 62, 3) := by decide +kernel
theorem dX11_next_8 : decode cX11_next 8 = .ok (.istore_n 2, 1) := by decide +kernel
theorem dX11_next_9 : decode cX11_next 9 = .ok (.iload_n 2, 1) := by decide +kernel
theorem dX11_next_10 : decode cX11_next 10 = .ok (.iconst (-1), 1) := by decide +kernel
theorem dX11_next_11 : decode cX11_next 11 = .ok (.if_icmp .ne 7, 3) := by decide +kernel
theorem dX11_next_14 : decode cX11_next 14 = .ok (.getstatic 28, 3) := by decide +kernel
theorem dX11_next_17 : decode cX11_next 17 = .ok (.areturn, 1) := by decide +kernel
theorem dX11_next_18 : decode cX11_next 18 = .ok (.iload_n 2, 1) := by decide +kernel
theorem dX11_next_19 : decode cX11_next 19 = .ok (.invokestatic 66, 3) := by decide +kernel
theorem dX11_next_22 : decode cX11_next 22 = .ok (.ifCond .eq 9, 3) := by decide +kernel
theorem dX11_next_25 : decode cX11_next 25 = .ok (.aload_n 0, 1) := by decide +kernel
theorem dX11_next_26 : decode cX11_next 26 = .ok (.aload_n 1, 1) := by decide +kernel
theorem dX11_next_27 : decode cX11_next 27 = .ok (.invokevirtual 70, 3) := by decide +kernel
theorem dX11_next_30 : decode cX11_next 30 = .ok (.areturn, 1) := by decide +kernel
theorem dX11_next_31 : decode cX11_next 31 = .ok (.iload_n 2, 1) := by decide +kernel
theorem dX11_next_32 : decode cX11_next 32 = .ok (.invokestatic 73, 3) := by decide +kernel
theorem dX11_next_35 : decode cX11_next 35 = .ok (.ifCond .eq 9, 3) := by decide +kernel
theorem dX11_next_38 : decode cX11_next 38 = .ok (.aload_n 0, 1) := by decide +kernel
theorem dX11_next_39 : decode cX11_next 39 = .ok (.aload_n 1, 1) := by decide +kernel
theorem dX11_next_40 : decode cX11_next 40 = .ok (.invokevirtual 76, 3) := by decide +kernel
theorem dX11_next_43 : decode cX11_next 43 = .ok (.areturn, 1) := by decide +kernel
theorem dX11_next_44 : decode cX11_next 44 = .ok (.aload_n 0, 1) := by decide +kernel
theorem dX11_next_45 : decode cX11_next 45 = .ok (.dup, 1) := by decide +kernel
theorem dX11_next_46 : decode cX11_next 46 = .ok (.getfield 32, 3) := by decide +kernel
theorem dX11_next_49 : decode cX11_next 49 = .ok (.iconst 1, 1) := by decide +kernel
theorem dX11_next_50 : decode cX11_next 50 = .ok (.iadd, 1) := by decide +kernel
theorem dX11_next_51 : decode cX11_next 51 = .ok (.putfield 32, 3) := by decide +kernel
theorem dX11_next_54 : decode cX11_next 54 = .ok (.aload_n 0, 1) := by decide +kernel
theorem dX11_next_55 : decode cX11_next 55 = .ok (.iload_n 2, 1) := by decide +kernel
theorem dX11_next_56 : decode cX11_next 56 = .ok (.aload_n 1, 1) := by decide +kernel
theorem dX11_next_57 : decode cX11_next 57 = .ok (.invokevirtual 79, 3) := by decide +kernel
theorem dX11_next_60 : decode cX11_next 60 = .ok (.areturn, 1) := by decide +kernel
theorem dX11_word_0 : decode cX11_word 0 = .ok (.iconst 0, 1) := by decide +kernel
theorem dX11_word_1 : decode cX11_word 1 = .ok (.istore_n 2, 1) := by decide +kernel
theorem dX11_word_2 : decode cX11_word 2 = .ok (.aload_n 0, 1) := by decide +kernel
theorem dX11_word_3 : decode cX11_word 3 = .ok (.lconst 0, 1) := by decide +kernel
theorem dX11_word_4 : decode cX11_word 4 = .ok (.putfield 47, 3) := by decide +kernel
theorem dX11_word_7 : decode cX11_word 7 = .ok (.iload_n 2, 1) := by decide +kernel
theorem dX11_word_8 : decode cX11_word 8 = .ok (.bipush 10, 2) := by decide +kernel
theorem dX11_word_10 : decode cX11_word 10 = .ok (.if_icmp .gt 52, 3) := by decide +kernel
theorem dX11_word_13 : decode cX11_word 13 = .ok (.aload_n 1, 1) := by decide +kernel
theorem dX11_word_14 : decode cX11_word 14 = .ok (.aload_n 0, 1) := by decide +kernel
theorem dX11_word_15 : decode cX11_word 15 = .ok (.getfield 32, 3) := by decide +kernel
theorem dX11_word_18 : decode cX11_word 18 = .ok (.invokevirtual 62, 3) := by decide +kernel
theorem dX11_word_21 : decode cX11_word 21 = .ok (.invokestatic 83, 3) := by decide +kernel
theorem dX11_word_24 : decode cX11_word 24 = .ok (.ifCond .eq 38, 3) := by decide +kernel
theorem dX11_word_27 : decode cX11_word 27 = .ok (.aload_n 0, 1) := by decide +kernel
theorem dX11_word_28 : decode cX11_word 28 = .ok (.aload_n 0, 1) := by decide +kernel
theorem dX11_word_29 : decode cX11_word 29 = .ok (.getfield 47, 3) := by decide +kernel
theorem dX11_word_32 : decode cX11_word 32 = .ok (.aload_n 1, 1) := by decide +kernel
theorem dX11_word_33 : decode cX11_word 33 = .ok (.aload_n 0, 1) := by decide +kernel
theorem dX11_word_34 : decode cX11_word 34 = .ok (.getfield 32, 3) := by decide +kernel
theorem dX11_word_37 : decode cX11_word 37 = .ok (.invokevirtual 62, 3) := by decide +kernel
theorem dX11_word_40 : decode cX11_word 40 = .ok (.invokestatic 86, 3) := by decide +kernel
theorem dX11_word_43 : decode cX11_word 43 = .ok (.putfield 47, 3) := by decide +kernel
theorem dX11_word_46 : decode cX11_word 46 = .ok (.iinc 2 1, 3) := by decide +kernel
theorem dX11_word_49 : decode cX11_word 49 = .ok (.aload_n 0, 1) := by decide +kernel
theorem dX11_word_50 : decode cX11_word 50 = .ok (.dup, 1) := by decide +kernel
theorem dX11_word_51 : decode cX11_word 51 = .ok (.getfield 32, 3) := by decide +kernel
theorem dX11_word_54 : decode cX11_word 54 = .ok (.iconst 1, 1) := by decide +kernel
theorem dX11_word_55 : decode cX11_word 55 = .ok (.iadd, 1) := by decide +kernel
theorem dX11_word_56 : decode cX11_word 56 = .ok (.putfield 32, 3) := by decide +kernel
theorem dX11_word_59 : decode cX11_word 59 = .ok (.goto (-52), 3) := by decide +kernel
theorem dX11_word_62 : decode cX11_word 62 = .ok (.iload_n 2, 1) := by decide +kernel
theorem dX11_word_63 : decode cX11_word 63 = .ok (.bipush 10, 2) := by decide +kernel
theorem dX11_word_65 : decode cX11_word 65 = .ok (.if_icmp .le 9, 3) := by decide +kernel
theorem dX11_word_68 : decode cX11_word 68 = .ok (.getstatic 44, 3) := by decide +kernel
theorem dX11_word_71 : decode cX11_word 71 = .ok (.goto 10, 3) := by decide +kernel
theorem dX11_word_74 : decode cX11_word 74 = .ok (.aload_n 0, 1) := by decide +kernel
theorem dX11_word_75 : decode cX11_word 75 = .ok (.getfield 47, 3) := by decide +kernel
theorem dX11_word_78 : decode cX11_word 78 = .ok (.invokestatic 90, 3) := by decide +kernel
theorem dX11_word_81 : decode cX11_word 81 = .ok (.areturn, 1) := by decide +kernel
theorem dX11_number_0 : decode cX11_number 0 = .ok (.iconst 0, 1) := by decide +kernel
theorem dX11_number_1 : decode cX11_number 1 = .ok (.istore_n 2, 1) := by decide +kernel
theorem dX11_number_2 : decode cX11_number 2 = .ok (.aload_n 0, 1) := by decide +kernel
theorem dX11_number_3 : decode cX11_number 3 = .ok (.iconst 0, 1) := by decide +kernel
theorem dX11_number_4 : decode cX11_number 4 = .ok (.putfield 51, 3) := by decide +kernel
theorem dX11_number_7 : decode cX11_number 7 = .ok (.iload_n 2, 1) := by decide +kernel
theorem dX11_number_8 : decode cX11_number 8 = .ok (.bipush 6, 2) := by decide +kernel
theorem dX11_number_10 : decode cX11_number 10 = .ok (.if_icmp .gt 56, 3) := by decide +kernel
theorem dX11_number_13 : decode cX11_number 13 = .ok (.aload_n 1, 1) := by decide +kernel
theorem dX11_number_14 : decode cX11_number 14 = .ok (.aload_n 0, 1) := by decide +kernel
theorem dX11_number_15 : decode cX11_number 15 = .ok (.getfield 32, 3) := by decide +kernel
theorem dX11_number_18 : decode cX11_number 18 = .ok (.invokevirtual 62, 3) := by decide +kernel
theorem dX11_number_21 : decode cX11_number 21 = .ok (.invokestatic 73, 3) := by decide +kernel
theorem dX11_number_24 : decode cX11_number 24 = .ok (.ifCond .eq 42, 3) := by decide +kernel
theorem dX11_number_27 : decode cX11_number 27 = .ok (.aload_n 0, 1) := by decide +kernel
theorem dX11_number_28 : decode cX11_number 28 = .ok (.aload_n 0, 1) := by decide +kernel
theorem dX11_number_29 : decode cX11_number 29 = .ok (.getfield 51, 3) := by decide +kernel
theorem dX11_number_32 : decode cX11_number 32 = .ok (.bipush 10, 2) := by decide +kernel
theorem dX11_number_34 : decode cX11_number 34 = .ok (.imul, 1) := by decide +kernel
theorem dX11_number_35 : decode cX11_number 35 = .ok (.aload_n 1, 1) := by decide +kernel
theorem dX11_number_36 : decode cX11_number 36 = .ok (.aload_n 0, 1) := by decide +kernel
theorem dX11_number_37 : decode cX11_number 37 = .ok (.getfield 32, 3) := by decide +kernel
theorem dX11_number_40 : decode cX11_number 40 = .ok (.invokevirtual 62, 3) := by decide +kernel
theorem dX11_number_43 : decode cX11_number 43 = .ok (.iadd, 1) := by decide +kernel
theorem dX11_number_44 : decode cX11_number 44 = .ok (.bipush 48, 2) := by decide +kernel
theorem dX11_number_46 : decode cX11_number 46 = .ok (.isub, 1) := by decide +kernel
theorem dX11_number_47 : decode cX11_number 47 = .ok (.putfield 51, 3) := by decide +kernel
theorem dX11_number_50 : decode cX11_number 50 = .ok (.iinc 2 1, 3) := by decide +kernel
theorem dX11_number_53 : decode cX11_number 53 = .ok (.aload_n 0, 1) := by decide +kernel
theorem dX11_number_54 : decode cX11_number 54 = .ok (.dup, 1) := by decide +kernel
theorem dX11_number_55 : decode cX11_number 55 = .ok (.getfield 32, 3) := by decide +kernel
theorem dX11_number_58 : decode cX11_number 58 = .ok (.iconst 1, 1) := by decide +kernel
theorem dX11_number_59 : decode cX11_number 59 = .ok (.iadd, 1) := by decide +kernel
theorem dX11_number_60 : decode cX11_number 60 = .ok (.putfield 32, 3) := by decide +kernel
theorem dX11_number_63 : decode cX11_number 63 = .ok (.goto (-56), 3) := by decide +kernel
theorem dX11_number_66 : decode cX11_number 66 = .ok (.iload_n 2, 1) := by decide +kernel
theorem dX11_number_67 : decode cX11_number 67 = .ok (.bipush 6, 2) := by decide +kernel
theorem dX11_number_69 : decode cX11_number 69 = .ok (.if_icmp .le 9, 3) := by decide +kernel
theorem dX11_number_72 : decode cX11_number 72 = .ok (.getstatic 44, 3) := by decide +kernel
theorem dX11_number_75 : decode cX11_number 75 = .ok (.goto 6, 3) := by decide +kernel
theorem dX11_number_78 : decode cX11_number 78 = .ok (.getstatic 94, 3) := by decide +kernel
theorem dX11_number_81 : decode cX11_number 81 = .ok (.areturn, 1) := by decide +kernel
theorem dX11_symbol_0 : decode cX11_symbol 0 = .ok (.iload_n 1, 1) := by decide +kernel
theorem dX11_symbol_1 : decode cX11_symbol 1 = .ok (.tableswitch 311 40 93 #[231, 235, 263, 255, 251, 259, 311, 267, 311, 311, 311, 311, 311, 311, 311, 311, 311, 311, 311, 247, 275, 271, 293, 311, 311, 311, 311, 311, 311, 311, 311, 311, 311, 311, 311, 311, 311, 311, 311, 311, 311, 311, 311, 311, 311, 311, 311, 311, 311, 311, 311, 239, 311, 243], 231) := by decide +kernel
theorem dX11_symbol_232 : decode cX11_symbol 232 = .ok (.getstatic 97, 3) := by decide +kernel
theorem dX11_symbol_235 : decode cX11_symbol 235 = .ok (.areturn, 1) := by decide +kernel
theorem dX11_symbol_236 : decode cX11_symbol 236 = .ok (.getstatic 100, 3) := by decide +kernel
theorem dX11_symbol_239 : decode cX11_symbol 239 = .ok (.areturn, 1) := by decide +kernel
theorem dX11_symbol_240 : decode cX11_symbol 240 = .ok (.getstatic 103, 3) := by decide +kernel
theorem dX11_symbol_243 : decode cX11_symbol 243 = .ok (.areturn, 1) := by decide +kernel
theorem dX11_symbol_244 : decode cX11_symbol 244 = .ok (.getstatic 106, 3) := by decide +kernel
theorem dX11_symbol_247 : decode cX11_symbol 247 = .ok (.areturn, 1) := by decide +kernel
theorem dX11_symbol_248 : decode cX11_symbol 248 = .ok (.getstatic 109, 3) := by decide +kernel
theorem dX11_symbol_251 : decode cX11_symbol 251 = .ok (.areturn, 1) := by decide +kernel
theorem dX11_symbol_252 : decode cX11_symbol 252 = .ok (.getstatic 112, 3) := by decide +kernel
theorem dX11_symbol_255 : decode cX11_symbol 255 = .ok (.areturn, 1) := by decide +kernel
theorem dX11_symbol_256 : decode cX11_symbol 256 = .ok (.getstatic 115, 3) := by decide +kernel
theorem dX11_symbol_259 : decode cX11_symbol 259 = .ok (.areturn, 1) := by decide +kernel
theorem dX11_symbol_260 : decode cX11_symbol 260 = .ok (.getstatic 118, 3) := by decide +kernel
theorem dX11_symbol_263 : decode cX11_symbol 263 = .ok (.areturn, 1) := by decide +kernel
theorem dX11_symbol_264 : decode cX11_symbol 264 = .ok (.getstatic 121, 3) := by decide +kernel
theorem dX11_symbol_267 : decode cX11_symbol 267 = .ok (.areturn, 1) := by decide +kernel
theorem dX11_symbol_268 : decode cX11_symbol 268 = .ok (.getstatic 124, 3) := by decide +kernel
theorem dX11_symbol_271 : decode cX11_symbol 271 = .ok (.areturn, 1) := by decide +kernel
theorem dX11_symbol_272 : decode cX11_symbol 272 = .ok (.getstatic 127, 3) := by decide +kernel
theorem dX11_symbol_275 : decode cX11_symbol 275 = .ok (.areturn, 1) := by decide +kernel
theorem dX11_symbol_276 : decode cX11_symbol 276 = .ok (.aload_n 0, 1) := by decide +kernel
theorem dX11_symbol_277 : decode cX11_symbol 277 = .ok (.aload_n 2, 1) := by decide +kernel
theorem dX11_symbol_278 : decode cX11_symbol 278 = .ok (.invokevirtual 130, 3) := by decide +kernel
theorem dX11_symbol_281 : decode cX11_symbol 281 = .ok (.ifCond .eq 9, 3) := by decide +kernel
theorem dX11_symbol_284 : decode cX11_symbol 284 = .ok (.getstatic 134, 3) := by decide +kernel
theorem dX11_symbol_287 : decode cX11_symbol 287 = .ok (.goto 6, 3) := by decide +kernel
theorem dX11_symbol_290 : decode cX11_symbol 290 = .ok (.getstatic 137, 3) := by decide +kernel
theorem dX11_symbol_293 : decode cX11_symbol 293 = .ok (.areturn, 1) := by decide +kernel
theorem dX11_symbol_294 : decode cX11_symbol 294 = .ok (.aload_n 0, 1) := by decide +kernel
theorem dX11_symbol_295 : decode cX11_symbol 295 = .ok (.aload_n 2, 1) := by decide +kernel
theorem dX11_symbol_296 : decode cX11_symbol 296 = .ok (.invokevirtual 130, 3) := by decide +kernel
theorem dX11_symbol_299 : decode cX11_symbol 299 = .ok (.ifCond .eq 9, 3) := by decide +kernel
theorem dX11_symbol_302 : decode cX11_symbol 302 = .ok (.getstatic 140, 3) := by decide +kernel
theorem dX11_symbol_305 : decode cX11_symbol 305 = .ok (.goto 6, 3) := by decide +kernel
theorem dX11_symbol_308 : decode cX11_symbol 308 = .ok (.getstatic 143, 3) := by decide +kernel
theorem dX11_symbol_311 : decode cX11_symbol 311 = .ok (.areturn, 1) := by decide +kernel
theorem dX11_symbol_312 : decode cX11_symbol 312 = .ok (.getstatic 44, 3) := by decide +kernel
theorem dX11_symbol_315 : decode cX11_symbol 315 = .ok (.areturn, 1) := by decide +kernel
theorem dX11_withEqual_0 : decode cX11_withEqual 0 = .ok (.aload_n 1, 1) := by decide +kernel
theorem dX11_withEqual_1 : decode cX11_withEqual 1 = .ok (.aload_n 0, 1) := by decide +kernel
theorem dX11_withEqual_2 : decode cX11_withEqual 2 = .ok (.getfield 32, 3) := by decide +kernel
theorem dX11_withEqual_5 : decode cX11_withEqual 5 = .ok (.invokevirtual 62, 3) := by decide +kernel
theorem dX11_withEqual_8 : decode cX11_withEqual 8 = .ok (.bipush 61, 2) := by decide +kernel
theorem dX11_withEqual_10 : decode cX11_withEqual 10 = .ok (.if_icmp .eq 5, 3) := by decide +kernel
theorem dX11_withEqual_13 : decode cX11_withEqual 13 = .ok (.iconst 0, 1) := by decide +kernel
theorem dX11_withEqual_14 : decode cX11_withEqual 14 = .ok (.ireturn, 1) := by decide +kernel
theorem dX11_withEqual_15 : decode cX11_withEqual 15 = .ok (.aload_n 0, 1) := by decide +kernel
theorem dX11_withEqual_16 : decode cX11_withEqual 16 = .ok (.dup, 1) := by decide +kernel
theorem dX11_withEqual_17 : decode cX11_withEqual 17 = .ok (.getfield 32, 3) := by decide +kernel
theorem dX11_withEqual_20 : decode cX11_withEqual 20 = .ok (.iconst 1, 1) := by decide +kernel
theorem dX11_withEqual_21 : decode cX11_withEqual 21 = .ok (.iadd, 1) := by decide +kernel
theorem dX11_withEqual_22 : decode cX11_withEqual 22 = .ok (.putfield 32, 3) := by decide +kernel
theorem dX11_withEqual_25 : decode cX11_withEqual 25 = .ok (.iconst 1, 1) := by decide +kernel
theorem dX11_withEqual_26 : decode cX11_withEqual 26 = .ok (.ireturn, 1) := by decide +kernel
theorem dX11_isLetter_0 : decode cX11_isLetter 0 = .ok (.iload_n 0, 1) := by decide +kernel
theorem dX11_isLetter_1 : decode cX11_isLetter 1 = .ok (.bipush 97, 2) := by decide +kernel
theorem dX11_isLetter_3 : decode cX11_isLetter 3 = .ok (.if_icmp .lt 13, 3) := by decide +kernel
theorem dX11_isLetter_6 : decode cX11_isLetter 6 = .ok (.iload_n 0, 1) := by decide +kernel
theorem dX11_isLetter_7 : decode cX11_isLetter 7 = .ok (.bipush 122, 2) := by decide +kernel
theorem dX11_isLetter_9 : decode cX11_isLetter 9 = .ok (.if_icmp .gt 7, 3) := by decide +kernel
theorem dX11_isLetter_12 : decode cX11_isLetter 12 = .ok (.iconst 1, 1) := by decide +kernel
theorem dX11_isLetter_13 : decode cX11_isLetter 13 = .ok (.goto 4, 3) := by decide +kernel
theorem dX11_isLetter_16 : decode cX11_isLetter 16 = .ok (.iconst 0, 1) := by decide +kernel
theorem dX11_isLetter_17 : decode cX11_isLetter 17 = .ok (.ireturn, 1) := by decide +kernel
theorem dX11_isDigit_0 : decode cX11_isDigit 0 = .ok (.iload_n 0, 1) := by decide +kernel
theorem dX11_isDigit_1 : decode cX11_isDigit 1 = .ok (.bipush 48, 2) := by decide +kernel
theorem dX11_isDigit_3 : decode cX11_isDigit 3 = .ok (.if_icmp .lt 13, 3) := by decide +kernel
theorem dX11_isDigit_6 : decode cX11_isDigit 6 = .ok (.iload_n 0, 1) := by decide +kernel
theorem dX11_isDigit_7 : decode cX11_isDigit 7 = .ok (.bipush 57, 2) := by decide +kernel
theorem dX11_isDigit_9 : decode cX11_isDigit 9 = .ok (.if_icmp .gt 7, 3) := by decide +kernel
theorem dX11_isDigit_12 : decode cX11_isDigit 12 = .ok (.iconst 1, 1) := by decide +kernel
theorem dX11_isDigit_13 : decode cX11_isDigit 13 = .ok (.goto 4, 3) := by decide +kernel
theorem dX11_isDigit_16 : decode cX11_isDigit 16 = .ok (.iconst 0, 1) := by decide +kernel
theorem dX11_isDigit_17 : decode cX11_isDigit 17 = .ok (.ireturn, 1) := by decide +kernel
theorem dX11_isInWord_0 : decode cX11_isInWord 0 = .ok (.iload_n 0, 1) := by decide +kernel
theorem dX11_isInWord_1 : decode cX11_isInWord 1 = .ok (.invokestatic 66, 3) := by decide +kernel
theorem dX11_isInWord_4 : decode cX11_isInWord 4 = .ok (.ifCond .ne 10, 3) := by decide +kernel
theorem dX11_isInWord_7 : decode cX11_isInWord 7 = .ok (.iload_n 0, 1) := by decide +kernel
theorem dX11_isInWord_8 : decode cX11_isInWord 8 = .ok (.invokestatic 73, 3) := by decide +kernel
theorem dX11_isInWord_11 : decode cX11_isInWord 11 = .ok (.ifCond .eq 7, 3) := by decide +kernel
theorem dX11_isInWord_14 : decode cX11_isInWord 14 = .ok (.iconst 1, 1) := by decide +kernel
theorem dX11_isInWord_15 : decode cX11_isInWord 15 = .ok (.goto 4, 3) := by decide +kernel
theorem dX11_isInWord_18 : decode cX11_isInWord 18 = .ok (.iconst 0, 1) := by decide +kernel
theorem dX11_isInWord_19 : decode cX11_isInWord 19 = .ok (.ireturn, 1) := by decide +kernel
theorem dX11_has_0 : decode cX11_has 0 = .ok (.iload_n 1, 1) := by decide +kernel
theorem dX11_has_1 : decode cX11_has 1 = .ok (.ifCond .lt 22, 3) := by decide +kernel
theorem dX11_has_4 : decode cX11_has 4 = .ok (.iload_n 1, 1) := by decide +kernel
theorem dX11_has_5 : decode cX11_has 5 = .ok (.aload_n 0, 1) := by decide +kernel
theorem dX11_has_6 : decode cX11_has 6 = .ok (.getfield 54, 3) := by decide +kernel
theorem dX11_has_9 : decode cX11_has 9 = .ok (.if_icmp .gt 14, 3) := by decide +kernel
theorem dX11_has_12 : decode cX11_has 12 = .ok (.iload_n 1, 1) := by decide +kernel
theorem dX11_has_13 : decode cX11_has 13 = .ok (.sipush 400, 3) := by decide +kernel
theorem dX11_has_16 : decode cX11_has 16 = .ok (.if_icmp .gt 7, 3) := by decide +kernel
theorem dX11_has_19 : decode cX11_has 19 = .ok (.iconst 1, 1) := by decide +kernel
theorem dX11_has_20 : decode cX11_has 20 = .ok (.goto 4, 3) := by decide +kernel
theorem dX11_has_23 : decode cX11_has 23 = .ok (.iconst 0, 1) := by decide +kernel
theorem dX11_has_24 : decode cX11_has 24 = .ok (.ireturn, 1) := by decide +kernel
theorem dX11_kind_0 : decode cX11_kind 0 = .ok (.aload_n 0, 1) := by decide +kernel
theorem dX11_kind_1 : decode cX11_kind 1 = .ok (.iload_n 1, 1) := by decide +kernel
theorem dX11_kind_2 : decode cX11_kind 2 = .ok (.invokevirtual 146, 3) := by decide +kernel
theorem dX11_kind_5 : decode cX11_kind 5 = .ok (.ifCond .eq 12, 3) := by decide +kernel
theorem dX11_kind_8 : decode cX11_kind 8 = .ok (.aload_n 0, 1) := by decide +kernel
theorem dX11_kind_9 : decode cX11_kind 9 = .ok (.getfield 11, 3) := by decide +kernel
theorem dX11_kind_12 : decode cX11_kind 12 = .ok (.iload_n 1, 1) := by decide +kernel
theorem dX11_kind_13 : decode cX11_kind 13 = .ok (.aaload, 1) := by decide +kernel
theorem dX11_kind_14 : decode cX11_kind 14 = .ok (.goto 6, 3) := by decide +kernel
theorem dX11_kind_17 : decode cX11_kind 17 = .ok (.getstatic 28, 3) := by decide +kernel
theorem dX11_kind_20 : decode cX11_kind 20 = .ok (.areturn, 1) := by decide +kernel
theorem dX11_start_0 : decode cX11_start 0 = .ok (.aload_n 0, 1) := by decide +kernel
theorem dX11_start_1 : decode cX11_start 1 = .ok (.iload_n 1, 1) := by decide +kernel
theorem dX11_start_2 : decode cX11_start 2 = .ok (.invokevirtual 146, 3) := by decide +kernel
theorem dX11_start_5 : decode cX11_start 5 = .ok (.ifCond .eq 12, 3) := by decide +kernel
theorem dX11_start_8 : decode cX11_start 8 = .ok (.aload_n 0, 1) := by decide +kernel
theorem dX11_start_9 : decode cX11_start 9 = .ok (.getfield 17, 3) := by decide +kernel
theorem dX11_start_12 : decode cX11_start 12 = .ok (.iload_n 1, 1) := by decide +kernel
theorem dX11_start_13 : decode cX11_start 13 = .ok (.iaload, 1) := by decide +kernel
theorem dX11_start_14 : decode cX11_start 14 = .ok (.goto 4, 3) := by decide +kernel
theorem dX11_start_17 : decode cX11_start 17 = .ok (.iconst (-1), 1) := by decide +kernel
theorem dX11_start_18 : decode cX11_start 18 = .ok (.ireturn, 1) := by decide +kernel
theorem dX11_key_0 : decode cX11_key 0 = .ok (.aload_n 0, 1) := by decide +kernel
theorem dX11_key_1 : decode cX11_key 1 = .ok (.iload_n 1, 1) := by decide +kernel
theorem dX11_key_2 : decode cX11_key 2 = .ok (.invokevirtual 146, 3) := by decide +kernel
theorem dX11_key_5 : decode cX11_key 5 = .ok (.ifCond .eq 12, 3) := by decide +kernel
theorem dX11_key_8 : decode cX11_key 8 = .ok (.aload_n 0, 1) := by decide +kernel
theorem dX11_key_9 : decode cX11_key 9 = .ok (.getfield 21, 3) := by decide +kernel
theorem dX11_key_12 : decode cX11_key 12 = .ok (.iload_n 1, 1) := by decide +kernel
theorem dX11_key_13 : decode cX11_key 13 = .ok (.laload, 1) := by decide +kernel
theorem dX11_key_14 : decode cX11_key 14 = .ok (.goto 4, 3) := by decide +kernel
theorem dX11_key_17 : decode cX11_key 17 = .ok (.lconst 0, 1) := by decide +kernel
theorem dX11_key_18 : decode cX11_key 18 = .ok (.lreturn, 1) := by decide +kernel
theorem dX11_meaning_0 : decode cX11_meaning 0 = .ok (.aload_n 0, 1) := by decide +kernel
theorem dX11_meaning_1 : decode cX11_meaning 1 = .ok (.iload_n 1, 1) := by decide +kernel
theorem dX11_meaning_2 : decode cX11_meaning 2 = .ok (.invokevirtual 146, 3) := by decide +kernel
theorem dX11_meaning_5 : decode cX11_meaning 5 = .ok (.ifCond .eq 12, 3) := by decide +kernel
theorem dX11_meaning_8 : decode cX11_meaning 8 = .ok (.aload_n 0, 1) := by decide +kernel
theorem dX11_meaning_9 : decode cX11_meaning 9 = .ok (.getfield 25, 3) := by decide +kernel
theorem dX11_meaning_12 : decode cX11_meaning 12 = .ok (.iload_n 1, 1) := by decide +kernel
theorem dX11_meaning_13 : decode cX11_meaning 13 = .ok (.iaload, 1) := by decide +kernel
theorem dX11_meaning_14 : decode cX11_meaning 14 = .ok (.goto 4, 3) := by decide +kernel
theorem dX11_meaning_17 : decode cX11_meaning 17 = .ok (.iconst 0, 1) := by decide +kernel
theorem dX11_meaning_18 : decode cX11_meaning 18 = .ok (.ireturn, 1) := by decide +kernel
theorem dX11_mean_0 : decode cX11_mean 0 = .ok (.aload_n 0, 1) := by decide +kernel
theorem dX11_mean_1 : decode cX11_mean 1 = .ok (.iload_n 1, 1) := by decide +kernel
theorem dX11_mean_2 : decode cX11_mean 2 = .ok (.invokevirtual 146, 3) := by decide +kernel
theorem dX11_mean_5 : decode cX11_mean 5 = .ok (.ifCond .eq 10, 3) := by decide +kernel
theorem dX11_mean_8 : decode cX11_mean 8 = .ok (.aload_n 0, 1) := by decide +kernel
theorem dX11_mean_9 : decode cX11_mean 9 = .ok (.getfield 25, 3) := by decide +kernel
theorem dX11_mean_12 : decode cX11_mean 12 = .ok (.iload_n 1, 1) := by decide +kernel
theorem dX11_mean_13 : decode cX11_mean 13 = .ok (.iload_n 2, 1) := by decide +kernel
theorem dX11_mean_14 : decode cX11_mean 14 = .ok (.iastore, 1) := by decide +kernel
theorem dX11_mean_15 : decode cX11_mean 15 = .ok (.return_, 1) := by decide +kernel
theorem dX12_init_0 : decode cX12_init 0 = .ok (.aload_n 0, 1) := by decide +kernel
theorem dX12_init_1 : decode cX12_init 1 = .ok (.invokespecial 3, 3) := by decide +kernel
theorem dX12_init_4 : decode cX12_init 4 = .ok (.aload_n 0, 1) := by decide +kernel
theorem dX12_init_5 : decode cX12_init 5 = .ok (.new 9, 3) := by decide +kernel
theorem dX12_init_8 : decode cX12_init 8 = .ok (.dup, 1) := by decide +kernel
theorem dX12_init_9 : decode cX12_init 9 = .ok (.invokespecial 11, 3) := by decide +kernel
theorem dX12_init_12 : decode cX12_init 12 = .ok (.putfield 12, 3) := by decide +kernel
theorem dX12_init_15 : decode cX12_init 15 = .ok (.aload_n 0, 1) := by decide +kernel
theorem dX12_init_16 : decode cX12_init 16 = .ok (.new 16, 3) := by decide +kernel
theorem dX12_init_19 : decode cX12_init 19 = .ok (.dup, 1) := by decide +kernel
theorem dX12_init_20 : decode cX12_init 20 = .ok (.invokespecial 18, 3) := by decide +kernel
theorem dX12_init_23 : decode cX12_init 23 = .ok (.putfield 19, 3) := by decide +kernel
theorem dX12_init_26 : decode cX12_init 26 = .ok (.aload_n 0, 1) := by decide +kernel
theorem dX12_init_27 : decode cX12_init 27 = .ok (.new 23, 3) := by decide +kernel
theorem dX12_init_30 : decode cX12_init 30 = .ok (.dup, 1) := by decide +kernel
theorem dX12_init_31 : decode cX12_init 31 = .ok (.invokespecial 25, 3) := by decide +kernel
theorem dX12_init_34 : decode cX12_init 34 = .ok (.putfield 26, 3) := by decide +kernel
theorem dX12_init_37 : decode cX12_init 37 = .ok (.aload_n 0, 1) := by decide +kernel
theorem dX12_init_38 : decode cX12_init 38 = .ok (.new 30, 3) := by decide +kernel
theorem dX12_init_41 : decode cX12_init 41 = .ok (.dup, 1) := by decide +kernel
theorem dX12_init_42 : decode cX12_init 42 = .ok (.invokespecial 32, 3) := by decide +kernel
theorem dX12_init_45 : decode cX12_init 45 = .ok (.putfield 33, 3) := by decide +kernel
theorem dX12_init_48 : decode cX12_init 48 = .ok (.aload_n 0, 1) := by decide +kernel
theorem dX12_init_49 : decode cX12_init 49 = .ok (.new 37, 3) := by decide +kernel
theorem dX12_init_52 : decode cX12_init 52 = .ok (.dup, 1) := by decide +kernel
theorem dX12_init_53 : decode cX12_init 53 = .ok (.aload_n 0, 1) := by decide +kernel
theorem dX12_init_54 : decode cX12_init 54 = .ok (.getfield 33, 3) := by decide +kernel
theorem dX12_init_57 : decode cX12_init 57 = .ok (.invokespecial 39, 3) := by decide +kernel
theorem dX12_init_60 : decode cX12_init 60 = .ok (.putfield 42, 3) := by decide +kernel
theorem dX12_init_63 : decode cX12_init 63 = .ok (.aload_n 0, 1) := by decide +kernel
theorem dX12_init_64 : decode cX12_init 64 = .ok (.new 46, 3) := by decide +kernel
theorem dX12_init_67 : decode cX12_init 67 = .ok (.dup, 1) := by decide +kernel
theorem dX12_init_68 : decode cX12_init 68 = .ok (.invokespecial 48, 3) := by decide +kernel
theorem dX12_init_71 : decode cX12_init 71 = .ok (.putfield 49, 3) := by decide +kernel
theorem dX12_init_74 : decode cX12_init 74 = .ok (.aload_n 0, 1) := by decide +kernel
theorem dX12_init_75 : decode cX12_init 75 = .ok (.new 46, 3) := by decide +kernel
theorem dX12_init_78 : decode cX12_init 78 = .ok (.dup, 1) := by decide +kernel
theorem dX12_init_79 : decode cX12_init 79 = .ok (.invokespecial 48, 3) := by decide +kernel
theorem dX12_init_82 : decode cX12_init 82 = .ok (.putfield 53, 3) := by decide +kernel
theorem dX12_init_85 : decode cX12_init 85 = .ok (.aload_n 0, 1) := by decide +kernel
theorem dX12_init_86 : decode cX12_init 86 = .ok (.new 56, 3) := by decide +kernel
theorem dX12_init_89 : decode cX12_init 89 = .ok (.dup, 1) := by decide +kernel
theorem dX12_init_90 : decode cX12_init 90 = .ok (.invokespecial 58, 3) := by decide +kernel
theorem dX12_init_93 : decode cX12_init 93 = .ok (.putfield 59, 3) := by decide +kernel
theorem dX12_init_96 : decode cX12_init 96 = .ok (.aload_n 0, 1) := by decide +kernel
theorem dX12_init_97 : decode cX12_init 97 = .ok (.new 56, 3) := by decide +kernel
theorem dX12_init_100 : decode cX12_init 100 = .ok (.dup, 1) := by decide +kernel
theorem dX12_init_101 : decode cX12_init 101 = .ok (.invokespecial 58, 3) := by decide +kernel
theorem dX12_init_104 : decode cX12_init 104 = .ok (.putfield 63, 3) := by decide +kernel
theorem dX12_init_107 : decode cX12_init 107 = .ok (.aload_n 0, 1) := by decide +kernel
theorem dX12_init_108 : decode cX12_init 108 = .ok (.new 66, 3) := by decide +kernel
theorem dX12_init_111 : decode cX12_init 111 = .ok (.dup, 1) := by decide +kernel
theorem dX12_init_112 : decode cX12_init 112 = .ok (.aload_n 0, 1) := by decide +kernel
theorem dX12_init_113 : decode cX12_init 113 = .ok (.getfield 19, 3) := by decide +kernel
theorem dX12_init_116 : decode cX12_init 116 = .ok (.aload_n 0, 1) := by decide +kernel
theorem dX12_init_117 : decode cX12_init 117 = .ok (.getfield 63, 3) := by decide +kernel
theorem dX12_init_120 : decode cX12_init 120 = .ok (.invokespecial 68, 3) := by decide +kernel
theorem dX12_init_123 : decode cX12_init 123 = .ok (.putfield 71, 3) := by decide +kernel
theorem dX12_init_126 : decode cX12_init 126 = .ok (.aload_n 0, 1) := by decide +kernel
theorem dX12_init_127 : decode cX12_init 127 = .ok (.iconst (-1), 1) := by decide +kernel
theorem dX12_init_128 : decode cX12_init 128 = .ok (.putfield 75, 3) := by decide +kernel
theorem dX12_init_131 : decode cX12_init 131 = .ok (.return_, 1) := by decide +kernel
theorem dX12_feed_0 : decode cX12_feed 0 = .ok (.aload_n 0, 1) := by decide +kernel
theorem dX12_feed_1 : decode cX12_feed 1 = .ok (.getfield 12, 3) := by decide +kernel
theorem dX12_feed_4 : decode cX12_feed 4 = .ok (.getfield 79, 3) := by decide +kernel
theorem dX12_feed_7 : decode cX12_feed 7 = .ok (.sipush 1980, 3) := by decide +kernel
theorem dX12_feed_10 : decode cX12_feed 10 = .ok (.if_icmp .le 13, 3) := by decide +kernel
theorem dX12_feed_13 : decode cX12_feed 13 = .ok (.new 82, 3) := by decide +kernel
theorem dX12_feed_16 : decode cX12_feed 16 = .ok (.dup, 1) := by decide +kernel
theorem dX12_feed_17 : decode cX12_feed 17 = .ok (.ldc 84, 2) := by decide +kernel
theorem dX12_feed_19 : decode cX12_feed 19 = .ok (.invokespecial 86, 3) := by decide +kernel
theorem dX12_feed_22 : decode cX12_feed 22 = .ok (.athrow, 1) := by decide +kernel
theorem dX12_feed_23 : decode cX12_feed 23 = .ok (.aload_n 0, 1) := by decide +kernel
theorem dX12_feed_24 : decode cX12_feed 24 = .ok (.getfield 12, 3) := by decide +kernel
theorem dX12_feed_27 : decode cX12_feed 27 = .ok (.iload_n 1, 1) := by decide +kernel
theorem dX12_feed_28 : decode cX12_feed 28 = .ok (.invokevirtual 89, 3) := by decide +kernel
theorem dX12_feed_31 : decode cX12_feed 31 = .ok (.aload_n 0, 1) := by decide +kernel
theorem dX12_feed_32 : decode cX12_feed 32 = .ok (.getfield 12, 3) := by decide +kernel
theorem dX12_feed_35 : decode cX12_feed 35 = .ok (.iload_n 2, 1) := by decide +kernel
theorem dX12_feed_36 : decode cX12_feed 36 = .ok (.invokevirtual 89, 3) := by decide +kernel
theorem dX12_feed_39 : decode cX12_feed 39 = .ok (.aload_n 0, 1) := by decide +kernel
theorem dX12_feed_40 : decode cX12_feed 40 = .ok (.getfield 12, 3) := by decide +kernel
theorem dX12_feed_43 : decode cX12_feed 43 = .ok (.iload_n 3, 1) := by decide +kernel
theorem dX12_feed_44 : decode cX12_feed 44 = .ok (.invokevirtual 89, 3) := by decide +kernel
theorem dX12_feed_47 : decode cX12_feed 47 = .ok (.aload_n 0, 1) := by decide +kernel
theorem dX12_feed_48 : decode cX12_feed 48 = .ok (.getfield 12, 3) := by decide +kernel
theorem dX12_feed_51 : decode cX12_feed 51 = .ok (.iload 4, 2) := by decide +kernel
theorem dX12_feed_53 : decode cX12_feed 53 = .ok (.invokevirtual 89, 3) := by decide +kernel
theorem dX12_feed_56 : decode cX12_feed 56 = .ok (.aload_n 0, 1) := by decide +kernel
theorem dX12_feed_57 : decode cX12_feed 57 = .ok (.getfield 12, 3) := by decide +kernel
theorem dX12_feed_60 : decode cX12_feed 60 = .ok (.iload 5, 2) := by decide +kernel
theorem dX12_feed_62 : decode cX12_feed 62 = .ok (.invokevirtual 89, 3) := by decide +kernel
theorem dX12_feed_65 : decode cX12_feed 65 = .ok (.aload_n 0, 1) := by decide +kernel
theorem dX12_feed_66 : decode cX12_feed 66 = .ok (.getfield 12, 3) := by decide +kernel
theorem dX12_feed_69 : decode cX12_feed 69 = .ok (.getfield 79, 3) := by decide +kernel
theorem dX12_feed_72 : decode cX12_feed 72 = .ok (.ireturn, 1) := by decide +kernel
theorem dX12_trim_0 : decode cX12_trim 0 = .ok (.iload_n 1, 1) := by decide +kernel
theorem dX12_trim_1 : decode cX12_trim 1 = .ok (.ifCond .lt 14, 3) := by decide +kernel
theorem dX12_trim_4 : decode cX12_trim 4 = .ok (.iload_n 1, 1) := by decide +kernel
theorem dX12_trim_5 : decode cX12_trim 5 = .ok (.aload_n 0, 1) := by decide +kernel
theorem dX12_trim_6 : decode cX12_trim 6 = .ok (.getfield 12, 3) := by decide +kernel
theorem dX12_trim_9 : decode cX12_trim 9 = .ok (.getfield 79, 3) := by decide +kernel
theorem dX12_trim_12 : decode cX12_trim 12 = .ok (.if_icmp .le 13, 3) := by decide +kernel
theorem dX12_trim_15 : decode cX12_trim 15 = .ok (.new 93, 3) := by decide +kernel
theorem dX12_trim_18 : decode cX12_trim 18 = .ok (.dup, 1) := by decide +kernel
theorem dX12_trim_19 : decode cX12_trim 19 = .ok (.ldc 95, 2) := by decide +kernel
theorem dX12_trim_21 : decode cX12_trim 21 = .ok (.invokespecial 97, 3) := by decide +kernel
theorem dX12_trim_24 : decode cX12_trim 24 = .ok (.athrow, 1) := by decide +kernel
theorem dX12_trim_25 : decode cX12_trim 25 = .ok (.aload_n 0, 1) := by decide +kernel
theorem dX12_trim_26 : decode cX12_trim 26 = .ok (.getfield 12, 3) := by decide +kernel
theorem dX12_trim_29 : decode cX12_trim 29 = .ok (.iload_n 1, 1) := by decide +kernel
theorem dX12_trim_30 : decode cX12_trim 30 = .ok (.putfield 79, 3) := by decide +kernel
theorem dX12_trim_33 : decode cX12_trim 33 = .ok (.iload_n 1, 1) := by decide +kernel
theorem dX12_trim_34 : decode cX12_trim 34 = .ok (.ireturn, 1) := by decide +kernel
theorem dX12_teach_0 : decode cX12_teach 0 = .ok (.aload_n 0, 1) := by decide +kernel
theorem dX12_teach_1 : decode cX12_teach 1 = .ok (.getfield 19, 3) := by decide +kernel
theorem dX12_teach_4 : decode cX12_teach 4 = .ok (.aload_n 0, 1) := by decide +kernel
theorem dX12_teach_5 : decode cX12_teach 5 = .ok (.getfield 12, 3) := by decide +kernel
theorem dX12_teach_8 : decode cX12_teach 8 = .ok (.invokevirtual 98, 3) := by decide +kernel
theorem dX12_teach_11 : decode cX12_teach 11 = .ok (.aload_n 0, 1) := by decide +kernel
theorem dX12_teach_12 : decode cX12_teach 12 = .ok (.getfield 12, 3) := by decide +kernel
theorem dX12_teach_15 : decode cX12_teach 15 = .ok (.iconst 0, 1) := by decide +kernel
theorem dX12_teach_16 : decode cX12_teach 16 = .ok (.putfield 79, 3) := by decide +kernel
theorem dX12_teach_19 : decode cX12_teach 19 = .ok (.aload_n 0, 1) := by decide +kernel
theorem dX12_teach_20 : decode cX12_teach 20 = .ok (.getfield 63, 3) := by decide +kernel
theorem dX12_teach_23 : decode cX12_teach 23 = .ok (.invokevirtual 102, 3) := by decide +kernel
theorem dX12_teach_26 : decode cX12_teach 26 = .ok (.aload_n 0, 1) := by decide +kernel
theorem dX12_teach_27 : decode cX12_teach 27 = .ok (.getfield 71, 3) := by decide +kernel
theorem dX12_teach_30 : decode cX12_teach 30 = .ok (.aload_n 0, 1) := by decide +kernel
theorem dX12_teach_31 : decode cX12_teach 31 = .ok (.getfield 63, 3) := by decide +kernel
theorem dX12_teach_34 : decode cX12_teach 34 = .ok (.invokevirtual 105, 3) := by decide +kernel
theorem dX12_teach_37 : decode cX12_teach 37 = .ok (.ifCond .ne 23, 3) := by decide +kernel
theorem dX12_teach_40 : decode cX12_teach 40 = .ok (.aload_n 0, 1) := by decide +kernel
theorem dX12_teach_41 : decode cX12_teach 41 = .ok (.aload_n 0, 1) := by decide +kernel
theorem dX12_teach_42 : decode cX12_teach 42 = .ok (.getfield 19, 3) := by decide +kernel
theorem dX12_teach_45 : decode cX12_teach 45 = .ok (.aload_n 0, 1) := by decide +kernel
theorem dX12_teach_46 : decode cX12_teach 46 = .ok (.getfield 71, 3) := by decide +kernel
theorem dX12_teach_49 : decode cX12_teach 49 = .ok (.getfield 109, 3) := by decide +kernel
theorem dX12_teach_52 : decode cX12_teach 52 = .ok (.invokevirtual 112, 3) := by decide +kernel
theorem dX12_teach_55 : decode cX12_teach 55 = .ok (.putfield 75, 3) := by decide +kernel
theorem dX12_teach_58 : decode cX12_teach 58 = .ok (.iconst 1, 1) := by decide +kernel
theorem dX12_teach_59 : decode cX12_teach 59 = .ok (.ireturn, 1) := by decide +kernel
theorem dX12_teach_60 : decode cX12_teach 60 = .ok (.aload_n 0, 1) := by decide +kernel
theorem dX12_teach_61 : decode cX12_teach 61 = .ok (.getfield 26, 3) := by decide +kernel
theorem dX12_teach_64 : decode cX12_teach 64 = .ok (.aload_n 0, 1) := by decide +kernel
theorem dX12_teach_65 : decode cX12_teach 65 = .ok (.getfield 19, 3) := by decide +kernel
theorem dX12_teach_68 : decode cX12_teach 68 = .ok (.aload_n 0, 1) := by decide +kernel
theorem dX12_teach_69 : decode cX12_teach 69 = .ok (.getfield 63, 3) := by decide +kernel
theorem dX12_teach_72 : decode cX12_teach 72 = .ok (.invokevirtual 116, 3) := by decide +kernel
theorem dX12_teach_75 : decode cX12_teach 75 = .ok (.istore_n 1, 1) := by decide +kernel
theorem dX12_teach_76 : decode cX12_teach 76 = .ok (.iload_n 1, 1) := by decide +kernel
theorem dX12_teach_77 : decode cX12_teach 77 = .ok (.ifCond .eq 23, 3) := by decide +kernel
theorem dX12_teach_80 : decode cX12_teach 80 = .ok (.aload_n 0, 1) := by decide +kernel
theorem dX12_teach_81 : decode cX12_teach 81 = .ok (.aload_n 0, 1) := by decide +kernel
theorem dX12_teach_82 : decode cX12_teach 82 = .ok (.getfield 19, 3) := by decide +kernel
theorem dX12_teach_85 : decode cX12_teach 85 = .ok (.aload_n 0, 1) := by decide +kernel
theorem dX12_teach_86 : decode cX12_teach 86 = .ok (.getfield 26, 3) := by decide +kernel
theorem dX12_teach_89 : decode cX12_teach 89 = .ok (.getfield 120, 3) := by decide +kernel
theorem dX12_teach_92 : decode cX12_teach 92 = .ok (.invokevirtual 112, 3) := by decide +kernel
theorem dX12_teach_95 : decode cX12_teach 95 = .ok (.putfield 75, 3) := by decide +kernel
theorem dX12_teach_98 : decode cX12_teach 98 = .ok (.iload_n 1, 1) := by decide +kernel
theorem dX12_teach_99 : decode cX12_teach 99 = .ok (.ireturn, 1) := by decide +kernel
theorem dX12_teach_100 : decode cX12_teach 100 = .ok (.aload_n 0, 1) := by decide +kernel
theorem dX12_teach_101 : decode cX12_teach 101 = .ok (.iconst (-1), 1) := by decide +kernel
theorem dX12_teach_102 : decode cX12_teach 102 = .ok (.putfield 75, 3) := by decide +kernel
theorem dX12_teach_105 : decode cX12_teach 105 = .ok (.aload_n 0, 1) := by decide +kernel
theorem dX12_teach_106 : decode cX12_teach 106 = .ok (.getfield 63, 3) := by decide +kernel
theorem dX12_teach_109 : decode cX12_teach 109 = .ok (.aload_n 0, 1) := by decide +kernel
theorem dX12_teach_110 : decode cX12_teach 110 = .ok (.getfield 19, 3) := by decide +kernel
theorem dX12_teach_113 : decode cX12_teach 113 = .ok (.invokevirtual 123, 3) := by decide +kernel
theorem dX12_teach_116 : decode cX12_teach 116 = .ok (.aload_n 0, 1) := by decide +kernel
theorem dX12_teach_117 : decode cX12_teach 117 = .ok (.invokevirtual 127, 3) := by decide +kernel
theorem dX12_teach_120 : decode cX12_teach 120 = .ok (.iconst 0, 1) := by decide +kernel
theorem dX12_teach_121 : decode cX12_teach 121 = .ok (.ireturn, 1) := by decide +kernel
theorem dX12_beginSparePlan_0 : decode cX12_beginSparePlan 0 = .ok (.aload_n 0, 1) := by decide +kernel
theorem dX12_beginSparePlan_1 : decode cX12_beginSparePlan 1 = .ok (.getfield 63, 3) := by decide +kernel
theorem dX12_beginSparePlan_4 : decode cX12_beginSparePlan 4 = .ok (.astore_n 1, 1) := by decide +kernel
theorem dX12_beginSparePlan_5 : decode cX12_beginSparePlan 5 = .ok (.aload_n 0, 1) := by decide +kernel
theorem dX12_beginSparePlan_6 : decode cX12_beginSparePlan 6 = .ok (.aload_n 0, 1) := by decide +kernel
theorem dX12_beginSparePlan_7 : decode cX12_beginSparePlan 7 = .ok (.getfield 59, 3) := by decide +kernel
theorem dX12_beginSparePlan_10 : decode cX12_beginSparePlan 10 = .ok (.putfield 63, 3) := by decide +kernel
theorem dX12_beginSparePlan_13 : decode cX12_beginSparePlan 13 = .ok (.aload_n 0, 1) := by decide +kernel
theorem dX12_beginSparePlan_14 : decode cX12_beginSparePlan 14 = .ok (.aload_n 1, 1) := by decide +kernel
theorem dX12_beginSparePlan_15 : decode cX12_beginSparePlan 15 = .ok (.putfield 59, 3) := by decide +kernel
theorem dX12_beginSparePlan_18 : decode cX12_beginSparePlan 18 = .ok (.aload_n 0, 1) := by decide +kernel
theorem dX12_beginSparePlan_19 : decode cX12_beginSparePlan 19 = .ok (.getfield 49, 3) := by decide +kernel
theorem dX12_beginSparePlan_22 : decode cX12_beginSparePlan 22 = .ok (.aload_n 1, 1) := by decide +kernel
theorem dX12_beginSparePlan_23 : decode cX12_beginSparePlan 23 = .ok (.invokevirtual 130, 3) := by decide +kernel
theorem dX12_beginSparePlan_26 : decode cX12_beginSparePlan 26 = .ok (.return_, 1) := by decide +kernel
theorem dX12_errorAt_0 : decode cX12_errorAt 0 = .ok (.aload_n 0, 1) := by decide +kernel
theorem dX12_errorAt_1 : decode cX12_errorAt 1 = .ok (.getfield 75, 3) := by decide +kernel
theorem dX12_errorAt_4 : decode cX12_errorAt 4 = .ok (.ireturn, 1) := by decide +kernel
theorem dX12_hedges_0 : decode cX12_hedges 0 = .ok (.aload_n 0, 1) := by decide +kernel
theorem dX12_hedges_1 : decode cX12_hedges 1 = .ok (.getfield 49, 3) := by decide +kernel
theorem dX12_hedges_4 : decode cX12_hedges 4 = .ok (.getfield 134, 3) := by decide +kernel
theorem dX12_hedges_7 : decode cX12_hedges 7 = .ok (.ireturn, 1) := by decide +kernel
theorem dX12_roses_0 : decode cX12_roses 0 = .ok (.aload_n 0, 1) := by decide +kernel
theorem dX12_roses_1 : decode cX12_roses 1 = .ok (.getfield 49, 3) := by decide +kernel
theorem dX12_roses_4 : decode cX12_roses 4 = .ok (.getfield 137, 3) := by decide +kernel
theorem dX12_roses_7 : decode cX12_roses 7 = .ok (.ireturn, 1) := by decide +kernel
theorem dX12_day_0 : decode cX12_day 0 = .ok (.aload_n 0, 1) := by decide +kernel
theorem dX12_day_1 : decode cX12_day 1 = .ok (.getfield 49, 3) := by decide +kernel
theorem dX12_day_4 : decode cX12_day 4 = .ok (.getfield 140, 3) := by decide +kernel
theorem dX12_day_7 : decode cX12_day 7 = .ok (.ireturn, 1) := by decide +kernel
theorem dX12_ordersCarriedOut_0 : decode cX12_ordersCarriedOut 0 = .ok (.aload_n 0, 1) := by decide +kernel
theorem dX12_ordersCarriedOut_1 : decode cX12_ordersCarriedOut 1 = .ok (.getfield 49, 3) := by decide +kernel
theorem dX12_ordersCarriedOut_4 : decode cX12_ordersCarriedOut 4 = .ok (.getfield 143, 3) := by decide +kernel
theorem dX12_ordersCarriedOut_7 : decode cX12_ordersCarriedOut 7 = .ok (.ireturn, 1) := by decide +kernel
theorem dX12_whispers_0 : decode cX12_whispers 0 = .ok (.aload_n 0, 1) := by decide +kernel
theorem dX12_whispers_1 : decode cX12_whispers 1 = .ok (.getfield 49, 3) := by decide +kernel
theorem dX12_whispers_4 : decode cX12_whispers 4 = .ok (.getfield 146, 3) := by decide +kernel
theorem dX12_whispers_7 : decode cX12_whispers 7 = .ok (.ireturn, 1) := by decide +kernel
theorem dX12_cycles_0 : decode cX12_cycles 0 = .ok (.aload_n 0, 1) := by decide +kernel
theorem dX12_cycles_1 : decode cX12_cycles 1 = .ok (.getfield 49, 3) := by decide +kernel
theorem dX12_cycles_4 : decode cX12_cycles 4 = .ok (.getfield 149, 3) := by decide +kernel
theorem dX12_cycles_7 : decode cX12_cycles 7 = .ok (.ireturn, 1) := by decide +kernel
theorem dX12_departures_0 : decode cX12_departures 0 = .ok (.aload_n 0, 1) := by decide +kernel
theorem dX12_departures_1 : decode cX12_departures 1 = .ok (.getfield 49, 3) := by decide +kernel
theorem dX12_departures_4 : decode cX12_departures 4 = .ok (.getfield 152, 3) := by decide +kernel
theorem dX12_departures_7 : decode cX12_departures 7 = .ok (.ireturn, 1) := by decide +kernel
theorem dX12_hushOf_0 : decode cX12_hushOf 0 = .ok (.aload_n 0, 1) := by decide +kernel
theorem dX12_hushOf_1 : decode cX12_hushOf 1 = .ok (.iload_n 1, 1) := by decide +kernel
theorem dX12_hushOf_2 : decode cX12_hushOf 2 = .ok (.invokevirtual 155, 3) := by decide +kernel
theorem dX12_hushOf_5 : decode cX12_hushOf 5 = .ok (.getfield 159, 3) := by decide +kernel
theorem dX12_hushOf_8 : decode cX12_hushOf 8 = .ok (.ireturn, 1) := by decide +kernel
theorem dX12_heardBy_0 : decode cX12_heardBy 0 = .ok (.aload_n 0, 1) := by decide +kernel
theorem dX12_heardBy_1 : decode cX12_heardBy 1 = .ok (.iload_n 1, 1) := by decide +kernel
theorem dX12_heardBy_2 : decode cX12_heardBy 2 = .ok (.invokevirtual 155, 3) := by decide +kernel
theorem dX12_heardBy_5 : decode cX12_heardBy 5 = .ok (.getfield 164, 3) := by decide +kernel
theorem dX12_heardBy_8 : decode cX12_heardBy 8 = .ok (.ireturn, 1) := by decide +kernel
theorem dX12_latestOf_0 : decode cX12_latestOf 0 = .ok (.aload_n 0, 1) := by decide +kernel
theorem dX12_latestOf_1 : decode cX12_latestOf 1 = .ok (.iload_n 1, 1) := by decide +kernel
theorem dX12_latestOf_2 : decode cX12_latestOf 2 = .ok (.invokevirtual 155, 3) := by decide +kernel
theorem dX12_latestOf_5 : decode cX12_latestOf 5 = .ok (.getfield 167, 3) := by decide +kernel
theorem dX12_latestOf_8 : decode cX12_latestOf 8 = .ok (.ireturn, 1) := by decide +kernel
theorem dX12_listenersOf_0 : decode cX12_listenersOf 0 = .ok (.aload_n 0, 1) := by decide +kernel
theorem dX12_listenersOf_1 : decode cX12_listenersOf 1 = .ok (.iload_n 1, 1) := by decide +kernel
theorem dX12_listenersOf_2 : decode cX12_listenersOf 2 = .ok (.invokevirtual 155, 3) := by decide +kernel
theorem dX12_listenersOf_5 : decode cX12_listenersOf 5 = .ok (.getfield 170, 3) := by decide +kernel
theorem dX12_listenersOf_8 : decode cX12_listenersOf 8 = .ok (.ireturn, 1) := by decide +kernel
theorem dX12_hedgeInRow_0 : decode cX12_hedgeInRow 0 = .ok (.aload_n 0, 1) := by decide +kernel
theorem dX12_hedgeInRow_1 : decode cX12_hedgeInRow 1 = .ok (.iload_n 1, 1) := by decide +kernel
theorem dX12_hedgeInRow_2 : decode cX12_hedgeInRow 2 = .ok (.invokevirtual 155, 3) := by decide +kernel
theorem dX12_hedgeInRow_5 : decode cX12_hedgeInRow 5 = .ok (.pop, 1) := by decide +kernel
theorem dX12_hedgeInRow_6 : decode cX12_hedgeInRow 6 = .ok (.aload_n 0, 1) := by decide +kernel
theorem dX12_hedgeInRow_7 : decode cX12_hedgeInRow 7 = .ok (.iload_n 2, 1) := by decide +kernel
theorem dX12_hedgeInRow_8 : decode cX12_hedgeInRow 8 = .ok (.invokevirtual 155, 3) := by decide +kernel
theorem dX12_hedgeInRow_11 : decode cX12_hedgeInRow 11 = .ok (.iload_n 1, 1) := by decide +kernel
theorem dX12_hedgeInRow_12 : decode cX12_hedgeInRow 12 = .ok (.invokevirtual 173, 3) := by decide +kernel
theorem dX12_hedgeInRow_15 : decode cX12_hedgeInRow 15 = .ok (.ireturn, 1) := by decide +kernel
theorem dX12_roseInRow_0 : decode cX12_roseInRow 0 = .ok (.aload_n 0, 1) := by decide +kernel
theorem dX12_roseInRow_1 : decode cX12_roseInRow 1 = .ok (.iload_n 1, 1) := by decide +kernel
theorem dX12_roseInRow_2 : decode cX12_roseInRow 2 = .ok (.invokevirtual 176, 3) := by decide +kernel
theorem dX12_roseInRow_5 : decode cX12_roseInRow 5 = .ok (.pop, 1) := by decide +kernel
theorem dX12_roseInRow_6 : decode cX12_roseInRow 6 = .ok (.aload_n 0, 1) := by decide +kernel
theorem dX12_roseInRow_7 : decode cX12_roseInRow 7 = .ok (.iload_n 2, 1) := by decide +kernel
theorem dX12_roseInRow_8 : decode cX12_roseInRow 8 = .ok (.invokevirtual 155, 3) := by decide +kernel
theorem dX12_roseInRow_11 : decode cX12_roseInRow 11 = .ok (.bipush 8, 2) := by decide +kernel
theorem dX12_roseInRow_13 : decode cX12_roseInRow 13 = .ok (.iload_n 1, 1) := by decide +kernel
theorem dX12_roseInRow_14 : decode cX12_roseInRow 14 = .ok (.iadd, 1) := by decide +kernel
theorem dX12_roseInRow_15 : decode cX12_roseInRow 15 = .ok (.invokevirtual 173, 3) := by decide +kernel
theorem dX12_roseInRow_18 : decode cX12_roseInRow 18 = .ok (.ireturn, 1) := by decide +kernel
theorem dX12_hedgeNumbered_0 : decode cX12_hedgeNumbered 0 = .ok (.aload_n 0, 1) := by decide +kernel
theorem dX12_hedgeNumbered_1 : decode cX12_hedgeNumbered 1 = .ok (.getfield 49, 3) := by decide +kernel
theorem dX12_hedgeNumbered_4 : decode cX12_hedgeNumbered 4 = .ok (.iload_n 1, 1) := by decide +kernel
theorem dX12_hedgeNumbered_5 : decode cX12_hedgeNumbered 5 = .ok (.invokevirtual 180, 3) := by decide +kernel
theorem dX12_hedgeNumbered_8 : decode cX12_hedgeNumbered 8 = .ok (.astore_n 2, 1) := by decide +kernel
theorem dX12_hedgeNumbered_9 : decode cX12_hedgeNumbered 9 = .ok (.aload_n 2, 1) := by decide +kernel
theorem dX12_hedgeNumbered_10 : decode cX12_hedgeNumbered 10 = .ok (.ifnonnull 13, 3) := by decide +kernel
theorem dX12_hedgeNumbered_13 : decode cX12_hedgeNumbered 13 = .ok (.new 183, 3) := by decide +kernel
theorem dX12_hedgeNumbered_16 : decode cX12_hedgeNumbered 16 = .ok (.dup, 1) := by decide +kernel
theorem dX12_hedgeNumbered_17 : decode cX12_hedgeNumbered 17 = .ok (.ldc 185, 2) := by decide +kernel
theorem dX12_hedgeNumbered_19 : decode cX12_hedgeNumbered 19 = .ok (.invokespecial 187, 3) := by decide +kernel
theorem dX12_hedgeNumbered_22 : decode cX12_hedgeNumbered 22 = .ok (.athrow, 1) := by decide +kernel
theorem dX12_hedgeNumbered_23 : decode cX12_hedgeNumbered 23 = .ok (.aload_n 2, 1) := by decide +kernel
theorem dX12_hedgeNumbered_24 : decode cX12_hedgeNumbered 24 = .ok (.areturn, 1) := by decide +kernel
theorem dX12_patienceOf_0 : decode cX12_patienceOf 0 = .ok (.aload_n 0, 1) := by decide +kernel
theorem dX12_patienceOf_1 : decode cX12_patienceOf 1 = .ok (.iload_n 1, 1) := by decide +kernel
theorem dX12_patienceOf_2 : decode cX12_patienceOf 2 = .ok (.invokevirtual 176, 3) := by decide +kernel
theorem dX12_patienceOf_5 : decode cX12_patienceOf 5 = .ok (.getfield 188, 3) := by decide +kernel
theorem dX12_patienceOf_8 : decode cX12_patienceOf 8 = .ok (.ireturn, 1) := by decide +kernel
theorem dX12_petalsOf_0 : decode cX12_petalsOf 0 = .ok (.aload_n 0, 1) := by decide +kernel
theorem dX12_petalsOf_1 : decode cX12_petalsOf 1 = .ok (.iload_n 1, 1) := by decide +kernel
theorem dX12_petalsOf_2 : decode cX12_petalsOf 2 = .ok (.invokevirtual 176, 3) := by decide +kernel
theorem dX12_petalsOf_5 : decode cX12_petalsOf 5 = .ok (.getfield 193, 3) := by decide +kernel
theorem dX12_petalsOf_8 : decode cX12_petalsOf 8 = .ok (.ireturn, 1) := by decide +kernel
theorem dX12_countOf_0 : decode cX12_countOf 0 = .ok (.aload_n 0, 1) := by decide +kernel
theorem dX12_countOf_1 : decode cX12_countOf 1 = .ok (.iload_n 1, 1) := by decide +kernel
theorem dX12_countOf_2 : decode cX12_countOf 2 = .ok (.invokevirtual 176, 3) := by decide +kernel
theorem dX12_countOf_5 : decode cX12_countOf 5 = .ok (.getfield 196, 3) := by decide +kernel
theorem dX12_countOf_8 : decode cX12_countOf 8 = .ok (.ireturn, 1) := by decide +kernel
theorem dX12_hedgesOf_0 : decode cX12_hedgesOf 0 = .ok (.aload_n 0, 1) := by decide +kernel
theorem dX12_hedgesOf_1 : decode cX12_hedgesOf 1 = .ok (.iload_n 1, 1) := by decide +kernel
theorem dX12_hedgesOf_2 : decode cX12_hedgesOf 2 = .ok (.invokevirtual 176, 3) := by decide +kernel
theorem dX12_hedgesOf_5 : decode cX12_hedgesOf 5 = .ok (.pop, 1) := by decide +kernel
theorem dX12_hedgesOf_6 : decode cX12_hedgesOf 6 = .ok (.aload_n 0, 1) := by decide +kernel
theorem dX12_hedgesOf_7 : decode cX12_hedgesOf 7 = .ok (.getfield 49, 3) := by decide +kernel
theorem dX12_hedgesOf_10 : decode cX12_hedgesOf 10 = .ok (.bipush 8, 2) := by decide +kernel
theorem dX12_hedgesOf_12 : decode cX12_hedgesOf 12 = .ok (.iload_n 1, 1) := by decide +kernel
theorem dX12_hedgesOf_13 : decode cX12_hedgesOf 13 = .ok (.iadd, 1) := by decide +kernel
theorem dX12_hedgesOf_14 : decode cX12_hedgesOf 14 = .ok (.invokevirtual 199, 3) := by decide +kernel
theorem dX12_hedgesOf_17 : decode cX12_hedgesOf 17 = .ok (.ireturn, 1) := by decide +kernel
theorem dX12_fullest_0 : decode cX12_fullest 0 = .ok (.aload_n 0, 1) := by decide +kernel
theorem dX12_fullest_1 : decode cX12_fullest 1 = .ok (.getfield 49, 3) := by decide +kernel
theorem dX12_fullest_4 : decode cX12_fullest 4 = .ok (.invokevirtual 202, 3) := by decide +kernel
theorem dX12_fullest_7 : decode cX12_fullest 7 = .ok (.ireturn, 1) := by decide +kernel
theorem dX12_roseNumbered_0 : decode cX12_roseNumbered 0 = .ok (.aload_n 0, 1) := by decide +kernel
theorem dX12_roseNumbered_1 : decode cX12_roseNumbered 1 = .ok (.getfield 49, 3) := by decide +kernel
theorem dX12_roseNumbered_4 : decode cX12_roseNumbered 4 = .ok (.iload_n 1, 1) := by decide +kernel
theorem dX12_roseNumbered_5 : decode cX12_roseNumbered 5 = .ok (.invokevirtual 206, 3) := by decide +kernel
theorem dX12_roseNumbered_8 : decode cX12_roseNumbered 8 = .ok (.astore_n 2, 1) := by decide +kernel
theorem dX12_roseNumbered_9 : decode cX12_roseNumbered 9 = .ok (.aload_n 2, 1) := by decide +kernel
theorem dX12_roseNumbered_10 : decode cX12_roseNumbered 10 = .ok (.ifnonnull 13, 3) := by decide +kernel
theorem dX12_roseNumbered_13 : decode cX12_roseNumbered 13 = .ok (.new 183, 3) := by decide +kernel
theorem dX12_roseNumbered_16 : decode cX12_roseNumbered 16 = .ok (.dup, 1) := by decide +kernel
theorem dX12_roseNumbered_17 : decode cX12_roseNumbered 17 = .ok (.ldc 209, 2) := by decide +kernel
theorem dX12_roseNumbered_19 : decode cX12_roseNumbered 19 = .ok (.invokespecial 187, 3) := by decide +kernel
theorem dX12_roseNumbered_22 : decode cX12_roseNumbered 22 = .ok (.athrow, 1) := by decide +kernel
theorem dX12_roseNumbered_23 : decode cX12_roseNumbered 23 = .ok (.aload_n 2, 1) := by decide +kernel
theorem dX12_roseNumbered_24 : decode cX12_roseNumbered 24 = .ok (.areturn, 1) := by decide +kernel
theorem dX12_hedgeListens_0 : decode cX12_hedgeListens 0 = .ok (.aload_n 0, 1) := by decide +kernel
theorem dX12_hedgeListens_1 : decode cX12_hedgeListens 1 = .ok (.iload_n 1, 1) := by decide +kernel
theorem dX12_hedgeListens_2 : decode cX12_hedgeListens 2 = .ok (.invokevirtual 155, 3) := by decide +kernel
theorem dX12_hedgeListens_5 : decode cX12_hedgeListens 5 = .ok (.pop, 1) := by decide +kernel
theorem dX12_hedgeListens_6 : decode cX12_hedgeListens 6 = .ok (.aload_n 0, 1) := by decide +kernel
theorem dX12_hedgeListens_7 : decode cX12_hedgeListens 7 = .ok (.iload_n 1, 1) := by decide +kernel
theorem dX12_hedgeListens_8 : decode cX12_hedgeListens 8 = .ok (.iload_n 2, 1) := by decide +kernel
theorem dX12_hedgeListens_9 : decode cX12_hedgeListens 9 = .ok (.invokevirtual 211, 3) := by decide +kernel
theorem dX12_hedgeListens_12 : decode cX12_hedgeListens 12 = .ok (.ireturn, 1) := by decide +kernel
theorem dX12_roseListens_0 : decode cX12_roseListens 0 = .ok (.aload_n 0, 1) := by decide +kernel
theorem dX12_roseListens_1 : decode cX12_roseListens 1 = .ok (.iload_n 1, 1) := by decide +kernel
theorem dX12_roseListens_2 : decode cX12_roseListens 2 = .ok (.invokevirtual 176, 3) := by decide +kernel
theorem dX12_roseListens_5 : decode cX12_roseListens 5 = .ok (.pop, 1) := by decide +kernel
theorem dX12_roseListens_6 : decode cX12_roseListens 6 = .ok (.aload_n 0, 1) := by decide +kernel
theorem dX12_roseListens_7 : decode cX12_roseListens 7 = .ok (.bipush 8, 2) := by decide +kernel
theorem dX12_roseListens_9 : decode cX12_roseListens 9 = .ok (.iload_n 1, 1) := by decide +kernel
theorem dX12_roseListens_10 : decode cX12_roseListens 10 = .ok (.iadd, 1) := by decide +kernel
theorem dX12_roseListens_11 : decode cX12_roseListens 11 = .ok (.iload_n 2, 1) := by decide +kernel
theorem dX12_roseListens_12 : decode cX12_roseListens 12 = .ok (.invokevirtual 211, 3) := by decide +kernel
theorem dX12_roseListens_15 : decode cX12_roseListens 15 = .ok (.ireturn, 1) := by decide +kernel
theorem dX12_hedgeLeaves_0 : decode cX12_hedgeLeaves 0 = .ok (.aload_n 0, 1) := by decide +kernel
theorem dX12_hedgeLeaves_1 : decode cX12_hedgeLeaves 1 = .ok (.iload_n 1, 1) := by decide +kernel
theorem dX12_hedgeLeaves_2 : decode cX12_hedgeLeaves 2 = .ok (.invokevirtual 155, 3) := by decide +kernel
theorem dX12_hedgeLeaves_5 : decode cX12_hedgeLeaves 5 = .ok (.pop, 1) := by decide +kernel
theorem dX12_hedgeLeaves_6 : decode cX12_hedgeLeaves 6 = .ok (.aload_n 0, 1) := by decide +kernel
theorem dX12_hedgeLeaves_7 : decode cX12_hedgeLeaves 7 = .ok (.iload_n 1, 1) := by decide +kernel
theorem dX12_hedgeLeaves_8 : decode cX12_hedgeLeaves 8 = .ok (.iload_n 2, 1) := by decide +kernel
theorem dX12_hedgeLeaves_9 : decode cX12_hedgeLeaves 9 = .ok (.invokevirtual 215, 3) := by decide +kernel
theorem dX12_hedgeLeaves_12 : decode cX12_hedgeLeaves 12 = .ok (.ireturn, 1) := by decide +kernel
theorem dX12_roseLeaves_0 : decode cX12_roseLeaves 0 = .ok (.aload_n 0, 1) := by decide +kernel
theorem dX12_roseLeaves_1 : decode cX12_roseLeaves 1 = .ok (.iload_n 1, 1) := by decide +kernel
theorem dX12_roseLeaves_2 : decode cX12_roseLeaves 2 = .ok (.invokevirtual 176, 3) := by decide +kernel
theorem dX12_roseLeaves_5 : decode cX12_roseLeaves 5 = .ok (.pop, 1) := by decide +kernel
theorem dX12_roseLeaves_6 : decode cX12_roseLeaves 6 = .ok (.aload_n 0, 1) := by decide +kernel
theorem dX12_roseLeaves_7 : decode cX12_roseLeaves 7 = .ok (.bipush 8, 2) := by decide +kernel
theorem dX12_roseLeaves_9 : decode cX12_roseLeaves 9 = .ok (.iload_n 1, 1) := by decide +kernel
theorem dX12_roseLeaves_10 : decode cX12_roseLeaves 10 = .ok (.iadd, 1) := by decide +kernel
theorem dX12_roseLeaves_11 : decode cX12_roseLeaves 11 = .ok (.iload_n 2, 1) := by decide +kernel
theorem dX12_roseLeaves_12 : decode cX12_roseLeaves 12 = .ok (.invokevirtual 215, 3) := by decide +kernel
theorem dX12_roseLeaves_15 : decode cX12_roseLeaves 15 = .ok (.ireturn, 1) := by decide +kernel
theorem dX12_placeAfterListening_0 : decode cX12_placeAfterListening 0 = .ok (.aload_n 0, 1) := by decide +kernel
theorem dX12_placeAfterListening_1 : decode cX12_placeAfterListening 1 = .ok (.iload_n 2, 1) := by decide +kernel
theorem dX12_placeAfterListening_2 : decode cX12_placeAfterListening 2 = .ok (.invokevirtual 155, 3) := by decide +kernel
theorem dX12_placeAfterListening_5 : decode cX12_placeAfterListening 5 = .ok (.astore_n 3, 1) := by decide +kernel
theorem dX12_placeAfterListening_6 : decode cX12_placeAfterListening 6 = .ok (.aload_n 0, 1) := by decide +kernel
theorem dX12_placeAfterListening_7 : decode cX12_placeAfterListening 7 = .ok (.getfield 49, 3) := by decide +kernel
theorem dX12_placeAfterListening_10 : decode cX12_placeAfterListening 10 = .ok (.iload_n 1, 1) := by decide +kernel
theorem dX12_placeAfterListening_11 : decode cX12_placeAfterListening 11 = .ok (.iload_n 2, 1) := by decide +kernel
theorem dX12_placeAfterListening_12 : decode cX12_placeAfterListening 12 = .ok (.invokevirtual 218, 3) := by decide +kernel
theorem dX12_placeAfterListening_15 : decode cX12_placeAfterListening 15 = .ok (.ifCond .ne 13, 3) := by decide +kernel
theorem dX12_placeAfterListening_18 : decode cX12_placeAfterListening 18 = .ok (.new 82, 3) := by decide +kernel
theorem dX12_placeAfterListening_21 : decode cX12_placeAfterListening 21 = .ok (.dup, 1) := by decide +kernel
theorem dX12_placeAfterListening_22 : decode cX12_placeAfterListening 22 = .ok (.ldc 222, 2) := by decide +kernel
theorem dX12_placeAfterListening_24 : decode cX12_placeAfterListening 24 = .ok (.invokespecial 86, 3) := by decide +kernel
theorem dX12_placeAfterListening_27 : decode cX12_placeAfterListening 27 = .ok (.athrow, 1) := by decide +kernel
theorem dX12_placeAfterListening_28 : decode cX12_placeAfterListening 28 = .ok (.aload_n 3, 1) := by decide +kernel
theorem dX12_placeAfterListening_29 : decode cX12_placeAfterListening 29 = .ok (.getfield 170, 3) := by decide +kernel
theorem dX12_placeAfterListening_32 : decode cX12_placeAfterListening 32 = .ok (.iconst 1, 1) := by decide +kernel
theorem dX12_placeAfterListening_33 : decode cX12_placeAfterListening 33 = .ok (.isub, 1) := by decide +kernel
theorem dX12_placeAfterListening_34 : decode cX12_placeAfterListening 34 = .ok (.ireturn, 1) := by decide +kernel
theorem dX12_listenersAfterLeaving_0 : decode cX12_listenersAfterLeaving 0 = .ok (.aload_n 0, 1) := by decide +kernel
theorem dX12_listenersAfterLeaving_1 : decode cX12_listenersAfterLeaving 1 = .ok (.iload_n 2, 1) := by decide +kernel
theorem dX12_listenersAfterLeaving_2 : decode cX12_listenersAfterLeaving 2 = .ok (.invokevirtual 155, 3) := by decide +kernel
theorem dX12_listenersAfterLeaving_5 : decode cX12_listenersAfterLeaving 5 = .ok (.astore_n 3, 1) := by decide +kernel
theorem dX12_listenersAfterLeaving_6 : decode cX12_listenersAfterLeaving 6 = .ok (.aload_n 0, 1) := by decide +kernel
theorem dX12_listenersAfterLeaving_7 : decode cX12_listenersAfterLeaving 7 = .ok (.getfield 49, 3) := by decide +kernel
theorem dX12_listenersAfterLeaving_10 : decode cX12_listenersAfterLeaving 10 = .ok (.iload_n 1, 1) := by decide +kernel
theorem dX12_listenersAfterLeaving_11 : decode cX12_listenersAfterLeaving 11 = .ok (.iload_n 2, 1) := by decide +kernel
theorem dX12_listenersAfterLeaving_12 : decode cX12_listenersAfterLeaving 12 = .ok (.invokevirtual 224, 3) := by decide +kernel
theorem dX12_listenersAfterLeaving_15 : decode cX12_listenersAfterLeaving 15 = .ok (.ifCond .ne 13, 3) := by decide +kernel
theorem dX12_listenersAfterLeaving_18 : decode cX12_listenersAfterLeaving 18 = .ok (.new 82, 3) := by decide +kernel
theorem dX12_listenersAfterLeaving_21 : decode cX12_listenersAfterLeaving 21 = .ok (.dup, 1) := by decide +kernel
theorem dX12_listenersAfterLeaving_22 : decode cX12_listenersAfterLeaving 22 = .ok (.ldc 227, 2) := by decide +kernel
theorem dX12_listenersAfterLeaving_24 : decode cX12_listenersAfterLeaving 24 = .ok (.invokespecial 86, 3) := by decide +kernel
theorem dX12_listenersAfterLeaving_27 : decode cX12_listenersAfterLeaving 27 = .ok (.athrow, 1) := by decide +kernel
theorem dX12_listenersAfterLeaving_28 : decode cX12_listenersAfterLeaving 28 = .ok (.aload_n 3, 1) := by decide +kernel
theorem dX12_listenersAfterLeaving_29 : decode cX12_listenersAfterLeaving 29 = .ok (.getfield 170, 3) := by decide +kernel
theorem dX12_listenersAfterLeaving_32 : decode cX12_listenersAfterLeaving 32 = .ok (.ireturn, 1) := by decide +kernel
theorem dX12_tell_0 : decode cX12_tell 0 = .ok (.aload_n 0, 1) := by decide +kernel
theorem dX12_tell_1 : decode cX12_tell 1 = .ok (.iload_n 1, 1) := by decide +kernel
theorem dX12_tell_2 : decode cX12_tell 2 = .ok (.invokevirtual 155, 3) := by decide +kernel
theorem dX12_tell_5 : decode cX12_tell 5 = .ok (.pop, 1) := by decide +kernel
theorem dX12_tell_6 : decode cX12_tell 6 = .ok (.iload_n 2, 1) := by decide +kernel
theorem dX12_tell_7 : decode cX12_tell 7 = .ok (.invokestatic 229, 3) := by decide +kernel
theorem dX12_tell_10 : decode cX12_tell 10 = .ok (.aload_n 0, 1) := by decide +kernel
theorem dX12_tell_11 : decode cX12_tell 11 = .ok (.getfield 33, 3) := by decide +kernel
theorem dX12_tell_14 : decode cX12_tell 14 = .ok (.aload_n 0, 1) := by decide +kernel
theorem dX12_tell_15 : decode cX12_tell 15 = .ok (.getfield 49, 3) := by decide +kernel
theorem dX12_tell_18 : decode cX12_tell 18 = .ok (.iload_n 1, 1) := by decide +kernel
theorem dX12_tell_19 : decode cX12_tell 19 = .ok (.iload_n 2, 1) := by decide +kernel
theorem dX12_tell_20 : decode cX12_tell 20 = .ok (.invokevirtual 232, 3) := by decide +kernel
theorem dX12_tell_23 : decode cX12_tell 23 = .ok (.ireturn, 1) := by decide +kernel
theorem dX12_needLoudness_0 : decode cX12_needLoudness 0 = .ok (.iload_n 0, 1) := by decide +kernel
theorem dX12_needLoudness_1 : decode cX12_needLoudness 1 = .ok (.iconst 1, 1) := by decide +kernel
theorem dX12_needLoudness_2 : decode cX12_needLoudness 2 = .ok (.if_icmp .lt 9, 3) := by decide +kernel
theorem dX12_needLoudness_5 : decode cX12_needLoudness 5 = .ok (.iload_n 0, 1) := by decide +kernel
theorem dX12_needLoudness_6 : decode cX12_needLoudness 6 = .ok (.bipush 99, 2) := by decide +kernel
theorem dX12_needLoudness_8 : decode cX12_needLoudness 8 = .ok (.if_icmp .le 13, 3) := by decide +kernel
theorem dX12_needLoudness_11 : decode cX12_needLoudness 11 = .ok (.new 93, 3) := by decide +kernel
theorem dX12_needLoudness_14 : decode cX12_needLoudness 14 = .ok (.dup, 1) := by decide +kernel
theorem dX12_needLoudness_15 : decode cX12_needLoudness 15 = .ok (.ldc 236, 2) := by decide +kernel
theorem dX12_needLoudness_17 : decode cX12_needLoudness 17 = .ok (.invokespecial 97, 3) := by decide +kernel
theorem dX12_needLoudness_20 : decode cX12_needLoudness 20 = .ok (.athrow, 1) := by decide +kernel
theorem dX12_needLoudness_21 : decode cX12_needLoudness 21 = .ok (.return_, 1) := by decide +kernel
theorem dX12_passDays_0 : decode cX12_passDays 0 = .ok (.iload_n 1, 1) := by decide +kernel
theorem dX12_passDays_1 : decode cX12_passDays 1 = .ok (.invokestatic 238, 3) := by decide +kernel
theorem dX12_passDays_4 : decode cX12_passDays 4 = .ok (.aload_n 0, 1) := by decide +kernel
theorem dX12_passDays_5 : decode cX12_passDays 5 = .ok (.getfield 49, 3) := by decide +kernel
theorem dX12_passDays_8 : decode cX12_passDays 8 = .ok (.getfield 146, 3) := by decide +kernel
theorem dX12_passDays_11 : decode cX12_passDays 11 = .ok (.istore_n 2, 1) := by decide +kernel
theorem dX12_passDays_12 : decode cX12_passDays 12 = .ok (.iconst 0, 1) := by decide +kernel
theorem dX12_passDays_13 : decode cX12_passDays 13 = .ok (.istore_n 3, 1) := by decide +kernel
theorem dX12_passDays_14 : decode cX12_passDays 14 = .ok (.iload_n 3, 1) := by decide +kernel
theorem dX12_passDays_15 : decode cX12_passDays 15 = .ok (.iload_n 1, 1) := by decide +kernel
theorem dX12_passDays_16 : decode cX12_passDays 16 = .ok (.if_icmp .ge 24, 3) := by decide +kernel
theorem dX12_passDays_19 : decode cX12_passDays 19 = .ok (.aload_n 0, 1) := by decide +kernel
theorem dX12_passDays_20 : decode cX12_passDays 20 = .ok (.getfield 42, 3) := by decide +kernel
theorem dX12_passDays_23 : decode cX12_passDays 23 = .ok (.aload_n 0, 1) := by decide +kernel
theorem dX12_passDays_24 : decode cX12_passDays 24 = .ok (.getfield 59, 3) := by decide +kernel
theorem dX12_passDays_27 : decode cX12_passDays 27 = .ok (.aload_n 0, 1) := by decide +kernel
theorem dX12_passDays_28 : decode cX12_passDays 28 = .ok (.getfield 49, 3) := by decide +kernel
theorem dX12_passDays_31 : decode cX12_passDays 31 = .ok (.invokevirtual 241, 3) := by decide +kernel
theorem dX12_passDays_34 : decode cX12_passDays 34 = .ok (.iinc 3 1, 3) := by decide +kernel
theorem dX12_passDays_37 : decode cX12_passDays 37 = .ok (.goto (-23), 3) := by decide +kernel
theorem dX12_passDays_40 : decode cX12_passDays 40 = .ok (.aload_n 0, 1) := by decide +kernel
theorem dX12_passDays_41 : decode cX12_passDays 41 = .ok (.getfield 49, 3) := by decide +kernel
theorem dX12_passDays_44 : decode cX12_passDays 44 = .ok (.getfield 146, 3) := by decide +kernel
theorem dX12_passDays_47 : decode cX12_passDays 47 = .ok (.iload_n 2, 1) := by decide +kernel
theorem dX12_passDays_48 : decode cX12_passDays 48 = .ok (.isub, 1) := by decide +kernel
theorem dX12_passDays_49 : decode cX12_passDays 49 = .ok (.ireturn, 1) := by decide +kernel
theorem dX12_reach_0 : decode cX12_reach 0 = .ok (.aload_n 0, 1) := by decide +kernel
theorem dX12_reach_1 : decode cX12_reach 1 = .ok (.iload_n 1, 1) := by decide +kernel
theorem dX12_reach_2 : decode cX12_reach 2 = .ok (.invokevirtual 155, 3) := by decide +kernel
theorem dX12_reach_5 : decode cX12_reach 5 = .ok (.pop, 1) := by decide +kernel
theorem dX12_reach_6 : decode cX12_reach 6 = .ok (.iload_n 2, 1) := by decide +kernel
theorem dX12_reach_7 : decode cX12_reach 7 = .ok (.invokestatic 229, 3) := by decide +kernel
theorem dX12_reach_10 : decode cX12_reach 10 = .ok (.aload_n 0, 1) := by decide +kernel
theorem dX12_reach_11 : decode cX12_reach 11 = .ok (.iload_n 1, 1) := by decide +kernel
theorem dX12_reach_12 : decode cX12_reach 12 = .ok (.iload_n 2, 1) := by decide +kernel
theorem dX12_reach_13 : decode cX12_reach 13 = .ok (.invokevirtual 245, 3) := by decide +kernel
theorem dX12_reach_16 : decode cX12_reach 16 = .ok (.aload_n 0, 1) := by decide +kernel
theorem dX12_reach_17 : decode cX12_reach 17 = .ok (.getfield 33, 3) := by decide +kernel
theorem dX12_reach_20 : decode cX12_reach 20 = .ok (.invokevirtual 249, 3) := by decide +kernel
theorem dX12_reach_23 : decode cX12_reach 23 = .ok (.ireturn, 1) := by decide +kernel
theorem dX12_loudnessAt_0 : decode cX12_loudnessAt 0 = .ok (.aload_n 0, 1) := by decide +kernel
theorem dX12_loudnessAt_1 : decode cX12_loudnessAt 1 = .ok (.iload_n 1, 1) := by decide +kernel
theorem dX12_loudnessAt_2 : decode cX12_loudnessAt 2 = .ok (.invokevirtual 155, 3) := by decide +kernel
theorem dX12_loudnessAt_5 : decode cX12_loudnessAt 5 = .ok (.pop, 1) := by decide +kernel
theorem dX12_loudnessAt_6 : decode cX12_loudnessAt 6 = .ok (.aload_n 0, 1) := by decide +kernel
theorem dX12_loudnessAt_7 : decode cX12_loudnessAt 7 = .ok (.iload_n 2, 1) := by decide +kernel
theorem dX12_loudnessAt_8 : decode cX12_loudnessAt 8 = .ok (.invokevirtual 155, 3) := by decide +kernel
theorem dX12_loudnessAt_11 : decode cX12_loudnessAt 11 = .ok (.pop, 1) := by decide +kernel
theorem dX12_loudnessAt_12 : decode cX12_loudnessAt 12 = .ok (.aload_n 0, 1) := by decide +kernel
theorem dX12_loudnessAt_13 : decode cX12_loudnessAt 13 = .ok (.iload_n 1, 1) := by decide +kernel
theorem dX12_loudnessAt_14 : decode cX12_loudnessAt 14 = .ok (.bipush 99, 2) := by decide +kernel
theorem dX12_loudnessAt_16 : decode cX12_loudnessAt 16 = .ok (.invokevirtual 245, 3) := by decide +kernel
theorem dX12_loudnessAt_19 : decode cX12_loudnessAt 19 = .ok (.aload_n 0, 1) := by decide +kernel
theorem dX12_loudnessAt_20 : decode cX12_loudnessAt 20 = .ok (.getfield 33, 3) := by decide +kernel
theorem dX12_loudnessAt_23 : decode cX12_loudnessAt 23 = .ok (.iload_n 2, 1) := by decide +kernel
theorem dX12_loudnessAt_24 : decode cX12_loudnessAt 24 = .ok (.invokevirtual 252, 3) := by decide +kernel
theorem dX12_loudnessAt_27 : decode cX12_loudnessAt 27 = .ok (.ireturn, 1) := by decide +kernel
theorem dX12_comesBack_0 : decode cX12_comesBack 0 = .ok (.aload_n 0, 1) := by decide +kernel
theorem dX12_comesBack_1 : decode cX12_comesBack 1 = .ok (.iload_n 1, 1) := by decide +kernel
theorem dX12_comesBack_2 : decode cX12_comesBack 2 = .ok (.invokevirtual 155, 3) := by decide +kernel
theorem dX12_comesBack_5 : decode cX12_comesBack 5 = .ok (.pop, 1) := by decide +kernel
theorem dX12_comesBack_6 : decode cX12_comesBack 6 = .ok (.aload_n 0, 1) := by decide +kernel
theorem dX12_comesBack_7 : decode cX12_comesBack 7 = .ok (.iload_n 1, 1) := by decide +kernel
theorem dX12_comesBack_8 : decode cX12_comesBack 8 = .ok (.bipush 99, 2) := by decide +kernel
theorem dX12_comesBack_10 : decode cX12_comesBack 10 = .ok (.invokevirtual 245, 3) := by decide +kernel
theorem dX12_comesBack_13 : decode cX12_comesBack 13 = .ok (.aload_n 0, 1) := by decide +kernel
theorem dX12_comesBack_14 : decode cX12_comesBack 14 = .ok (.getfield 33, 3) := by decide +kernel
theorem dX12_comesBack_17 : decode cX12_comesBack 17 = .ok (.iload_n 1, 1) := by decide +kernel
theorem dX12_comesBack_18 : decode cX12_comesBack 18 = .ok (.invokevirtual 255, 3) := by decide +kernel
theorem dX12_comesBack_21 : decode cX12_comesBack 21 = .ok (.ireturn, 1) := by decide +kernel
theorem dX12_petalsAfter_0 : decode cX12_petalsAfter 0 = .ok (.aload_n 0, 1) := by decide +kernel
theorem dX12_petalsAfter_1 : decode cX12_petalsAfter 1 = .ok (.iload_n 1, 1) := by decide +kernel
theorem dX12_petalsAfter_2 : decode cX12_petalsAfter 2 = .ok (.invokevirtual 176, 3) := by decide +kernel
theorem dX12_petalsAfter_5 : decode cX12_petalsAfter 5 = .ok (.pop, 1) := by decide +kernel
theorem dX12_petalsAfter_6 : decode cX12_petalsAfter 6 = .ok (.iload_n 2, 1) := by decide +kernel
theorem dX12_petalsAfter_7 : decode cX12_petalsAfter 7 = .ok (.invokestatic 238, 3) := by decide +kernel
theorem dX12_petalsAfter_10 : decode cX12_petalsAfter 10 = .ok (.aload_n 0, 1) := by decide +kernel
theorem dX12_petalsAfter_11 : decode cX12_petalsAfter 11 = .ok (.getfield 53, 3) := by decide +kernel
theorem dX12_petalsAfter_14 : decode cX12_petalsAfter 14 = .ok (.aload_n 0, 1) := by decide +kernel
theorem dX12_petalsAfter_15 : decode cX12_petalsAfter 15 = .ok (.getfield 49, 3) := by decide +kernel
theorem dX12_petalsAfter_18 : decode cX12_petalsAfter 18 = .ok (.invokevirtual 259, 3) := by decide +kernel
theorem dX12_petalsAfter_21 : decode cX12_petalsAfter 21 = .ok (.iconst 0, 1) := by decide +kernel
theorem dX12_petalsAfter_22 : decode cX12_petalsAfter 22 = .ok (.istore_n 3, 1) := by decide +kernel
theorem dX12_petalsAfter_23 : decode cX12_petalsAfter 23 = .ok (.iload_n 3, 1) := by decide +kernel
theorem dX12_petalsAfter_24 : decode cX12_petalsAfter 24 = .ok (.iload_n 2, 1) := by decide +kernel
theorem dX12_petalsAfter_25 : decode cX12_petalsAfter 25 = .ok (.if_icmp .ge 24, 3) := by decide +kernel
theorem dX12_petalsAfter_28 : decode cX12_petalsAfter 28 = .ok (.aload_n 0, 1) := by decide +kernel
theorem dX12_petalsAfter_29 : decode cX12_petalsAfter 29 = .ok (.getfield 42, 3) := by decide +kernel
theorem dX12_petalsAfter_32 : decode cX12_petalsAfter 32 = .ok (.aload_n 0, 1) := by decide +kernel
theorem dX12_petalsAfter_33 : decode cX12_petalsAfter 33 = .ok (.getfield 59, 3) := by decide +kernel
theorem dX12_petalsAfter_36 : decode cX12_petalsAfter 36 = .ok (.aload_n 0, 1) := by decide +kernel
theorem dX12_petalsAfter_37 : decode cX12_petalsAfter 37 = .ok (.getfield 53, 3) := by decide +kernel
theorem dX12_petalsAfter_40 : decode cX12_petalsAfter 40 = .ok (.invokevirtual 241, 3) := by decide +kernel
theorem dX12_petalsAfter_43 : decode cX12_petalsAfter 43 = .ok (.iinc 3 1, 3) := by decide +kernel
theorem dX12_petalsAfter_46 : decode cX12_petalsAfter 46 = .ok (.goto (-23), 3) := by decide +kernel
theorem dX12_petalsAfter_49 : decode cX12_petalsAfter 49 = .ok (.aload_n 0, 1) := by decide +kernel
theorem dX12_petalsAfter_50 : decode cX12_petalsAfter 50 = .ok (.getfield 53, 3) := by decide +kernel
theorem dX12_petalsAfter_53 : decode cX12_petalsAfter 53 = .ok (.iload_n 1, 1) := by decide +kernel
theorem dX12_petalsAfter_54 : decode cX12_petalsAfter 54 = .ok (.invokevirtual 263, 3) := by decide +kernel
theorem dX12_petalsAfter_57 : decode cX12_petalsAfter 57 = .ok (.ireturn, 1) := by decide +kernel
theorem dX12_daysUntilLeft_0 : decode cX12_daysUntilLeft 0 = .ok (.aload_n 0, 1) := by decide +kernel
theorem dX12_daysUntilLeft_1 : decode cX12_daysUntilLeft 1 = .ok (.iload_n 1, 1) := by decide +kernel
theorem dX12_daysUntilLeft_2 : decode cX12_daysUntilLeft 2 = .ok (.invokevirtual 176, 3) := by decide +kernel
theorem dX12_daysUntilLeft_5 : decode cX12_daysUntilLeft 5 = .ok (.getfield 266, 3) := by decide +kernel
theorem dX12_daysUntilLeft_8 : decode cX12_daysUntilLeft 8 = .ok (.istore_n 2, 1) := by decide +kernel
theorem dX12_daysUntilLeft_9 : decode cX12_daysUntilLeft 9 = .ok (.aload_n 0, 1) := by decide +kernel
theorem dX12_daysUntilLeft_10 : decode cX12_daysUntilLeft 10 = .ok (.getfield 53, 3) := by decide +kernel
theorem dX12_daysUntilLeft_13 : decode cX12_daysUntilLeft 13 = .ok (.aload_n 0, 1) := by decide +kernel
theorem dX12_daysUntilLeft_14 : decode cX12_daysUntilLeft 14 = .ok (.getfield 49, 3) := by decide +kernel
theorem dX12_daysUntilLeft_17 : decode cX12_daysUntilLeft 17 = .ok (.invokevirtual 259, 3) := by decide +kernel
theorem dX12_daysUntilLeft_20 : decode cX12_daysUntilLeft 20 = .ok (.iconst 1, 1) := by decide +kernel
theorem dX12_daysUntilLeft_21 : decode cX12_daysUntilLeft 21 = .ok (.istore_n 3, 1) := by decide +kernel
theorem dX12_daysUntilLeft_22 : decode cX12_daysUntilLeft 22 = .ok (.iload_n 3, 1) := by decide +kernel
theorem dX12_daysUntilLeft_23 : decode cX12_daysUntilLeft 23 = .ok (.bipush 40, 2) := by decide +kernel
theorem dX12_daysUntilLeft_25 : decode cX12_daysUntilLeft 25 = .ok (.if_icmp .gt 38, 3) := by decide +kernel
theorem dX12_daysUntilLeft_28 : decode cX12_daysUntilLeft 28 = .ok (.aload_n 0, 1) := by decide +kernel
theorem dX12_daysUntilLeft_29 : decode cX12_daysUntilLeft 29 = .ok (.getfield 42, 3) := by decide +kernel
theorem dX12_daysUntilLeft_32 : decode cX12_daysUntilLeft 32 = .ok (.aload_n 0, 1) := by decide +kernel
theorem dX12_daysUntilLeft_33 : decode cX12_daysUntilLeft 33 = .ok (.getfield 59, 3) := by decide +kernel
theorem dX12_daysUntilLeft_36 : decode cX12_daysUntilLeft 36 = .ok (.aload_n 0, 1) := by decide +kernel
theorem dX12_daysUntilLeft_37 : decode cX12_daysUntilLeft 37 = .ok (.getfield 53, 3) := by decide +kernel
theorem dX12_daysUntilLeft_40 : decode cX12_daysUntilLeft 40 = .ok (.invokevirtual 241, 3) := by decide +kernel
theorem dX12_daysUntilLeft_43 : decode cX12_daysUntilLeft 43 = .ok (.aload_n 0, 1) := by decide +kernel
theorem dX12_daysUntilLeft_44 : decode cX12_daysUntilLeft 44 = .ok (.getfield 53, 3) := by decide +kernel
theorem dX12_daysUntilLeft_47 : decode cX12_daysUntilLeft 47 = .ok (.iload_n 1, 1) := by decide +kernel
theorem dX12_daysUntilLeft_48 : decode cX12_daysUntilLeft 48 = .ok (.invokevirtual 267, 3) := by decide +kernel
theorem dX12_daysUntilLeft_51 : decode cX12_daysUntilLeft 51 = .ok (.iload_n 2, 1) := by decide +kernel
theorem dX12_daysUntilLeft_52 : decode cX12_daysUntilLeft 52 = .ok (.if_icmp .le 5, 3) := by decide +kernel
theorem dX12_daysUntilLeft_55 : decode cX12_daysUntilLeft 55 = .ok (.iload_n 3, 1) := by decide +kernel
theorem dX12_daysUntilLeft_56 : decode cX12_daysUntilLeft 56 = .ok (.ireturn, 1) := by decide +kernel
theorem dX12_daysUntilLeft_57 : decode cX12_daysUntilLeft 57 = .ok (.iinc 3 1, 3) := by decide +kernel
theorem dX12_daysUntilLeft_60 : decode cX12_daysUntilLeft 60 = .ok (.goto (-38), 3) := by decide +kernel
theorem dX12_daysUntilLeft_63 : decode cX12_daysUntilLeft 63 = .ok (.iconst (-1), 1) := by decide +kernel
theorem dX12_daysUntilLeft_64 : decode cX12_daysUntilLeft 64 = .ok (.ireturn, 1) := by decide +kernel
theorem dX12_bestToTell_0 : decode cX12_bestToTell 0 = .ok (.iload_n 1, 1) := by decide +kernel
theorem dX12_bestToTell_1 : decode cX12_bestToTell 1 = .ok (.invokestatic 229, 3) := by decide +kernel
theorem dX12_bestToTell_4 : decode cX12_bestToTell 4 = .ok (.iconst (-1), 1) := by decide +kernel
theorem dX12_bestToTell_5 : decode cX12_bestToTell 5 = .ok (.istore_n 2, 1) := by decide +kernel
theorem dX12_bestToTell_6 : decode cX12_bestToTell 6 = .ok (.ldc2_w 270, 3) := by decide +kernel
theorem dX12_bestToTell_9 : decode cX12_bestToTell 9 = .ok (.lstore_n 3, 1) := by decide +kernel
theorem dX12_bestToTell_10 : decode cX12_bestToTell 10 = .ok (.iconst 0, 1) := by decide +kernel
theorem dX12_bestToTell_11 : decode cX12_bestToTell 11 = .ok (.istore 5, 2) := by decide +kernel
theorem dX12_bestToTell_13 : decode cX12_bestToTell 13 = .ok (.iload 5, 2) := by decide +kernel
theorem dX12_bestToTell_15 : decode cX12_bestToTell 15 = .ok (.aload_n 0, 1) := by decide +kernel
theorem dX12_bestToTell_16 : decode cX12_bestToTell 16 = .ok (.getfield 49, 3) := by decide +kernel
theorem dX12_bestToTell_19 : decode cX12_bestToTell 19 = .ok (.getfield 134, 3) := by decide +kernel
theorem dX12_bestToTell_22 : decode cX12_bestToTell 22 = .ok (.if_icmp .ge 38, 3) := by decide +kernel
theorem dX12_bestToTell_25 : decode cX12_bestToTell 25 = .ok (.aload_n 0, 1) := by decide +kernel
theorem dX12_bestToTell_26 : decode cX12_bestToTell 26 = .ok (.iload 5, 2) := by decide +kernel
theorem dX12_bestToTell_28 : decode cX12_bestToTell 28 = .ok (.iload_n 1, 1) := by decide +kernel
theorem dX12_bestToTell_29 : decode cX12_bestToTell 29 = .ok (.invokevirtual 245, 3) := by decide +kernel
theorem dX12_bestToTell_32 : decode cX12_bestToTell 32 = .ok (.aload_n 0, 1) := by decide +kernel
theorem dX12_bestToTell_33 : decode cX12_bestToTell 33 = .ok (.getfield 53, 3) := by decide +kernel
theorem dX12_bestToTell_36 : decode cX12_bestToTell 36 = .ok (.invokevirtual 272, 3) := by decide +kernel
theorem dX12_bestToTell_39 : decode cX12_bestToTell 39 = .ok (.lstore 6, 2) := by decide +kernel
theorem dX12_bestToTell_41 : decode cX12_bestToTell 41 = .ok (.lload 6, 2) := by decide +kernel
theorem dX12_bestToTell_43 : decode cX12_bestToTell 43 = .ok (.lload_n 3, 1) := by decide +kernel
theorem dX12_bestToTell_44 : decode cX12_bestToTell 44 = .ok (.lcmp, 1) := by decide +kernel
theorem dX12_bestToTell_45 : decode cX12_bestToTell 45 = .ok (.ifCond .le 9, 3) := by decide +kernel
theorem dX12_bestToTell_48 : decode cX12_bestToTell 48 = .ok (.iload 5, 2) := by decide +kernel
theorem dX12_bestToTell_50 : decode cX12_bestToTell 50 = .ok (.istore_n 2, 1) := by decide +kernel
theorem dX12_bestToTell_51 : decode cX12_bestToTell 51 = .ok (.lload 6, 2) := by decide +kernel
theorem dX12_bestToTell_53 : decode cX12_bestToTell 53 = .ok (.lstore_n 3, 1) := by decide +kernel
theorem dX12_bestToTell_54 : decode cX12_bestToTell 54 = .ok (.iinc 5 1, 3) := by decide +kernel
theorem dX12_bestToTell_57 : decode cX12_bestToTell 57 = .ok (.goto (-44), 3) := by decide +kernel
theorem dX12_bestToTell_60 : decode cX12_bestToTell 60 = .ok (.iload_n 2, 1) := by decide +kernel
theorem dX12_bestToTell_61 : decode cX12_bestToTell 61 = .ok (.ireturn, 1) := by decide +kernel
theorem dX12_meanPetals_0 : decode cX12_meanPetals 0 = .ok (.aload_n 0, 1) := by decide +kernel
theorem dX12_meanPetals_1 : decode cX12_meanPetals 1 = .ok (.getfield 49, 3) := by decide +kernel
theorem dX12_meanPetals_4 : decode cX12_meanPetals 4 = .ok (.getfield 137, 3) := by decide +kernel
theorem dX12_meanPetals_7 : decode cX12_meanPetals 7 = .ok (.ifCond .ne 5, 3) := by decide +kernel
theorem dX12_meanPetals_10 : decode cX12_meanPetals 10 = .ok (.dconst 0, 1) := by decide +kernel
theorem dX12_meanPetals_11 : decode cX12_meanPetals 11 = .ok (.dreturn, 1) := by decide +kernel
theorem dX12_meanPetals_12 : decode cX12_meanPetals 12 = .ok (.aload_n 0, 1) := by decide +kernel
theorem dX12_meanPetals_13 : decode cX12_meanPetals 13 = .ok (.getfield 49, 3) := by decide +kernel
theorem dX12_meanPetals_16 : decode cX12_meanPetals 16 = .ok (.invokevirtual 272, 3) := by decide +kernel
theorem dX12_meanPetals_19 : decode cX12_meanPetals 19 = .ok (.l2d, 1) := by decide +kernel
theorem dX12_meanPetals_20 : decode cX12_meanPetals 20 = .ok (.aload_n 0, 1) := by decide +kernel
theorem dX12_meanPetals_21 : decode cX12_meanPetals 21 = .ok (.getfield 49, 3) := by decide +kernel
theorem dX12_meanPetals_24 : decode cX12_meanPetals 24 = .ok (.getfield 137, 3) := by decide +kernel
theorem dX12_meanPetals_27 : decode cX12_meanPetals 27 = .ok (.i2d, 1) := by decide +kernel
theorem dX12_meanPetals_28 : decode cX12_meanPetals 28 = .ok (.ddiv, 1) := by decide +kernel
theorem dX12_meanPetals_29 : decode cX12_meanPetals 29 = .ok (.dreturn, 1) := by decide +kernel
theorem dX12_digest_0 : decode cX12_digest 0 = .ok (.ldc2_w 276, 3) := by decide +kernel
theorem dX12_digest_3 : decode cX12_digest 3 = .ok (.lstore_n 1, 1) := by decide +kernel
theorem dX12_digest_4 : decode cX12_digest 4 = .ok (.lload_n 1, 1) := by decide +kernel
theorem dX12_digest_5 : decode cX12_digest 5 = .ok (.aload_n 0, 1) := by decide +kernel
theorem dX12_digest_6 : decode cX12_digest 6 = .ok (.getfield 49, 3) := by decide +kernel
theorem dX12_digest_9 : decode cX12_digest 9 = .ok (.getfield 134, 3) := by decide +kernel
theorem dX12_digest_12 : decode cX12_digest 12 = .ok (.invokestatic 278, 3) := by decide +kernel
theorem dX12_digest_15 : decode cX12_digest 15 = .ok (.lstore_n 1, 1) := by decide +kernel
theorem dX12_digest_16 : decode cX12_digest 16 = .ok (.lload_n 1, 1) := by decide +kernel
theorem dX12_digest_17 : decode cX12_digest 17 = .ok (.aload_n 0, 1) := by decide +kernel
theorem dX12_digest_18 : decode cX12_digest 18 = .ok (.getfield 49, 3) := by decide +kernel
theorem dX12_digest_21 : decode cX12_digest 21 = .ok (.getfield 137, 3) := by decide +kernel
theorem dX12_digest_24 : decode cX12_digest 24 = .ok (.invokestatic 278, 3) := by decide +kernel
theorem dX12_digest_27 : decode cX12_digest 27 = .ok (.lstore_n 1, 1) := by decide +kernel
theorem dX12_digest_28 : decode cX12_digest 28 = .ok (.lload_n 1, 1) := by decide +kernel
theorem dX12_digest_29 : decode cX12_digest 29 = .ok (.aload_n 0, 1) := by decide +kernel
theorem dX12_digest_30 : decode cX12_digest 30 = .ok (.getfield 49, 3) := by decide +kernel
theorem dX12_digest_33 : decode cX12_digest 33 = .ok (.getfield 140, 3) := by decide +kernel
theorem dX12_digest_36 : decode cX12_digest 36 = .ok (.invokestatic 278, 3) := by decide +kernel
theorem dX12_digest_39 : decode cX12_digest 39 = .ok (.lstore_n 1, 1) := by decide +kernel
theorem dX12_digest_40 : decode cX12_digest 40 = .ok (.lload_n 1, 1) := by decide +kernel
theorem dX12_digest_41 : decode cX12_digest 41 = .ok (.aload_n 0, 1) := by decide +kernel
theorem dX12_digest_42 : decode cX12_digest 42 = .ok (.getfield 49, 3) := by decide +kernel
theorem dX12_digest_45 : decode cX12_digest 45 = .ok (.getfield 143, 3) := by decide +kernel
theorem dX12_digest_48 : decode cX12_digest 48 = .ok (.invokestatic 278, 3) := by decide +kernel
theorem dX12_digest_51 : decode cX12_digest 51 = .ok (.lstore_n 1, 1) := by decide +kernel
theorem dX12_digest_52 : decode cX12_digest 52 = .ok (.lload_n 1, 1) := by decide +kernel
theorem dX12_digest_53 : decode cX12_digest 53 = .ok (.aload_n 0, 1) := by decide +kernel
theorem dX12_digest_54 : decode cX12_digest 54 = .ok (.getfield 49, 3) := by decide +kernel
theorem dX12_digest_57 : decode cX12_digest 57 = .ok (.getfield 146, 3) := by decide +kernel
theorem dX12_digest_60 : decode cX12_digest 60 = .ok (.invokestatic 278, 3) := by decide +kernel
theorem dX12_digest_63 : decode cX12_digest 63 = .ok (.lstore_n 1, 1) := by decide +kernel
theorem dX12_digest_64 : decode cX12_digest 64 = .ok (.lload_n 1, 1) := by decide +kernel
theorem dX12_digest_65 : decode cX12_digest 65 = .ok (.aload_n 0, 1) := by decide +kernel
theorem dX12_digest_66 : decode cX12_digest 66 = .ok (.getfield 49, 3) := by decide +kernel
theorem dX12_digest_69 : decode cX12_digest 69 = .ok (.getfield 149, 3) := by decide +kernel
theorem dX12_digest_72 : decode cX12_digest 72 = .ok (.invokestatic 278, 3) := by decide +kernel
theorem dX12_digest_75 : decode cX12_digest 75 = .ok (.lstore_n 1, 1) := by decide +kernel
theorem dX12_digest_76 : decode cX12_digest 76 = .ok (.lload_n 1, 1) := by decide +kernel
theorem dX12_digest_77 : decode cX12_digest 77 = .ok (.aload_n 0, 1) := by decide +kernel
theorem dX12_digest_78 : decode cX12_digest 78 = .ok (.getfield 49, 3) := by decide +kernel
theorem dX12_digest_81 : decode cX12_digest 81 = .ok (.getfield 152, 3) := by decide +kernel
theorem dX12_digest_84 : decode cX12_digest 84 = .ok (.invokestatic 278, 3) := by decide +kernel
theorem dX12_digest_87 : decode cX12_digest 87 = .ok (.lstore_n 1, 1) := by decide +kernel
theorem dX12_digest_88 : decode cX12_digest 88 = .ok (.lload_n 1, 1) := by decide +kernel
theorem dX12_digest_89 : decode cX12_digest 89 = .ok (.aload_n 0, 1) := by decide +kernel
theorem dX12_digest_90 : decode cX12_digest 90 = .ok (.getfield 49, 3) := by decide +kernel
theorem dX12_digest_93 : decode cX12_digest 93 = .ok (.invokevirtual 202, 3) := by decide +kernel
theorem dX12_digest_96 : decode cX12_digest 96 = .ok (.invokestatic 278, 3) := by decide +kernel
theorem dX12_digest_99 : decode cX12_digest 99 = .ok (.lstore_n 1, 1) := by decide +kernel
theorem dX12_digest_100 : decode cX12_digest 100 = .ok (.lload_n 1, 1) := by decide +kernel
theorem dX12_digest_101 : decode cX12_digest 101 = .ok (.aload_n 0, 1) := by decide +kernel
theorem dX12_digest_102 : decode cX12_digest 102 = .ok (.bipush 20, 2) := by decide +kernel
theorem dX12_digest_104 : decode cX12_digest 104 = .ok (.invokevirtual 282, 3) := by decide +kernel
theorem dX12_digest_107 : decode cX12_digest 107 = .ok (.invokestatic 278, 3) := by decide +kernel
theorem dX12_digest_110 : decode cX12_digest 110 = .ok (.lstore_n 1, 1) := by decide +kernel
theorem dX12_digest_111 : decode cX12_digest 111 = .ok (.iconst 0, 1) := by decide +kernel
theorem dX12_digest_112 : decode cX12_digest 112 = .ok (.istore_n 3, 1) := by decide +kernel
theorem dX12_digest_113 : decode cX12_digest 113 = .ok (.iload_n 3, 1) := by decide +kernel
theorem dX12_digest_114 : decode cX12_digest 114 = .ok (.aload_n 0, 1) := by decide +kernel
theorem dX12_digest_115 : decode cX12_digest 115 = .ok (.getfield 49, 3) := by decide +kernel
theorem dX12_digest_118 : decode cX12_digest 118 = .ok (.getfield 134, 3) := by decide +kernel
theorem dX12_digest_121 : decode cX12_digest 121 = .ok (.if_icmp .ge 16, 3) := by decide +kernel
theorem dX12_digest_124 : decode cX12_digest 124 = .ok (.aload_n 0, 1) := by decide +kernel
theorem dX12_digest_125 : decode cX12_digest 125 = .ok (.lload_n 1, 1) := by decide +kernel
theorem dX12_digest_126 : decode cX12_digest 126 = .ok (.iload_n 3, 1) := by decide +kernel
theorem dX12_digest_127 : decode cX12_digest 127 = .ok (.invokevirtual 285, 3) := by decide +kernel
theorem dX12_digest_130 : decode cX12_digest 130 = .ok (.lstore_n 1, 1) := by decide +kernel
theorem dX12_digest_131 : decode cX12_digest 131 = .ok (.iinc 3 1, 3) := by decide +kernel
theorem dX12_digest_134 : decode cX12_digest 134 = .ok (.goto (-21), 3) := by decide +kernel
theorem dX12_digest_137 : decode cX12_digest 137 = .ok (.iconst 0, 1) := by decide +kernel
theorem dX12_digest_138 : decode cX12_digest 138 = .ok (.istore_n 3, 1) := by decide +kernel
theorem dX12_digest_139 : decode cX12_digest 139 = .ok (.iload_n 3, 1) := by decide +kernel
theorem dX12_digest_140 : decode cX12_digest 140 = .ok (.aload_n 0, 1) := by decide +kernel
theorem dX12_digest_141 : decode cX12_digest 141 = .ok (.getfield 49, 3) := by decide +kernel
theorem dX12_digest_144 : decode cX12_digest 144 = .ok (.getfield 137, 3) := by decide +kernel
theorem dX12_digest_147 : decode cX12_digest 147 = .ok (.if_icmp .ge 39, 3) := by decide +kernel
theorem dX12_digest_150 : decode cX12_digest 150 = .ok (.lload_n 1, 1) := by decide +kernel
theorem dX12_digest_151 : decode cX12_digest 151 = .ok (.aload_n 0, 1) := by decide +kernel
theorem dX12_digest_152 : decode cX12_digest 152 = .ok (.iload_n 3, 1) := by decide +kernel
theorem dX12_digest_153 : decode cX12_digest 153 = .ok (.invokevirtual 288, 3) := by decide +kernel
theorem dX12_digest_156 : decode cX12_digest 156 = .ok (.invokestatic 278, 3) := by decide +kernel
theorem dX12_digest_159 : decode cX12_digest 159 = .ok (.lstore_n 1, 1) := by decide +kernel
theorem dX12_digest_160 : decode cX12_digest 160 = .ok (.lload_n 1, 1) := by decide +kernel
theorem dX12_digest_161 : decode cX12_digest 161 = .ok (.aload_n 0, 1) := by decide +kernel
theorem dX12_digest_162 : decode cX12_digest 162 = .ok (.iload_n 3, 1) := by decide +kernel
theorem dX12_digest_163 : decode cX12_digest 163 = .ok (.invokevirtual 291, 3) := by decide +kernel
theorem dX12_digest_166 : decode cX12_digest 166 = .ok (.invokestatic 278, 3) := by decide +kernel
theorem dX12_digest_169 : decode cX12_digest 169 = .ok (.lstore_n 1, 1) := by decide +kernel
theorem dX12_digest_170 : decode cX12_digest 170 = .ok (.lload_n 1, 1) := by decide +kernel
theorem dX12_digest_171 : decode cX12_digest 171 = .ok (.aload_n 0, 1) := by decide +kernel
theorem dX12_digest_172 : decode cX12_digest 172 = .ok (.iload_n 3, 1) := by decide +kernel
theorem dX12_digest_173 : decode cX12_digest 173 = .ok (.invokevirtual 294, 3) := by decide +kernel
theorem dX12_digest_176 : decode cX12_digest 176 = .ok (.invokestatic 278, 3) := by decide +kernel
theorem dX12_digest_179 : decode cX12_digest 179 = .ok (.lstore_n 1, 1) := by decide +kernel
theorem dX12_digest_180 : decode cX12_digest 180 = .ok (.iinc 3 1, 3) := by decide +kernel
theorem dX12_digest_183 : decode cX12_digest 183 = .ok (.goto (-44), 3) := by decide +kernel
theorem dX12_digest_186 : decode cX12_digest 186 = .ok (.lload_n 1, 1) := by decide +kernel
theorem dX12_digest_187 : decode cX12_digest 187 = .ok (.lreturn, 1) := by decide +kernel
theorem dX12_digestedHedge_0 : decode cX12_digestedHedge 0 = .ok (.lload_n 1, 1) := by decide +kernel
theorem dX12_digestedHedge_1 : decode cX12_digestedHedge 1 = .ok (.aload_n 0, 1) := by decide +kernel
theorem dX12_digestedHedge_2 : decode cX12_digestedHedge 2 = .ok (.iload_n 3, 1) := by decide +kernel
theorem dX12_digestedHedge_3 : decode cX12_digestedHedge 3 = .ok (.invokevirtual 297, 3) := by decide +kernel
theorem dX12_digestedHedge_6 : decode cX12_digestedHedge 6 = .ok (.invokestatic 278, 3) := by decide +kernel
theorem dX12_digestedHedge_9 : decode cX12_digestedHedge 9 = .ok (.lstore 4, 2) := by decide +kernel
theorem dX12_digestedHedge_11 : decode cX12_digestedHedge 11 = .ok (.lload 4, 2) := by decide +kernel
theorem dX12_digestedHedge_13 : decode cX12_digestedHedge 13 = .ok (.aload_n 0, 1) := by decide +kernel
theorem dX12_digestedHedge_14 : decode cX12_digestedHedge 14 = .ok (.iload_n 3, 1) := by decide +kernel
theorem dX12_digestedHedge_15 : decode cX12_digestedHedge 15 = .ok (.invokevirtual 300, 3) := by decide +kernel
theorem dX12_digestedHedge_18 : decode cX12_digestedHedge 18 = .ok (.invokestatic 278, 3) := by decide +kernel
theorem dX12_digestedHedge_21 : decode cX12_digestedHedge 21 = .ok (.lstore 4, 2) := by decide +kernel
theorem dX12_digestedHedge_23 : decode cX12_digestedHedge 23 = .ok (.lload 4, 2) := by decide +kernel
theorem dX12_digestedHedge_25 : decode cX12_digestedHedge 25 = .ok (.aload_n 0, 1) := by decide +kernel
theorem dX12_digestedHedge_26 : decode cX12_digestedHedge 26 = .ok (.iload_n 3, 1) := by decide +kernel
theorem dX12_digestedHedge_27 : decode cX12_digestedHedge 27 = .ok (.invokevirtual 303, 3) := by decide +kernel
theorem dX12_digestedHedge_30 : decode cX12_digestedHedge 30 = .ok (.invokestatic 278, 3) := by decide +kernel
theorem dX12_digestedHedge_33 : decode cX12_digestedHedge 33 = .ok (.lstore 4, 2) := by decide +kernel
theorem dX12_digestedHedge_35 : decode cX12_digestedHedge 35 = .ok (.iconst 0, 1) := by decide +kernel
theorem dX12_digestedHedge_36 : decode cX12_digestedHedge 36 = .ok (.istore 6, 2) := by decide +kernel
theorem dX12_digestedHedge_38 : decode cX12_digestedHedge 38 = .ok (.iload 6, 2) := by decide +kernel
theorem dX12_digestedHedge_40 : decode cX12_digestedHedge 40 = .ok (.aload_n 0, 1) := by decide +kernel
theorem dX12_digestedHedge_41 : decode cX12_digestedHedge 41 = .ok (.getfield 49, 3) := by decide +kernel
theorem dX12_digestedHedge_44 : decode cX12_digestedHedge 44 = .ok (.getfield 134, 3) := by decide +kernel
theorem dX12_digestedHedge_47 : decode cX12_digestedHedge 47 = .ok (.if_icmp .ge 23, 3) := by decide +kernel
theorem dX12_digestedHedge_50 : decode cX12_digestedHedge 50 = .ok (.lload 4, 2) := by decide +kernel
theorem dX12_digestedHedge_52 : decode cX12_digestedHedge 52 = .ok (.aload_n 0, 1) := by decide +kernel
theorem dX12_digestedHedge_53 : decode cX12_digestedHedge 53 = .ok (.iload 6, 2) := by decide +kernel
theorem dX12_digestedHedge_55 : decode cX12_digestedHedge 55 = .ok (.iload_n 3, 1) := by decide +kernel
theorem dX12_digestedHedge_56 : decode cX12_digestedHedge 56 = .ok (.invokevirtual 306, 3) := by decide +kernel
theorem dX12_digestedHedge_59 : decode cX12_digestedHedge 59 = .ok (.invokestatic 278, 3) := by decide +kernel
theorem dX12_digestedHedge_62 : decode cX12_digestedHedge 62 = .ok (.lstore 4, 2) := by decide +kernel
theorem dX12_digestedHedge_64 : decode cX12_digestedHedge 64 = .ok (.iinc 6 1, 3) := by decide +kernel
theorem dX12_digestedHedge_67 : decode cX12_digestedHedge 67 = .ok (.goto (-29), 3) := by decide +kernel
theorem dX12_digestedHedge_70 : decode cX12_digestedHedge 70 = .ok (.iconst 0, 1) := by decide +kernel
theorem dX12_digestedHedge_71 : decode cX12_digestedHedge 71 = .ok (.istore 6, 2) := by decide +kernel
theorem dX12_digestedHedge_73 : decode cX12_digestedHedge 73 = .ok (.iload 6, 2) := by decide +kernel
theorem dX12_digestedHedge_75 : decode cX12_digestedHedge 75 = .ok (.aload_n 0, 1) := by decide +kernel
theorem dX12_digestedHedge_76 : decode cX12_digestedHedge 76 = .ok (.getfield 49, 3) := by decide +kernel
theorem dX12_digestedHedge_79 : decode cX12_digestedHedge 79 = .ok (.getfield 137, 3) := by decide +kernel
theorem dX12_digestedHedge_82 : decode cX12_digestedHedge 82 = .ok (.if_icmp .ge 23, 3) := by decide +kernel
theorem dX12_digestedHedge_85 : decode cX12_digestedHedge 85 = .ok (.lload 4, 2) := by decide +kernel
theorem dX12_digestedHedge_87 : decode cX12_digestedHedge 87 = .ok (.aload_n 0, 1) := by decide +kernel
theorem dX12_digestedHedge_88 : decode cX12_digestedHedge 88 = .ok (.iload 6, 2) := by decide +kernel
theorem dX12_digestedHedge_90 : decode cX12_digestedHedge 90 = .ok (.iload_n 3, 1) := by decide +kernel
theorem dX12_digestedHedge_91 : decode cX12_digestedHedge 91 = .ok (.invokevirtual 309, 3) := by decide +kernel
theorem dX12_digestedHedge_94 : decode cX12_digestedHedge 94 = .ok (.invokestatic 278, 3) := by decide +kernel
theorem dX12_digestedHedge_97 : decode cX12_digestedHedge 97 = .ok (.lstore 4, 2) := by decide +kernel
theorem dX12_digestedHedge_99 : decode cX12_digestedHedge 99 = .ok (.iinc 6 1, 3) := by decide +kernel
theorem dX12_digestedHedge_102 : decode cX12_digestedHedge 102 = .ok (.goto (-29), 3) := by decide +kernel
theorem dX12_digestedHedge_105 : decode cX12_digestedHedge 105 = .ok (.lload 4, 2) := by decide +kernel
theorem dX12_digestedHedge_107 : decode cX12_digestedHedge 107 = .ok (.lreturn, 1) := by decide +kernel
theorem dX12_digested_0 : decode cX12_digested 0 = .ok (.lload_n 0, 1) := by decide +kernel
theorem dX12_digested_1 : decode cX12_digested 1 = .ok (.ldc2_w 312, 3) := by decide +kernel
theorem dX12_digested_4 : decode cX12_digested 4 = .ok (.lmul, 1) := by decide +kernel
theorem dX12_digested_5 : decode cX12_digested 5 = .ok (.iload_n 2, 1) := by decide +kernel
theorem dX12_digested_6 : decode cX12_digested 6 = .ok (.i2l, 1) := by decide +kernel
theorem dX12_digested_7 : decode cX12_digested 7 = .ok (.ladd, 1) := by decide +kernel
theorem dX12_digested_8 : decode cX12_digested 8 = .ok (.lreturn, 1) := by decide +kernel
theorem dX12_needDays_0 : decode cX12_needDays 0 = .ok (.iload_n 0, 1) := by decide +kernel
theorem dX12_needDays_1 : decode cX12_needDays 1 = .ok (.iconst 1, 1) := by decide +kernel
theorem dX12_needDays_2 : decode cX12_needDays 2 = .ok (.if_icmp .lt 9, 3) := by decide +kernel
theorem dX12_needDays_5 : decode cX12_needDays 5 = .ok (.iload_n 0, 1) := by decide +kernel
theorem dX12_needDays_6 : decode cX12_needDays 6 = .ok (.bipush 30, 2) := by decide +kernel
theorem dX12_needDays_8 : decode cX12_needDays 8 = .ok (.if_icmp .le 14, 3) := by decide +kernel
theorem dX12_needDays_11 : decode cX12_needDays 11 = .ok (.new 93, 3) := by decide +kernel
theorem dX12_needDays_14 : decode cX12_needDays 14 = .ok (.dup, 1) := by decide +kernel
theorem dX12_needDays_15 : decode cX12_needDays 15 = .ok (.ldc_w 314, 3) := by decide +kernel
theorem dX12_needDays_18 : decode cX12_needDays 18 = .ok (.invokespecial 97, 3) := by decide +kernel
theorem dX12_needDays_21 : decode cX12_needDays 21 = .ok (.athrow, 1) := by decide +kernel
theorem dX12_needDays_22 : decode cX12_needDays 22 = .ok (.return_, 1) := by decide +kernel
theorem dX12_tryTelling_0 : decode cX12_tryTelling 0 = .ok (.aload_n 0, 1) := by decide +kernel
theorem dX12_tryTelling_1 : decode cX12_tryTelling 1 = .ok (.getfield 53, 3) := by decide +kernel
theorem dX12_tryTelling_4 : decode cX12_tryTelling 4 = .ok (.aload_n 0, 1) := by decide +kernel
theorem dX12_tryTelling_5 : decode cX12_tryTelling 5 = .ok (.getfield 49, 3) := by decide +kernel
theorem dX12_tryTelling_8 : decode cX12_tryTelling 8 = .ok (.invokevirtual 259, 3) := by decide +kernel
theorem dX12_tryTelling_11 : decode cX12_tryTelling 11 = .ok (.aload_n 0, 1) := by decide +kernel
theorem dX12_tryTelling_12 : decode cX12_tryTelling 12 = .ok (.getfield 33, 3) := by decide +kernel
theorem dX12_tryTelling_15 : decode cX12_tryTelling 15 = .ok (.aload_n 0, 1) := by decide +kernel
theorem dX12_tryTelling_16 : decode cX12_tryTelling 16 = .ok (.getfield 53, 3) := by decide +kernel
theorem dX12_tryTelling_19 : decode cX12_tryTelling 19 = .ok (.iload_n 1, 1) := by decide +kernel
theorem dX12_tryTelling_20 : decode cX12_tryTelling 20 = .ok (.iload_n 2, 1) := by decide +kernel
theorem dX12_tryTelling_21 : decode cX12_tryTelling 21 = .ok (.invokevirtual 232, 3) := by decide +kernel
theorem dX12_tryTelling_24 : decode cX12_tryTelling 24 = .ok (.pop, 1) := by decide +kernel
theorem dX12_tryTelling_25 : decode cX12_tryTelling 25 = .ok (.return_, 1) := by decide +kernel
theorem dX13_init_0 : decode cX13_init 0 = .ok (.aload_n 0, 1) := by decide +kernel
theorem dX13_init_1 : decode cX13_init 1 = .ok (.invokespecial 3, 3) := by decide +kernel
theorem dX13_init_4 : decode cX13_init 4 = .ok (.aload_n 0, 1) := by decide +kernel
theorem dX13_init_5 : decode cX13_init 5 = .ok (.bipush 8, 2) := by decide +kernel
theorem dX13_init_7 : decode cX13_init 7 = .ok (.newarray .int, 2) := by decide +kernel
theorem dX13_init_9 : decode cX13_init 9 = .ok (.putfield 9, 3) := by decide +kernel
theorem dX13_init_12 : decode cX13_init 12 = .ok (.aload_n 0, 1) := by decide +kernel
theorem dX13_init_13 : decode cX13_init 13 = .ok (.bipush 8, 2) := by decide +kernel
theorem dX13_init_15 : decode cX13_init 15 = .ok (.newarray .int, 2) := by decide +kernel
theorem dX13_init_17 : decode cX13_init 17 = .ok (.putfield 15, 3) := by decide +kernel
theorem dX13_init_20 : decode cX13_init 20 = .ok (.aload_n 0, 1) := by decide +kernel
theorem dX13_init_21 : decode cX13_init 21 = .ok (.bipush 16, 2) := by decide +kernel
theorem dX13_init_23 : decode cX13_init 23 = .ok (.newarray .int, 2) := by decide +kernel
theorem dX13_init_25 : decode cX13_init 25 = .ok (.putfield 18, 3) := by decide +kernel
theorem dX13_init_28 : decode cX13_init 28 = .ok (.aload_n 0, 1) := by decide +kernel
theorem dX13_init_29 : decode cX13_init 29 = .ok (.bipush 16, 2) := by decide +kernel
theorem dX13_init_31 : decode cX13_init 31 = .ok (.newarray .int, 2) := by decide +kernel
theorem dX13_init_33 : decode cX13_init 33 = .ok (.putfield 21, 3) := by decide +kernel
theorem dX13_init_36 : decode cX13_init 36 = .ok (.aload_n 0, 1) := by decide +kernel
theorem dX13_init_37 : decode cX13_init 37 = .ok (.bipush 16, 2) := by decide +kernel
theorem dX13_init_39 : decode cX13_init 39 = .ok (.newarray .int, 2) := by decide +kernel
theorem dX13_init_41 : decode cX13_init 41 = .ok (.putfield 24, 3) := by decide +kernel
theorem dX13_init_44 : decode cX13_init 44 = .ok (.aload_n 0, 1) := by decide +kernel
theorem dX13_init_45 : decode cX13_init 45 = .ok (.bipush 17, 2) := by decide +kernel
theorem dX13_init_47 : decode cX13_init 47 = .ok (.newarray .int, 2) := by decide +kernel
theorem dX13_init_49 : decode cX13_init 49 = .ok (.putfield 27, 3) := by decide +kernel
theorem dX13_init_52 : decode cX13_init 52 = .ok (.aload_n 0, 1) := by decide +kernel
theorem dX13_init_53 : decode cX13_init 53 = .ok (.bipush 17, 2) := by decide +kernel
theorem dX13_init_55 : decode cX13_init 55 = .ok (.newarray .int, 2) := by decide +kernel
theorem dX13_init_57 : decode cX13_init 57 = .ok (.putfield 30, 3) := by decide +kernel
theorem dX13_init_60 : decode cX13_init 60 = .ok (.aload_n 0, 1) := by decide +kernel
theorem dX13_init_61 : decode cX13_init 61 = .ok (.bipush 17, 2) := by decide +kernel
theorem dX13_init_63 : decode cX13_init 63 = .ok (.newarray .int, 2) := by decide +kernel
theorem dX13_init_65 : decode cX13_init 65 = .ok (.putfield 33, 3) := by decide +kernel
theorem dX13_init_68 : decode cX13_init 68 = .ok (.aload_n 0, 1) := by decide +kernel
theorem dX13_init_69 : decode cX13_init 69 = .ok (.sipush 800, 3) := by decide +kernel
theorem dX13_init_72 : decode cX13_init 72 = .ok (.newarray .int, 2) := by decide +kernel
theorem dX13_init_74 : decode cX13_init 74 = .ok (.putfield 36, 3) := by decide +kernel
theorem dX13_init_77 : decode cX13_init 77 = .ok (.aload_n 0, 1) := by decide +kernel
theorem dX13_init_78 : decode cX13_init 78 = .ok (.sipush 400, 3) := by decide +kernel
theorem dX13_init_81 : decode cX13_init 81 = .ok (.newarray .int, 2) := by decide +kernel
theorem dX13_init_83 : decode cX13_init 83 = .ok (.putfield 39, 3) := by decide +kernel
theorem dX13_init_86 : decode cX13_init 86 = .ok (.return_, 1) := by decide +kernel
theorem dX14_init_0 : decode cX14_init 0 = .ok (.aload_n 0, 1) := by decide +kernel
theorem dX14_init_1 : decode cX14_init 1 = .ok (.aload_n 1, 1) := by decide +kernel
theorem dX14_init_2 : decode cX14_init 2 = .ok (.putfield 3, 3) := by decide +kernel
theorem dX14_init_5 : decode cX14_init 5 = .ok (.aload_n 0, 1) := by decide +kernel
theorem dX14_init_6 : decode cX14_init 6 = .ok (.invokespecial 9, 3) := by decide +kernel
theorem dX14_init_9 : decode cX14_init 9 = .ok (.aload_n 0, 1) := by decide +kernel
theorem dX14_init_10 : decode cX14_init 10 = .ok (.sipush 128, 3) := by decide +kernel
theorem dX14_init_13 : decode cX14_init 13 = .ok (.newarray .int, 2) := by decide +kernel
theorem dX14_init_15 : decode cX14_init 15 = .ok (.putfield 15, 3) := by decide +kernel
theorem dX14_init_18 : decode cX14_init 18 = .ok (.aload_n 0, 1) := by decide +kernel
theorem dX14_init_19 : decode cX14_init 19 = .ok (.bipush 8, 2) := by decide +kernel
theorem dX14_init_21 : decode cX14_init 21 = .ok (.newarray .int, 2) := by decide +kernel
theorem dX14_init_23 : decode cX14_init 23 = .ok (.putfield 19, 3) := by decide +kernel
theorem dX14_init_26 : decode cX14_init 26 = .ok (.aload_n 0, 1) := by decide +kernel
theorem dX14_init_27 : decode cX14_init 27 = .ok (.bipush 8, 2) := by decide +kernel
theorem dX14_init_29 : decode cX14_init 29 = .ok (.newarray .int, 2) := by decide +kernel
theorem dX14_init_31 : decode cX14_init 31 = .ok (.putfield 22, 3) := by decide +kernel
theorem dX14_init_34 : decode cX14_init 34 = .ok (.aload_n 0, 1) := by decide +kernel
theorem dX14_init_35 : decode cX14_init 35 = .ok (.bipush 8, 2) := by decide +kernel
theorem dX14_init_37 : decode cX14_init 37 = .ok (.newarray .int, 2) := by decide +kernel
theorem dX14_init_39 : decode cX14_init 39 = .ok (.putfield 25, 3) := by decide +kernel
theorem dX14_init_42 : decode cX14_init 42 = .ok (.aload_n 0, 1) := by decide +kernel
theorem dX14_init_43 : decode cX14_init 43 = .ok (.bipush 8, 2) := by decide +kernel
theorem dX14_init_45 : decode cX14_init 45 = .ok (.newarray .int, 2) := by decide +kernel
theorem dX14_init_47 : decode cX14_init 47 = .ok (.putfield 28, 3) := by decide +kernel
theorem dX14_init_50 : decode cX14_init 50 = .ok (.aload_n 0, 1) := by decide +kernel
theorem dX14_init_51 : decode cX14_init 51 = .ok (.bipush 8, 2) := by decide +kernel
theorem dX14_init_53 : decode cX14_init 53 = .ok (.newarray .int, 2) := by decide +kernel
theorem dX14_init_55 : decode cX14_init 55 = .ok (.putfield 31, 3) := by decide +kernel
theorem dX14_init_58 : decode cX14_init 58 = .ok (.aload_n 0, 1) := by decide +kernel
theorem dX14_init_59 : decode cX14_init 59 = .ok (.bipush 8, 2) := by decide +kernel
theorem dX14_init_61 : decode cX14_init 61 = .ok (.newarray .int, 2) := by decide +kernel
theorem dX14_init_63 : decode cX14_init 63 = .ok (.putfield 34, 3) := by decide +kernel
theorem dX14_init_66 : decode cX14_init 66 = .ok (.return_, 1) := by decide +kernel
theorem dX14_become_0 : decode cX14_become 0 = .ok (.aload_n 0, 1) := by decide +kernel
theorem dX14_become_1 : decode cX14_become 1 = .ok (.aload_n 1, 1) := by decide +kernel
theorem dX14_become_2 : decode cX14_become 2 = .ok (.getfield 37, 3) := by decide +kernel
theorem dX14_become_5 : decode cX14_become 5 = .ok (.putfield 37, 3) := by decide +kernel
theorem dX14_become_8 : decode cX14_become 8 = .ok (.aload_n 0, 1) := by decide +kernel
theorem dX14_become_9 : decode cX14_become 9 = .ok (.aload_n 1, 1) := by decide +kernel
theorem dX14_become_10 : decode cX14_become 10 = .ok (.getfield 41, 3) := by decide +kernel
theorem dX14_become_13 : decode cX14_become 13 = .ok (.putfield 41, 3) := by decide +kernel
theorem dX14_become_16 : decode cX14_become 16 = .ok (.aload_n 0, 1) := by decide +kernel
theorem dX14_become_17 : decode cX14_become 17 = .ok (.aload_n 1, 1) := by decide +kernel
theorem dX14_become_18 : decode cX14_become 18 = .ok (.getfield 44, 3) := by decide +kernel
theorem dX14_become_21 : decode cX14_become 21 = .ok (.putfield 44, 3) := by decide +kernel
theorem dX14_become_24 : decode cX14_become 24 = .ok (.aload_n 0, 1) := by decide +kernel
theorem dX14_become_25 : decode cX14_become 25 = .ok (.aload_n 1, 1) := by decide +kernel
theorem dX14_become_26 : decode cX14_become 26 = .ok (.getfield 47, 3) := by decide +kernel
theorem dX14_become_29 : decode cX14_become 29 = .ok (.putfield 47, 3) := by decide +kernel
theorem dX14_become_32 : decode cX14_become 32 = .ok (.aload_n 1, 1) := by decide +kernel
theorem dX14_become_33 : decode cX14_become 33 = .ok (.getfield 15, 3) := by decide +kernel
theorem dX14_become_36 : decode cX14_become 36 = .ok (.iconst 0, 1) := by decide +kernel
theorem dX14_become_37 : decode cX14_become 37 = .ok (.aload_n 0, 1) := by decide +kernel
theorem dX14_become_38 : decode cX14_become 38 = .ok (.getfield 15, 3) := by decide +kernel
theorem dX14_become_41 : decode cX14_become 41 = .ok (.iconst 0, 1) := by decide +kernel
theorem dX14_become_42 : decode cX14_become 42 = .ok (.aload_n 0, 1) := by decide +kernel
theorem dX14_become_43 : decode cX14_become 43 = .ok (.getfield 15, 3) := by decide +kernel
theorem dX14_become_46 : decode cX14_become 46 = .ok (.arraylength, 1) := by decide +kernel
theorem dX14_become_47 : decode cX14_become 47 = .ok (.invokestatic 50, 3) := by decide +kernel
theorem dX14_become_50 : decode cX14_become 50 = .ok (.aload_n 1, 1) := by decide +kernel
theorem dX14_become_51 : decode cX14_become 51 = .ok (.getfield 19, 3) := by decide +kernel
theorem dX14_become_54 : decode cX14_become 54 = .ok (.iconst 0, 1) := by decide +kernel
theorem dX14_become_55 : decode cX14_become 55 = .ok (.aload_n 0, 1) := by decide +kernel
theorem dX14_become_56 : decode cX14_become 56 = .ok (.getfield 19, 3) := by decide +kernel
theorem dX14_become_59 : decode cX14_become 59 = .ok (.iconst 0, 1) := by decide +kernel
theorem dX14_become_60 : decode cX14_become 60 = .ok (.bipush 8, 2) := by decide +kernel
theorem dX14_become_62 : decode cX14_become 62 = .ok (.invokestatic 50, 3) := by decide +kernel
theorem dX14_become_65 : decode cX14_become 65 = .ok (.aload_n 1, 1) := by decide +kernel
theorem dX14_become_66 : decode cX14_become 66 = .ok (.getfield 22, 3) := by decide +kernel
theorem dX14_become_69 : decode cX14_become 69 = .ok (.iconst 0, 1) := by decide +kernel
theorem dX14_become_70 : decode cX14_become 70 = .ok (.aload_n 0, 1) := by decide +kernel
theorem dX14_become_71 : decode cX14_become 71 = .ok (.getfield 22, 3) := by decide +kernel
theorem dX14_become_74 : decode cX14_become 74 = .ok (.iconst 0, 1) := by decide +kernel
theorem dX14_become_75 : decode cX14_become 75 = .ok (.bipush 8, 2) := by decide +kernel
theorem dX14_become_77 : decode cX14_become 77 = .ok (.invokestatic 50, 3) := by decide +kernel
theorem dX14_become_80 : decode cX14_become 80 = .ok (.aload_n 1, 1) := by decide +kernel
theorem dX14_become_81 : decode cX14_become 81 = .ok (.getfield 25, 3) := by decide +kernel
theorem dX14_become_84 : decode cX14_become 84 = .ok (.iconst 0, 1) := by decide +kernel
theorem dX14_become_85 : decode cX14_become 85 = .ok (.aload_n 0, 1) := by decide +kernel
theorem dX14_become_86 : decode cX14_become 86 = .ok (.getfield 25, 3) := by decide +kernel
theorem dX14_become_89 : decode cX14_become 89 = .ok (.iconst 0, 1) := by decide +kernel
theorem dX14_become_90 : decode cX14_become 90 = .ok (.bipush 8, 2) := by decide +kernel
theorem dX14_become_92 : decode cX14_become 92 = .ok (.invokestatic 50, 3) := by decide +kernel
theorem dX14_become_95 : decode cX14_become 95 = .ok (.aload_n 1, 1) := by decide +kernel
theorem dX14_become_96 : decode cX14_become 96 = .ok (.getfield 28, 3) := by decide +kernel
theorem dX14_become_99 : decode cX14_become 99 = .ok (.iconst 0, 1) := by decide +kernel
theorem dX14_become_100 : decode cX14_become 100 = .ok (.aload_n 0, 1) := by decide +kernel
theorem dX14_become_101 : decode cX14_become 101 = .ok (.getfield 28, 3) := by decide +kernel
theorem dX14_become_104 : decode cX14_become 104 = .ok (.iconst 0, 1) := by decide +kernel
theorem dX14_become_105 : decode cX14_become 105 = .ok (.bipush 8, 2) := by decide +kernel
theorem dX14_become_107 : decode cX14_become 107 = .ok (.invokestatic 50, 3) := by decide +kernel
theorem dX14_become_110 : decode cX14_become 110 = .ok (.aload_n 1, 1) := by decide +kernel
theorem dX14_become_111 : decode cX14_become 111 = .ok (.getfield 31, 3) := by decide +kernel
theorem dX14_become_114 : decode cX14_become 114 = .ok (.iconst 0, 1) := by decide +kernel
theorem dX14_become_115 : decode cX14_become 115 = .ok (.aload_n 0, 1) := by decide +kernel
theorem dX14_become_116 : decode cX14_become 116 = .ok (.getfield 31, 3) := by decide +kernel
theorem dX14_become_119 : decode cX14_become 119 = .ok (.iconst 0, 1) := by decide +kernel
theorem dX14_become_120 : decode cX14_become 120 = .ok (.bipush 8, 2) := by decide +kernel
theorem dX14_become_122 : decode cX14_become 122 = .ok (.invokestatic 50, 3) := by decide +kernel
theorem dX14_become_125 : decode cX14_become 125 = .ok (.aload_n 1, 1) := by decide +kernel
theorem dX14_become_126 : decode cX14_become 126 = .ok (.getfield 34, 3) := by decide +kernel
theorem dX14_become_129 : decode cX14_become 129 = .ok (.iconst 0, 1) := by decide +kernel
theorem dX14_become_130 : decode cX14_become 130 = .ok (.aload_n 0, 1) := by decide +kernel
theorem dX14_become_131 : decode cX14_become 131 = .ok (.getfield 34, 3) := by decide +kernel
theorem dX14_become_134 : decode cX14_become 134 = .ok (.iconst 0, 1) := by decide +kernel
theorem dX14_become_135 : decode cX14_become 135 = .ok (.bipush 8, 2) := by decide +kernel
theorem dX14_become_137 : decode cX14_become 137 = .ok (.invokestatic 50, 3) := by decide +kernel
theorem dX14_become_140 : decode cX14_become 140 = .ok (.aload_n 0, 1) := by decide +kernel
theorem dX14_become_141 : decode cX14_become 141 = .ok (.areturn, 1) := by decide +kernel
theorem dX14_begin_0 : decode cX14_begin 0 = .ok (.aload_n 0, 1) := by decide +kernel
theorem dX14_begin_1 : decode cX14_begin 1 = .ok (.new 4, 3) := by decide +kernel
theorem dX14_begin_4 : decode cX14_begin 4 = .ok (.dup, 1) := by decide +kernel
theorem dX14_begin_5 : decode cX14_begin 5 = .ok (.aload_n 0, 1) := by decide +kernel
theorem dX14_begin_6 : decode cX14_begin 6 = .ok (.getfield 3, 3) := by decide +kernel
theorem dX14_begin_9 : decode cX14_begin 9 = .ok (.invokespecial 56, 3) := by decide +kernel
theorem dX14_begin_12 : decode cX14_begin 12 = .ok (.invokevirtual 59, 3) := by decide +kernel
theorem dX14_begin_15 : decode cX14_begin 15 = .ok (.pop, 1) := by decide +kernel
theorem dX14_begin_16 : decode cX14_begin 16 = .ok (.return_, 1) := by decide +kernel
theorem dX14_at_0 : decode cX14_at 0 = .ok (.bipush 16, 2) := by decide +kernel
theorem dX14_at_2 : decode cX14_at 2 = .ok (.iload_n 1, 1) := by decide +kernel
theorem dX14_at_3 : decode cX14_at 3 = .ok (.imul, 1) := by decide +kernel
theorem dX14_at_4 : decode cX14_at 4 = .ok (.iload_n 2, 1) := by decide +kernel
theorem dX14_at_5 : decode cX14_at 5 = .ok (.iadd, 1) := by decide +kernel
theorem dX14_at_6 : decode cX14_at 6 = .ok (.ireturn, 1) := by decide +kernel
theorem dX14_placeIn_0 : decode cX14_placeIn 0 = .ok (.iconst 0, 1) := by decide +kernel
theorem dX14_placeIn_1 : decode cX14_placeIn 1 = .ok (.istore_n 3, 1) := by decide +kernel
theorem dX14_placeIn_2 : decode cX14_placeIn 2 = .ok (.iload_n 3, 1) := by decide +kernel
theorem dX14_placeIn_3 : decode cX14_placeIn 3 = .ok (.aload_n 0, 1) := by decide +kernel
theorem dX14_placeIn_4 : decode cX14_placeIn 4 = .ok (.getfield 19, 3) := by decide +kernel
theorem dX14_placeIn_7 : decode cX14_placeIn 7 = .ok (.iload_n 2, 1) := by decide +kernel
theorem dX14_placeIn_8 : decode cX14_placeIn 8 = .ok (.iaload, 1) := by decide +kernel
theorem dX14_placeIn_9 : decode cX14_placeIn 9 = .ok (.if_icmp .ge 26, 3) := by decide +kernel
theorem dX14_placeIn_12 : decode cX14_placeIn 12 = .ok (.aload_n 0, 1) := by decide +kernel
theorem dX14_placeIn_13 : decode cX14_placeIn 13 = .ok (.getfield 15, 3) := by decide +kernel
theorem dX14_placeIn_16 : decode cX14_placeIn 16 = .ok (.aload_n 0, 1) := by decide +kernel
theorem dX14_placeIn_17 : decode cX14_placeIn 17 = .ok (.iload_n 2, 1) := by decide +kernel
theorem dX14_placeIn_18 : decode cX14_placeIn 18 = .ok (.iload_n 3, 1) := by decide +kernel
theorem dX14_placeIn_19 : decode cX14_placeIn 19 = .ok (.invokevirtual 63, 3) := by decide +kernel
theorem dX14_placeIn_22 : decode cX14_placeIn 22 = .ok (.iaload, 1) := by decide +kernel
theorem dX14_placeIn_23 : decode cX14_placeIn 23 = .ok (.iload_n 1, 1) := by decide +kernel
theorem dX14_placeIn_24 : decode cX14_placeIn 24 = .ok (.if_icmp .ne 5, 3) := by decide +kernel
theorem dX14_placeIn_27 : decode cX14_placeIn 27 = .ok (.iload_n 3, 1) := by decide +kernel
theorem dX14_placeIn_28 : decode cX14_placeIn 28 = .ok (.ireturn, 1) := by decide +kernel
theorem dX14_placeIn_29 : decode cX14_placeIn 29 = .ok (.iinc 3 1, 3) := by decide +kernel
theorem dX14_placeIn_32 : decode cX14_placeIn 32 = .ok (.goto (-30), 3) := by decide +kernel
theorem dX14_placeIn_35 : decode cX14_placeIn 35 = .ok (.iconst (-1), 1) := by decide +kernel
theorem dX14_placeIn_36 : decode cX14_placeIn 36 = .ok (.ireturn, 1) := by decide +kernel
theorem dX14_canListen_0 : decode cX14_canListen 0 = .ok (.iload_n 1, 1) := by decide +kernel
theorem dX14_canListen_1 : decode cX14_canListen 1 = .ok (.iload_n 2, 1) := by decide +kernel
theorem dX14_canListen_2 : decode cX14_canListen 2 = .ok (.if_icmp .eq 17, 3) := by decide +kernel
theorem dX14_canListen_5 : decode cX14_canListen 5 = .ok (.aload_n 0, 1) := by decide +kernel
theorem dX14_canListen_6 : decode cX14_canListen 6 = .ok (.iload_n 1, 1) := by decide +kernel
theorem dX14_canListen_7 : decode cX14_canListen 7 = .ok (.iload_n 2, 1) := by decide +kernel
theorem dX14_canListen_8 : decode cX14_canListen 8 = .ok (.invokevirtual 67, 3) := by decide +kernel
theorem dX14_canListen_11 : decode cX14_canListen 11 = .ok (.iconst (-1), 1) := by decide +kernel
theorem dX14_canListen_12 : decode cX14_canListen 12 = .ok (.if_icmp .ne 7, 3) := by decide +kernel
theorem dX14_canListen_15 : decode cX14_canListen 15 = .ok (.iconst 1, 1) := by decide +kernel
theorem dX14_canListen_16 : decode cX14_canListen 16 = .ok (.goto 4, 3) := by decide +kernel
theorem dX14_canListen_19 : decode cX14_canListen 19 = .ok (.iconst 0, 1) := by decide +kernel
theorem dX14_canListen_20 : decode cX14_canListen 20 = .ok (.ireturn, 1) := by decide +kernel
theorem dX14_listens_0 : decode cX14_listens 0 = .ok (.aload_n 0, 1) := by decide +kernel
theorem dX14_listens_1 : decode cX14_listens 1 = .ok (.getfield 15, 3) := by decide +kernel
theorem dX14_listens_4 : decode cX14_listens 4 = .ok (.aload_n 0, 1) := by decide +kernel
theorem dX14_listens_5 : decode cX14_listens 5 = .ok (.iload_n 2, 1) := by decide +kernel
theorem dX14_listens_6 : decode cX14_listens 6 = .ok (.aload_n 0, 1) := by decide +kernel
theorem dX14_listens_7 : decode cX14_listens 7 = .ok (.getfield 19, 3) := by decide +kernel
theorem dX14_listens_10 : decode cX14_listens 10 = .ok (.iload_n 2, 1) := by decide +kernel
theorem dX14_listens_11 : decode cX14_listens 11 = .ok (.iaload, 1) := by decide +kernel
theorem dX14_listens_12 : decode cX14_listens 12 = .ok (.invokevirtual 63, 3) := by decide +kernel
theorem dX14_listens_15 : decode cX14_listens 15 = .ok (.iload_n 1, 1) := by decide +kernel
theorem dX14_listens_16 : decode cX14_listens 16 = .ok (.iastore, 1) := by decide +kernel
theorem dX14_listens_17 : decode cX14_listens 17 = .ok (.aload_n 0, 1) := by decide +kernel
theorem dX14_listens_18 : decode cX14_listens 18 = .ok (.getfield 19, 3) := by decide +kernel
theorem dX14_listens_21 : decode cX14_listens 21 = .ok (.iload_n 2, 1) := by decide +kernel
theorem dX14_listens_22 : decode cX14_listens 22 = .ok (.dup2, 1) := by decide +kernel
theorem dX14_listens_23 : decode cX14_listens 23 = .ok (.iaload, 1) := by decide +kernel
theorem dX14_listens_24 : decode cX14_listens 24 = .ok (.iconst 1, 1) := by decide +kernel
theorem dX14_listens_25 : decode cX14_listens 25 = .ok (.iadd, 1) := by decide +kernel
theorem dX14_listens_26 : decode cX14_listens 26 = .ok (.iastore, 1) := by decide +kernel
theorem dX14_listens_27 : decode cX14_listens 27 = .ok (.iload_n 1, 1) := by decide +kernel
theorem dX14_listens_28 : decode cX14_listens 28 = .ok (.bipush 8, 2) := by decide +kernel
theorem dX14_listens_30 : decode cX14_listens 30 = .ok (.if_icmp .lt 13, 3) := by decide +kernel
theorem dX14_listens_33 : decode cX14_listens 33 = .ok (.aload_n 0, 1) := by decide +kernel
theorem dX14_listens_34 : decode cX14_listens 34 = .ok (.getfield 31, 3) := by decide +kernel
theorem dX14_listens_37 : decode cX14_listens 37 = .ok (.iload_n 1, 1) := by decide +kernel
theorem dX14_listens_38 : decode cX14_listens 38 = .ok (.bipush 8, 2) := by decide +kernel
theorem dX14_listens_40 : decode cX14_listens 40 = .ok (.isub, 1) := by decide +kernel
theorem dX14_listens_41 : decode cX14_listens 41 = .ok (.iconst 0, 1) := by decide +kernel
theorem dX14_listens_42 : decode cX14_listens 42 = .ok (.iastore, 1) := by decide +kernel
theorem dX14_listens_43 : decode cX14_listens 43 = .ok (.aload_n 0, 1) := by decide +kernel
theorem dX14_listens_44 : decode cX14_listens 44 = .ok (.getfield 19, 3) := by decide +kernel
theorem dX14_listens_47 : decode cX14_listens 47 = .ok (.iload_n 2, 1) := by decide +kernel
theorem dX14_listens_48 : decode cX14_listens 48 = .ok (.iaload, 1) := by decide +kernel
theorem dX14_listens_49 : decode cX14_listens 49 = .ok (.iconst 1, 1) := by decide +kernel
theorem dX14_listens_50 : decode cX14_listens 50 = .ok (.isub, 1) := by decide +kernel
theorem dX14_listens_51 : decode cX14_listens 51 = .ok (.ireturn, 1) := by decide +kernel
theorem dX14_leaves_0 : decode cX14_leaves 0 = .ok (.aload_n 0, 1) := by decide +kernel
theorem dX14_leaves_1 : decode cX14_leaves 1 = .ok (.iload_n 1, 1) := by decide +kernel
theorem dX14_leaves_2 : decode cX14_leaves 2 = .ok (.iload_n 2, 1) := by decide +kernel
theorem dX14_leaves_3 : decode cX14_leaves 3 = .ok (.invokevirtual 67, 3) := by decide +kernel
theorem dX14_leaves_6 : decode cX14_leaves 6 = .ok (.istore_n 3, 1) := by decide +kernel
theorem dX14_leaves_7 : decode cX14_leaves 7 = .ok (.aload_n 0, 1) := by decide +kernel
theorem dX14_leaves_8 : decode cX14_leaves 8 = .ok (.getfield 19, 3) := by decide +kernel
theorem dX14_leaves_11 : decode cX14_leaves 11 = .ok (.iload_n 2, 1) := by decide +kernel
theorem dX14_leaves_12 : decode cX14_leaves 12 = .ok (.dup2, 1) := by decide +kernel
theorem dX14_leaves_13 : decode cX14_leaves 13 = .ok (.iaload, 1) := by decide +kernel
theorem dX14_leaves_14 : decode cX14_leaves 14 = .ok (.iconst 1, 1) := by decide +kernel
theorem dX14_leaves_15 : decode cX14_leaves 15 = .ok (.isub, 1) := by decide +kernel
theorem dX14_leaves_16 : decode cX14_leaves 16 = .ok (.iastore, 1) := by decide +kernel
theorem dX14_leaves_17 : decode cX14_leaves 17 = .ok (.iload_n 3, 1) := by decide +kernel
theorem dX14_leaves_18 : decode cX14_leaves 18 = .ok (.istore 4, 2) := by decide +kernel
theorem dX14_leaves_20 : decode cX14_leaves 20 = .ok (.iload 4, 2) := by decide +kernel
theorem dX14_leaves_22 : decode cX14_leaves 22 = .ok (.aload_n 0, 1) := by decide +kernel
theorem dX14_leaves_23 : decode cX14_leaves 23 = .ok (.getfield 19, 3) := by decide +kernel
theorem dX14_leaves_26 : decode cX14_leaves 26 = .ok (.iload_n 2, 1) := by decide +kernel
theorem dX14_leaves_27 : decode cX14_leaves 27 = .ok (.iaload, 1) := by decide +kernel
theorem dX14_leaves_28 : decode cX14_leaves 28 = .ok (.if_icmp .ge 35, 3) := by decide +kernel
theorem dX14_leaves_31 : decode cX14_leaves 31 = .ok (.aload_n 0, 1) := by decide +kernel
theorem dX14_leaves_32 : decode cX14_leaves 32 = .ok (.getfield 15, 3) := by decide +kernel
theorem dX14_leaves_35 : decode cX14_leaves 35 = .ok (.aload_n 0, 1) := by decide +kernel
theorem dX14_leaves_36 : decode cX14_leaves 36 = .ok (.iload_n 2, 1) := by decide +kernel
theorem dX14_leaves_37 : decode cX14_leaves 37 = .ok (.iload 4, 2) := by decide +kernel
theorem dX14_leaves_39 : decode cX14_leaves 39 = .ok (.invokevirtual 63, 3) := by decide +kernel
theorem dX14_leaves_42 : decode cX14_leaves 42 = .ok (.aload_n 0, 1) := by decide +kernel
theorem dX14_leaves_43 : decode cX14_leaves 43 = .ok (.getfield 15, 3) := by decide +kernel
theorem dX14_leaves_46 : decode cX14_leaves 46 = .ok (.aload_n 0, 1) := by decide +kernel
theorem dX14_leaves_47 : decode cX14_leaves 47 = .ok (.iload_n 2, 1) := by decide +kernel
theorem dX14_leaves_48 : decode cX14_leaves 48 = .ok (.iload 4, 2) := by decide +kernel
theorem dX14_leaves_50 : decode cX14_leaves 50 = .ok (.iconst 1, 1) := by decide +kernel
theorem dX14_leaves_51 : decode cX14_leaves 51 = .ok (.iadd, 1) := by decide +kernel
theorem dX14_leaves_52 : decode cX14_leaves 52 = .ok (.invokevirtual 63, 3) := by decide +kernel
theorem dX14_leaves_55 : decode cX14_leaves 55 = .ok (.iaload, 1) := by decide +kernel
theorem dX14_leaves_56 : decode cX14_leaves 56 = .ok (.iastore, 1) := by decide +kernel
theorem dX14_leaves_57 : decode cX14_leaves 57 = .ok (.iinc 4 1, 3) := by decide +kernel
theorem dX14_leaves_60 : decode cX14_leaves 60 = .ok (.goto (-40), 3) := by decide +kernel
theorem dX14_leaves_63 : decode cX14_leaves 63 = .ok (.aload_n 0, 1) := by decide +kernel
theorem dX14_leaves_64 : decode cX14_leaves 64 = .ok (.getfield 19, 3) := by decide +kernel
theorem dX14_leaves_67 : decode cX14_leaves 67 = .ok (.iload_n 2, 1) := by decide +kernel
theorem dX14_leaves_68 : decode cX14_leaves 68 = .ok (.iaload, 1) := by decide +kernel
theorem dX14_leaves_69 : decode cX14_leaves 69 = .ok (.ireturn, 1) := by decide +kernel
theorem dX14_manyOf_0 : decode cX14_manyOf 0 = .ok (.iconst 0, 1) := by decide +kernel
theorem dX14_manyOf_1 : decode cX14_manyOf 1 = .ok (.istore_n 2, 1) := by decide +kernel
theorem dX14_manyOf_2 : decode cX14_manyOf 2 = .ok (.iconst 0, 1) := by decide +kernel
theorem dX14_manyOf_3 : decode cX14_manyOf 3 = .ok (.istore_n 3, 1) := by decide +kernel
theorem dX14_manyOf_4 : decode cX14_manyOf 4 = .ok (.iload_n 3, 1) := by decide +kernel
theorem dX14_manyOf_5 : decode cX14_manyOf 5 = .ok (.aload_n 0, 1) := by decide +kernel
theorem dX14_manyOf_6 : decode cX14_manyOf 6 = .ok (.getfield 3, 3) := by decide +kernel
theorem dX14_manyOf_9 : decode cX14_manyOf 9 = .ok (.getfield 70, 3) := by decide +kernel
theorem dX14_manyOf_12 : decode cX14_manyOf 12 = .ok (.getfield 74, 3) := by decide +kernel
theorem dX14_manyOf_15 : decode cX14_manyOf 15 = .ok (.if_icmp .ge 27, 3) := by decide +kernel
theorem dX14_manyOf_18 : decode cX14_manyOf 18 = .ok (.iload_n 2, 1) := by decide +kernel
theorem dX14_manyOf_19 : decode cX14_manyOf 19 = .ok (.aload_n 0, 1) := by decide +kernel
theorem dX14_manyOf_20 : decode cX14_manyOf 20 = .ok (.iload_n 1, 1) := by decide +kernel
theorem dX14_manyOf_21 : decode cX14_manyOf 21 = .ok (.iload_n 3, 1) := by decide +kernel
theorem dX14_manyOf_22 : decode cX14_manyOf 22 = .ok (.invokevirtual 67, 3) := by decide +kernel
theorem dX14_manyOf_25 : decode cX14_manyOf 25 = .ok (.iconst (-1), 1) := by decide +kernel
theorem dX14_manyOf_26 : decode cX14_manyOf 26 = .ok (.if_icmp .ne 7, 3) := by decide +kernel
theorem dX14_manyOf_29 : decode cX14_manyOf 29 = .ok (.iconst 0, 1) := by decide +kernel
theorem dX14_manyOf_30 : decode cX14_manyOf 30 = .ok (.goto 4, 3) := by decide +kernel
theorem dX14_manyOf_33 : decode cX14_manyOf 33 = .ok (.iconst 1, 1) := by decide +kernel
theorem dX14_manyOf_34 : decode cX14_manyOf 34 = .ok (.iadd, 1) := by decide +kernel
theorem dX14_manyOf_35 : decode cX14_manyOf 35 = .ok (.istore_n 2, 1) := by decide +kernel
theorem dX14_manyOf_36 : decode cX14_manyOf 36 = .ok (.iinc 3 1, 3) := by decide +kernel
theorem dX14_manyOf_39 : decode cX14_manyOf 39 = .ok (.goto (-35), 3) := by decide +kernel
theorem dX14_manyOf_42 : decode cX14_manyOf 42 = .ok (.iload_n 2, 1) := by decide +kernel
theorem dX14_manyOf_43 : decode cX14_manyOf 43 = .ok (.ireturn, 1) := by decide +kernel
theorem dX14_hedgeHears_0 : decode cX14_hedgeHears 0 = .ok (.aload_n 0, 1) := by decide +kernel
theorem dX14_hedgeHears_1 : decode cX14_hedgeHears 1 = .ok (.getfield 3, 3) := by decide +kernel
theorem dX14_hedgeHears_4 : decode cX14_hedgeHears 4 = .ok (.getfield 79, 3) := by decide +kernel
theorem dX14_hedgeHears_7 : decode cX14_hedgeHears 7 = .ok (.iload_n 1, 1) := by decide +kernel
theorem dX14_hedgeHears_8 : decode cX14_hedgeHears 8 = .ok (.iaload, 1) := by decide +kernel
theorem dX14_hedgeHears_9 : decode cX14_hedgeHears 9 = .ok (.ifCond .le 42, 3) := by decide +kernel
theorem dX14_hedgeHears_12 : decode cX14_hedgeHears 12 = .ok (.aload_n 0, 1) := by decide +kernel
theorem dX14_hedgeHears_13 : decode cX14_hedgeHears 13 = .ok (.dup, 1) := by decide +kernel
theorem dX14_hedgeHears_14 : decode cX14_hedgeHears 14 = .ok (.getfield 47, 3) := by decide +kernel
theorem dX14_hedgeHears_17 : decode cX14_hedgeHears 17 = .ok (.iconst 1, 1) := by decide +kernel
theorem dX14_hedgeHears_18 : decode cX14_hedgeHears 18 = .ok (.iadd, 1) := by decide +kernel
theorem dX14_hedgeHears_19 : decode cX14_hedgeHears 19 = .ok (.putfield 47, 3) := by decide +kernel
theorem dX14_hedgeHears_22 : decode cX14_hedgeHears 22 = .ok (.aload_n 0, 1) := by decide +kernel
theorem dX14_hedgeHears_23 : decode cX14_hedgeHears 23 = .ok (.getfield 3, 3) := by decide +kernel
theorem dX14_hedgeHears_26 : decode cX14_hedgeHears 26 = .ok (.dup, 1) := by decide +kernel
theorem dX14_hedgeHears_27 : decode cX14_hedgeHears 27 = .ok (.getfield 82, 3) := by decide +kernel
theorem dX14_hedgeHears_30 : decode cX14_hedgeHears 30 = .ok (.iload_n 1, 1) := by decide +kernel
theorem dX14_hedgeHears_31 : decode cX14_hedgeHears 31 = .ok (.aload_n 0, 1) := by decide +kernel
theorem dX14_hedgeHears_32 : decode cX14_hedgeHears 32 = .ok (.getfield 3, 3) := by decide +kernel
theorem dX14_hedgeHears_35 : decode cX14_hedgeHears 35 = .ok (.getfield 86, 3) := by decide +kernel
theorem dX14_hedgeHears_38 : decode cX14_hedgeHears 38 = .ok (.if_icmp .ne 7, 3) := by decide +kernel
theorem dX14_hedgeHears_41 : decode cX14_hedgeHears 41 = .ok (.iconst 1, 1) := by decide +kernel
theorem dX14_hedgeHears_42 : decode cX14_hedgeHears 42 = .ok (.goto 4, 3) := by decide +kernel
theorem dX14_hedgeHears_45 : decode cX14_hedgeHears 45 = .ok (.iconst 0, 1) := by decide +kernel
theorem dX14_hedgeHears_46 : decode cX14_hedgeHears 46 = .ok (.ior, 1) := by decide +kernel
theorem dX14_hedgeHears_47 : decode cX14_hedgeHears 47 = .ok (.putfield 82, 3) := by decide +kernel
theorem dX14_hedgeHears_50 : decode cX14_hedgeHears 50 = .ok (.return_, 1) := by decide +kernel
theorem dX14_hedgeHears_51 : decode cX14_hedgeHears 51 = .ok (.aload_n 0, 1) := by decide +kernel
theorem dX14_hedgeHears_52 : decode cX14_hedgeHears 52 = .ok (.getfield 3, 3) := by decide +kernel
theorem dX14_hedgeHears_55 : decode cX14_hedgeHears 55 = .ok (.getfield 79, 3) := by decide +kernel
theorem dX14_hedgeHears_58 : decode cX14_hedgeHears 58 = .ok (.iload_n 1, 1) := by decide +kernel
theorem dX14_hedgeHears_59 : decode cX14_hedgeHears 59 = .ok (.iload_n 2, 1) := by decide +kernel
theorem dX14_hedgeHears_60 : decode cX14_hedgeHears 60 = .ok (.iastore, 1) := by decide +kernel
theorem dX14_hedgeHears_61 : decode cX14_hedgeHears 61 = .ok (.aload_n 0, 1) := by decide +kernel
theorem dX14_hedgeHears_62 : decode cX14_hedgeHears 62 = .ok (.getfield 22, 3) := by decide +kernel
theorem dX14_hedgeHears_65 : decode cX14_hedgeHears 65 = .ok (.iload_n 1, 1) := by decide +kernel
theorem dX14_hedgeHears_66 : decode cX14_hedgeHears 66 = .ok (.dup2, 1) := by decide +kernel
theorem dX14_hedgeHears_67 : decode cX14_hedgeHears 67 = .ok (.iaload, 1) := by decide +kernel
theorem dX14_hedgeHears_68 : decode cX14_hedgeHears 68 = .ok (.iconst 1, 1) := by decide +kernel
theorem dX14_hedgeHears_69 : decode cX14_hedgeHears 69 = .ok (.iadd, 1) := by decide +kernel
theorem dX14_hedgeHears_70 : decode cX14_hedgeHears 70 = .ok (.iastore, 1) := by decide +kernel
theorem dX14_hedgeHears_71 : decode cX14_hedgeHears 71 = .ok (.aload_n 0, 1) := by decide +kernel
theorem dX14_hedgeHears_72 : decode cX14_hedgeHears 72 = .ok (.getfield 25, 3) := by decide +kernel
theorem dX14_hedgeHears_75 : decode cX14_hedgeHears 75 = .ok (.iload_n 1, 1) := by decide +kernel
theorem dX14_hedgeHears_76 : decode cX14_hedgeHears 76 = .ok (.iload_n 2, 1) := by decide +kernel
theorem dX14_hedgeHears_77 : decode cX14_hedgeHears 77 = .ok (.iastore, 1) := by decide +kernel
theorem dX14_hedgeHears_78 : decode cX14_hedgeHears 78 = .ok (.iconst 0, 1) := by decide +kernel
theorem dX14_hedgeHears_79 : decode cX14_hedgeHears 79 = .ok (.istore_n 3, 1) := by decide +kernel
theorem dX14_hedgeHears_80 : decode cX14_hedgeHears 80 = .ok (.iload_n 3, 1) := by decide +kernel
theorem dX14_hedgeHears_81 : decode cX14_hedgeHears 81 = .ok (.aload_n 0, 1) := by decide +kernel
theorem dX14_hedgeHears_82 : decode cX14_hedgeHears 82 = .ok (.getfield 19, 3) := by decide +kernel
theorem dX14_hedgeHears_85 : decode cX14_hedgeHears 85 = .ok (.iload_n 1, 1) := by decide +kernel
theorem dX14_hedgeHears_86 : decode cX14_hedgeHears 86 = .ok (.iaload, 1) := by decide +kernel
theorem dX14_hedgeHears_87 : decode cX14_hedgeHears 87 = .ok (.if_icmp .ge 111, 3) := by decide +kernel
theorem dX14_hedgeHears_90 : decode cX14_hedgeHears 90 = .ok (.iload_n 2, 1) := by decide +kernel
theorem dX14_hedgeHears_91 : decode cX14_hedgeHears 91 = .ok (.aload_n 0, 1) := by decide +kernel
theorem dX14_hedgeHears_92 : decode cX14_hedgeHears 92 = .ok (.getfield 3, 3) := by decide +kernel
theorem dX14_hedgeHears_95 : decode cX14_hedgeHears 95 = .ok (.getfield 70, 3) := by decide +kernel
theorem dX14_hedgeHears_98 : decode cX14_hedgeHears 98 = .ok (.getfield 89, 3) := by decide +kernel
theorem dX14_hedgeHears_101 : decode cX14_hedgeHears 101 = .ok (.iload_n 1, 1) := by decide +kernel
theorem dX14_hedgeHears_102 : decode cX14_hedgeHears 102 = .ok (.iaload, 1) := by decide +kernel
theorem dX14_hedgeHears_103 : decode cX14_hedgeHears 103 = .ok (.isub, 1) := by decide +kernel
theorem dX14_hedgeHears_104 : decode cX14_hedgeHears 104 = .ok (.iconst 1, 1) := by decide +kernel
theorem dX14_hedgeHears_105 : decode cX14_hedgeHears 105 = .ok (.if_icmp .lt 93, 3) := by decide +kernel
theorem dX14_hedgeHears_108 : decode cX14_hedgeHears 108 = .ok (.aload_n 0, 1) := by decide +kernel
theorem dX14_hedgeHears_109 : decode cX14_hedgeHears 109 = .ok (.getfield 3, 3) := by decide +kernel
theorem dX14_hedgeHears_112 : decode cX14_hedgeHears 112 = .ok (.getfield 92, 3) := by decide +kernel
theorem dX14_hedgeHears_115 : decode cX14_hedgeHears 115 = .ok (.aload_n 0, 1) := by decide +kernel
theorem dX14_hedgeHears_116 : decode cX14_hedgeHears 116 = .ok (.getfield 3, 3) := by decide +kernel
theorem dX14_hedgeHears_119 : decode cX14_hedgeHears 119 = .ok (.getfield 95, 3) := by decide +kernel
theorem dX14_hedgeHears_122 : decode cX14_hedgeHears 122 = .ok (.aload_n 0, 1) := by decide +kernel
theorem dX14_hedgeHears_123 : decode cX14_hedgeHears 123 = .ok (.getfield 15, 3) := by decide +kernel
theorem dX14_hedgeHears_126 : decode cX14_hedgeHears 126 = .ok (.aload_n 0, 1) := by decide +kernel
theorem dX14_hedgeHears_127 : decode cX14_hedgeHears 127 = .ok (.iload_n 1, 1) := by decide +kernel
theorem dX14_hedgeHears_128 : decode cX14_hedgeHears 128 = .ok (.iload_n 3, 1) := by decide +kernel
theorem dX14_hedgeHears_129 : decode cX14_hedgeHears 129 = .ok (.invokevirtual 63, 3) := by decide +kernel
theorem dX14_hedgeHears_132 : decode cX14_hedgeHears 132 = .ok (.iaload, 1) := by decide +kernel
theorem dX14_hedgeHears_133 : decode cX14_hedgeHears 133 = .ok (.iastore, 1) := by decide +kernel
theorem dX14_hedgeHears_134 : decode cX14_hedgeHears 134 = .ok (.aload_n 0, 1) := by decide +kernel
theorem dX14_hedgeHears_135 : decode cX14_hedgeHears 135 = .ok (.getfield 3, 3) := by decide +kernel
theorem dX14_hedgeHears_138 : decode cX14_hedgeHears 138 = .ok (.getfield 98, 3) := by decide +kernel
theorem dX14_hedgeHears_141 : decode cX14_hedgeHears 141 = .ok (.aload_n 0, 1) := by decide +kernel
theorem dX14_hedgeHears_142 : decode cX14_hedgeHears 142 = .ok (.getfield 3, 3) := by decide +kernel
theorem dX14_hedgeHears_145 : decode cX14_hedgeHears 145 = .ok (.getfield 95, 3) := by decide +kernel
theorem dX14_hedgeHears_148 : decode cX14_hedgeHears 148 = .ok (.iload_n 1, 1) := by decide +kernel
theorem dX14_hedgeHears_149 : decode cX14_hedgeHears 149 = .ok (.iastore, 1) := by decide +kernel
theorem dX14_hedgeHears_150 : decode cX14_hedgeHears 150 = .ok (.aload_n 0, 1) := by decide +kernel
theorem dX14_hedgeHears_151 : decode cX14_hedgeHears 151 = .ok (.getfield 3, 3) := by decide +kernel
theorem dX14_hedgeHears_154 : decode cX14_hedgeHears 154 = .ok (.getfield 101, 3) := by decide +kernel
theorem dX14_hedgeHears_157 : decode cX14_hedgeHears 157 = .ok (.aload_n 0, 1) := by decide +kernel
theorem dX14_hedgeHears_158 : decode cX14_hedgeHears 158 = .ok (.getfield 3, 3) := by decide +kernel
theorem dX14_hedgeHears_161 : decode cX14_hedgeHears 161 = .ok (.getfield 95, 3) := by decide +kernel
theorem dX14_hedgeHears_164 : decode cX14_hedgeHears 164 = .ok (.iload_n 2, 1) := by decide +kernel
theorem dX14_hedgeHears_165 : decode cX14_hedgeHears 165 = .ok (.aload_n 0, 1) := by decide +kernel
theorem dX14_hedgeHears_166 : decode cX14_hedgeHears 166 = .ok (.getfield 3, 3) := by decide +kernel
theorem dX14_hedgeHears_169 : decode cX14_hedgeHears 169 = .ok (.getfield 70, 3) := by decide +kernel
theorem dX14_hedgeHears_172 : decode cX14_hedgeHears 172 = .ok (.getfield 89, 3) := by decide +kernel
theorem dX14_hedgeHears_175 : decode cX14_hedgeHears 175 = .ok (.iload_n 1, 1) := by decide +kernel
theorem dX14_hedgeHears_176 : decode cX14_hedgeHears 176 = .ok (.iaload, 1) := by decide +kernel
theorem dX14_hedgeHears_177 : decode cX14_hedgeHears 177 = .ok (.isub, 1) := by decide +kernel
theorem dX14_hedgeHears_178 : decode cX14_hedgeHears 178 = .ok (.iastore, 1) := by decide +kernel
theorem dX14_hedgeHears_179 : decode cX14_hedgeHears 179 = .ok (.aload_n 0, 1) := by decide +kernel
theorem dX14_hedgeHears_180 : decode cX14_hedgeHears 180 = .ok (.getfield 3, 3) := by decide +kernel
theorem dX14_hedgeHears_183 : decode cX14_hedgeHears 183 = .ok (.dup, 1) := by decide +kernel
theorem dX14_hedgeHears_184 : decode cX14_hedgeHears 184 = .ok (.getfield 95, 3) := by decide +kernel
theorem dX14_hedgeHears_187 : decode cX14_hedgeHears 187 = .ok (.iconst 1, 1) := by decide +kernel
theorem dX14_hedgeHears_188 : decode cX14_hedgeHears 188 = .ok (.iadd, 1) := by decide +kernel
theorem dX14_hedgeHears_189 : decode cX14_hedgeHears 189 = .ok (.putfield 95, 3) := by decide +kernel
theorem dX14_hedgeHears_192 : decode cX14_hedgeHears 192 = .ok (.iinc 3 1, 3) := by decide +kernel
theorem dX14_hedgeHears_195 : decode cX14_hedgeHears 195 = .ok (.goto (-115), 3) := by decide +kernel
theorem dX14_hedgeHears_198 : decode cX14_hedgeHears 198 = .ok (.return_, 1) := by decide +kernel
theorem dX14_roseHears_0 : decode cX14_roseHears 0 = .ok (.aload_n 0, 1) := by decide +kernel
theorem dX14_roseHears_1 : decode cX14_roseHears 1 = .ok (.getfield 28, 3) := by decide +kernel
theorem dX14_roseHears_4 : decode cX14_roseHears 4 = .ok (.iload_n 1, 1) := by decide +kernel
theorem dX14_roseHears_5 : decode cX14_roseHears 5 = .ok (.dup2, 1) := by decide +kernel
theorem dX14_roseHears_6 : decode cX14_roseHears 6 = .ok (.iaload, 1) := by decide +kernel
theorem dX14_roseHears_7 : decode cX14_roseHears 7 = .ok (.iload_n 3, 1) := by decide +kernel
theorem dX14_roseHears_8 : decode cX14_roseHears 8 = .ok (.iadd, 1) := by decide +kernel
theorem dX14_roseHears_9 : decode cX14_roseHears 9 = .ok (.iastore, 1) := by decide +kernel
theorem dX14_roseHears_10 : decode cX14_roseHears 10 = .ok (.aload_n 0, 1) := by decide +kernel
theorem dX14_roseHears_11 : decode cX14_roseHears 11 = .ok (.getfield 31, 3) := by decide +kernel
theorem dX14_roseHears_14 : decode cX14_roseHears 14 = .ok (.iload_n 1, 1) := by decide +kernel
theorem dX14_roseHears_15 : decode cX14_roseHears 15 = .ok (.dup2, 1) := by decide +kernel
theorem dX14_roseHears_16 : decode cX14_roseHears 16 = .ok (.iaload, 1) := by decide +kernel
theorem dX14_roseHears_17 : decode cX14_roseHears 17 = .ok (.iconst 1, 1) := by decide +kernel
theorem dX14_roseHears_18 : decode cX14_roseHears 18 = .ok (.iadd, 1) := by decide +kernel
theorem dX14_roseHears_19 : decode cX14_roseHears 19 = .ok (.iastore, 1) := by decide +kernel
theorem dX14_roseHears_20 : decode cX14_roseHears 20 = .ok (.aload_n 0, 1) := by decide +kernel
theorem dX14_roseHears_21 : decode cX14_roseHears 21 = .ok (.getfield 31, 3) := by decide +kernel
theorem dX14_roseHears_24 : decode cX14_roseHears 24 = .ok (.iload_n 1, 1) := by decide +kernel
theorem dX14_roseHears_25 : decode cX14_roseHears 25 = .ok (.iaload, 1) := by decide +kernel
theorem dX14_roseHears_26 : decode cX14_roseHears 26 = .ok (.aload_n 0, 1) := by decide +kernel
theorem dX14_roseHears_27 : decode cX14_roseHears 27 = .ok (.getfield 3, 3) := by decide +kernel
theorem dX14_roseHears_30 : decode cX14_roseHears 30 = .ok (.getfield 70, 3) := by decide +kernel
theorem dX14_roseHears_33 : decode cX14_roseHears 33 = .ok (.getfield 104, 3) := by decide +kernel
theorem dX14_roseHears_36 : decode cX14_roseHears 36 = .ok (.iload_n 1, 1) := by decide +kernel
theorem dX14_roseHears_37 : decode cX14_roseHears 37 = .ok (.iaload, 1) := by decide +kernel
theorem dX14_roseHears_38 : decode cX14_roseHears 38 = .ok (.if_icmp .ge 4, 3) := by decide +kernel
theorem dX14_roseHears_41 : decode cX14_roseHears 41 = .ok (.return_, 1) := by decide +kernel
theorem dX14_roseHears_42 : decode cX14_roseHears 42 = .ok (.aload_n 0, 1) := by decide +kernel
theorem dX14_roseHears_43 : decode cX14_roseHears 43 = .ok (.getfield 31, 3) := by decide +kernel
theorem dX14_roseHears_46 : decode cX14_roseHears 46 = .ok (.iload_n 1, 1) := by decide +kernel
theorem dX14_roseHears_47 : decode cX14_roseHears 47 = .ok (.iconst 0, 1) := by decide +kernel
theorem dX14_roseHears_48 : decode cX14_roseHears 48 = .ok (.iastore, 1) := by decide +kernel
theorem dX14_roseHears_49 : decode cX14_roseHears 49 = .ok (.aload_n 0, 1) := by decide +kernel
theorem dX14_roseHears_50 : decode cX14_roseHears 50 = .ok (.getfield 34, 3) := by decide +kernel
theorem dX14_roseHears_53 : decode cX14_roseHears 53 = .ok (.iload_n 1, 1) := by decide +kernel
theorem dX14_roseHears_54 : decode cX14_roseHears 54 = .ok (.dup2, 1) := by decide +kernel
theorem dX14_roseHears_55 : decode cX14_roseHears 55 = .ok (.iaload, 1) := by decide +kernel
theorem dX14_roseHears_56 : decode cX14_roseHears 56 = .ok (.iconst 1, 1) := by decide +kernel
theorem dX14_roseHears_57 : decode cX14_roseHears 57 = .ok (.iadd, 1) := by decide +kernel
theorem dX14_roseHears_58 : decode cX14_roseHears 58 = .ok (.iastore, 1) := by decide +kernel
theorem dX14_roseHears_59 : decode cX14_roseHears 59 = .ok (.aload_n 0, 1) := by decide +kernel
theorem dX14_roseHears_60 : decode cX14_roseHears 60 = .ok (.bipush 8, 2) := by decide +kernel
theorem dX14_roseHears_62 : decode cX14_roseHears 62 = .ok (.iload_n 1, 1) := by decide +kernel
theorem dX14_roseHears_63 : decode cX14_roseHears 63 = .ok (.iadd, 1) := by decide +kernel
theorem dX14_roseHears_64 : decode cX14_roseHears 64 = .ok (.iload_n 2, 1) := by decide +kernel
theorem dX14_roseHears_65 : decode cX14_roseHears 65 = .ok (.invokevirtual 107, 3) := by decide +kernel
theorem dX14_roseHears_68 : decode cX14_roseHears 68 = .ok (.pop, 1) := by decide +kernel
theorem dX14_roseHears_69 : decode cX14_roseHears 69 = .ok (.return_, 1) := by decide +kernel
theorem dX14_news_0 : decode cX14_news 0 = .ok (.iconst 0, 1) := by decide +kernel
theorem dX14_news_1 : decode cX14_news 1 = .ok (.istore_n 3, 1) := by decide +kernel
theorem dX14_news_2 : decode cX14_news 2 = .ok (.iload_n 3, 1) := by decide +kernel
theorem dX14_news_3 : decode cX14_news 3 = .ok (.bipush 8, 2) := by decide +kernel
theorem dX14_news_5 : decode cX14_news 5 = .ok (.if_icmp .ge 19, 3) := by decide +kernel
theorem dX14_news_8 : decode cX14_news 8 = .ok (.aload_n 0, 1) := by decide +kernel
theorem dX14_news_9 : decode cX14_news 9 = .ok (.getfield 3, 3) := by decide +kernel
theorem dX14_news_12 : decode cX14_news 12 = .ok (.getfield 79, 3) := by decide +kernel
theorem dX14_news_15 : decode cX14_news 15 = .ok (.iload_n 3, 1) := by decide +kernel
theorem dX14_news_16 : decode cX14_news 16 = .ok (.iconst 0, 1) := by decide +kernel
theorem dX14_news_17 : decode cX14_news 17 = .ok (.iastore, 1) := by decide +kernel
theorem dX14_news_18 : decode cX14_news 18 = .ok (.iinc 3 1, 3) := by decide +kernel
theorem dX14_news_21 : decode cX14_news 21 = .ok (.goto (-19), 3) := by decide +kernel
theorem dX14_news_24 : decode cX14_news 24 = .ok (.aload_n 0, 1) := by decide +kernel
theorem dX14_news_25 : decode cX14_news 25 = .ok (.getfield 3, 3) := by decide +kernel
theorem dX14_news_28 : decode cX14_news 28 = .ok (.iconst 0, 1) := by decide +kernel
theorem dX14_news_29 : decode cX14_news 29 = .ok (.putfield 95, 3) := by decide +kernel
theorem dX14_news_32 : decode cX14_news 32 = .ok (.aload_n 0, 1) := by decide +kernel
theorem dX14_news_33 : decode cX14_news 33 = .ok (.getfield 3, 3) := by decide +kernel
theorem dX14_news_36 : decode cX14_news 36 = .ok (.iload_n 1, 1) := by decide +kernel
theorem dX14_news_37 : decode cX14_news 37 = .ok (.putfield 86, 3) := by decide +kernel
theorem dX14_news_40 : decode cX14_news 40 = .ok (.aload_n 0, 1) := by decide +kernel
theorem dX14_news_41 : decode cX14_news 41 = .ok (.getfield 3, 3) := by decide +kernel
theorem dX14_news_44 : decode cX14_news 44 = .ok (.iconst 0, 1) := by decide +kernel
theorem dX14_news_45 : decode cX14_news 45 = .ok (.putfield 82, 3) := by decide +kernel
theorem dX14_news_48 : decode cX14_news 48 = .ok (.aload_n 0, 1) := by decide +kernel
theorem dX14_news_49 : decode cX14_news 49 = .ok (.iload_n 1, 1) := by decide +kernel
theorem dX14_news_50 : decode cX14_news 50 = .ok (.iload_n 2, 1) := by decide +kernel
theorem dX14_news_51 : decode cX14_news 51 = .ok (.invokevirtual 110, 3) := by decide +kernel
theorem dX14_news_54 : decode cX14_news 54 = .ok (.iconst 0, 1) := by decide +kernel
theorem dX14_news_55 : decode cX14_news 55 = .ok (.istore_n 3, 1) := by decide +kernel
theorem dX14_news_56 : decode cX14_news 56 = .ok (.iload_n 3, 1) := by decide +kernel
theorem dX14_news_57 : decode cX14_news 57 = .ok (.aload_n 0, 1) := by decide +kernel
theorem dX14_news_58 : decode cX14_news 58 = .ok (.getfield 3, 3) := by decide +kernel
theorem dX14_news_61 : decode cX14_news 61 = .ok (.getfield 95, 3) := by decide +kernel
theorem dX14_news_64 : decode cX14_news 64 = .ok (.if_icmp .ge 82, 3) := by decide +kernel
theorem dX14_news_67 : decode cX14_news 67 = .ok (.aload_n 0, 1) := by decide +kernel
theorem dX14_news_68 : decode cX14_news 68 = .ok (.getfield 3, 3) := by decide +kernel
theorem dX14_news_71 : decode cX14_news 71 = .ok (.getfield 92, 3) := by decide +kernel
theorem dX14_news_74 : decode cX14_news 74 = .ok (.iload_n 3, 1) := by decide +kernel
theorem dX14_news_75 : decode cX14_news 75 = .ok (.iaload, 1) := by decide +kernel
theorem dX14_news_76 : decode cX14_news 76 = .ok (.bipush 8, 2) := by decide +kernel
theorem dX14_news_78 : decode cX14_news 78 = .ok (.if_icmp .ge 28, 3) := by decide +kernel
theorem dX14_news_81 : decode cX14_news 81 = .ok (.aload_n 0, 1) := by decide +kernel
theorem dX14_news_82 : decode cX14_news 82 = .ok (.aload_n 0, 1) := by decide +kernel
theorem dX14_news_83 : decode cX14_news 83 = .ok (.getfield 3, 3) := by decide +kernel
theorem dX14_news_86 : decode cX14_news 86 = .ok (.getfield 92, 3) := by decide +kernel
theorem dX14_news_89 : decode cX14_news 89 = .ok (.iload_n 3, 1) := by decide +kernel
theorem dX14_news_90 : decode cX14_news 90 = .ok (.iaload, 1) := by decide +kernel
theorem dX14_news_91 : decode cX14_news 91 = .ok (.aload_n 0, 1) := by decide +kernel
theorem dX14_news_92 : decode cX14_news 92 = .ok (.getfield 3, 3) := by decide +kernel
theorem dX14_news_95 : decode cX14_news 95 = .ok (.getfield 101, 3) := by decide +kernel
theorem dX14_news_98 : decode cX14_news 98 = .ok (.iload_n 3, 1) := by decide +kernel
theorem dX14_news_99 : decode cX14_news 99 = .ok (.iaload, 1) := by decide +kernel
theorem dX14_news_100 : decode cX14_news 100 = .ok (.invokevirtual 110, 3) := by decide +kernel
theorem dX14_news_103 : decode cX14_news 103 = .ok (.goto 37, 3) := by decide +kernel
theorem dX14_news_106 : decode cX14_news 106 = .ok (.aload_n 0, 1) := by decide +kernel
theorem dX14_news_107 : decode cX14_news 107 = .ok (.aload_n 0, 1) := by decide +kernel
theorem dX14_news_108 : decode cX14_news 108 = .ok (.getfield 3, 3) := by decide +kernel
theorem dX14_news_111 : decode cX14_news 111 = .ok (.getfield 92, 3) := by decide +kernel
theorem dX14_news_114 : decode cX14_news 114 = .ok (.iload_n 3, 1) := by decide +kernel
theorem dX14_news_115 : decode cX14_news 115 = .ok (.iaload, 1) := by decide +kernel
theorem dX14_news_116 : decode cX14_news 116 = .ok (.bipush 8, 2) := by decide +kernel
theorem dX14_news_118 : decode cX14_news 118 = .ok (.isub, 1) := by decide +kernel
theorem dX14_news_119 : decode cX14_news 119 = .ok (.aload_n 0, 1) := by decide +kernel
theorem dX14_news_120 : decode cX14_news 120 = .ok (.getfield 3, 3) := by decide +kernel
theorem dX14_news_123 : decode cX14_news 123 = .ok (.getfield 98, 3) := by decide +kernel
theorem dX14_news_126 : decode cX14_news 126 = .ok (.iload_n 3, 1) := by decide +kernel
theorem dX14_news_127 : decode cX14_news 127 = .ok (.iaload, 1) := by decide +kernel
theorem dX14_news_128 : decode cX14_news 128 = .ok (.aload_n 0, 1) := by decide +kernel
theorem dX14_news_129 : decode cX14_news 129 = .ok (.getfield 3, 3) := by decide +kernel
theorem dX14_news_132 : decode cX14_news 132 = .ok (.getfield 101, 3) := by decide +kernel
theorem dX14_news_135 : decode cX14_news 135 = .ok (.iload_n 3, 1) := by decide +kernel
theorem dX14_news_136 : decode cX14_news 136 = .ok (.iaload, 1) := by decide +kernel
theorem dX14_news_137 : decode cX14_news 137 = .ok (.invokevirtual 114, 3) := by decide +kernel
theorem dX14_news_140 : decode cX14_news 140 = .ok (.iinc 3 1, 3) := by decide +kernel
theorem dX14_news_143 : decode cX14_news 143 = .ok (.goto (-87), 3) := by decide +kernel
theorem dX14_news_146 : decode cX14_news 146 = .ok (.aload_n 0, 1) := by decide +kernel
theorem dX14_news_147 : decode cX14_news 147 = .ok (.dup, 1) := by decide +kernel
theorem dX14_news_148 : decode cX14_news 148 = .ok (.getfield 44, 3) := by decide +kernel
theorem dX14_news_151 : decode cX14_news 151 = .ok (.aload_n 0, 1) := by decide +kernel
theorem dX14_news_152 : decode cX14_news 152 = .ok (.getfield 3, 3) := by decide +kernel
theorem dX14_news_155 : decode cX14_news 155 = .ok (.getfield 95, 3) := by decide +kernel
theorem dX14_news_158 : decode cX14_news 158 = .ok (.iadd, 1) := by decide +kernel
theorem dX14_news_159 : decode cX14_news 159 = .ok (.putfield 44, 3) := by decide +kernel
theorem dX14_news_162 : decode cX14_news 162 = .ok (.aload_n 0, 1) := by decide +kernel
theorem dX14_news_163 : decode cX14_news 163 = .ok (.getfield 3, 3) := by decide +kernel
theorem dX14_news_166 : decode cX14_news 166 = .ok (.getfield 95, 3) := by decide +kernel
theorem dX14_news_169 : decode cX14_news 169 = .ok (.ireturn, 1) := by decide +kernel
theorem dX14_allLeft_0 : decode cX14_allLeft 0 = .ok (.iconst 0, 1) := by decide +kernel
theorem dX14_allLeft_1 : decode cX14_allLeft 1 = .ok (.istore_n 1, 1) := by decide +kernel
theorem dX14_allLeft_2 : decode cX14_allLeft 2 = .ok (.iconst 0, 1) := by decide +kernel
theorem dX14_allLeft_3 : decode cX14_allLeft 3 = .ok (.istore_n 2, 1) := by decide +kernel
theorem dX14_allLeft_4 : decode cX14_allLeft 4 = .ok (.iload_n 2, 1) := by decide +kernel
theorem dX14_allLeft_5 : decode cX14_allLeft 5 = .ok (.aload_n 0, 1) := by decide +kernel
theorem dX14_allLeft_6 : decode cX14_allLeft 6 = .ok (.getfield 3, 3) := by decide +kernel
theorem dX14_allLeft_9 : decode cX14_allLeft 9 = .ok (.getfield 70, 3) := by decide +kernel
theorem dX14_allLeft_12 : decode cX14_allLeft 12 = .ok (.getfield 118, 3) := by decide +kernel
theorem dX14_allLeft_15 : decode cX14_allLeft 15 = .ok (.if_icmp .ge 18, 3) := by decide +kernel
theorem dX14_allLeft_18 : decode cX14_allLeft 18 = .ok (.iload_n 1, 1) := by decide +kernel
theorem dX14_allLeft_19 : decode cX14_allLeft 19 = .ok (.aload_n 0, 1) := by decide +kernel
theorem dX14_allLeft_20 : decode cX14_allLeft 20 = .ok (.getfield 34, 3) := by decide +kernel
theorem dX14_allLeft_23 : decode cX14_allLeft 23 = .ok (.iload_n 2, 1) := by decide +kernel
theorem dX14_allLeft_24 : decode cX14_allLeft 24 = .ok (.iaload, 1) := by decide +kernel
theorem dX14_allLeft_25 : decode cX14_allLeft 25 = .ok (.iadd, 1) := by decide +kernel
theorem dX14_allLeft_26 : decode cX14_allLeft 26 = .ok (.istore_n 1, 1) := by decide +kernel
theorem dX14_allLeft_27 : decode cX14_allLeft 27 = .ok (.iinc 2 1, 3) := by decide +kernel
theorem dX14_allLeft_30 : decode cX14_allLeft 30 = .ok (.goto (-26), 3) := by decide +kernel
theorem dX14_allLeft_33 : decode cX14_allLeft 33 = .ok (.iload_n 1, 1) := by decide +kernel
theorem dX14_allLeft_34 : decode cX14_allLeft 34 = .ok (.ireturn, 1) := by decide +kernel
theorem dX14_allPetals_0 : decode cX14_allPetals 0 = .ok (.iconst 0, 1) := by decide +kernel
theorem dX14_allPetals_1 : decode cX14_allPetals 1 = .ok (.istore_n 1, 1) := by decide +kernel
theorem dX14_allPetals_2 : decode cX14_allPetals 2 = .ok (.iconst 0, 1) := by decide +kernel
theorem dX14_allPetals_3 : decode cX14_allPetals 3 = .ok (.istore_n 2, 1) := by decide +kernel
theorem dX14_allPetals_4 : decode cX14_allPetals 4 = .ok (.iload_n 2, 1) := by decide +kernel
theorem dX14_allPetals_5 : decode cX14_allPetals 5 = .ok (.aload_n 0, 1) := by decide +kernel
theorem dX14_allPetals_6 : decode cX14_allPetals 6 = .ok (.getfield 3, 3) := by decide +kernel
theorem dX14_allPetals_9 : decode cX14_allPetals 9 = .ok (.getfield 70, 3) := by decide +kernel
theorem dX14_allPetals_12 : decode cX14_allPetals 12 = .ok (.getfield 118, 3) := by decide +kernel
theorem dX14_allPetals_15 : decode cX14_allPetals 15 = .ok (.if_icmp .ge 18, 3) := by decide +kernel
theorem dX14_allPetals_18 : decode cX14_allPetals 18 = .ok (.iload_n 1, 1) := by decide +kernel
theorem dX14_allPetals_19 : decode cX14_allPetals 19 = .ok (.aload_n 0, 1) := by decide +kernel
theorem dX14_allPetals_20 : decode cX14_allPetals 20 = .ok (.getfield 28, 3) := by decide +kernel
theorem dX14_allPetals_23 : decode cX14_allPetals 23 = .ok (.iload_n 2, 1) := by decide +kernel
theorem dX14_allPetals_24 : decode cX14_allPetals 24 = .ok (.iaload, 1) := by decide +kernel
theorem dX14_allPetals_25 : decode cX14_allPetals 25 = .ok (.iadd, 1) := by decide +kernel
theorem dX14_allPetals_26 : decode cX14_allPetals 26 = .ok (.istore_n 1, 1) := by decide +kernel
theorem dX14_allPetals_27 : decode cX14_allPetals 27 = .ok (.iinc 2 1, 3) := by decide +kernel
theorem dX14_allPetals_30 : decode cX14_allPetals 30 = .ok (.goto (-26), 3) := by decide +kernel
theorem dX14_allPetals_33 : decode cX14_allPetals 33 = .ok (.iload_n 1, 1) := by decide +kernel
theorem dX14_allPetals_34 : decode cX14_allPetals 34 = .ok (.ireturn, 1) := by decide +kernel
theorem dX14_full_0 : decode cX14_full 0 = .ok (.iconst (-1), 1) := by decide +kernel
theorem dX14_full_1 : decode cX14_full 1 = .ok (.istore_n 1, 1) := by decide +kernel
theorem dX14_full_2 : decode cX14_full 2 = .ok (.iconst 0, 1) := by decide +kernel
theorem dX14_full_3 : decode cX14_full 3 = .ok (.istore_n 2, 1) := by decide +kernel
theorem dX14_full_4 : decode cX14_full 4 = .ok (.iload_n 2, 1) := by decide +kernel
theorem dX14_full_5 : decode cX14_full 5 = .ok (.aload_n 0, 1) := by decide +kernel
theorem dX14_full_6 : decode cX14_full 6 = .ok (.getfield 3, 3) := by decide +kernel
theorem dX14_full_9 : decode cX14_full 9 = .ok (.getfield 70, 3) := by decide +kernel
theorem dX14_full_12 : decode cX14_full 12 = .ok (.getfield 118, 3) := by decide +kernel
theorem dX14_full_15 : decode cX14_full 15 = .ok (.if_icmp .ge 31, 3) := by decide +kernel
theorem dX14_full_18 : decode cX14_full 18 = .ok (.iload_n 1, 1) := by decide +kernel
theorem dX14_full_19 : decode cX14_full 19 = .ok (.iconst (-1), 1) := by decide +kernel
theorem dX14_full_20 : decode cX14_full 20 = .ok (.if_icmp .eq 18, 3) := by decide +kernel
theorem dX14_full_23 : decode cX14_full 23 = .ok (.aload_n 0, 1) := by decide +kernel
theorem dX14_full_24 : decode cX14_full 24 = .ok (.getfield 28, 3) := by decide +kernel
theorem dX14_full_27 : decode cX14_full 27 = .ok (.iload_n 2, 1) := by decide +kernel
theorem dX14_full_28 : decode cX14_full 28 = .ok (.iaload, 1) := by decide +kernel
theorem dX14_full_29 : decode cX14_full 29 = .ok (.aload_n 0, 1) := by decide +kernel
theorem dX14_full_30 : decode cX14_full 30 = .ok (.getfield 28, 3) := by decide +kernel
theorem dX14_full_33 : decode cX14_full 33 = .ok (.iload_n 1, 1) := by decide +kernel
theorem dX14_full_34 : decode cX14_full 34 = .ok (.iaload, 1) := by decide +kernel
theorem dX14_full_35 : decode cX14_full 35 = .ok (.if_icmp .le 5, 3) := by decide +kernel
theorem dX14_full_38 : decode cX14_full 38 = .ok (.iload_n 2, 1) := by decide +kernel
theorem dX14_full_39 : decode cX14_full 39 = .ok (.istore_n 1, 1) := by decide +kernel
theorem dX14_full_40 : decode cX14_full 40 = .ok (.iinc 2 1, 3) := by decide +kernel
theorem dX14_full_43 : decode cX14_full 43 = .ok (.goto (-39), 3) := by decide +kernel
theorem dX14_full_46 : decode cX14_full 46 = .ok (.iload_n 1, 1) := by decide +kernel
theorem dX14_full_47 : decode cX14_full 47 = .ok (.ireturn, 1) := by decide +kernel
theorem dX14_told_0 : decode cX14_told 0 = .ok (.iload_n 1, 1) := by decide +kernel
theorem dX14_told_1 : decode cX14_told 1 = .ok (.tableswitch 64 10 14 #[35, 40, 45, 50, 57], 35) := by decide +kernel
theorem dX14_told_36 : decode cX14_told 36 = .ok (.aload_n 0, 1) := by decide +kernel
theorem dX14_told_37 : decode cX14_told 37 = .ok (.getfield 37, 3) := by decide +kernel
theorem dX14_told_40 : decode cX14_told 40 = .ok (.ireturn, 1) := by decide +kernel
theorem dX14_told_41 : decode cX14_told 41 = .ok (.aload_n 0, 1) := by decide +kernel
theorem dX14_told_42 : decode cX14_told 42 = .ok (.getfield 47, 3) := by decide +kernel
theorem dX14_told_45 : decode cX14_told 45 = .ok (.ireturn, 1) := by decide +kernel
theorem dX14_told_46 : decode cX14_told 46 = .ok (.aload_n 0, 1) := by decide +kernel
theorem dX14_told_47 : decode cX14_told 47 = .ok (.getfield 44, 3) := by decide +kernel
theorem dX14_told_50 : decode cX14_told 50 = .ok (.ireturn, 1) := by decide +kernel
theorem dX14_told_51 : decode cX14_told 51 = .ok (.aload_n 0, 1) := by decide +kernel
theorem dX14_told_52 : decode cX14_told 52 = .ok (.getfield 22, 3) := by decide +kernel
theorem dX14_told_55 : decode cX14_told 55 = .ok (.iload_n 2, 1) := by decide +kernel
theorem dX14_told_56 : decode cX14_told 56 = .ok (.iaload, 1) := by decide +kernel
theorem dX14_told_57 : decode cX14_told 57 = .ok (.ireturn, 1) := by decide +kernel
theorem dX14_told_58 : decode cX14_told 58 = .ok (.aload_n 0, 1) := by decide +kernel
theorem dX14_told_59 : decode cX14_told 59 = .ok (.getfield 25, 3) := by decide +kernel
theorem dX14_told_62 : decode cX14_told 62 = .ok (.iload_n 2, 1) := by decide +kernel
theorem dX14_told_63 : decode cX14_told 63 = .ok (.iaload, 1) := by decide +kernel
theorem dX14_told_64 : decode cX14_told 64 = .ok (.ireturn, 1) := by decide +kernel
theorem dX14_told_65 : decode cX14_told 65 = .ok (.aload_n 0, 1) := by decide +kernel
theorem dX14_told_66 : decode cX14_told 66 = .ok (.getfield 28, 3) := by decide +kernel
theorem dX14_told_69 : decode cX14_told 69 = .ok (.iload_n 2, 1) := by decide +kernel
theorem dX14_told_70 : decode cX14_told 70 = .ok (.iaload, 1) := by decide +kernel
theorem dX14_told_71 : decode cX14_told 71 = .ok (.ireturn, 1) := by decide +kernel
theorem dX14_reckon_0 : decode cX14_reckon 0 = .ok (.iconst 0, 1) := by decide +kernel
theorem dX14_reckon_1 : decode cX14_reckon 1 = .ok (.istore_n 3, 1) := by decide +kernel
theorem dX14_reckon_2 : decode cX14_reckon 2 = .ok (.iload_n 1, 1) := by decide +kernel
theorem dX14_reckon_3 : decode cX14_reckon 3 = .ok (.istore 4, 2) := by decide +kernel
theorem dX14_reckon_5 : decode cX14_reckon 5 = .ok (.iload 4, 2) := by decide +kernel
theorem dX14_reckon_7 : decode cX14_reckon 7 = .ok (.iload_n 2, 1) := by decide +kernel
theorem dX14_reckon_8 : decode cX14_reckon 8 = .ok (.if_icmp .ge 322, 3) := by decide +kernel
theorem dX14_reckon_11 : decode cX14_reckon 11 = .ok (.aload_n 0, 1) := by decide +kernel
theorem dX14_reckon_12 : decode cX14_reckon 12 = .ok (.getfield 3, 3) := by decide +kernel
theorem dX14_reckon_15 : decode cX14_reckon 15 = .ok (.getfield 70, 3) := by decide +kernel
theorem dX14_reckon_18 : decode cX14_reckon 18 = .ok (.getfield 121, 3) := by decide +kernel
theorem dX14_reckon_21 : decode cX14_reckon 21 = .ok (.iload 4, 2) := by decide +kernel
theorem dX14_reckon_23 : decode cX14_reckon 23 = .ok (.iaload, 1) := by decide +kernel
theorem dX14_reckon_24 : decode cX14_reckon 24 = .ok (.istore 5, 2) := by decide +kernel
theorem dX14_reckon_26 : decode cX14_reckon 26 = .ok (.iinc 4 1, 3) := by decide +kernel
theorem dX14_reckon_29 : decode cX14_reckon 29 = .ok (.iload 5, 2) := by decide +kernel
theorem dX14_reckon_31 : decode cX14_reckon 31 = .ok (.bipush 32, 2) := by decide +kernel
theorem dX14_reckon_33 : decode cX14_reckon 33 = .ok (.if_icmp .eq 17, 3) := by decide +kernel
theorem dX14_reckon_36 : decode cX14_reckon 36 = .ok (.iload 5, 2) := by decide +kernel
theorem dX14_reckon_38 : decode cX14_reckon 38 = .ok (.bipush 10, 2) := by decide +kernel
theorem dX14_reckon_40 : decode cX14_reckon 40 = .ok (.if_icmp .lt 119, 3) := by decide +kernel
theorem dX14_reckon_43 : decode cX14_reckon 43 = .ok (.iload 5, 2) := by decide +kernel
theorem dX14_reckon_45 : decode cX14_reckon 45 = .ok (.bipush 15, 2) := by decide +kernel
theorem dX14_reckon_47 : decode cX14_reckon 47 = .ok (.if_icmp .gt 112, 3) := by decide +kernel
theorem dX14_reckon_50 : decode cX14_reckon 50 = .ok (.iload 5, 2) := by decide +kernel
theorem dX14_reckon_52 : decode cX14_reckon 52 = .ok (.bipush 13, 2) := by decide +kernel
theorem dX14_reckon_54 : decode cX14_reckon 54 = .ok (.if_icmp .lt 14, 3) := by decide +kernel
theorem dX14_reckon_57 : decode cX14_reckon 57 = .ok (.iload 5, 2) := by decide +kernel
theorem dX14_reckon_59 : decode cX14_reckon 59 = .ok (.bipush 15, 2) := by decide +kernel
theorem dX14_reckon_61 : decode cX14_reckon 61 = .ok (.if_icmp .gt 7, 3) := by decide +kernel
theorem dX14_reckon_64 : decode cX14_reckon 64 = .ok (.iconst 1, 1) := by decide +kernel
theorem dX14_reckon_65 : decode cX14_reckon 65 = .ok (.goto 4, 3) := by decide +kernel
theorem dX14_reckon_68 : decode cX14_reckon 68 = .ok (.iconst 0, 1) := by decide +kernel
theorem dX14_reckon_69 : decode cX14_reckon 69 = .ok (.istore 6, 2) := by decide +kernel
theorem dX14_reckon_71 : decode cX14_reckon 71 = .ok (.aload_n 0, 1) := by decide +kernel
theorem dX14_reckon_72 : decode cX14_reckon 72 = .ok (.getfield 3, 3) := by decide +kernel
theorem dX14_reckon_75 : decode cX14_reckon 75 = .ok (.getfield 124, 3) := by decide +kernel
theorem dX14_reckon_78 : decode cX14_reckon 78 = .ok (.iload_n 3, 1) := by decide +kernel
theorem dX14_reckon_79 : decode cX14_reckon 79 = .ok (.iload 5, 2) := by decide +kernel
theorem dX14_reckon_81 : decode cX14_reckon 81 = .ok (.bipush 32, 2) := by decide +kernel
theorem dX14_reckon_83 : decode cX14_reckon 83 = .ok (.if_icmp .ne 19, 3) := by decide +kernel
theorem dX14_reckon_86 : decode cX14_reckon 86 = .ok (.aload_n 0, 1) := by decide +kernel
theorem dX14_reckon_87 : decode cX14_reckon 87 = .ok (.getfield 3, 3) := by decide +kernel
theorem dX14_reckon_90 : decode cX14_reckon 90 = .ok (.getfield 70, 3) := by decide +kernel
theorem dX14_reckon_93 : decode cX14_reckon 93 = .ok (.getfield 121, 3) := by decide +kernel
theorem dX14_reckon_96 : decode cX14_reckon 96 = .ok (.iload 4, 2) := by decide +kernel
theorem dX14_reckon_98 : decode cX14_reckon 98 = .ok (.iaload, 1) := by decide +kernel
theorem dX14_reckon_99 : decode cX14_reckon 99 = .ok (.goto 31, 3) := by decide +kernel
theorem dX14_reckon_102 : decode cX14_reckon 102 = .ok (.aload_n 0, 1) := by decide +kernel
theorem dX14_reckon_103 : decode cX14_reckon 103 = .ok (.iload 5, 2) := by decide +kernel
theorem dX14_reckon_105 : decode cX14_reckon 105 = .ok (.iload 6, 2) := by decide +kernel
theorem dX14_reckon_107 : decode cX14_reckon 107 = .ok (.ifCond .eq 19, 3) := by decide +kernel
theorem dX14_reckon_110 : decode cX14_reckon 110 = .ok (.aload_n 0, 1) := by decide +kernel
theorem dX14_reckon_111 : decode cX14_reckon 111 = .ok (.getfield 3, 3) := by decide +kernel
theorem dX14_reckon_114 : decode cX14_reckon 114 = .ok (.getfield 70, 3) := by decide +kernel
theorem dX14_reckon_117 : decode cX14_reckon 117 = .ok (.getfield 121, 3) := by decide +kernel
theorem dX14_reckon_120 : decode cX14_reckon 120 = .ok (.iload 4, 2) := by decide +kernel
theorem dX14_reckon_122 : decode cX14_reckon 122 = .ok (.iaload, 1) := by decide +kernel
theorem dX14_reckon_123 : decode cX14_reckon 123 = .ok (.goto 4, 3) := by decide +kernel
theorem dX14_reckon_126 : decode cX14_reckon 126 = .ok (.iconst 0, 1) := by decide +kernel
theorem dX14_reckon_127 : decode cX14_reckon 127 = .ok (.invokevirtual 127, 3) := by decide +kernel
theorem dX14_reckon_130 : decode cX14_reckon 130 = .ok (.iastore, 1) := by decide +kernel
theorem dX14_reckon_131 : decode cX14_reckon 131 = .ok (.iload 4, 2) := by decide +kernel
theorem dX14_reckon_133 : decode cX14_reckon 133 = .ok (.iload 6, 2) := by decide +kernel
theorem dX14_reckon_135 : decode cX14_reckon 135 = .ok (.ifCond .ne 10, 3) := by decide +kernel
theorem dX14_reckon_138 : decode cX14_reckon 138 = .ok (.iload 5, 2) := by decide +kernel
theorem dX14_reckon_140 : decode cX14_reckon 140 = .ok (.bipush 32, 2) := by decide +kernel
theorem dX14_reckon_142 : decode cX14_reckon 142 = .ok (.if_icmp .ne 7, 3) := by decide +kernel
theorem dX14_reckon_145 : decode cX14_reckon 145 = .ok (.iconst 1, 1) := by decide +kernel
theorem dX14_reckon_146 : decode cX14_reckon 146 = .ok (.goto 4, 3) := by decide +kernel
theorem dX14_reckon_149 : decode cX14_reckon 149 = .ok (.iconst 0, 1) := by decide +kernel
theorem dX14_reckon_150 : decode cX14_reckon 150 = .ok (.iadd, 1) := by decide +kernel
theorem dX14_reckon_151 : decode cX14_reckon 151 = .ok (.istore 4, 2) := by decide +kernel
theorem dX14_reckon_153 : decode cX14_reckon 153 = .ok (.iinc 3 1, 3) := by decide +kernel
theorem dX14_reckon_156 : decode cX14_reckon 156 = .ok (.goto 171, 3) := by decide +kernel
theorem dX14_reckon_159 : decode cX14_reckon 159 = .ok (.iload 5, 2) := by decide +kernel
theorem dX14_reckon_161 : decode cX14_reckon 161 = .ok (.bipush 17, 2) := by decide +kernel
theorem dX14_reckon_163 : decode cX14_reckon 163 = .ok (.if_icmp .ne 62, 3) := by decide +kernel
theorem dX14_reckon_166 : decode cX14_reckon 166 = .ok (.aload_n 0, 1) := by decide +kernel
theorem dX14_reckon_167 : decode cX14_reckon 167 = .ok (.getfield 3, 3) := by decide +kernel
theorem dX14_reckon_170 : decode cX14_reckon 170 = .ok (.getfield 124, 3) := by decide +kernel
theorem dX14_reckon_173 : decode cX14_reckon 173 = .ok (.iload_n 3, 1) := by decide +kernel
theorem dX14_reckon_174 : decode cX14_reckon 174 = .ok (.aload_n 0, 1) := by decide +kernel
theorem dX14_reckon_175 : decode cX14_reckon 175 = .ok (.aload_n 0, 1) := by decide +kernel
theorem dX14_reckon_176 : decode cX14_reckon 176 = .ok (.getfield 3, 3) := by decide +kernel
theorem dX14_reckon_179 : decode cX14_reckon 179 = .ok (.getfield 70, 3) := by decide +kernel
theorem dX14_reckon_182 : decode cX14_reckon 182 = .ok (.getfield 121, 3) := by decide +kernel
theorem dX14_reckon_185 : decode cX14_reckon 185 = .ok (.iload 4, 2) := by decide +kernel
theorem dX14_reckon_187 : decode cX14_reckon 187 = .ok (.iaload, 1) := by decide +kernel
theorem dX14_reckon_188 : decode cX14_reckon 188 = .ok (.aload_n 0, 1) := by decide +kernel
theorem dX14_reckon_189 : decode cX14_reckon 189 = .ok (.getfield 3, 3) := by decide +kernel
theorem dX14_reckon_192 : decode cX14_reckon 192 = .ok (.getfield 70, 3) := by decide +kernel
theorem dX14_reckon_195 : decode cX14_reckon 195 = .ok (.getfield 121, 3) := by decide +kernel
theorem dX14_reckon_198 : decode cX14_reckon 198 = .ok (.iload 4, 2) := by decide +kernel
theorem dX14_reckon_200 : decode cX14_reckon 200 = .ok (.iconst 1, 1) := by decide +kernel
theorem dX14_reckon_201 : decode cX14_reckon 201 = .ok (.iadd, 1) := by decide +kernel
theorem dX14_reckon_202 : decode cX14_reckon 202 = .ok (.iaload, 1) := by decide +kernel
theorem dX14_reckon_203 : decode cX14_reckon 203 = .ok (.invokevirtual 67, 3) := by decide +kernel
theorem dX14_reckon_206 : decode cX14_reckon 206 = .ok (.iconst (-1), 1) := by decide +kernel
theorem dX14_reckon_207 : decode cX14_reckon 207 = .ok (.if_icmp .ne 7, 3) := by decide +kernel
theorem dX14_reckon_210 : decode cX14_reckon 210 = .ok (.iconst 0, 1) := by decide +kernel
theorem dX14_reckon_211 : decode cX14_reckon 211 = .ok (.goto 4, 3) := by decide +kernel
theorem dX14_reckon_214 : decode cX14_reckon 214 = .ok (.iconst 1, 1) := by decide +kernel
theorem dX14_reckon_215 : decode cX14_reckon 215 = .ok (.iastore, 1) := by decide +kernel
theorem dX14_reckon_216 : decode cX14_reckon 216 = .ok (.iinc 4 2, 3) := by decide +kernel
theorem dX14_reckon_219 : decode cX14_reckon 219 = .ok (.iinc 3 1, 3) := by decide +kernel
theorem dX14_reckon_222 : decode cX14_reckon 222 = .ok (.goto 105, 3) := by decide +kernel
theorem dX14_reckon_225 : decode cX14_reckon 225 = .ok (.iload 5, 2) := by decide +kernel
theorem dX14_reckon_227 : decode cX14_reckon 227 = .ok (.bipush 18, 2) := by decide +kernel
theorem dX14_reckon_229 : decode cX14_reckon 229 = .ok (.if_icmp .eq 10, 3) := by decide +kernel
theorem dX14_reckon_232 : decode cX14_reckon 232 = .ok (.iload 5, 2) := by decide +kernel
theorem dX14_reckon_234 : decode cX14_reckon 234 = .ok (.bipush 33, 2) := by decide +kernel
theorem dX14_reckon_236 : decode cX14_reckon 236 = .ok (.if_icmp .ne 52, 3) := by decide +kernel
theorem dX14_reckon_239 : decode cX14_reckon 239 = .ok (.aload_n 0, 1) := by decide +kernel
theorem dX14_reckon_240 : decode cX14_reckon 240 = .ok (.getfield 3, 3) := by decide +kernel
theorem dX14_reckon_243 : decode cX14_reckon 243 = .ok (.getfield 124, 3) := by decide +kernel
theorem dX14_reckon_246 : decode cX14_reckon 246 = .ok (.iload_n 3, 1) := by decide +kernel
theorem dX14_reckon_247 : decode cX14_reckon 247 = .ok (.iconst 1, 1) := by decide +kernel
theorem dX14_reckon_248 : decode cX14_reckon 248 = .ok (.isub, 1) := by decide +kernel
theorem dX14_reckon_249 : decode cX14_reckon 249 = .ok (.iload 5, 2) := by decide +kernel
theorem dX14_reckon_251 : decode cX14_reckon 251 = .ok (.bipush 18, 2) := by decide +kernel
theorem dX14_reckon_253 : decode cX14_reckon 253 = .ok (.if_icmp .ne 19, 3) := by decide +kernel
theorem dX14_reckon_256 : decode cX14_reckon 256 = .ok (.iconst 1, 1) := by decide +kernel
theorem dX14_reckon_257 : decode cX14_reckon 257 = .ok (.aload_n 0, 1) := by decide +kernel
theorem dX14_reckon_258 : decode cX14_reckon 258 = .ok (.getfield 3, 3) := by decide +kernel
theorem dX14_reckon_261 : decode cX14_reckon 261 = .ok (.getfield 124, 3) := by decide +kernel
theorem dX14_reckon_264 : decode cX14_reckon 264 = .ok (.iload_n 3, 1) := by decide +kernel
theorem dX14_reckon_265 : decode cX14_reckon 265 = .ok (.iconst 1, 1) := by decide +kernel
theorem dX14_reckon_266 : decode cX14_reckon 266 = .ok (.isub, 1) := by decide +kernel
theorem dX14_reckon_267 : decode cX14_reckon 267 = .ok (.iaload, 1) := by decide +kernel
theorem dX14_reckon_268 : decode cX14_reckon 268 = .ok (.isub, 1) := by decide +kernel
theorem dX14_reckon_269 : decode cX14_reckon 269 = .ok (.goto 15, 3) := by decide +kernel
theorem dX14_reckon_272 : decode cX14_reckon 272 = .ok (.aload_n 0, 1) := by decide +kernel
theorem dX14_reckon_273 : decode cX14_reckon 273 = .ok (.getfield 3, 3) := by decide +kernel
theorem dX14_reckon_276 : decode cX14_reckon 276 = .ok (.getfield 124, 3) := by decide +kernel
theorem dX14_reckon_279 : decode cX14_reckon 279 = .ok (.iload_n 3, 1) := by decide +kernel
theorem dX14_reckon_280 : decode cX14_reckon 280 = .ok (.iconst 1, 1) := by decide +kernel
theorem dX14_reckon_281 : decode cX14_reckon 281 = .ok (.isub, 1) := by decide +kernel
theorem dX14_reckon_282 : decode cX14_reckon 282 = .ok (.iaload, 1) := by decide +kernel
theorem dX14_reckon_283 : decode cX14_reckon 283 = .ok (.ineg, 1) := by decide +kernel
theorem dX14_reckon_284 : decode cX14_reckon 284 = .ok (.iastore, 1) := by decide +kernel
theorem dX14_reckon_285 : decode cX14_reckon 285 = .ok (.goto 42, 3) := by decide +kernel
theorem dX14_reckon_288 : decode cX14_reckon 288 = .ok (.iinc 3 (-1), 3) := by decide +kernel
theorem dX14_reckon_291 : decode cX14_reckon 291 = .ok (.aload_n 0, 1) := by decide +kernel
theorem dX14_reckon_292 : decode cX14_reckon 292 = .ok (.getfield 3, 3) := by decide +kernel
theorem dX14_reckon_295 : decode cX14_reckon 295 = .ok (.getfield 124, 3) := by decide +kernel
theorem dX14_reckon_298 : decode cX14_reckon 298 = .ok (.iload_n 3, 1) := by decide +kernel
theorem dX14_reckon_299 : decode cX14_reckon 299 = .ok (.iconst 1, 1) := by decide +kernel
theorem dX14_reckon_300 : decode cX14_reckon 300 = .ok (.isub, 1) := by decide +kernel
theorem dX14_reckon_301 : decode cX14_reckon 301 = .ok (.iload 5, 2) := by decide +kernel
theorem dX14_reckon_303 : decode cX14_reckon 303 = .ok (.aload_n 0, 1) := by decide +kernel
theorem dX14_reckon_304 : decode cX14_reckon 304 = .ok (.getfield 3, 3) := by decide +kernel
theorem dX14_reckon_307 : decode cX14_reckon 307 = .ok (.getfield 124, 3) := by decide +kernel
theorem dX14_reckon_310 : decode cX14_reckon 310 = .ok (.iload_n 3, 1) := by decide +kernel
theorem dX14_reckon_311 : decode cX14_reckon 311 = .ok (.iconst 1, 1) := by decide +kernel
theorem dX14_reckon_312 : decode cX14_reckon 312 = .ok (.isub, 1) := by decide +kernel
theorem dX14_reckon_313 : decode cX14_reckon 313 = .ok (.iaload, 1) := by decide +kernel
theorem dX14_reckon_314 : decode cX14_reckon 314 = .ok (.aload_n 0, 1) := by decide +kernel
theorem dX14_reckon_315 : decode cX14_reckon 315 = .ok (.getfield 3, 3) := by decide +kernel
theorem dX14_reckon_318 : decode cX14_reckon 318 = .ok (.getfield 124, 3) := by decide +kernel
theorem dX14_reckon_321 : decode cX14_reckon 321 = .ok (.iload_n 3, 1) := by decide +kernel
theorem dX14_reckon_322 : decode cX14_reckon 322 = .ok (.iaload, 1) := by decide +kernel
theorem dX14_reckon_323 : decode cX14_reckon 323 = .ok (.invokestatic 130, 3) := by decide +kernel
theorem dX14_reckon_326 : decode cX14_reckon 326 = .ok (.iastore, 1) := by decide +kernel
theorem dX14_reckon_327 : decode cX14_reckon 327 = .ok (.goto (-322), 3) := by decide +kernel
theorem dX14_reckon_330 : decode cX14_reckon 330 = .ok (.aload_n 0, 1) := by decide +kernel
theorem dX14_reckon_331 : decode cX14_reckon 331 = .ok (.getfield 3, 3) := by decide +kernel
theorem dX14_reckon_334 : decode cX14_reckon 334 = .ok (.getfield 124, 3) := by decide +kernel
theorem dX14_reckon_337 : decode cX14_reckon 337 = .ok (.iconst 0, 1) := by decide +kernel
theorem dX14_reckon_338 : decode cX14_reckon 338 = .ok (.iaload, 1) := by decide +kernel
theorem dX14_reckon_339 : decode cX14_reckon 339 = .ok (.ireturn, 1) := by decide +kernel
theorem dX14_carry_0 : decode cX14_carry 0 = .ok (.aload_n 0, 1) := by decide +kernel
theorem dX14_carry_1 : decode cX14_carry 1 = .ok (.getfield 3, 3) := by decide +kernel
theorem dX14_carry_4 : decode cX14_carry 4 = .ok (.getfield 70, 3) := by decide +kernel
theorem dX14_carry_7 : decode cX14_carry 7 = .ok (.getfield 134, 3) := by decide +kernel
theorem dX14_carry_10 : decode cX14_carry 10 = .ok (.iload_n 1, 1) := by decide +kernel
theorem dX14_carry_11 : decode cX14_carry 11 = .ok (.iaload, 1) := by decide +kernel
theorem dX14_carry_12 : decode cX14_carry 12 = .ok (.istore_n 2, 1) := by decide +kernel
theorem dX14_carry_13 : decode cX14_carry 13 = .ok (.aload_n 0, 1) := by decide +kernel
theorem dX14_carry_14 : decode cX14_carry 14 = .ok (.getfield 3, 3) := by decide +kernel
theorem dX14_carry_17 : decode cX14_carry 17 = .ok (.getfield 70, 3) := by decide +kernel
theorem dX14_carry_20 : decode cX14_carry 20 = .ok (.getfield 137, 3) := by decide +kernel
theorem dX14_carry_23 : decode cX14_carry 23 = .ok (.iload_n 1, 1) := by decide +kernel
theorem dX14_carry_24 : decode cX14_carry 24 = .ok (.iaload, 1) := by decide +kernel
theorem dX14_carry_25 : decode cX14_carry 25 = .ok (.istore_n 3, 1) := by decide +kernel
theorem dX14_carry_26 : decode cX14_carry 26 = .ok (.aload_n 0, 1) := by decide +kernel
theorem dX14_carry_27 : decode cX14_carry 27 = .ok (.getfield 3, 3) := by decide +kernel
theorem dX14_carry_30 : decode cX14_carry 30 = .ok (.getfield 70, 3) := by decide +kernel
theorem dX14_carry_33 : decode cX14_carry 33 = .ok (.getfield 140, 3) := by decide +kernel
theorem dX14_carry_36 : decode cX14_carry 36 = .ok (.iload_n 1, 1) := by decide +kernel
theorem dX14_carry_37 : decode cX14_carry 37 = .ok (.iaload, 1) := by decide +kernel
theorem dX14_carry_38 : decode cX14_carry 38 = .ok (.istore 4, 2) := by decide +kernel
theorem dX14_carry_40 : decode cX14_carry 40 = .ok (.iload_n 2, 1) := by decide +kernel
theorem dX14_carry_41 : decode cX14_carry 41 = .ok (.bipush 7, 2) := by decide +kernel
theorem dX14_carry_43 : decode cX14_carry 43 = .ok (.if_icmp .ne 49, 3) := by decide +kernel
theorem dX14_carry_46 : decode cX14_carry 46 = .ok (.aload_n 0, 1) := by decide +kernel
theorem dX14_carry_47 : decode cX14_carry 47 = .ok (.iload 4, 2) := by decide +kernel
theorem dX14_carry_49 : decode cX14_carry 49 = .ok (.iconst 1, 1) := by decide +kernel
theorem dX14_carry_50 : decode cX14_carry 50 = .ok (.bipush 99, 2) := by decide +kernel
theorem dX14_carry_52 : decode cX14_carry 52 = .ok (.aload_n 0, 1) := by decide +kernel
theorem dX14_carry_53 : decode cX14_carry 53 = .ok (.aload_n 0, 1) := by decide +kernel
theorem dX14_carry_54 : decode cX14_carry 54 = .ok (.getfield 3, 3) := by decide +kernel
theorem dX14_carry_57 : decode cX14_carry 57 = .ok (.getfield 70, 3) := by decide +kernel
theorem dX14_carry_60 : decode cX14_carry 60 = .ok (.getfield 143, 3) := by decide +kernel
theorem dX14_carry_63 : decode cX14_carry 63 = .ok (.iload_n 1, 1) := by decide +kernel
theorem dX14_carry_64 : decode cX14_carry 64 = .ok (.iaload, 1) := by decide +kernel
theorem dX14_carry_65 : decode cX14_carry 65 = .ok (.aload_n 0, 1) := by decide +kernel
theorem dX14_carry_66 : decode cX14_carry 66 = .ok (.getfield 3, 3) := by decide +kernel
theorem dX14_carry_69 : decode cX14_carry 69 = .ok (.getfield 70, 3) := by decide +kernel
theorem dX14_carry_72 : decode cX14_carry 72 = .ok (.getfield 146, 3) := by decide +kernel
theorem dX14_carry_75 : decode cX14_carry 75 = .ok (.iload_n 1, 1) := by decide +kernel
theorem dX14_carry_76 : decode cX14_carry 76 = .ok (.iaload, 1) := by decide +kernel
theorem dX14_carry_77 : decode cX14_carry 77 = .ok (.invokevirtual 149, 3) := by decide +kernel
theorem dX14_carry_80 : decode cX14_carry 80 = .ok (.invokestatic 152, 3) := by decide +kernel
theorem dX14_carry_83 : decode cX14_carry 83 = .ok (.invokestatic 157, 3) := by decide +kernel
theorem dX14_carry_86 : decode cX14_carry 86 = .ok (.invokevirtual 160, 3) := by decide +kernel
theorem dX14_carry_89 : decode cX14_carry 89 = .ok (.pop, 1) := by decide +kernel
theorem dX14_carry_90 : decode cX14_carry 90 = .ok (.iconst 1, 1) := by decide +kernel
theorem dX14_carry_91 : decode cX14_carry 91 = .ok (.ireturn, 1) := by decide +kernel
theorem dX14_carry_92 : decode cX14_carry 92 = .ok (.iload_n 2, 1) := by decide +kernel
theorem dX14_carry_93 : decode cX14_carry 93 = .ok (.iconst 4, 1) := by decide +kernel
theorem dX14_carry_94 : decode cX14_carry 94 = .ok (.if_icmp .ne 13, 3) := by decide +kernel
theorem dX14_carry_97 : decode cX14_carry 97 = .ok (.aload_n 0, 1) := by decide +kernel
theorem dX14_carry_98 : decode cX14_carry 98 = .ok (.iload_n 3, 1) := by decide +kernel
theorem dX14_carry_99 : decode cX14_carry 99 = .ok (.iload 4, 2) := by decide +kernel
theorem dX14_carry_101 : decode cX14_carry 101 = .ok (.invokevirtual 163, 3) := by decide +kernel
theorem dX14_carry_104 : decode cX14_carry 104 = .ok (.goto 19, 3) := by decide +kernel
theorem dX14_carry_107 : decode cX14_carry 107 = .ok (.aload_n 0, 1) := by decide +kernel
theorem dX14_carry_108 : decode cX14_carry 108 = .ok (.iload_n 3, 1) := by decide +kernel
theorem dX14_carry_109 : decode cX14_carry 109 = .ok (.iload 4, 2) := by decide +kernel
theorem dX14_carry_111 : decode cX14_carry 111 = .ok (.invokevirtual 67, 3) := by decide +kernel
theorem dX14_carry_114 : decode cX14_carry 114 = .ok (.iconst (-1), 1) := by decide +kernel
theorem dX14_carry_115 : decode cX14_carry 115 = .ok (.if_icmp .eq 7, 3) := by decide +kernel
theorem dX14_carry_118 : decode cX14_carry 118 = .ok (.iconst 1, 1) := by decide +kernel
theorem dX14_carry_119 : decode cX14_carry 119 = .ok (.goto 4, 3) := by decide +kernel
theorem dX14_carry_122 : decode cX14_carry 122 = .ok (.iconst 0, 1) := by decide +kernel
theorem dX14_carry_123 : decode cX14_carry 123 = .ok (.istore 5, 2) := by decide +kernel
theorem dX14_carry_125 : decode cX14_carry 125 = .ok (.iload 5, 2) := by decide +kernel
theorem dX14_carry_127 : decode cX14_carry 127 = .ok (.ifCond .eq 16, 3) := by decide +kernel
theorem dX14_carry_130 : decode cX14_carry 130 = .ok (.iload_n 2, 1) := by decide +kernel
theorem dX14_carry_131 : decode cX14_carry 131 = .ok (.iconst 4, 1) := by decide +kernel
theorem dX14_carry_132 : decode cX14_carry 132 = .ok (.if_icmp .ne 11, 3) := by decide +kernel
theorem dX14_carry_135 : decode cX14_carry 135 = .ok (.aload_n 0, 1) := by decide +kernel
theorem dX14_carry_136 : decode cX14_carry 136 = .ok (.iload_n 3, 1) := by decide +kernel
theorem dX14_carry_137 : decode cX14_carry 137 = .ok (.iload 4, 2) := by decide +kernel
theorem dX14_carry_139 : decode cX14_carry 139 = .ok (.invokevirtual 167, 3) := by decide +kernel
theorem dX14_carry_142 : decode cX14_carry 142 = .ok (.pop, 1) := by decide +kernel
theorem dX14_carry_143 : decode cX14_carry 143 = .ok (.iload 5, 2) := by decide +kernel
theorem dX14_carry_145 : decode cX14_carry 145 = .ok (.ifCond .eq 16, 3) := by decide +kernel
theorem dX14_carry_148 : decode cX14_carry 148 = .ok (.iload_n 2, 1) := by decide +kernel
theorem dX14_carry_149 : decode cX14_carry 149 = .ok (.iconst 5, 1) := by decide +kernel
theorem dX14_carry_150 : decode cX14_carry 150 = .ok (.if_icmp .ne 11, 3) := by decide +kernel
theorem dX14_carry_153 : decode cX14_carry 153 = .ok (.aload_n 0, 1) := by decide +kernel
theorem dX14_carry_154 : decode cX14_carry 154 = .ok (.iload_n 3, 1) := by decide +kernel
theorem dX14_carry_155 : decode cX14_carry 155 = .ok (.iload 4, 2) := by decide +kernel
theorem dX14_carry_157 : decode cX14_carry 157 = .ok (.invokevirtual 107, 3) := by decide +kernel
theorem dX14_carry_160 : decode cX14_carry 160 = .ok (.pop, 1) := by decide +kernel
theorem dX14_carry_161 : decode cX14_carry 161 = .ok (.iload 5, 2) := by decide +kernel
theorem dX14_carry_163 : decode cX14_carry 163 = .ok (.ireturn, 1) := by decide +kernel
theorem dX14_pass_0 : decode cX14_pass 0 = .ok (.iconst 0, 1) := by decide +kernel
theorem dX14_pass_1 : decode cX14_pass 1 = .ok (.istore_n 2, 1) := by decide +kernel
theorem dX14_pass_2 : decode cX14_pass 2 = .ok (.iload_n 2, 1) := by decide +kernel
theorem dX14_pass_3 : decode cX14_pass 3 = .ok (.iload_n 1, 1) := by decide +kernel
theorem dX14_pass_4 : decode cX14_pass 4 = .ok (.if_icmp .ge 170, 3) := by decide +kernel
theorem dX14_pass_7 : decode cX14_pass 7 = .ok (.iconst 0, 1) := by decide +kernel
theorem dX14_pass_8 : decode cX14_pass 8 = .ok (.istore_n 3, 1) := by decide +kernel
theorem dX14_pass_9 : decode cX14_pass 9 = .ok (.iload_n 3, 1) := by decide +kernel
theorem dX14_pass_10 : decode cX14_pass 10 = .ok (.aload_n 0, 1) := by decide +kernel
theorem dX14_pass_11 : decode cX14_pass 11 = .ok (.getfield 3, 3) := by decide +kernel
theorem dX14_pass_14 : decode cX14_pass 14 = .ok (.getfield 70, 3) := by decide +kernel
theorem dX14_pass_17 : decode cX14_pass 17 = .ok (.getfield 170, 3) := by decide +kernel
theorem dX14_pass_20 : decode cX14_pass 20 = .ok (.if_icmp .ge 98, 3) := by decide +kernel
theorem dX14_pass_23 : decode cX14_pass 23 = .ok (.aload_n 0, 1) := by decide +kernel
theorem dX14_pass_24 : decode cX14_pass 24 = .ok (.getfield 3, 3) := by decide +kernel
theorem dX14_pass_27 : decode cX14_pass 27 = .ok (.getfield 70, 3) := by decide +kernel
theorem dX14_pass_30 : decode cX14_pass 30 = .ok (.getfield 146, 3) := by decide +kernel
theorem dX14_pass_33 : decode cX14_pass 33 = .ok (.iload_n 3, 1) := by decide +kernel
theorem dX14_pass_34 : decode cX14_pass 34 = .ok (.iaload, 1) := by decide +kernel
theorem dX14_pass_35 : decode cX14_pass 35 = .ok (.aload_n 0, 1) := by decide +kernel
theorem dX14_pass_36 : decode cX14_pass 36 = .ok (.getfield 3, 3) := by decide +kernel
theorem dX14_pass_39 : decode cX14_pass 39 = .ok (.getfield 70, 3) := by decide +kernel
theorem dX14_pass_42 : decode cX14_pass 42 = .ok (.getfield 173, 3) := by decide +kernel
theorem dX14_pass_45 : decode cX14_pass 45 = .ok (.iload_n 3, 1) := by decide +kernel
theorem dX14_pass_46 : decode cX14_pass 46 = .ok (.iaload, 1) := by decide +kernel
theorem dX14_pass_47 : decode cX14_pass 47 = .ok (.if_icmp .eq 35, 3) := by decide +kernel
theorem dX14_pass_50 : decode cX14_pass 50 = .ok (.aload_n 0, 1) := by decide +kernel
theorem dX14_pass_51 : decode cX14_pass 51 = .ok (.aload_n 0, 1) := by decide +kernel
theorem dX14_pass_52 : decode cX14_pass 52 = .ok (.getfield 3, 3) := by decide +kernel
theorem dX14_pass_55 : decode cX14_pass 55 = .ok (.getfield 70, 3) := by decide +kernel
theorem dX14_pass_58 : decode cX14_pass 58 = .ok (.getfield 146, 3) := by decide +kernel
theorem dX14_pass_61 : decode cX14_pass 61 = .ok (.iload_n 3, 1) := by decide +kernel
theorem dX14_pass_62 : decode cX14_pass 62 = .ok (.iaload, 1) := by decide +kernel
theorem dX14_pass_63 : decode cX14_pass 63 = .ok (.aload_n 0, 1) := by decide +kernel
theorem dX14_pass_64 : decode cX14_pass 64 = .ok (.getfield 3, 3) := by decide +kernel
theorem dX14_pass_67 : decode cX14_pass 67 = .ok (.getfield 70, 3) := by decide +kernel
theorem dX14_pass_70 : decode cX14_pass 70 = .ok (.getfield 173, 3) := by decide +kernel
theorem dX14_pass_73 : decode cX14_pass 73 = .ok (.iload_n 3, 1) := by decide +kernel
theorem dX14_pass_74 : decode cX14_pass 74 = .ok (.iaload, 1) := by decide +kernel
theorem dX14_pass_75 : decode cX14_pass 75 = .ok (.invokevirtual 149, 3) := by decide +kernel
theorem dX14_pass_78 : decode cX14_pass 78 = .ok (.iconst 1, 1) := by decide +kernel
theorem dX14_pass_79 : decode cX14_pass 79 = .ok (.if_icmp .ne 7, 3) := by decide +kernel
theorem dX14_pass_82 : decode cX14_pass 82 = .ok (.iconst 1, 1) := by decide +kernel
theorem dX14_pass_83 : decode cX14_pass 83 = .ok (.goto 4, 3) := by decide +kernel
theorem dX14_pass_86 : decode cX14_pass 86 = .ok (.iconst 0, 1) := by decide +kernel
theorem dX14_pass_87 : decode cX14_pass 87 = .ok (.istore 4, 2) := by decide +kernel
theorem dX14_pass_89 : decode cX14_pass 89 = .ok (.iload 4, 2) := by decide +kernel
theorem dX14_pass_91 : decode cX14_pass 91 = .ok (.ifCond .eq 21, 3) := by decide +kernel
theorem dX14_pass_94 : decode cX14_pass 94 = .ok (.aload_n 0, 1) := by decide +kernel
theorem dX14_pass_95 : decode cX14_pass 95 = .ok (.iload_n 3, 1) := by decide +kernel
theorem dX14_pass_96 : decode cX14_pass 96 = .ok (.invokevirtual 176, 3) := by decide +kernel
theorem dX14_pass_99 : decode cX14_pass 99 = .ok (.ifCond .eq 13, 3) := by decide +kernel
theorem dX14_pass_102 : decode cX14_pass 102 = .ok (.aload_n 0, 1) := by decide +kernel
theorem dX14_pass_103 : decode cX14_pass 103 = .ok (.dup, 1) := by decide +kernel
theorem dX14_pass_104 : decode cX14_pass 104 = .ok (.getfield 41, 3) := by decide +kernel
theorem dX14_pass_107 : decode cX14_pass 107 = .ok (.iconst 1, 1) := by decide +kernel
theorem dX14_pass_108 : decode cX14_pass 108 = .ok (.iadd, 1) := by decide +kernel
theorem dX14_pass_109 : decode cX14_pass 109 = .ok (.putfield 41, 3) := by decide +kernel
theorem dX14_pass_112 : decode cX14_pass 112 = .ok (.iinc 3 1, 3) := by decide +kernel
theorem dX14_pass_115 : decode cX14_pass 115 = .ok (.goto (-106), 3) := by decide +kernel
theorem dX14_pass_118 : decode cX14_pass 118 = .ok (.iconst 0, 1) := by decide +kernel
theorem dX14_pass_119 : decode cX14_pass 119 = .ok (.istore_n 3, 1) := by decide +kernel
theorem dX14_pass_120 : decode cX14_pass 120 = .ok (.iload_n 3, 1) := by decide +kernel
theorem dX14_pass_121 : decode cX14_pass 121 = .ok (.aload_n 0, 1) := by decide +kernel
theorem dX14_pass_122 : decode cX14_pass 122 = .ok (.getfield 3, 3) := by decide +kernel
theorem dX14_pass_125 : decode cX14_pass 125 = .ok (.getfield 70, 3) := by decide +kernel
theorem dX14_pass_128 : decode cX14_pass 128 = .ok (.getfield 118, 3) := by decide +kernel
theorem dX14_pass_131 : decode cX14_pass 131 = .ok (.if_icmp .ge 27, 3) := by decide +kernel
theorem dX14_pass_134 : decode cX14_pass 134 = .ok (.aload_n 0, 1) := by decide +kernel
theorem dX14_pass_135 : decode cX14_pass 135 = .ok (.getfield 28, 3) := by decide +kernel
theorem dX14_pass_138 : decode cX14_pass 138 = .ok (.iload_n 3, 1) := by decide +kernel
theorem dX14_pass_139 : decode cX14_pass 139 = .ok (.iconst 0, 1) := by decide +kernel
theorem dX14_pass_140 : decode cX14_pass 140 = .ok (.aload_n 0, 1) := by decide +kernel
theorem dX14_pass_141 : decode cX14_pass 141 = .ok (.getfield 28, 3) := by decide +kernel
theorem dX14_pass_144 : decode cX14_pass 144 = .ok (.iload_n 3, 1) := by decide +kernel
theorem dX14_pass_145 : decode cX14_pass 145 = .ok (.iaload, 1) := by decide +kernel
theorem dX14_pass_146 : decode cX14_pass 146 = .ok (.iconst 1, 1) := by decide +kernel
theorem dX14_pass_147 : decode cX14_pass 147 = .ok (.isub, 1) := by decide +kernel
theorem dX14_pass_148 : decode cX14_pass 148 = .ok (.invokestatic 157, 3) := by decide +kernel
theorem dX14_pass_151 : decode cX14_pass 151 = .ok (.iastore, 1) := by decide +kernel
theorem dX14_pass_152 : decode cX14_pass 152 = .ok (.iinc 3 1, 3) := by decide +kernel
theorem dX14_pass_155 : decode cX14_pass 155 = .ok (.goto (-35), 3) := by decide +kernel
theorem dX14_pass_158 : decode cX14_pass 158 = .ok (.aload_n 0, 1) := by decide +kernel
theorem dX14_pass_159 : decode cX14_pass 159 = .ok (.dup, 1) := by decide +kernel
theorem dX14_pass_160 : decode cX14_pass 160 = .ok (.getfield 37, 3) := by decide +kernel
theorem dX14_pass_163 : decode cX14_pass 163 = .ok (.iconst 1, 1) := by decide +kernel
theorem dX14_pass_164 : decode cX14_pass 164 = .ok (.iadd, 1) := by decide +kernel
theorem dX14_pass_165 : decode cX14_pass 165 = .ok (.putfield 37, 3) := by decide +kernel
theorem dX14_pass_168 : decode cX14_pass 168 = .ok (.iinc 2 1, 3) := by decide +kernel
theorem dX14_pass_171 : decode cX14_pass 171 = .ok (.goto (-169), 3) := by decide +kernel
theorem dX14_pass_174 : decode cX14_pass 174 = .ok (.aload_n 0, 1) := by decide +kernel
theorem dX14_pass_175 : decode cX14_pass 175 = .ok (.areturn, 1) := by decide +kernel
theorem dX14_untilLeft_0 : decode cX14_untilLeft 0 = .ok (.aload_n 0, 1) := by decide +kernel
theorem dX14_untilLeft_1 : decode cX14_untilLeft 1 = .ok (.getfield 34, 3) := by decide +kernel
theorem dX14_untilLeft_4 : decode cX14_untilLeft 4 = .ok (.iload_n 1, 1) := by decide +kernel
theorem dX14_untilLeft_5 : decode cX14_untilLeft 5 = .ok (.iaload, 1) := by decide +kernel
theorem dX14_untilLeft_6 : decode cX14_untilLeft 6 = .ok (.istore_n 2, 1) := by decide +kernel
theorem dX14_untilLeft_7 : decode cX14_untilLeft 7 = .ok (.iconst 1, 1) := by decide +kernel
theorem dX14_untilLeft_8 : decode cX14_untilLeft 8 = .ok (.istore_n 3, 1) := by decide +kernel
theorem dX14_untilLeft_9 : decode cX14_untilLeft 9 = .ok (.iload_n 3, 1) := by decide +kernel
theorem dX14_untilLeft_10 : decode cX14_untilLeft 10 = .ok (.bipush 40, 2) := by decide +kernel
theorem dX14_untilLeft_12 : decode cX14_untilLeft 12 = .ok (.if_icmp .gt 25, 3) := by decide +kernel
theorem dX14_untilLeft_15 : decode cX14_untilLeft 15 = .ok (.aload_n 0, 1) := by decide +kernel
theorem dX14_untilLeft_16 : decode cX14_untilLeft 16 = .ok (.iconst 1, 1) := by decide +kernel
theorem dX14_untilLeft_17 : decode cX14_untilLeft 17 = .ok (.invokevirtual 180, 3) := by decide +kernel
theorem dX14_untilLeft_20 : decode cX14_untilLeft 20 = .ok (.getfield 34, 3) := by decide +kernel
theorem dX14_untilLeft_23 : decode cX14_untilLeft 23 = .ok (.iload_n 1, 1) := by decide +kernel
theorem dX14_untilLeft_24 : decode cX14_untilLeft 24 = .ok (.iaload, 1) := by decide +kernel
theorem dX14_untilLeft_25 : decode cX14_untilLeft 25 = .ok (.iload_n 2, 1) := by decide +kernel
theorem dX14_untilLeft_26 : decode cX14_untilLeft 26 = .ok (.if_icmp .le 5, 3) := by decide +kernel
theorem dX14_untilLeft_29 : decode cX14_untilLeft 29 = .ok (.iload_n 3, 1) := by decide +kernel
theorem dX14_untilLeft_30 : decode cX14_untilLeft 30 = .ok (.ireturn, 1) := by decide +kernel
theorem dX14_untilLeft_31 : decode cX14_untilLeft 31 = .ok (.iinc 3 1, 3) := by decide +kernel
theorem dX14_untilLeft_34 : decode cX14_untilLeft 34 = .ok (.goto (-25), 3) := by decide +kernel
theorem dX14_untilLeft_37 : decode cX14_untilLeft 37 = .ok (.iconst (-1), 1) := by decide +kernel
theorem dX14_untilLeft_38 : decode cX14_untilLeft 38 = .ok (.ireturn, 1) := by decide +kernel
theorem dX15_init_0 : decode cX15_init 0 = .ok (.aload_n 0, 1) := by decide +kernel
theorem dX15_init_1 : decode cX15_init 1 = .ok (.invokespecial 3, 3) := by decide +kernel
theorem dX15_init_4 : decode cX15_init 4 = .ok (.aload_n 0, 1) := by decide +kernel
theorem dX15_init_5 : decode cX15_init 5 = .ok (.sipush 2000, 3) := by decide +kernel
theorem dX15_init_8 : decode cX15_init 8 = .ok (.newarray .int, 2) := by decide +kernel
theorem dX15_init_10 : decode cX15_init 10 = .ok (.putfield 9, 3) := by decide +kernel
theorem dX15_init_13 : decode cX15_init 13 = .ok (.aload_n 0, 1) := by decide +kernel
theorem dX15_init_14 : decode cX15_init 14 = .ok (.iconst (-1), 1) := by decide +kernel
theorem dX15_init_15 : decode cX15_init 15 = .ok (.putfield 13, 3) := by decide +kernel
theorem dX15_init_18 : decode cX15_init 18 = .ok (.aload_n 0, 1) := by decide +kernel
theorem dX15_init_19 : decode cX15_init 19 = .ok (.sipush 401, 3) := by decide +kernel
theorem dX15_init_22 : decode cX15_init 22 = .ok (.newarray .int, 2) := by decide +kernel
theorem dX15_init_24 : decode cX15_init 24 = .ok (.putfield 17, 3) := by decide +kernel
theorem dX15_init_27 : decode cX15_init 27 = .ok (.aload_n 0, 1) := by decide +kernel
theorem dX15_init_28 : decode cX15_init 28 = .ok (.sipush 401, 3) := by decide +kernel
theorem dX15_init_31 : decode cX15_init 31 = .ok (.newarray .int, 2) := by decide +kernel
theorem dX15_init_33 : decode cX15_init 33 = .ok (.putfield 20, 3) := by decide +kernel
theorem dX15_init_36 : decode cX15_init 36 = .ok (.aload_n 0, 1) := by decide +kernel
theorem dX15_init_37 : decode cX15_init 37 = .ok (.sipush 401, 3) := by decide +kernel
theorem dX15_init_40 : decode cX15_init 40 = .ok (.newarray .int, 2) := by decide +kernel
theorem dX15_init_42 : decode cX15_init 42 = .ok (.putfield 23, 3) := by decide +kernel
theorem dX15_init_45 : decode cX15_init 45 = .ok (.aload_n 0, 1) := by decide +kernel
theorem dX15_init_46 : decode cX15_init 46 = .ok (.sipush 401, 3) := by decide +kernel
theorem dX15_init_49 : decode cX15_init 49 = .ok (.newarray .int, 2) := by decide +kernel
theorem dX15_init_51 : decode cX15_init 51 = .ok (.putfield 26, 3) := by decide +kernel
theorem dX15_init_54 : decode cX15_init 54 = .ok (.aload_n 0, 1) := by decide +kernel
theorem dX15_init_55 : decode cX15_init 55 = .ok (.sipush 401, 3) := by decide +kernel
theorem dX15_init_58 : decode cX15_init 58 = .ok (.newarray .int, 2) := by decide +kernel
theorem dX15_init_60 : decode cX15_init 60 = .ok (.putfield 29, 3) := by decide +kernel
theorem dX15_init_63 : decode cX15_init 63 = .ok (.aload_n 0, 1) := by decide +kernel
theorem dX15_init_64 : decode cX15_init 64 = .ok (.new 32, 3) := by decide +kernel
theorem dX15_init_67 : decode cX15_init 67 = .ok (.dup, 1) := by decide +kernel
theorem dX15_init_68 : decode cX15_init 68 = .ok (.invokespecial 34, 3) := by decide +kernel
theorem dX15_init_71 : decode cX15_init 71 = .ok (.putfield 35, 3) := by decide +kernel
theorem dX15_init_74 : decode cX15_init 74 = .ok (.aload_n 0, 1) := by decide +kernel
theorem dX15_init_75 : decode cX15_init 75 = .ok (.aload_n 0, 1) := by decide +kernel
theorem dX15_init_76 : decode cX15_init 76 = .ok (.getfield 35, 3) := by decide +kernel
theorem dX15_init_79 : decode cX15_init 79 = .ok (.putfield 39, 3) := by decide +kernel
theorem dX15_init_82 : decode cX15_init 82 = .ok (.aload_n 0, 1) := by decide +kernel
theorem dX15_init_83 : decode cX15_init 83 = .ok (.sipush 400, 3) := by decide +kernel
theorem dX15_init_86 : decode cX15_init 86 = .ok (.newarray .int, 2) := by decide +kernel
theorem dX15_init_88 : decode cX15_init 88 = .ok (.putfield 42, 3) := by decide +kernel
theorem dX15_init_91 : decode cX15_init 91 = .ok (.aload_n 0, 1) := by decide +kernel
theorem dX15_init_92 : decode cX15_init 92 = .ok (.sipush 128, 3) := by decide +kernel
theorem dX15_init_95 : decode cX15_init 95 = .ok (.newarray .int, 2) := by decide +kernel
theorem dX15_init_97 : decode cX15_init 97 = .ok (.putfield 45, 3) := by decide +kernel
theorem dX15_init_100 : decode cX15_init 100 = .ok (.aload_n 0, 1) := by decide +kernel
theorem dX15_init_101 : decode cX15_init 101 = .ok (.sipush 128, 3) := by decide +kernel
theorem dX15_init_104 : decode cX15_init 104 = .ok (.newarray .int, 2) := by decide +kernel
theorem dX15_init_106 : decode cX15_init 106 = .ok (.putfield 48, 3) := by decide +kernel
theorem dX15_init_109 : decode cX15_init 109 = .ok (.aload_n 0, 1) := by decide +kernel
theorem dX15_init_110 : decode cX15_init 110 = .ok (.sipush 128, 3) := by decide +kernel
theorem dX15_init_113 : decode cX15_init 113 = .ok (.newarray .int, 2) := by decide +kernel
theorem dX15_init_115 : decode cX15_init 115 = .ok (.putfield 51, 3) := by decide +kernel
theorem dX15_init_118 : decode cX15_init 118 = .ok (.aload_n 0, 1) := by decide +kernel
theorem dX15_init_119 : decode cX15_init 119 = .ok (.bipush 8, 2) := by decide +kernel
theorem dX15_init_121 : decode cX15_init 121 = .ok (.newarray .int, 2) := by decide +kernel
theorem dX15_init_123 : decode cX15_init 123 = .ok (.putfield 54, 3) := by decide +kernel
theorem dX15_init_126 : decode cX15_init 126 = .ok (.aload_n 0, 1) := by decide +kernel
theorem dX15_init_127 : decode cX15_init 127 = .ok (.new 57, 3) := by decide +kernel
theorem dX15_init_130 : decode cX15_init 130 = .ok (.dup, 1) := by decide +kernel
theorem dX15_init_131 : decode cX15_init 131 = .ok (.aload_n 0, 1) := by decide +kernel
theorem dX15_init_132 : decode cX15_init 132 = .ok (.invokespecial 59, 3) := by decide +kernel
theorem dX15_init_135 : decode cX15_init 135 = .ok (.putfield 62, 3) := by decide +kernel
theorem dX15_init_138 : decode cX15_init 138 = .ok (.aload_n 0, 1) := by decide +kernel
theorem dX15_init_139 : decode cX15_init 139 = .ok (.new 57, 3) := by decide +kernel
theorem dX15_init_142 : decode cX15_init 142 = .ok (.dup, 1) := by decide +kernel
theorem dX15_init_143 : decode cX15_init 143 = .ok (.aload_n 0, 1) := by decide +kernel
theorem dX15_init_144 : decode cX15_init 144 = .ok (.invokespecial 59, 3) := by decide +kernel
theorem dX15_init_147 : decode cX15_init 147 = .ok (.putfield 66, 3) := by decide +kernel
theorem dX15_init_150 : decode cX15_init 150 = .ok (.return_, 1) := by decide +kernel
theorem dX15_thrown_0 : decode cX15_thrown 0 = .ok (.aload_n 0, 1) := by decide +kernel
theorem dX15_thrown_1 : decode cX15_thrown 1 = .ok (.getfield 69, 3) := by decide +kernel
theorem dX15_thrown_4 : decode cX15_thrown 4 = .ok (.ireturn, 1) := by decide +kernel
theorem dX15_no_0 : decode cX15_no 0 = .ok (.aload_n 0, 1) := by decide +kernel
theorem dX15_no_1 : decode cX15_no 1 = .ok (.iload_n 1, 1) := by decide +kernel
theorem dX15_no_2 : decode cX15_no 2 = .ok (.putfield 69, 3) := by decide +kernel
theorem dX15_no_5 : decode cX15_no 5 = .ok (.iconst 0, 1) := by decide +kernel
theorem dX15_no_6 : decode cX15_no 6 = .ok (.ireturn, 1) := by decide +kernel
theorem dX15_isNot_0 : decode cX15_isNot 0 = .ok (.aload_n 0, 1) := by decide +kernel
theorem dX15_isNot_1 : decode cX15_isNot 1 = .ok (.iload_n 1, 1) := by decide +kernel
theorem dX15_isNot_2 : decode cX15_isNot 2 = .ok (.putfield 69, 3) := by decide +kernel
theorem dX15_isNot_5 : decode cX15_isNot 5 = .ok (.iconst 0, 1) := by decide +kernel
theorem dX15_isNot_6 : decode cX15_isNot 6 = .ok (.ireturn, 1) := by decide +kernel
theorem dX15_ok_0 : decode cX15_ok 0 = .ok (.aload_n 0, 1) := by decide +kernel
theorem dX15_ok_1 : decode cX15_ok 1 = .ok (.iconst 0, 1) := by decide +kernel
theorem dX15_ok_2 : decode cX15_ok 2 = .ok (.putfield 69, 3) := by decide +kernel
theorem dX15_ok_5 : decode cX15_ok 5 = .ok (.iload_n 1, 1) := by decide +kernel
theorem dX15_ok_6 : decode cX15_ok 6 = .ok (.ireturn, 1) := by decide +kernel
theorem dX15_isIn_0 : decode cX15_isIn 0 = .ok (.iload_n 0, 1) := by decide +kernel
theorem dX15_isIn_1 : decode cX15_isIn 1 = .ok (.iload_n 1, 1) := by decide +kernel
theorem dX15_isIn_2 : decode cX15_isIn 2 = .ok (.if_icmp .lt 12, 3) := by decide +kernel
theorem dX15_isIn_5 : decode cX15_isIn 5 = .ok (.iload_n 0, 1) := by decide +kernel
theorem dX15_isIn_6 : decode cX15_isIn 6 = .ok (.iload_n 2, 1) := by decide +kernel
theorem dX15_isIn_7 : decode cX15_isIn 7 = .ok (.if_icmp .gt 7, 3) := by decide +kernel
theorem dX15_isIn_10 : decode cX15_isIn 10 = .ok (.iconst 1, 1) := by decide +kernel
theorem dX15_isIn_11 : decode cX15_isIn 11 = .ok (.goto 4, 3) := by decide +kernel
theorem dX15_isIn_14 : decode cX15_isIn 14 = .ok (.iconst 0, 1) := by decide +kernel
theorem dX15_isIn_15 : decode cX15_isIn 15 = .ok (.ireturn, 1) := by decide +kernel
theorem dX15_isHedge_0 : decode cX15_isHedge 0 = .ok (.iload_n 1, 1) := by decide +kernel
theorem dX15_isHedge_1 : decode cX15_isHedge 1 = .ok (.iconst 0, 1) := by decide +kernel
theorem dX15_isHedge_2 : decode cX15_isHedge 2 = .ok (.aload_n 0, 1) := by decide +kernel
theorem dX15_isHedge_3 : decode cX15_isHedge 3 = .ok (.getfield 35, 3) := by decide +kernel
theorem dX15_isHedge_6 : decode cX15_isHedge 6 = .ok (.getfield 72, 3) := by decide +kernel
theorem dX15_isHedge_9 : decode cX15_isHedge 9 = .ok (.iconst 1, 1) := by decide +kernel
theorem dX15_isHedge_10 : decode cX15_isHedge 10 = .ok (.isub, 1) := by decide +kernel
theorem dX15_isHedge_11 : decode cX15_isHedge 11 = .ok (.invokestatic 75, 3) := by decide +kernel
theorem dX15_isHedge_14 : decode cX15_isHedge 14 = .ok (.ireturn, 1) := by decide +kernel
theorem dX15_isRose_0 : decode cX15_isRose 0 = .ok (.iload_n 1, 1) := by decide +kernel
theorem dX15_isRose_1 : decode cX15_isRose 1 = .ok (.iconst 0, 1) := by decide +kernel
theorem dX15_isRose_2 : decode cX15_isRose 2 = .ok (.aload_n 0, 1) := by decide +kernel
theorem dX15_isRose_3 : decode cX15_isRose 3 = .ok (.getfield 35, 3) := by decide +kernel
theorem dX15_isRose_6 : decode cX15_isRose 6 = .ok (.getfield 79, 3) := by decide +kernel
theorem dX15_isRose_9 : decode cX15_isRose 9 = .ok (.iconst 1, 1) := by decide +kernel
theorem dX15_isRose_10 : decode cX15_isRose 10 = .ok (.isub, 1) := by decide +kernel
theorem dX15_isRose_11 : decode cX15_isRose 11 = .ok (.invokestatic 75, 3) := by decide +kernel
theorem dX15_isRose_14 : decode cX15_isRose 14 = .ok (.ireturn, 1) := by decide +kernel
theorem dX15_ahead_0 : decode cX15_ahead 0 = .ok (.aload_n 0, 1) := by decide +kernel
theorem dX15_ahead_1 : decode cX15_ahead 1 = .ok (.getfield 66, 3) := by decide +kernel
theorem dX15_ahead_4 : decode cX15_ahead 4 = .ok (.aload_n 0, 1) := by decide +kernel
theorem dX15_ahead_5 : decode cX15_ahead 5 = .ok (.getfield 62, 3) := by decide +kernel
theorem dX15_ahead_8 : decode cX15_ahead 8 = .ok (.invokevirtual 82, 3) := by decide +kernel
theorem dX15_ahead_11 : decode cX15_ahead 11 = .ok (.areturn, 1) := by decide +kernel
theorem dX15_both_0 : decode cX15_both 0 = .ok (.iload_n 0, 1) := by decide +kernel
theorem dX15_both_1 : decode cX15_both 1 = .ok (.tableswitch 214 19 44 #[210, 214, 143, 149, 214, 214, 214, 214, 214, 214, 214, 214, 214, 214, 214, 119, 123, 127, 131, 155, 166, 214, 214, 177, 188, 199], 119) := by decide +kernel
theorem dX15_both_120 : decode cX15_both 120 = .ok (.iload_n 1, 1) := by decide +kernel
theorem dX15_both_121 : decode cX15_both 121 = .ok (.iload_n 2, 1) := by decide +kernel
theorem dX15_both_122 : decode cX15_both 122 = .ok (.iadd, 1) := by decide +kernel
theorem dX15_both_123 : decode cX15_both 123 = .ok (.ireturn, 1) := by decide +kernel
theorem dX15_both_124 : decode cX15_both 124 = .ok (.iload_n 1, 1) := by decide +kernel
theorem dX15_both_125 : decode cX15_both 125 = .ok (.iload_n 2, 1) := by decide +kernel
theorem dX15_both_126 : decode cX15_both 126 = .ok (.isub, 1) := by decide +kernel
theorem dX15_both_127 : decode cX15_both 127 = .ok (.ireturn, 1) := by decide +kernel
theorem dX15_both_128 : decode cX15_both 128 = .ok (.iload_n 1, 1) := by decide +kernel
theorem dX15_both_129 : decode cX15_both 129 = .ok (.iload_n 2, 1) := by decide +kernel
theorem dX15_both_130 : decode cX15_both 130 = .ok (.imul, 1) := by decide +kernel
theorem dX15_both_131 : decode cX15_both 131 = .ok (.ireturn, 1) := by decide +kernel
theorem dX15_both_132 : decode cX15_both 132 = .ok (.iload_n 2, 1) := by decide +kernel
theorem dX15_both_133 : decode cX15_both 133 = .ok (.ifCond .ne 7, 3) := by decide +kernel
theorem dX15_both_136 : decode cX15_both 136 = .ok (.iconst 0, 1) := by decide +kernel
theorem dX15_both_137 : decode cX15_both 137 = .ok (.goto 6, 3) := by decide +kernel
theorem dX15_both_140 : decode cX15_both 140 = .ok (.iload_n 1, 1) := by decide +kernel
theorem dX15_both_141 : decode cX15_both 141 = .ok (.iload_n 2, 1) := by decide +kernel
theorem dX15_both_142 : decode cX15_both 142 = .ok (.idiv, 1) := by decide +kernel
theorem dX15_both_143 : decode cX15_both 143 = .ok (.ireturn, 1) := by decide +kernel
theorem dX15_both_144 : decode cX15_both 144 = .ok (.iload_n 1, 1) := by decide +kernel
theorem dX15_both_145 : decode cX15_both 145 = .ok (.iload_n 2, 1) := by decide +kernel
theorem dX15_both_146 : decode cX15_both 146 = .ok (.invokestatic 86, 3) := by decide +kernel
theorem dX15_both_149 : decode cX15_both 149 = .ok (.ireturn, 1) := by decide +kernel
theorem dX15_both_150 : decode cX15_both 150 = .ok (.iload_n 1, 1) := by decide +kernel
theorem dX15_both_151 : decode cX15_both 151 = .ok (.iload_n 2, 1) := by decide +kernel
theorem dX15_both_152 : decode cX15_both 152 = .ok (.invokestatic 92, 3) := by decide +kernel
theorem dX15_both_155 : decode cX15_both 155 = .ok (.ireturn, 1) := by decide +kernel
theorem dX15_both_156 : decode cX15_both 156 = .ok (.iload_n 1, 1) := by decide +kernel
theorem dX15_both_157 : decode cX15_both 157 = .ok (.iload_n 2, 1) := by decide +kernel
theorem dX15_both_158 : decode cX15_both 158 = .ok (.if_icmp .ge 7, 3) := by decide +kernel
theorem dX15_both_161 : decode cX15_both 161 = .ok (.iconst 1, 1) := by decide +kernel
theorem dX15_both_162 : decode cX15_both 162 = .ok (.goto 4, 3) := by decide +kernel
theorem dX15_both_165 : decode cX15_both 165 = .ok (.iconst 0, 1) := by decide +kernel
theorem dX15_both_166 : decode cX15_both 166 = .ok (.ireturn, 1) := by decide +kernel
theorem dX15_both_167 : decode cX15_both 167 = .ok (.iload_n 1, 1) := by decide +kernel
theorem dX15_both_168 : decode cX15_both 168 = .ok (.iload_n 2, 1) := by decide +kernel
theorem dX15_both_169 : decode cX15_both 169 = .ok (.if_icmp .le 7, 3) := by decide +kernel
theorem dX15_both_172 : decode cX15_both 172 = .ok (.iconst 1, 1) := by decide +kernel
theorem dX15_both_173 : decode cX15_both 173 = .ok (.goto 4, 3) := by decide +kernel
theorem dX15_both_176 : decode cX15_both 176 = .ok (.iconst 0, 1) := by decide +kernel
theorem dX15_both_177 : decode cX15_both 177 = .ok (.ireturn, 1) := by decide +kernel
theorem dX15_both_178 : decode cX15_both 178 = .ok (.iload_n 1, 1) := by decide +kernel
theorem dX15_both_179 : decode cX15_both 179 = .ok (.iload_n 2, 1) := by decide +kernel
theorem dX15_both_180 : decode cX15_both 180 = .ok (.if_icmp .ne 7, 3) := by decide +kernel
theorem dX15_both_183 : decode cX15_both 183 = .ok (.iconst 1, 1) := by decide +kernel
theorem dX15_both_184 : decode cX15_both 184 = .ok (.goto 4, 3) := by decide +kernel
theorem dX15_both_187 : decode cX15_both 187 = .ok (.iconst 0, 1) := by decide +kernel
theorem dX15_both_188 : decode cX15_both 188 = .ok (.ireturn, 1) := by decide +kernel
theorem dX15_both_189 : decode cX15_both 189 = .ok (.iload_n 1, 1) := by decide +kernel
theorem dX15_both_190 : decode cX15_both 190 = .ok (.iload_n 2, 1) := by decide +kernel
theorem dX15_both_191 : decode cX15_both 191 = .ok (.if_icmp .gt 7, 3) := by decide +kernel
theorem dX15_both_194 : decode cX15_both 194 = .ok (.iconst 1, 1) := by decide +kernel
theorem dX15_both_195 : decode cX15_both 195 = .ok (.goto 4, 3) := by decide +kernel
theorem dX15_both_198 : decode cX15_both 198 = .ok (.iconst 0, 1) := by decide +kernel
theorem dX15_both_199 : decode cX15_both 199 = .ok (.ireturn, 1) := by decide +kernel
theorem dX15_both_200 : decode cX15_both 200 = .ok (.iload_n 1, 1) := by decide +kernel
theorem dX15_both_201 : decode cX15_both 201 = .ok (.iload_n 2, 1) := by decide +kernel
theorem dX15_both_202 : decode cX15_both 202 = .ok (.if_icmp .lt 7, 3) := by decide +kernel
theorem dX15_both_205 : decode cX15_both 205 = .ok (.iconst 1, 1) := by decide +kernel
theorem dX15_both_206 : decode cX15_both 206 = .ok (.goto 4, 3) := by decide +kernel
theorem dX15_both_209 : decode cX15_both 209 = .ok (.iconst 0, 1) := by decide +kernel
theorem dX15_both_210 : decode cX15_both 210 = .ok (.ireturn, 1) := by decide +kernel
theorem dX15_both_211 : decode cX15_both 211 = .ok (.iload_n 1, 1) := by decide +kernel
theorem dX15_both_212 : decode cX15_both 212 = .ok (.iload_n 2, 1) := by decide +kernel
theorem dX15_both_213 : decode cX15_both 213 = .ok (.iand, 1) := by decide +kernel
theorem dX15_both_214 : decode cX15_both 214 = .ok (.ireturn, 1) := by decide +kernel
theorem dX15_both_215 : decode cX15_both 215 = .ok (.iload_n 1, 1) := by decide +kernel
theorem dX15_both_216 : decode cX15_both 216 = .ok (.iload_n 2, 1) := by decide +kernel
theorem dX15_both_217 : decode cX15_both 217 = .ok (.ior, 1) := by decide +kernel
theorem dX15_both_218 : decode cX15_both 218 = .ok (.ireturn, 1) := by decide +kernel
theorem dX15_isLetter_0 : decode cX15_isLetter 0 = .ok (.iload_n 0, 1) := by decide +kernel
theorem dX15_isLetter_1 : decode cX15_isLetter 1 = .ok (.bipush 97, 2) := by decide +kernel
theorem dX15_isLetter_3 : decode cX15_isLetter 3 = .ok (.if_icmp .lt 13, 3) := by decide +kernel
theorem dX15_isLetter_6 : decode cX15_isLetter 6 = .ok (.iload_n 0, 1) := by decide +kernel
theorem dX15_isLetter_7 : decode cX15_isLetter 7 = .ok (.bipush 122, 2) := by decide +kernel
theorem dX15_isLetter_9 : decode cX15_isLetter 9 = .ok (.if_icmp .gt 7, 3) := by decide +kernel
theorem dX15_isLetter_12 : decode cX15_isLetter 12 = .ok (.iconst 1, 1) := by decide +kernel
theorem dX15_isLetter_13 : decode cX15_isLetter 13 = .ok (.goto 4, 3) := by decide +kernel
theorem dX15_isLetter_16 : decode cX15_isLetter 16 = .ok (.iconst 0, 1) := by decide +kernel
theorem dX15_isLetter_17 : decode cX15_isLetter 17 = .ok (.ireturn, 1) := by decide +kernel
theorem dX15_isDigit_0 : decode cX15_isDigit 0 = .ok (.iload_n 0, 1) := by decide +kernel
theorem dX15_isDigit_1 : decode cX15_isDigit 1 = .ok (.bipush 48, 2) := by decide +kernel
theorem dX15_isDigit_3 : decode cX15_isDigit 3 = .ok (.if_icmp .lt 13, 3) := by decide +kernel
theorem dX15_isDigit_6 : decode cX15_isDigit 6 = .ok (.iload_n 0, 1) := by decide +kernel
theorem dX15_isDigit_7 : decode cX15_isDigit 7 = .ok (.bipush 57, 2) := by decide +kernel
theorem dX15_isDigit_9 : decode cX15_isDigit 9 = .ok (.if_icmp .gt 7, 3) := by decide +kernel
theorem dX15_isDigit_12 : decode cX15_isDigit 12 = .ok (.iconst 1, 1) := by decide +kernel
theorem dX15_isDigit_13 : decode cX15_isDigit 13 = .ok (.goto 4, 3) := by decide +kernel
theorem dX15_isDigit_16 : decode cX15_isDigit 16 = .ok (.iconst 0, 1) := by decide +kernel
theorem dX15_isDigit_17 : decode cX15_isDigit 17 = .ok (.ireturn, 1) := by decide +kernel
theorem dX15_byteOf_0 : decode cX15_byteOf 0 = .ok (.iload_n 1, 1) := by decide +kernel
theorem dX15_byteOf_1 : decode cX15_byteOf 1 = .ok (.aload_n 0, 1) := by decide +kernel
theorem dX15_byteOf_2 : decode cX15_byteOf 2 = .ok (.getfield 95, 3) := by decide +kernel
theorem dX15_byteOf_5 : decode cX15_byteOf 5 = .ok (.if_icmp .ge 12, 3) := by decide +kernel
theorem dX15_byteOf_8 : decode cX15_byteOf 8 = .ok (.aload_n 0, 1) := by decide +kernel
theorem dX15_byteOf_9 : decode cX15_byteOf 9 = .ok (.getfield 9, 3) := by decide +kernel
theorem dX15_byteOf_12 : decode cX15_byteOf 12 = .ok (.iload_n 1, 1) := by decide +kernel
theorem dX15_byteOf_13 : decode cX15_byteOf 13 = .ok (.iaload, 1) := by decide +kernel
theorem dX15_byteOf_14 : decode cX15_byteOf 14 = .ok (.goto 4, 3) := by decide +kernel
theorem dX15_byteOf_17 : decode cX15_byteOf 17 = .ok (.iconst (-1), 1) := by decide +kernel
theorem dX15_byteOf_18 : decode cX15_byteOf 18 = .ok (.ireturn, 1) := by decide +kernel
theorem dX15_kindAt_0 : decode cX15_kindAt 0 = .ok (.aload_n 0, 1) := by decide +kernel
theorem dX15_kindAt_1 : decode cX15_kindAt 1 = .ok (.iload_n 1, 1) := by decide +kernel
theorem dX15_kindAt_2 : decode cX15_kindAt 2 = .ok (.invokevirtual 98, 3) := by decide +kernel
theorem dX15_kindAt_5 : decode cX15_kindAt 5 = .ok (.istore_n 3, 1) := by decide +kernel
theorem dX15_kindAt_6 : decode cX15_kindAt 6 = .ok (.iload_n 1, 1) := by decide +kernel
theorem dX15_kindAt_7 : decode cX15_kindAt 7 = .ok (.iconst 1, 1) := by decide +kernel
theorem dX15_kindAt_8 : decode cX15_kindAt 8 = .ok (.iadd, 1) := by decide +kernel
theorem dX15_kindAt_9 : decode cX15_kindAt 9 = .ok (.istore 4, 2) := by decide +kernel
theorem dX15_kindAt_11 : decode cX15_kindAt 11 = .ok (.iload_n 3, 1) := by decide +kernel
theorem dX15_kindAt_12 : decode cX15_kindAt 12 = .ok (.iconst (-1), 1) := by decide +kernel
theorem dX15_kindAt_13 : decode cX15_kindAt 13 = .ok (.if_icmp .ne 7, 3) := by decide +kernel
theorem dX15_kindAt_16 : decode cX15_kindAt 16 = .ok (.sipush 900, 3) := by decide +kernel
theorem dX15_kindAt_19 : decode cX15_kindAt 19 = .ok (.ireturn, 1) := by decide +kernel
theorem dX15_kindAt_20 : decode cX15_kindAt 20 = .ok (.iload_n 3, 1) := by decide +kernel
theorem dX15_kindAt_21 : decode cX15_kindAt 21 = .ok (.invokestatic 102, 3) := by decide +kernel
theorem dX15_kindAt_24 : decode cX15_kindAt 24 = .ok (.ifCond .ne 10, 3) := by decide +kernel
theorem dX15_kindAt_27 : decode cX15_kindAt 27 = .ok (.iload_n 3, 1) := by decide +kernel
theorem dX15_kindAt_28 : decode cX15_kindAt 28 = .ok (.invokestatic 106, 3) := by decide +kernel
theorem dX15_kindAt_31 : decode cX15_kindAt 31 = .ok (.ifCond .eq 97, 3) := by decide +kernel
theorem dX15_kindAt_34 : decode cX15_kindAt 34 = .ok (.aload_n 0, 1) := by decide +kernel
theorem dX15_kindAt_35 : decode cX15_kindAt 35 = .ok (.iload 4, 2) := by decide +kernel
theorem dX15_kindAt_37 : decode cX15_kindAt 37 = .ok (.invokevirtual 98, 3) := by decide +kernel
theorem dX15_kindAt_40 : decode cX15_kindAt 40 = .ok (.invokestatic 106, 3) := by decide +kernel
theorem dX15_kindAt_43 : decode cX15_kindAt 43 = .ok (.ifCond .ne 22, 3) := by decide +kernel
theorem dX15_kindAt_46 : decode cX15_kindAt 46 = .ok (.iload_n 3, 1) := by decide +kernel
theorem dX15_kindAt_47 : decode cX15_kindAt 47 = .ok (.invokestatic 102, 3) := by decide +kernel
theorem dX15_kindAt_50 : decode cX15_kindAt 50 = .ok (.ifCond .eq 21, 3) := by decide +kernel
theorem dX15_kindAt_53 : decode cX15_kindAt 53 = .ok (.aload_n 0, 1) := by decide +kernel
theorem dX15_kindAt_54 : decode cX15_kindAt 54 = .ok (.iload 4, 2) := by decide +kernel
theorem dX15_kindAt_56 : decode cX15_kindAt 56 = .ok (.invokevirtual 98, 3) := by decide +kernel
theorem dX15_kindAt_59 : decode cX15_kindAt 59 = .ok (.invokestatic 102, 3) := by decide +kernel
theorem dX15_kindAt_62 : decode cX15_kindAt 62 = .ok (.ifCond .eq 9, 3) := by decide +kernel
theorem dX15_kindAt_65 : decode cX15_kindAt 65 = .ok (.iinc 4 1, 3) := by decide +kernel
theorem dX15_kindAt_68 : decode cX15_kindAt 68 = .ok (.goto (-34), 3) := by decide +kernel
theorem dX15_kindAt_71 : decode cX15_kindAt 71 = .ok (.aload_n 0, 1) := by decide +kernel
theorem dX15_kindAt_72 : decode cX15_kindAt 72 = .ok (.getfield 23, 3) := by decide +kernel
theorem dX15_kindAt_75 : decode cX15_kindAt 75 = .ok (.iload_n 2, 1) := by decide +kernel
theorem dX15_kindAt_76 : decode cX15_kindAt 76 = .ok (.iload 4, 2) := by decide +kernel
theorem dX15_kindAt_78 : decode cX15_kindAt 78 = .ok (.iload_n 1, 1) := by decide +kernel
theorem dX15_kindAt_79 : decode cX15_kindAt 79 = .ok (.isub, 1) := by decide +kernel
theorem dX15_kindAt_80 : decode cX15_kindAt 80 = .ok (.iastore, 1) := by decide +kernel
theorem dX15_kindAt_81 : decode cX15_kindAt 81 = .ok (.iload 4, 2) := by decide +kernel
theorem dX15_kindAt_83 : decode cX15_kindAt 83 = .ok (.iload_n 1, 1) := by decide +kernel
theorem dX15_kindAt_84 : decode cX15_kindAt 84 = .ok (.isub, 1) := by decide +kernel
theorem dX15_kindAt_85 : decode cX15_kindAt 85 = .ok (.iload_n 3, 1) := by decide +kernel
theorem dX15_kindAt_86 : decode cX15_kindAt 86 = .ok (.invokestatic 102, 3) := by decide +kernel
theorem dX15_kindAt_89 : decode cX15_kindAt 89 = .ok (.ifCond .eq 8, 3) := by decide +kernel
theorem dX15_kindAt_92 : decode cX15_kindAt 92 = .ok (.bipush 10, 2) := by decide +kernel
theorem dX15_kindAt_94 : decode cX15_kindAt 94 = .ok (.goto 5, 3) := by decide +kernel
theorem dX15_kindAt_97 : decode cX15_kindAt 97 = .ok (.bipush 6, 2) := by decide +kernel
theorem dX15_kindAt_99 : decode cX15_kindAt 99 = .ok (.if_icmp .le 7, 3) := by decide +kernel
theorem dX15_kindAt_102 : decode cX15_kindAt 102 = .ok (.sipush 901, 3) := by decide +kernel
theorem dX15_kindAt_105 : decode cX15_kindAt 105 = .ok (.ireturn, 1) := by decide +kernel
theorem dX15_kindAt_106 : decode cX15_kindAt 106 = .ok (.iload_n 3, 1) := by decide +kernel
theorem dX15_kindAt_107 : decode cX15_kindAt 107 = .ok (.invokestatic 102, 3) := by decide +kernel
theorem dX15_kindAt_110 : decode cX15_kindAt 110 = .ok (.ifCond .eq 15, 3) := by decide +kernel
theorem dX15_kindAt_113 : decode cX15_kindAt 113 = .ok (.aload_n 0, 1) := by decide +kernel
theorem dX15_kindAt_114 : decode cX15_kindAt 114 = .ok (.iload_n 1, 1) := by decide +kernel
theorem dX15_kindAt_115 : decode cX15_kindAt 115 = .ok (.iload 4, 2) := by decide +kernel
theorem dX15_kindAt_117 : decode cX15_kindAt 117 = .ok (.iload_n 1, 1) := by decide +kernel
theorem dX15_kindAt_118 : decode cX15_kindAt 118 = .ok (.isub, 1) := by decide +kernel
theorem dX15_kindAt_119 : decode cX15_kindAt 119 = .ok (.invokevirtual 109, 3) := by decide +kernel
theorem dX15_kindAt_122 : decode cX15_kindAt 122 = .ok (.goto 5, 3) := by decide +kernel
theorem dX15_kindAt_125 : decode cX15_kindAt 125 = .ok (.bipush 41, 2) := by decide +kernel
theorem dX15_kindAt_127 : decode cX15_kindAt 127 = .ok (.ireturn, 1) := by decide +kernel
theorem dX15_kindAt_128 : decode cX15_kindAt 128 = .ok (.iload_n 3, 1) := by decide +kernel
theorem dX15_kindAt_129 : decode cX15_kindAt 129 = .ok (.bipush 60, 2) := by decide +kernel
theorem dX15_kindAt_131 : decode cX15_kindAt 131 = .ok (.if_icmp .eq 9, 3) := by decide +kernel
theorem dX15_kindAt_134 : decode cX15_kindAt 134 = .ok (.iload_n 3, 1) := by decide +kernel
theorem dX15_kindAt_135 : decode cX15_kindAt 135 = .ok (.bipush 62, 2) := by decide +kernel
theorem dX15_kindAt_137 : decode cX15_kindAt 137 = .ok (.if_icmp .ne 18, 3) := by decide +kernel
theorem dX15_kindAt_140 : decode cX15_kindAt 140 = .ok (.aload_n 0, 1) := by decide +kernel
theorem dX15_kindAt_141 : decode cX15_kindAt 141 = .ok (.iload 4, 2) := by decide +kernel
theorem dX15_kindAt_143 : decode cX15_kindAt 143 = .ok (.invokevirtual 98, 3) := by decide +kernel
theorem dX15_kindAt_146 : decode cX15_kindAt 146 = .ok (.bipush 61, 2) := by decide +kernel
theorem dX15_kindAt_148 : decode cX15_kindAt 148 = .ok (.if_icmp .ne 7, 3) := by decide +kernel
theorem dX15_kindAt_151 : decode cX15_kindAt 151 = .ok (.iconst 1, 1) := by decide +kernel
theorem dX15_kindAt_152 : decode cX15_kindAt 152 = .ok (.goto 4, 3) := by decide +kernel
theorem dX15_kindAt_155 : decode cX15_kindAt 155 = .ok (.iconst 0, 1) := by decide +kernel
theorem dX15_kindAt_156 : decode cX15_kindAt 156 = .ok (.istore 5, 2) := by decide +kernel
theorem dX15_kindAt_158 : decode cX15_kindAt 158 = .ok (.aload_n 0, 1) := by decide +kernel
theorem dX15_kindAt_159 : decode cX15_kindAt 159 = .ok (.getfield 23, 3) := by decide +kernel
theorem dX15_kindAt_162 : decode cX15_kindAt 162 = .ok (.iload_n 2, 1) := by decide +kernel
theorem dX15_kindAt_163 : decode cX15_kindAt 163 = .ok (.iload 5, 2) := by decide +kernel
theorem dX15_kindAt_165 : decode cX15_kindAt 165 = .ok (.ifCond .eq 7, 3) := by decide +kernel
theorem dX15_kindAt_168 : decode cX15_kindAt 168 = .ok (.iconst 2, 1) := by decide +kernel
theorem dX15_kindAt_169 : decode cX15_kindAt 169 = .ok (.goto 4, 3) := by decide +kernel
theorem dX15_kindAt_172 : decode cX15_kindAt 172 = .ok (.iconst 1, 1) := by decide +kernel
theorem dX15_kindAt_173 : decode cX15_kindAt 173 = .ok (.iastore, 1) := by decide +kernel
theorem dX15_kindAt_174 : decode cX15_kindAt 174 = .ok (.iload 5, 2) := by decide +kernel
theorem dX15_kindAt_176 : decode cX15_kindAt 176 = .ok (.ifCond .eq 19, 3) := by decide +kernel
theorem dX15_kindAt_179 : decode cX15_kindAt 179 = .ok (.iload_n 3, 1) := by decide +kernel
theorem dX15_kindAt_180 : decode cX15_kindAt 180 = .ok (.bipush 60, 2) := by decide +kernel
theorem dX15_kindAt_182 : decode cX15_kindAt 182 = .ok (.if_icmp .ne 9, 3) := by decide +kernel
theorem dX15_kindAt_185 : decode cX15_kindAt 185 = .ok (.sipush 300, 3) := by decide +kernel
theorem dX15_kindAt_188 : decode cX15_kindAt 188 = .ok (.goto 6, 3) := by decide +kernel
theorem dX15_kindAt_191 : decode cX15_kindAt 191 = .ok (.sipush 301, 3) := by decide +kernel
theorem dX15_kindAt_194 : decode cX15_kindAt 194 = .ok (.ireturn, 1) := by decide +kernel
theorem dX15_kindAt_195 : decode cX15_kindAt 195 = .ok (.iload_n 3, 1) := by decide +kernel
theorem dX15_kindAt_196 : decode cX15_kindAt 196 = .ok (.ifCond .le 27, 3) := by decide +kernel
theorem dX15_kindAt_199 : decode cX15_kindAt 199 = .ok (.iload_n 3, 1) := by decide +kernel
theorem dX15_kindAt_200 : decode cX15_kindAt 200 = .ok (.sipush 128, 3) := by decide +kernel
theorem dX15_kindAt_203 : decode cX15_kindAt 203 = .ok (.if_icmp .ge 20, 3) := by decide +kernel
theorem dX15_kindAt_206 : decode cX15_kindAt 206 = .ok (.ldc 112, 2) := by decide +kernel
theorem dX15_kindAt_208 : decode cX15_kindAt 208 = .ok (.iload_n 3, 1) := by decide +kernel
theorem dX15_kindAt_209 : decode cX15_kindAt 209 = .ok (.i2c, 1) := by decide +kernel
theorem dX15_kindAt_210 : decode cX15_kindAt 210 = .ok (.invokevirtual 114, 3) := by decide +kernel
theorem dX15_kindAt_213 : decode cX15_kindAt 213 = .ok (.ifCond .lt 10, 3) := by decide +kernel
theorem dX15_kindAt_216 : decode cX15_kindAt 216 = .ok (.bipush 50, 2) := by decide +kernel
theorem dX15_kindAt_218 : decode cX15_kindAt 218 = .ok (.iload_n 3, 1) := by decide +kernel
theorem dX15_kindAt_219 : decode cX15_kindAt 219 = .ok (.iadd, 1) := by decide +kernel
theorem dX15_kindAt_220 : decode cX15_kindAt 220 = .ok (.goto 6, 3) := by decide +kernel
theorem dX15_kindAt_223 : decode cX15_kindAt 223 = .ok (.sipush 901, 3) := by decide +kernel
theorem dX15_kindAt_226 : decode cX15_kindAt 226 = .ok (.ireturn, 1) := by decide +kernel
theorem dX15_word_0 : decode cX15_word 0 = .ok (.iconst 0, 1) := by decide +kernel
theorem dX15_word_1 : decode cX15_word 1 = .ok (.istore_n 3, 1) := by decide +kernel
theorem dX15_word_2 : decode cX15_word 2 = .ok (.iload_n 3, 1) := by decide +kernel
theorem dX15_word_3 : decode cX15_word 3 = .ok (.getstatic 119, 3) := by decide +kernel
theorem dX15_word_6 : decode cX15_word 6 = .ok (.arraylength, 1) := by decide +kernel
theorem dX15_word_7 : decode cX15_word 7 = .ok (.if_icmp .ge 84, 3) := by decide +kernel
theorem dX15_word_10 : decode cX15_word 10 = .ok (.getstatic 119, 3) := by decide +kernel
theorem dX15_word_13 : decode cX15_word 13 = .ok (.iload_n 3, 1) := by decide +kernel
theorem dX15_word_14 : decode cX15_word 14 = .ok (.aaload, 1) := by decide +kernel
theorem dX15_word_15 : decode cX15_word 15 = .ok (.invokevirtual 123, 3) := by decide +kernel
theorem dX15_word_18 : decode cX15_word 18 = .ok (.iload_n 2, 1) := by decide +kernel
theorem dX15_word_19 : decode cX15_word 19 = .ok (.if_icmp .ne 7, 3) := by decide +kernel
theorem dX15_word_22 : decode cX15_word 22 = .ok (.iconst 1, 1) := by decide +kernel
theorem dX15_word_23 : decode cX15_word 23 = .ok (.goto 4, 3) := by decide +kernel
theorem dX15_word_26 : decode cX15_word 26 = .ok (.iconst 0, 1) := by decide +kernel
theorem dX15_word_27 : decode cX15_word 27 = .ok (.istore 4, 2) := by decide +kernel
theorem dX15_word_29 : decode cX15_word 29 = .ok (.iconst 0, 1) := by decide +kernel
theorem dX15_word_30 : decode cX15_word 30 = .ok (.istore 5, 2) := by decide +kernel
theorem dX15_word_32 : decode cX15_word 32 = .ok (.iload 4, 2) := by decide +kernel
theorem dX15_word_34 : decode cX15_word 34 = .ok (.ifCond .eq 44, 3) := by decide +kernel
theorem dX15_word_37 : decode cX15_word 37 = .ok (.iload 5, 2) := by decide +kernel
theorem dX15_word_39 : decode cX15_word 39 = .ok (.iload_n 2, 1) := by decide +kernel
theorem dX15_word_40 : decode cX15_word 40 = .ok (.if_icmp .ge 38, 3) := by decide +kernel
theorem dX15_word_43 : decode cX15_word 43 = .ok (.getstatic 119, 3) := by decide +kernel
theorem dX15_word_46 : decode cX15_word 46 = .ok (.iload_n 3, 1) := by decide +kernel
theorem dX15_word_47 : decode cX15_word 47 = .ok (.aaload, 1) := by decide +kernel
theorem dX15_word_48 : decode cX15_word 48 = .ok (.iload 5, 2) := by decide +kernel
theorem dX15_word_50 : decode cX15_word 50 = .ok (.invokevirtual 127, 3) := by decide +kernel
theorem dX15_word_53 : decode cX15_word 53 = .ok (.aload_n 0, 1) := by decide +kernel
theorem dX15_word_54 : decode cX15_word 54 = .ok (.getfield 9, 3) := by decide +kernel
theorem dX15_word_57 : decode cX15_word 57 = .ok (.iload_n 1, 1) := by decide +kernel
theorem dX15_word_58 : decode cX15_word 58 = .ok (.iload 5, 2) := by decide +kernel
theorem dX15_word_60 : decode cX15_word 60 = .ok (.iadd, 1) := by decide +kernel
theorem dX15_word_61 : decode cX15_word 61 = .ok (.iaload, 1) := by decide +kernel
theorem dX15_word_62 : decode cX15_word 62 = .ok (.if_icmp .ne 7, 3) := by decide +kernel
theorem dX15_word_65 : decode cX15_word 65 = .ok (.iconst 1, 1) := by decide +kernel
theorem dX15_word_66 : decode cX15_word 66 = .ok (.goto 4, 3) := by decide +kernel
theorem dX15_word_69 : decode cX15_word 69 = .ok (.iconst 0, 1) := by decide +kernel
theorem dX15_word_70 : decode cX15_word 70 = .ok (.istore 4, 2) := by decide +kernel
theorem dX15_word_72 : decode cX15_word 72 = .ok (.iinc 5 1, 3) := by decide +kernel
theorem dX15_word_75 : decode cX15_word 75 = .ok (.goto (-43), 3) := by decide +kernel
theorem dX15_word_78 : decode cX15_word 78 = .ok (.iload 4, 2) := by decide +kernel
theorem dX15_word_80 : decode cX15_word 80 = .ok (.ifCond .eq 5, 3) := by decide +kernel
theorem dX15_word_83 : decode cX15_word 83 = .ok (.iload_n 3, 1) := by decide +kernel
theorem dX15_word_84 : decode cX15_word 84 = .ok (.ireturn, 1) := by decide +kernel
theorem dX15_word_85 : decode cX15_word 85 = .ok (.iinc 3 1, 3) := by decide +kernel
theorem dX15_word_88 : decode cX15_word 88 = .ok (.goto (-86), 3) := by decide +kernel
theorem dX15_word_91 : decode cX15_word 91 = .ok (.bipush 40, 2) := by decide +kernel
theorem dX15_word_93 : decode cX15_word 93 = .ok (.ireturn, 1) := by decide +kernel
theorem dX15_cut_0 : decode cX15_cut 0 = .ok (.iconst 0, 1) := by decide +kernel
theorem dX15_cut_1 : decode cX15_cut 1 = .ok (.istore_n 1, 1) := by decide +kernel
theorem dX15_cut_2 : decode cX15_cut 2 = .ok (.iconst 0, 1) := by decide +kernel
theorem dX15_cut_3 : decode cX15_cut 3 = .ok (.istore_n 2, 1) := by decide +kernel
theorem dX15_cut_4 : decode cX15_cut 4 = .ok (.iload_n 2, 1) := by decide +kernel
theorem dX15_cut_5 : decode cX15_cut 5 = .ok (.sipush 400, 3) := by decide +kernel
theorem dX15_cut_8 : decode cX15_cut 8 = .ok (.if_icmp .gt 118, 3) := by decide +kernel
theorem dX15_cut_11 : decode cX15_cut 11 = .ok (.aload_n 0, 1) := by decide +kernel
theorem dX15_cut_12 : decode cX15_cut 12 = .ok (.iload_n 1, 1) := by decide +kernel
theorem dX15_cut_13 : decode cX15_cut 13 = .ok (.invokevirtual 98, 3) := by decide +kernel
theorem dX15_cut_16 : decode cX15_cut 16 = .ok (.bipush 32, 2) := by decide +kernel
theorem dX15_cut_18 : decode cX15_cut 18 = .ok (.if_icmp .eq 13, 3) := by decide +kernel
theorem dX15_cut_21 : decode cX15_cut 21 = .ok (.aload_n 0, 1) := by decide +kernel
theorem dX15_cut_22 : decode cX15_cut 22 = .ok (.iload_n 1, 1) := by decide +kernel
theorem dX15_cut_23 : decode cX15_cut 23 = .ok (.invokevirtual 98, 3) := by decide +kernel
theorem dX15_cut_26 : decode cX15_cut 26 = .ok (.bipush 10, 2) := by decide +kernel
theorem dX15_cut_28 : decode cX15_cut 28 = .ok (.if_icmp .ne 9, 3) := by decide +kernel
theorem dX15_cut_31 : decode cX15_cut 31 = .ok (.iinc 1 1, 3) := by decide +kernel
theorem dX15_cut_34 : decode cX15_cut 34 = .ok (.goto (-23), 3) := by decide +kernel
theorem dX15_cut_37 : decode cX15_cut 37 = .ok (.aload_n 0, 1) := by decide +kernel
theorem dX15_cut_38 : decode cX15_cut 38 = .ok (.getfield 20, 3) := by decide +kernel
theorem dX15_cut_41 : decode cX15_cut 41 = .ok (.iload_n 2, 1) := by decide +kernel
theorem dX15_cut_42 : decode cX15_cut 42 = .ok (.iload_n 1, 1) := by decide +kernel
theorem dX15_cut_43 : decode cX15_cut 43 = .ok (.iastore, 1) := by decide +kernel
theorem dX15_cut_44 : decode cX15_cut 44 = .ok (.aload_n 0, 1) := by decide +kernel
theorem dX15_cut_45 : decode cX15_cut 45 = .ok (.getfield 26, 3) := by decide +kernel
theorem dX15_cut_48 : decode cX15_cut 48 = .ok (.iload_n 2, 1) := by decide +kernel
theorem dX15_cut_49 : decode cX15_cut 49 = .ok (.iconst 0, 1) := by decide +kernel
theorem dX15_cut_50 : decode cX15_cut 50 = .ok (.iastore, 1) := by decide +kernel
theorem dX15_cut_51 : decode cX15_cut 51 = .ok (.aload_n 0, 1) := by decide +kernel
theorem dX15_cut_52 : decode cX15_cut 52 = .ok (.getfield 29, 3) := by decide +kernel
theorem dX15_cut_55 : decode cX15_cut 55 = .ok (.iload_n 2, 1) := by decide +kernel
theorem dX15_cut_56 : decode cX15_cut 56 = .ok (.iconst 0, 1) := by decide +kernel
theorem dX15_cut_57 : decode cX15_cut 57 = .ok (.iastore, 1) := by decide +kernel
theorem dX15_cut_58 : decode cX15_cut 58 = .ok (.aload_n 0, 1) := by decide +kernel
theorem dX15_cut_59 : decode cX15_cut 59 = .ok (.getfield 17, 3) := by decide +kernel
theorem dX15_cut_62 : decode cX15_cut 62 = .ok (.iload_n 2, 1) := by decide +kernel
theorem dX15_cut_63 : decode cX15_cut 63 = .ok (.aload_n 0, 1) := by decide +kernel
theorem dX15_cut_64 : decode cX15_cut 64 = .ok (.iload_n 1, 1) := by decide +kernel
theorem dX15_cut_65 : decode cX15_cut 65 = .ok (.iload_n 2, 1) := by decide +kernel
theorem dX15_cut_66 : decode cX15_cut 66 = .ok (.invokevirtual 131, 3) := by decide +kernel
theorem dX15_cut_69 : decode cX15_cut 69 = .ok (.iastore, 1) := by decide +kernel
theorem dX15_cut_70 : decode cX15_cut 70 = .ok (.iload_n 2, 1) := by decide +kernel
theorem dX15_cut_71 : decode cX15_cut 71 = .ok (.sipush 400, 3) := by decide +kernel
theorem dX15_cut_74 : decode cX15_cut 74 = .ok (.if_icmp .ne 24, 3) := by decide +kernel
theorem dX15_cut_77 : decode cX15_cut 77 = .ok (.aload_n 0, 1) := by decide +kernel
theorem dX15_cut_78 : decode cX15_cut 78 = .ok (.getfield 17, 3) := by decide +kernel
theorem dX15_cut_81 : decode cX15_cut 81 = .ok (.iload_n 2, 1) := by decide +kernel
theorem dX15_cut_82 : decode cX15_cut 82 = .ok (.iaload, 1) := by decide +kernel
theorem dX15_cut_83 : decode cX15_cut 83 = .ok (.sipush 900, 3) := by decide +kernel
theorem dX15_cut_86 : decode cX15_cut 86 = .ok (.if_icmp .eq 12, 3) := by decide +kernel
theorem dX15_cut_89 : decode cX15_cut 89 = .ok (.aload_n 0, 1) := by decide +kernel
theorem dX15_cut_90 : decode cX15_cut 90 = .ok (.getfield 17, 3) := by decide +kernel
theorem dX15_cut_93 : decode cX15_cut 93 = .ok (.iload_n 2, 1) := by decide +kernel
theorem dX15_cut_94 : decode cX15_cut 94 = .ok (.sipush 901, 3) := by decide +kernel
theorem dX15_cut_97 : decode cX15_cut 97 = .ok (.iastore, 1) := by decide +kernel
theorem dX15_cut_98 : decode cX15_cut 98 = .ok (.aload_n 0, 1) := by decide +kernel
theorem dX15_cut_99 : decode cX15_cut 99 = .ok (.getfield 17, 3) := by decide +kernel
theorem dX15_cut_102 : decode cX15_cut 102 = .ok (.iload_n 2, 1) := by decide +kernel
theorem dX15_cut_103 : decode cX15_cut 103 = .ok (.iaload, 1) := by decide +kernel
theorem dX15_cut_104 : decode cX15_cut 104 = .ok (.sipush 900, 3) := by decide +kernel
theorem dX15_cut_107 : decode cX15_cut 107 = .ok (.if_icmp .lt 4, 3) := by decide +kernel
theorem dX15_cut_110 : decode cX15_cut 110 = .ok (.return_, 1) := by decide +kernel
theorem dX15_cut_111 : decode cX15_cut 111 = .ok (.iload_n 1, 1) := by decide +kernel
theorem dX15_cut_112 : decode cX15_cut 112 = .ok (.aload_n 0, 1) := by decide +kernel
theorem dX15_cut_113 : decode cX15_cut 113 = .ok (.getfield 23, 3) := by decide +kernel
theorem dX15_cut_116 : decode cX15_cut 116 = .ok (.iload_n 2, 1) := by decide +kernel
theorem dX15_cut_117 : decode cX15_cut 117 = .ok (.iaload, 1) := by decide +kernel
theorem dX15_cut_118 : decode cX15_cut 118 = .ok (.iadd, 1) := by decide +kernel
theorem dX15_cut_119 : decode cX15_cut 119 = .ok (.istore_n 1, 1) := by decide +kernel
theorem dX15_cut_120 : decode cX15_cut 120 = .ok (.iinc 2 1, 3) := by decide +kernel
theorem dX15_cut_123 : decode cX15_cut 123 = .ok (.goto (-119), 3) := by decide +kernel
theorem dX15_cut_126 : decode cX15_cut 126 = .ok (.return_, 1) := by decide +kernel
theorem dX15_is_0 : decode cX15_is 0 = .ok (.aload_n 0, 1) := by decide +kernel
theorem dX15_is_1 : decode cX15_is 1 = .ok (.getfield 17, 3) := by decide +kernel
theorem dX15_is_4 : decode cX15_is 4 = .ok (.aload_n 0, 1) := by decide +kernel
theorem dX15_is_5 : decode cX15_is 5 = .ok (.getfield 134, 3) := by decide +kernel
theorem dX15_is_8 : decode cX15_is 8 = .ok (.iaload, 1) := by decide +kernel
theorem dX15_is_9 : decode cX15_is 9 = .ok (.iload_n 1, 1) := by decide +kernel
theorem dX15_is_10 : decode cX15_is 10 = .ok (.if_icmp .ne 7, 3) := by decide +kernel
theorem dX15_is_13 : decode cX15_is 13 = .ok (.iconst 1, 1) := by decide +kernel
theorem dX15_is_14 : decode cX15_is 14 = .ok (.goto 4, 3) := by decide +kernel
theorem dX15_is_17 : decode cX15_is 17 = .ok (.iconst 0, 1) := by decide +kernel
theorem dX15_is_18 : decode cX15_is 18 = .ok (.ireturn, 1) := by decide +kernel
theorem dX15_isSign_0 : decode cX15_isSign 0 = .ok (.aload_n 0, 1) := by decide +kernel
theorem dX15_isSign_1 : decode cX15_isSign 1 = .ok (.getfield 17, 3) := by decide +kernel
theorem dX15_isSign_4 : decode cX15_isSign 4 = .ok (.aload_n 0, 1) := by decide +kernel
theorem dX15_isSign_5 : decode cX15_isSign 5 = .ok (.getfield 134, 3) := by decide +kernel
theorem dX15_isSign_8 : decode cX15_isSign 8 = .ok (.iaload, 1) := by decide +kernel
theorem dX15_isSign_9 : decode cX15_isSign 9 = .ok (.bipush 50, 2) := by decide +kernel
theorem dX15_isSign_11 : decode cX15_isSign 11 = .ok (.iload_n 1, 1) := by decide +kernel
theorem dX15_isSign_12 : decode cX15_isSign 12 = .ok (.iadd, 1) := by decide +kernel
theorem dX15_isSign_13 : decode cX15_isSign 13 = .ok (.if_icmp .ne 7, 3) := by decide +kernel
theorem dX15_isSign_16 : decode cX15_isSign 16 = .ok (.iconst 1, 1) := by decide +kernel
theorem dX15_isSign_17 : decode cX15_isSign 17 = .ok (.goto 4, 3) := by decide +kernel
theorem dX15_isSign_20 : decode cX15_isSign 20 = .ok (.iconst 0, 1) := by decide +kernel
theorem dX15_isSign_21 : decode cX15_isSign 21 = .ok (.ireturn, 1) := by decide +kernel
theorem dX15_eat_0 : decode cX15_eat 0 = .ok (.aload_n 0, 1) := by decide +kernel
theorem dX15_eat_1 : decode cX15_eat 1 = .ok (.iload_n 1, 1) := by decide +kernel
theorem dX15_eat_2 : decode cX15_eat 2 = .ok (.invokevirtual 137, 3) := by decide +kernel
theorem dX15_eat_5 : decode cX15_eat 5 = .ok (.ifCond .ne 5, 3) := by decide +kernel
theorem dX15_eat_8 : decode cX15_eat 8 = .ok (.iconst 0, 1) := by decide +kernel
theorem dX15_eat_9 : decode cX15_eat 9 = .ok (.ireturn, 1) := by decide +kernel
theorem dX15_eat_10 : decode cX15_eat 10 = .ok (.aload_n 0, 1) := by decide +kernel
theorem dX15_eat_11 : decode cX15_eat 11 = .ok (.dup, 1) := by decide +kernel
theorem dX15_eat_12 : decode cX15_eat 12 = .ok (.getfield 134, 3) := by decide +kernel
theorem dX15_eat_15 : decode cX15_eat 15 = .ok (.iconst 1, 1) := by decide +kernel
theorem dX15_eat_16 : decode cX15_eat 16 = .ok (.iadd, 1) := by decide +kernel
theorem dX15_eat_17 : decode cX15_eat 17 = .ok (.putfield 134, 3) := by decide +kernel
theorem dX15_eat_20 : decode cX15_eat 20 = .ok (.iconst 1, 1) := by decide +kernel
theorem dX15_eat_21 : decode cX15_eat 21 = .ok (.ireturn, 1) := by decide +kernel
theorem dX15_eatSign_0 : decode cX15_eatSign 0 = .ok (.aload_n 0, 1) := by decide +kernel
theorem dX15_eatSign_1 : decode cX15_eatSign 1 = .ok (.bipush 50, 2) := by decide +kernel
theorem dX15_eatSign_3 : decode cX15_eatSign 3 = .ok (.iload_n 1, 1) := by decide +kernel
theorem dX15_eatSign_4 : decode cX15_eatSign 4 = .ok (.iadd, 1) := by decide +kernel
theorem dX15_eatSign_5 : decode cX15_eatSign 5 = .ok (.invokevirtual 140, 3) := by decide +kernel
theorem dX15_eatSign_8 : decode cX15_eatSign 8 = .ok (.ireturn, 1) := by decide +kernel
theorem dX15_eatAs_0 : decode cX15_eatAs 0 = .ok (.aload_n 0, 1) := by decide +kernel
theorem dX15_eatAs_1 : decode cX15_eatAs 1 = .ok (.getfield 26, 3) := by decide +kernel
theorem dX15_eatAs_4 : decode cX15_eatAs 4 = .ok (.aload_n 0, 1) := by decide +kernel
theorem dX15_eatAs_5 : decode cX15_eatAs 5 = .ok (.getfield 134, 3) := by decide +kernel
theorem dX15_eatAs_8 : decode cX15_eatAs 8 = .ok (.iload_n 2, 1) := by decide +kernel
theorem dX15_eatAs_9 : decode cX15_eatAs 9 = .ok (.iastore, 1) := by decide +kernel
theorem dX15_eatAs_10 : decode cX15_eatAs 10 = .ok (.aload_n 0, 1) := by decide +kernel
theorem dX15_eatAs_11 : decode cX15_eatAs 11 = .ok (.iload_n 1, 1) := by decide +kernel
theorem dX15_eatAs_12 : decode cX15_eatAs 12 = .ok (.invokevirtual 140, 3) := by decide +kernel
theorem dX15_eatAs_15 : decode cX15_eatAs 15 = .ok (.ireturn, 1) := by decide +kernel
theorem dX15_put_0 : decode cX15_put 0 = .ok (.aload_n 0, 1) := by decide +kernel
theorem dX15_put_1 : decode cX15_put 1 = .ok (.getfield 39, 3) := by decide +kernel
theorem dX15_put_4 : decode cX15_put 4 = .ok (.getfield 143, 3) := by decide +kernel
theorem dX15_put_7 : decode cX15_put 7 = .ok (.aload_n 0, 1) := by decide +kernel
theorem dX15_put_8 : decode cX15_put 8 = .ok (.getfield 39, 3) := by decide +kernel
theorem dX15_put_11 : decode cX15_put 11 = .ok (.getfield 146, 3) := by decide +kernel
theorem dX15_put_14 : decode cX15_put 14 = .ok (.iload_n 1, 1) := by decide +kernel
theorem dX15_put_15 : decode cX15_put 15 = .ok (.iastore, 1) := by decide +kernel
theorem dX15_put_16 : decode cX15_put 16 = .ok (.aload_n 0, 1) := by decide +kernel
theorem dX15_put_17 : decode cX15_put 17 = .ok (.getfield 39, 3) := by decide +kernel
theorem dX15_put_20 : decode cX15_put 20 = .ok (.dup, 1) := by decide +kernel
theorem dX15_put_21 : decode cX15_put 21 = .ok (.getfield 146, 3) := by decide +kernel
theorem dX15_put_24 : decode cX15_put 24 = .ok (.iconst 1, 1) := by decide +kernel
theorem dX15_put_25 : decode cX15_put 25 = .ok (.iadd, 1) := by decide +kernel
theorem dX15_put_26 : decode cX15_put 26 = .ok (.putfield 146, 3) := by decide +kernel
theorem dX15_put_29 : decode cX15_put 29 = .ok (.return_, 1) := by decide +kernel
theorem dX15_isBook_0 : decode cX15_isBook 0 = .ok (.aload_n 0, 1) := by decide +kernel
theorem dX15_isBook_1 : decode cX15_isBook 1 = .ok (.sipush 900, 3) := by decide +kernel
theorem dX15_isBook_4 : decode cX15_isBook 4 = .ok (.invokevirtual 137, 3) := by decide +kernel
theorem dX15_isBook_7 : decode cX15_isBook 7 = .ok (.ifCond .ne 21, 3) := by decide +kernel
theorem dX15_isBook_10 : decode cX15_isBook 10 = .ok (.aload_n 0, 1) := by decide +kernel
theorem dX15_isBook_11 : decode cX15_isBook 11 = .ok (.invokevirtual 147, 3) := by decide +kernel
theorem dX15_isBook_14 : decode cX15_isBook 14 = .ok (.ifCond .eq 12, 3) := by decide +kernel
theorem dX15_isBook_17 : decode cX15_isBook 17 = .ok (.aload_n 0, 1) := by decide +kernel
theorem dX15_isBook_18 : decode cX15_isBook 18 = .ok (.bipush 59, 2) := by decide +kernel
theorem dX15_isBook_20 : decode cX15_isBook 20 = .ok (.invokevirtual 151, 3) := by decide +kernel
theorem dX15_isBook_23 : decode cX15_isBook 23 = .ok (.ifCond .ne (-23), 3) := by decide +kernel
theorem dX15_isBook_26 : decode cX15_isBook 26 = .ok (.iconst 0, 1) := by decide +kernel
theorem dX15_isBook_27 : decode cX15_isBook 27 = .ok (.ireturn, 1) := by decide +kernel
theorem dX15_isBook_28 : decode cX15_isBook 28 = .ok (.iconst 1, 1) := by decide +kernel
theorem dX15_isBook_29 : decode cX15_isBook 29 = .ok (.ireturn, 1) := by decide +kernel
theorem dX15_isLine_0 : decode cX15_isLine 0 = .ok (.aload_n 0, 1) := by decide +kernel
theorem dX15_isLine_1 : decode cX15_isLine 1 = .ok (.getfield 17, 3) := by decide +kernel
theorem dX15_isLine_4 : decode cX15_isLine 4 = .ok (.aload_n 0, 1) := by decide +kernel
theorem dX15_isLine_5 : decode cX15_isLine 5 = .ok (.getfield 134, 3) := by decide +kernel
theorem dX15_isLine_8 : decode cX15_isLine 8 = .ok (.iaload, 1) := by decide +kernel
theorem dX15_isLine_9 : decode cX15_isLine 9 = .ok (.istore_n 1, 1) := by decide +kernel
theorem dX15_isLine_10 : decode cX15_isLine 10 = .ok (.iload_n 1, 1) := by decide +kernel
theorem dX15_isLine_11 : decode cX15_isLine 11 = .ok (.iconst 4, 1) := by decide +kernel
theorem dX15_isLine_12 : decode cX15_isLine 12 = .ok (.if_icmp .eq 14, 3) := by decide +kernel
theorem dX15_isLine_15 : decode cX15_isLine 15 = .ok (.iload_n 1, 1) := by decide +kernel
theorem dX15_isLine_16 : decode cX15_isLine 16 = .ok (.iconst 5, 1) := by decide +kernel
theorem dX15_isLine_17 : decode cX15_isLine 17 = .ok (.if_icmp .eq 9, 3) := by decide +kernel
theorem dX15_isLine_20 : decode cX15_isLine 20 = .ok (.iload_n 1, 1) := by decide +kernel
theorem dX15_isLine_21 : decode cX15_isLine 21 = .ok (.bipush 7, 2) := by decide +kernel
theorem dX15_isLine_23 : decode cX15_isLine 23 = .ok (.if_icmp .ne 9, 3) := by decide +kernel
theorem dX15_isLine_26 : decode cX15_isLine 26 = .ok (.aload_n 0, 1) := by decide +kernel
theorem dX15_isLine_27 : decode cX15_isLine 27 = .ok (.iload_n 1, 1) := by decide +kernel
theorem dX15_isLine_28 : decode cX15_isLine 28 = .ok (.invokevirtual 155, 3) := by decide +kernel
theorem dX15_isLine_31 : decode cX15_isLine 31 = .ok (.ireturn, 1) := by decide +kernel
theorem dX15_isLine_32 : decode cX15_isLine 32 = .ok (.aload_n 0, 1) := by decide +kernel
theorem dX15_isLine_33 : decode cX15_isLine 33 = .ok (.iconst 0, 1) := by decide +kernel
theorem dX15_isLine_34 : decode cX15_isLine 34 = .ok (.invokevirtual 140, 3) := by decide +kernel
theorem dX15_isLine_37 : decode cX15_isLine 37 = .ok (.ifCond .eq 38, 3) := by decide +kernel
theorem dX15_isLine_40 : decode cX15_isLine 40 = .ok (.aload_n 0, 1) := by decide +kernel
theorem dX15_isLine_41 : decode cX15_isLine 41 = .ok (.bipush 40, 2) := by decide +kernel
theorem dX15_isLine_43 : decode cX15_isLine 43 = .ok (.iconst 1, 1) := by decide +kernel
theorem dX15_isLine_44 : decode cX15_isLine 44 = .ok (.invokevirtual 158, 3) := by decide +kernel
theorem dX15_isLine_47 : decode cX15_isLine 47 = .ok (.ifCond .eq 26, 3) := by decide +kernel
theorem dX15_isLine_50 : decode cX15_isLine 50 = .ok (.aload_n 0, 1) := by decide +kernel
theorem dX15_isLine_51 : decode cX15_isLine 51 = .ok (.iconst 1, 1) := by decide +kernel
theorem dX15_isLine_52 : decode cX15_isLine 52 = .ok (.invokevirtual 140, 3) := by decide +kernel
theorem dX15_isLine_55 : decode cX15_isLine 55 = .ok (.ifCond .eq 18, 3) := by decide +kernel
theorem dX15_isLine_58 : decode cX15_isLine 58 = .ok (.aload_n 0, 1) := by decide +kernel
theorem dX15_isLine_59 : decode cX15_isLine 59 = .ok (.bipush 41, 2) := by decide +kernel
theorem dX15_isLine_61 : decode cX15_isLine 61 = .ok (.bipush 9, 2) := by decide +kernel
theorem dX15_isLine_63 : decode cX15_isLine 63 = .ok (.invokevirtual 158, 3) := by decide +kernel
theorem dX15_isLine_66 : decode cX15_isLine 66 = .ok (.ifCond .eq 7, 3) := by decide +kernel
theorem dX15_isLine_69 : decode cX15_isLine 69 = .ok (.iconst 1, 1) := by decide +kernel
theorem dX15_isLine_70 : decode cX15_isLine 70 = .ok (.goto 4, 3) := by decide +kernel
theorem dX15_isLine_73 : decode cX15_isLine 73 = .ok (.iconst 0, 1) := by decide +kernel
theorem dX15_isLine_74 : decode cX15_isLine 74 = .ok (.ireturn, 1) := by decide +kernel
theorem dX15_isLine_75 : decode cX15_isLine 75 = .ok (.aload_n 0, 1) := by decide +kernel
theorem dX15_isLine_76 : decode cX15_isLine 76 = .ok (.iconst 2, 1) := by decide +kernel
theorem dX15_isLine_77 : decode cX15_isLine 77 = .ok (.invokevirtual 140, 3) := by decide +kernel
theorem dX15_isLine_80 : decode cX15_isLine 80 = .ok (.ifCond .eq 36, 3) := by decide +kernel
theorem dX15_isLine_83 : decode cX15_isLine 83 = .ok (.aload_n 0, 1) := by decide +kernel
theorem dX15_isLine_84 : decode cX15_isLine 84 = .ok (.bipush 40, 2) := by decide +kernel
theorem dX15_isLine_86 : decode cX15_isLine 86 = .ok (.iconst 2, 1) := by decide +kernel
theorem dX15_isLine_87 : decode cX15_isLine 87 = .ok (.invokevirtual 158, 3) := by decide +kernel
theorem dX15_isLine_90 : decode cX15_isLine 90 = .ok (.ifCond .eq 26, 3) := by decide +kernel
theorem dX15_isLine_93 : decode cX15_isLine 93 = .ok (.aload_n 0, 1) := by decide +kernel
theorem dX15_isLine_94 : decode cX15_isLine 94 = .ok (.iconst 3, 1) := by decide +kernel
theorem dX15_isLine_95 : decode cX15_isLine 95 = .ok (.invokevirtual 140, 3) := by decide +kernel
theorem dX15_isLine_98 : decode cX15_isLine 98 = .ok (.ifCond .eq 18, 3) := by decide +kernel
theorem dX15_isLine_101 : decode cX15_isLine 101 = .ok (.aload_n 0, 1) := by decide +kernel
theorem dX15_isLine_102 : decode cX15_isLine 102 = .ok (.bipush 41, 2) := by decide +kernel
theorem dX15_isLine_104 : decode cX15_isLine 104 = .ok (.bipush 9, 2) := by decide +kernel
theorem dX15_isLine_106 : decode cX15_isLine 106 = .ok (.invokevirtual 158, 3) := by decide +kernel
theorem dX15_isLine_109 : decode cX15_isLine 109 = .ok (.ifCond .eq 7, 3) := by decide +kernel
theorem dX15_isLine_112 : decode cX15_isLine 112 = .ok (.iconst 1, 1) := by decide +kernel
theorem dX15_isLine_113 : decode cX15_isLine 113 = .ok (.goto 4, 3) := by decide +kernel
theorem dX15_isLine_116 : decode cX15_isLine 116 = .ok (.iconst 0, 1) := by decide +kernel
theorem dX15_isLine_117 : decode cX15_isLine 117 = .ok (.ireturn, 1) := by decide +kernel
theorem dX15_isOrder_0 : decode cX15_isOrder 0 = .ok (.aload_n 0, 1) := by decide +kernel
theorem dX15_isOrder_1 : decode cX15_isOrder 1 = .ok (.getfield 26, 3) := by decide +kernel
theorem dX15_isOrder_4 : decode cX15_isOrder 4 = .ok (.aload_n 0, 1) := by decide +kernel
theorem dX15_isOrder_5 : decode cX15_isOrder 5 = .ok (.getfield 134, 3) := by decide +kernel
theorem dX15_isOrder_8 : decode cX15_isOrder 8 = .ok (.iconst 3, 1) := by decide +kernel
theorem dX15_isOrder_9 : decode cX15_isOrder 9 = .ok (.iastore, 1) := by decide +kernel
theorem dX15_isOrder_10 : decode cX15_isOrder 10 = .ok (.aload_n 0, 1) := by decide +kernel
theorem dX15_isOrder_11 : decode cX15_isOrder 11 = .ok (.dup, 1) := by decide +kernel
theorem dX15_isOrder_12 : decode cX15_isOrder 12 = .ok (.getfield 134, 3) := by decide +kernel
theorem dX15_isOrder_15 : decode cX15_isOrder 15 = .ok (.iconst 1, 1) := by decide +kernel
theorem dX15_isOrder_16 : decode cX15_isOrder 16 = .ok (.iadd, 1) := by decide +kernel
theorem dX15_isOrder_17 : decode cX15_isOrder 17 = .ok (.putfield 134, 3) := by decide +kernel
theorem dX15_isOrder_20 : decode cX15_isOrder 20 = .ok (.aload_n 0, 1) := by decide +kernel
theorem dX15_isOrder_21 : decode cX15_isOrder 21 = .ok (.getfield 39, 3) := by decide +kernel
theorem dX15_isOrder_24 : decode cX15_isOrder 24 = .ok (.getfield 162, 3) := by decide +kernel
theorem dX15_isOrder_27 : decode cX15_isOrder 27 = .ok (.bipush 16, 2) := by decide +kernel
theorem dX15_isOrder_29 : decode cX15_isOrder 29 = .ok (.invokestatic 86, 3) := by decide +kernel
theorem dX15_isOrder_32 : decode cX15_isOrder 32 = .ok (.istore_n 2, 1) := by decide +kernel
theorem dX15_isOrder_33 : decode cX15_isOrder 33 = .ok (.aload_n 0, 1) := by decide +kernel
theorem dX15_isOrder_34 : decode cX15_isOrder 34 = .ok (.getfield 39, 3) := by decide +kernel
theorem dX15_isOrder_37 : decode cX15_isOrder 37 = .ok (.dup, 1) := by decide +kernel
theorem dX15_isOrder_38 : decode cX15_isOrder 38 = .ok (.getfield 162, 3) := by decide +kernel
theorem dX15_isOrder_41 : decode cX15_isOrder 41 = .ok (.iconst 1, 1) := by decide +kernel
theorem dX15_isOrder_42 : decode cX15_isOrder 42 = .ok (.iadd, 1) := by decide +kernel
theorem dX15_isOrder_43 : decode cX15_isOrder 43 = .ok (.putfield 162, 3) := by decide +kernel
theorem dX15_isOrder_46 : decode cX15_isOrder 46 = .ok (.aload_n 0, 1) := by decide +kernel
theorem dX15_isOrder_47 : decode cX15_isOrder 47 = .ok (.getfield 39, 3) := by decide +kernel
theorem dX15_isOrder_50 : decode cX15_isOrder 50 = .ok (.getfield 165, 3) := by decide +kernel
theorem dX15_isOrder_53 : decode cX15_isOrder 53 = .ok (.iload_n 2, 1) := by decide +kernel
theorem dX15_isOrder_54 : decode cX15_isOrder 54 = .ok (.aload_n 0, 1) := by decide +kernel
theorem dX15_isOrder_55 : decode cX15_isOrder 55 = .ok (.getfield 39, 3) := by decide +kernel
theorem dX15_isOrder_58 : decode cX15_isOrder 58 = .ok (.getfield 146, 3) := by decide +kernel
theorem dX15_isOrder_61 : decode cX15_isOrder 61 = .ok (.iastore, 1) := by decide +kernel
theorem dX15_isOrder_62 : decode cX15_isOrder 62 = .ok (.iload_n 1, 1) := by decide +kernel
theorem dX15_isOrder_63 : decode cX15_isOrder 63 = .ok (.bipush 7, 2) := by decide +kernel
theorem dX15_isOrder_65 : decode cX15_isOrder 65 = .ok (.if_icmp .ne 31, 3) := by decide +kernel
theorem dX15_isOrder_68 : decode cX15_isOrder 68 = .ok (.aload_n 0, 1) := by decide +kernel
theorem dX15_isOrder_69 : decode cX15_isOrder 69 = .ok (.bipush 40, 2) := by decide +kernel
theorem dX15_isOrder_71 : decode cX15_isOrder 71 = .ok (.iconst 5, 1) := by decide +kernel
theorem dX15_isOrder_72 : decode cX15_isOrder 72 = .ok (.invokevirtual 158, 3) := by decide +kernel
theorem dX15_isOrder_75 : decode cX15_isOrder 75 = .ok (.ifCond .eq 19, 3) := by decide +kernel
theorem dX15_isOrder_78 : decode cX15_isOrder 78 = .ok (.aload_n 0, 1) := by decide +kernel
theorem dX15_isOrder_79 : decode cX15_isOrder 79 = .ok (.bipush 8, 2) := by decide +kernel
theorem dX15_isOrder_81 : decode cX15_isOrder 81 = .ok (.invokevirtual 140, 3) := by decide +kernel
theorem dX15_isOrder_84 : decode cX15_isOrder 84 = .ok (.ifCond .eq 10, 3) := by decide +kernel
theorem dX15_isOrder_87 : decode cX15_isOrder 87 = .ok (.aload_n 0, 1) := by decide +kernel
theorem dX15_isOrder_88 : decode cX15_isOrder 88 = .ok (.invokevirtual 168, 3) := by decide +kernel
theorem dX15_isOrder_91 : decode cX15_isOrder 91 = .ok (.ifCond .ne 36, 3) := by decide +kernel
theorem dX15_isOrder_94 : decode cX15_isOrder 94 = .ok (.iconst 0, 1) := by decide +kernel
theorem dX15_isOrder_95 : decode cX15_isOrder 95 = .ok (.ireturn, 1) := by decide +kernel
theorem dX15_isOrder_96 : decode cX15_isOrder 96 = .ok (.aload_n 0, 1) := by decide +kernel
theorem dX15_isOrder_97 : decode cX15_isOrder 97 = .ok (.bipush 40, 2) := by decide +kernel
theorem dX15_isOrder_99 : decode cX15_isOrder 99 = .ok (.iconst 4, 1) := by decide +kernel
theorem dX15_isOrder_100 : decode cX15_isOrder 100 = .ok (.invokevirtual 158, 3) := by decide +kernel
theorem dX15_isOrder_103 : decode cX15_isOrder 103 = .ok (.ifCond .eq 22, 3) := by decide +kernel
theorem dX15_isOrder_106 : decode cX15_isOrder 106 = .ok (.aload_n 0, 1) := by decide +kernel
theorem dX15_isOrder_107 : decode cX15_isOrder 107 = .ok (.bipush 6, 2) := by decide +kernel
theorem dX15_isOrder_109 : decode cX15_isOrder 109 = .ok (.invokevirtual 140, 3) := by decide +kernel
theorem dX15_isOrder_112 : decode cX15_isOrder 112 = .ok (.ifCond .eq 13, 3) := by decide +kernel
theorem dX15_isOrder_115 : decode cX15_isOrder 115 = .ok (.aload_n 0, 1) := by decide +kernel
theorem dX15_isOrder_116 : decode cX15_isOrder 116 = .ok (.bipush 40, 2) := by decide +kernel
theorem dX15_isOrder_118 : decode cX15_isOrder 118 = .ok (.iconst 5, 1) := by decide +kernel
theorem dX15_isOrder_119 : decode cX15_isOrder 119 = .ok (.invokevirtual 158, 3) := by decide +kernel
theorem dX15_isOrder_122 : decode cX15_isOrder 122 = .ok (.ifCond .ne 5, 3) := by decide +kernel
theorem dX15_isOrder_125 : decode cX15_isOrder 125 = .ok (.iconst 0, 1) := by decide +kernel
theorem dX15_isOrder_126 : decode cX15_isOrder 126 = .ok (.ireturn, 1) := by decide +kernel
theorem dX15_isOrder_127 : decode cX15_isOrder 127 = .ok (.aload_n 0, 1) := by decide +kernel
theorem dX15_isOrder_128 : decode cX15_isOrder 128 = .ok (.getfield 39, 3) := by decide +kernel
theorem dX15_isOrder_131 : decode cX15_isOrder 131 = .ok (.getfield 171, 3) := by decide +kernel
theorem dX15_isOrder_134 : decode cX15_isOrder 134 = .ok (.iload_n 2, 1) := by decide +kernel
theorem dX15_isOrder_135 : decode cX15_isOrder 135 = .ok (.aload_n 0, 1) := by decide +kernel
theorem dX15_isOrder_136 : decode cX15_isOrder 136 = .ok (.getfield 39, 3) := by decide +kernel
theorem dX15_isOrder_139 : decode cX15_isOrder 139 = .ok (.getfield 146, 3) := by decide +kernel
theorem dX15_isOrder_142 : decode cX15_isOrder 142 = .ok (.iastore, 1) := by decide +kernel
theorem dX15_isOrder_143 : decode cX15_isOrder 143 = .ok (.aload_n 0, 1) := by decide +kernel
theorem dX15_isOrder_144 : decode cX15_isOrder 144 = .ok (.bipush 9, 2) := by decide +kernel
theorem dX15_isOrder_146 : decode cX15_isOrder 146 = .ok (.invokevirtual 140, 3) := by decide +kernel
theorem dX15_isOrder_149 : decode cX15_isOrder 149 = .ok (.ifCond .eq 12, 3) := by decide +kernel
theorem dX15_isOrder_152 : decode cX15_isOrder 152 = .ok (.aload_n 0, 1) := by decide +kernel
theorem dX15_isOrder_153 : decode cX15_isOrder 153 = .ok (.invokevirtual 174, 3) := by decide +kernel
theorem dX15_isOrder_156 : decode cX15_isOrder 156 = .ok (.ifCond .ne 5, 3) := by decide +kernel
theorem dX15_isOrder_159 : decode cX15_isOrder 159 = .ok (.iconst 0, 1) := by decide +kernel
theorem dX15_isOrder_160 : decode cX15_isOrder 160 = .ok (.ireturn, 1) := by decide +kernel
theorem dX15_isOrder_161 : decode cX15_isOrder 161 = .ok (.aload_n 0, 1) := by decide +kernel
theorem dX15_isOrder_162 : decode cX15_isOrder 162 = .ok (.getfield 39, 3) := by decide +kernel
theorem dX15_isOrder_165 : decode cX15_isOrder 165 = .ok (.getfield 177, 3) := by decide +kernel
theorem dX15_isOrder_168 : decode cX15_isOrder 168 = .ok (.iload_n 2, 1) := by decide +kernel
theorem dX15_isOrder_169 : decode cX15_isOrder 169 = .ok (.aload_n 0, 1) := by decide +kernel
theorem dX15_isOrder_170 : decode cX15_isOrder 170 = .ok (.getfield 39, 3) := by decide +kernel
theorem dX15_isOrder_173 : decode cX15_isOrder 173 = .ok (.getfield 146, 3) := by decide +kernel
theorem dX15_isOrder_176 : decode cX15_isOrder 176 = .ok (.iastore, 1) := by decide +kernel
theorem dX15_isOrder_177 : decode cX15_isOrder 177 = .ok (.iconst 1, 1) := by decide +kernel
theorem dX15_isOrder_178 : decode cX15_isOrder 178 = .ok (.ireturn, 1) := by decide +kernel
theorem dX15_isTest_0 : decode cX15_isTest 0 = .ok (.aload_n 0, 1) := by decide +kernel
theorem dX15_isTest_1 : decode cX15_isTest 1 = .ok (.invokevirtual 180, 3) := by decide +kernel
theorem dX15_isTest_4 : decode cX15_isTest 4 = .ok (.ifCond .ne 5, 3) := by decide +kernel
theorem dX15_isTest_7 : decode cX15_isTest 7 = .ok (.iconst 0, 1) := by decide +kernel
theorem dX15_isTest_8 : decode cX15_isTest 8 = .ok (.ireturn, 1) := by decide +kernel
theorem dX15_isTest_9 : decode cX15_isTest 9 = .ok (.aload_n 0, 1) := by decide +kernel
theorem dX15_isTest_10 : decode cX15_isTest 10 = .ok (.bipush 20, 2) := by decide +kernel
theorem dX15_isTest_12 : decode cX15_isTest 12 = .ok (.invokevirtual 140, 3) := by decide +kernel
theorem dX15_isTest_15 : decode cX15_isTest 15 = .ok (.ifCond .eq 21, 3) := by decide +kernel
theorem dX15_isTest_18 : decode cX15_isTest 18 = .ok (.aload_n 0, 1) := by decide +kernel
theorem dX15_isTest_19 : decode cX15_isTest 19 = .ok (.invokevirtual 180, 3) := by decide +kernel
theorem dX15_isTest_22 : decode cX15_isTest 22 = .ok (.ifCond .ne 5, 3) := by decide +kernel
theorem dX15_isTest_25 : decode cX15_isTest 25 = .ok (.iconst 0, 1) := by decide +kernel
theorem dX15_isTest_26 : decode cX15_isTest 26 = .ok (.ireturn, 1) := by decide +kernel
theorem dX15_isTest_27 : decode cX15_isTest 27 = .ok (.aload_n 0, 1) := by decide +kernel
theorem dX15_isTest_28 : decode cX15_isTest 28 = .ok (.bipush 20, 2) := by decide +kernel
theorem dX15_isTest_30 : decode cX15_isTest 30 = .ok (.invokevirtual 183, 3) := by decide +kernel
theorem dX15_isTest_33 : decode cX15_isTest 33 = .ok (.goto (-24), 3) := by decide +kernel
theorem dX15_isTest_36 : decode cX15_isTest 36 = .ok (.iconst 1, 1) := by decide +kernel
theorem dX15_isTest_37 : decode cX15_isTest 37 = .ok (.ireturn, 1) := by decide +kernel
theorem dX15_isBoth_0 : decode cX15_isBoth 0 = .ok (.aload_n 0, 1) := by decide +kernel
theorem dX15_isBoth_1 : decode cX15_isBoth 1 = .ok (.invokevirtual 187, 3) := by decide +kernel
theorem dX15_isBoth_4 : decode cX15_isBoth 4 = .ok (.ifCond .ne 5, 3) := by decide +kernel
theorem dX15_isBoth_7 : decode cX15_isBoth 7 = .ok (.iconst 0, 1) := by decide +kernel
theorem dX15_isBoth_8 : decode cX15_isBoth 8 = .ok (.ireturn, 1) := by decide +kernel
theorem dX15_isBoth_9 : decode cX15_isBoth 9 = .ok (.aload_n 0, 1) := by decide +kernel
theorem dX15_isBoth_10 : decode cX15_isBoth 10 = .ok (.bipush 19, 2) := by decide +kernel
theorem dX15_isBoth_12 : decode cX15_isBoth 12 = .ok (.invokevirtual 140, 3) := by decide +kernel
theorem dX15_isBoth_15 : decode cX15_isBoth 15 = .ok (.ifCond .eq 21, 3) := by decide +kernel
theorem dX15_isBoth_18 : decode cX15_isBoth 18 = .ok (.aload_n 0, 1) := by decide +kernel
theorem dX15_isBoth_19 : decode cX15_isBoth 19 = .ok (.invokevirtual 187, 3) := by decide +kernel
theorem dX15_isBoth_22 : decode cX15_isBoth 22 = .ok (.ifCond .ne 5, 3) := by decide +kernel
theorem dX15_isBoth_25 : decode cX15_isBoth 25 = .ok (.iconst 0, 1) := by decide +kernel
theorem dX15_isBoth_26 : decode cX15_isBoth 26 = .ok (.ireturn, 1) := by decide +kernel
theorem dX15_isBoth_27 : decode cX15_isBoth 27 = .ok (.aload_n 0, 1) := by decide +kernel
theorem dX15_isBoth_28 : decode cX15_isBoth 28 = .ok (.bipush 19, 2) := by decide +kernel
theorem dX15_isBoth_30 : decode cX15_isBoth 30 = .ok (.invokevirtual 183, 3) := by decide +kernel
theorem dX15_isBoth_33 : decode cX15_isBoth 33 = .ok (.goto (-24), 3) := by decide +kernel
theorem dX15_isBoth_36 : decode cX15_isBoth 36 = .ok (.iconst 1, 1) := by decide +kernel
theorem dX15_isBoth_37 : decode cX15_isBoth 37 = .ok (.ireturn, 1) := by decide +kernel
theorem dX15_isDeeper_0 : decode cX15_isDeeper 0 = .ok (.aload_n 0, 1) := by decide +kernel
theorem dX15_isDeeper_1 : decode cX15_isDeeper 1 = .ok (.getfield 190, 3) := by decide +kernel
theorem dX15_isDeeper_4 : decode cX15_isDeeper 4 = .ok (.bipush 8, 2) := by decide +kernel
theorem dX15_isDeeper_6 : decode cX15_isDeeper 6 = .ok (.if_icmp .ne 5, 3) := by decide +kernel
theorem dX15_isDeeper_9 : decode cX15_isDeeper 9 = .ok (.iconst 0, 1) := by decide +kernel
theorem dX15_isDeeper_10 : decode cX15_isDeeper 10 = .ok (.ireturn, 1) := by decide +kernel
theorem dX15_isDeeper_11 : decode cX15_isDeeper 11 = .ok (.aload_n 0, 1) := by decide +kernel
theorem dX15_isDeeper_12 : decode cX15_isDeeper 12 = .ok (.dup, 1) := by decide +kernel
theorem dX15_isDeeper_13 : decode cX15_isDeeper 13 = .ok (.getfield 190, 3) := by decide +kernel
theorem dX15_isDeeper_16 : decode cX15_isDeeper 16 = .ok (.iconst 1, 1) := by decide +kernel
theorem dX15_isDeeper_17 : decode cX15_isDeeper 17 = .ok (.iadd, 1) := by decide +kernel
theorem dX15_isDeeper_18 : decode cX15_isDeeper 18 = .ok (.putfield 190, 3) := by decide +kernel
theorem dX15_isDeeper_21 : decode cX15_isDeeper 21 = .ok (.aload_n 0, 1) := by decide +kernel
theorem dX15_isDeeper_22 : decode cX15_isDeeper 22 = .ok (.dup, 1) := by decide +kernel
theorem dX15_isDeeper_23 : decode cX15_isDeeper 23 = .ok (.getfield 134, 3) := by decide +kernel
theorem dX15_isDeeper_26 : decode cX15_isDeeper 26 = .ok (.iconst 1, 1) := by decide +kernel
theorem dX15_isDeeper_27 : decode cX15_isDeeper 27 = .ok (.iadd, 1) := by decide +kernel
theorem dX15_isDeeper_28 : decode cX15_isDeeper 28 = .ok (.putfield 134, 3) := by decide +kernel
theorem dX15_isDeeper_31 : decode cX15_isDeeper 31 = .ok (.iconst 1, 1) := by decide +kernel
theorem dX15_isDeeper_32 : decode cX15_isDeeper 32 = .ok (.ireturn, 1) := by decide +kernel
theorem dX15_isName_0 : decode cX15_isName 0 = .ok (.aload_n 0, 1) := by decide +kernel
theorem dX15_isName_1 : decode cX15_isName 1 = .ok (.getfield 39, 3) := by decide +kernel
theorem dX15_isName_4 : decode cX15_isName 4 = .ok (.getfield 193, 3) := by decide +kernel
theorem dX15_isName_7 : decode cX15_isName 7 = .ok (.aload_n 0, 1) := by decide +kernel
theorem dX15_isName_8 : decode cX15_isName 8 = .ok (.getfield 39, 3) := by decide +kernel
theorem dX15_isName_11 : decode cX15_isName 11 = .ok (.getfield 196, 3) := by decide +kernel
theorem dX15_isName_14 : decode cX15_isName 14 = .ok (.aload_n 0, 1) := by decide +kernel
theorem dX15_isName_15 : decode cX15_isName 15 = .ok (.getfield 39, 3) := by decide +kernel
theorem dX15_isName_18 : decode cX15_isName 18 = .ok (.getfield 146, 3) := by decide +kernel
theorem dX15_isName_21 : decode cX15_isName 21 = .ok (.iastore, 1) := by decide +kernel
theorem dX15_isName_22 : decode cX15_isName 22 = .ok (.aload_n 0, 1) := by decide +kernel
theorem dX15_isName_23 : decode cX15_isName 23 = .ok (.getfield 39, 3) := by decide +kernel
theorem dX15_isName_26 : decode cX15_isName 26 = .ok (.dup, 1) := by decide +kernel
theorem dX15_isName_27 : decode cX15_isName 27 = .ok (.getfield 196, 3) := by decide +kernel
theorem dX15_isName_30 : decode cX15_isName 30 = .ok (.iconst 1, 1) := by decide +kernel
theorem dX15_isName_31 : decode cX15_isName 31 = .ok (.iadd, 1) := by decide +kernel
theorem dX15_isName_32 : decode cX15_isName 32 = .ok (.putfield 196, 3) := by decide +kernel
theorem dX15_isName_35 : decode cX15_isName 35 = .ok (.aload_n 0, 1) := by decide +kernel
theorem dX15_isName_36 : decode cX15_isName 36 = .ok (.aload_n 0, 1) := by decide +kernel
theorem dX15_isName_37 : decode cX15_isName 37 = .ok (.getfield 134, 3) := by decide +kernel
theorem dX15_isName_40 : decode cX15_isName 40 = .ok (.invokevirtual 183, 3) := by decide +kernel
theorem dX15_isName_43 : decode cX15_isName 43 = .ok (.aload_n 0, 1) := by decide +kernel
theorem dX15_isName_44 : decode cX15_isName 44 = .ok (.bipush 40, 2) := by decide +kernel
theorem dX15_isName_46 : decode cX15_isName 46 = .ok (.iload_n 1, 1) := by decide +kernel
theorem dX15_isName_47 : decode cX15_isName 47 = .ok (.invokevirtual 158, 3) := by decide +kernel
theorem dX15_isName_50 : decode cX15_isName 50 = .ok (.ireturn, 1) := by decide +kernel
theorem dX15_isNamed_0 : decode cX15_isNamed 0 = .ok (.aload_n 0, 1) := by decide +kernel
theorem dX15_isNamed_1 : decode cX15_isNamed 1 = .ok (.aload_n 0, 1) := by decide +kernel
theorem dX15_isNamed_2 : decode cX15_isNamed 2 = .ok (.getfield 17, 3) := by decide +kernel
theorem dX15_isNamed_5 : decode cX15_isNamed 5 = .ok (.aload_n 0, 1) := by decide +kernel
theorem dX15_isNamed_6 : decode cX15_isNamed 6 = .ok (.getfield 134, 3) := by decide +kernel
theorem dX15_isNamed_9 : decode cX15_isNamed 9 = .ok (.iaload, 1) := by decide +kernel
theorem dX15_isNamed_10 : decode cX15_isNamed 10 = .ok (.invokevirtual 183, 3) := by decide +kernel
theorem dX15_isNamed_13 : decode cX15_isNamed 13 = .ok (.aload_n 0, 1) := by decide +kernel
theorem dX15_isNamed_14 : decode cX15_isNamed 14 = .ok (.dup, 1) := by decide +kernel
theorem dX15_isNamed_15 : decode cX15_isNamed 15 = .ok (.getfield 134, 3) := by decide +kernel
theorem dX15_isNamed_18 : decode cX15_isNamed 18 = .ok (.iconst 1, 1) := by decide +kernel
theorem dX15_isNamed_19 : decode cX15_isNamed 19 = .ok (.iadd, 1) := by decide +kernel
theorem dX15_isNamed_20 : decode cX15_isNamed 20 = .ok (.putfield 134, 3) := by decide +kernel
theorem dX15_isNamed_23 : decode cX15_isNamed 23 = .ok (.aload_n 0, 1) := by decide +kernel
theorem dX15_isNamed_24 : decode cX15_isNamed 24 = .ok (.iload_n 1, 1) := by decide +kernel
theorem dX15_isNamed_25 : decode cX15_isNamed 25 = .ok (.invokevirtual 199, 3) := by decide +kernel
theorem dX15_isNamed_28 : decode cX15_isNamed 28 = .ok (.ireturn, 1) := by decide +kernel
theorem dX15_isSingle_0 : decode cX15_isSingle 0 = .ok (.aload_n 0, 1) := by decide +kernel
theorem dX15_isSingle_1 : decode cX15_isSingle 1 = .ok (.bipush 18, 2) := by decide +kernel
theorem dX15_isSingle_3 : decode cX15_isSingle 3 = .ok (.invokevirtual 137, 3) := by decide +kernel
theorem dX15_isSingle_6 : decode cX15_isSingle 6 = .ok (.ifCond .eq 37, 3) := by decide +kernel
theorem dX15_isSingle_9 : decode cX15_isSingle 9 = .ok (.aload_n 0, 1) := by decide +kernel
theorem dX15_isSingle_10 : decode cX15_isSingle 10 = .ok (.invokevirtual 202, 3) := by decide +kernel
theorem dX15_isSingle_13 : decode cX15_isSingle 13 = .ok (.ifCond .eq 10, 3) := by decide +kernel
theorem dX15_isSingle_16 : decode cX15_isSingle 16 = .ok (.aload_n 0, 1) := by decide +kernel
theorem dX15_isSingle_17 : decode cX15_isSingle 17 = .ok (.invokevirtual 187, 3) := by decide +kernel
theorem dX15_isSingle_20 : decode cX15_isSingle 20 = .ok (.ifCond .ne 5, 3) := by decide +kernel
theorem dX15_isSingle_23 : decode cX15_isSingle 23 = .ok (.iconst 0, 1) := by decide +kernel
theorem dX15_isSingle_24 : decode cX15_isSingle 24 = .ok (.ireturn, 1) := by decide +kernel
theorem dX15_isSingle_25 : decode cX15_isSingle 25 = .ok (.aload_n 0, 1) := by decide +kernel
theorem dX15_isSingle_26 : decode cX15_isSingle 26 = .ok (.dup, 1) := by decide +kernel
theorem dX15_isSingle_27 : decode cX15_isSingle 27 = .ok (.getfield 190, 3) := by decide +kernel
theorem dX15_isSingle_30 : decode cX15_isSingle 30 = .ok (.iconst 1, 1) := by decide +kernel
theorem dX15_isSingle_31 : decode cX15_isSingle 31 = .ok (.isub, 1) := by decide +kernel
theorem dX15_isSingle_32 : decode cX15_isSingle 32 = .ok (.putfield 190, 3) := by decide +kernel
theorem dX15_isSingle_35 : decode cX15_isSingle 35 = .ok (.aload_n 0, 1) := by decide +kernel
theorem dX15_isSingle_36 : decode cX15_isSingle 36 = .ok (.bipush 18, 2) := by decide +kernel
theorem dX15_isSingle_38 : decode cX15_isSingle 38 = .ok (.invokevirtual 183, 3) := by decide +kernel
theorem dX15_isSingle_41 : decode cX15_isSingle 41 = .ok (.iconst 1, 1) := by decide +kernel
theorem dX15_isSingle_42 : decode cX15_isSingle 42 = .ok (.ireturn, 1) := by decide +kernel
theorem dX15_isSingle_43 : decode cX15_isSingle 43 = .ok (.aload_n 0, 1) := by decide +kernel
theorem dX15_isSingle_44 : decode cX15_isSingle 44 = .ok (.bipush 91, 2) := by decide +kernel
theorem dX15_isSingle_46 : decode cX15_isSingle 46 = .ok (.invokevirtual 205, 3) := by decide +kernel
theorem dX15_isSingle_49 : decode cX15_isSingle 49 = .ok (.ifCond .eq 36, 3) := by decide +kernel
theorem dX15_isSingle_52 : decode cX15_isSingle 52 = .ok (.aload_n 0, 1) := by decide +kernel
theorem dX15_isSingle_53 : decode cX15_isSingle 53 = .ok (.invokevirtual 202, 3) := by decide +kernel
theorem dX15_isSingle_56 : decode cX15_isSingle 56 = .ok (.ifCond .eq 10, 3) := by decide +kernel
theorem dX15_isSingle_59 : decode cX15_isSingle 59 = .ok (.aload_n 0, 1) := by decide +kernel
theorem dX15_isSingle_60 : decode cX15_isSingle 60 = .ok (.invokevirtual 174, 3) := by decide +kernel
theorem dX15_isSingle_63 : decode cX15_isSingle 63 = .ok (.ifCond .ne 5, 3) := by decide +kernel
theorem dX15_isSingle_66 : decode cX15_isSingle 66 = .ok (.iconst 0, 1) := by decide +kernel
theorem dX15_isSingle_67 : decode cX15_isSingle 67 = .ok (.ireturn, 1) := by decide +kernel
theorem dX15_isSingle_68 : decode cX15_isSingle 68 = .ok (.aload_n 0, 1) := by decide +kernel
theorem dX15_isSingle_69 : decode cX15_isSingle 69 = .ok (.dup, 1) := by decide +kernel
theorem dX15_isSingle_70 : decode cX15_isSingle 70 = .ok (.getfield 190, 3) := by decide +kernel
theorem dX15_isSingle_73 : decode cX15_isSingle 73 = .ok (.iconst 1, 1) := by decide +kernel
theorem dX15_isSingle_74 : decode cX15_isSingle 74 = .ok (.isub, 1) := by decide +kernel
theorem dX15_isSingle_75 : decode cX15_isSingle 75 = .ok (.putfield 190, 3) := by decide +kernel
theorem dX15_isSingle_78 : decode cX15_isSingle 78 = .ok (.aload_n 0, 1) := by decide +kernel
theorem dX15_isSingle_79 : decode cX15_isSingle 79 = .ok (.bipush 93, 2) := by decide +kernel
theorem dX15_isSingle_81 : decode cX15_isSingle 81 = .ok (.invokevirtual 151, 3) := by decide +kernel
theorem dX15_isSingle_84 : decode cX15_isSingle 84 = .ok (.ireturn, 1) := by decide +kernel
theorem dX15_isSingle_85 : decode cX15_isSingle 85 = .ok (.aload_n 0, 1) := by decide +kernel
theorem dX15_isSingle_86 : decode cX15_isSingle 86 = .ok (.bipush 17, 2) := by decide +kernel
theorem dX15_isSingle_88 : decode cX15_isSingle 88 = .ok (.invokevirtual 137, 3) := by decide +kernel
theorem dX15_isSingle_91 : decode cX15_isSingle 91 = .ok (.ifCond .eq 36, 3) := by decide +kernel
theorem dX15_isSingle_94 : decode cX15_isSingle 94 = .ok (.aload_n 0, 1) := by decide +kernel
theorem dX15_isSingle_95 : decode cX15_isSingle 95 = .ok (.bipush 6, 2) := by decide +kernel
theorem dX15_isSingle_97 : decode cX15_isSingle 97 = .ok (.invokevirtual 208, 3) := by decide +kernel
theorem dX15_isSingle_100 : decode cX15_isSingle 100 = .ok (.ifCond .eq 25, 3) := by decide +kernel
theorem dX15_isSingle_103 : decode cX15_isSingle 103 = .ok (.aload_n 0, 1) := by decide +kernel
theorem dX15_isSingle_104 : decode cX15_isSingle 104 = .ok (.bipush 16, 2) := by decide +kernel
theorem dX15_isSingle_106 : decode cX15_isSingle 106 = .ok (.invokevirtual 140, 3) := by decide +kernel
theorem dX15_isSingle_109 : decode cX15_isSingle 109 = .ok (.ifCond .eq 16, 3) := by decide +kernel
theorem dX15_isSingle_112 : decode cX15_isSingle 112 = .ok (.aload_n 0, 1) := by decide +kernel
theorem dX15_isSingle_113 : decode cX15_isSingle 113 = .ok (.bipush 7, 2) := by decide +kernel
theorem dX15_isSingle_115 : decode cX15_isSingle 115 = .ok (.invokevirtual 199, 3) := by decide +kernel
theorem dX15_isSingle_118 : decode cX15_isSingle 118 = .ok (.ifCond .eq 7, 3) := by decide +kernel
theorem dX15_isSingle_121 : decode cX15_isSingle 121 = .ok (.iconst 1, 1) := by decide +kernel
theorem dX15_isSingle_122 : decode cX15_isSingle 122 = .ok (.goto 4, 3) := by decide +kernel
theorem dX15_isSingle_125 : decode cX15_isSingle 125 = .ok (.iconst 0, 1) := by decide +kernel
theorem dX15_isSingle_126 : decode cX15_isSingle 126 = .ok (.ireturn, 1) := by decide +kernel
theorem dX15_isSingle_127 : decode cX15_isSingle 127 = .ok (.aload_n 0, 1) := by decide +kernel
theorem dX15_isSingle_128 : decode cX15_isSingle 128 = .ok (.invokevirtual 168, 3) := by decide +kernel
theorem dX15_isSingle_131 : decode cX15_isSingle 131 = .ok (.ifCond .ne 5, 3) := by decide +kernel
theorem dX15_isSingle_134 : decode cX15_isSingle 134 = .ok (.iconst 0, 1) := by decide +kernel
theorem dX15_isSingle_135 : decode cX15_isSingle 135 = .ok (.ireturn, 1) := by decide +kernel
theorem dX15_isSingle_136 : decode cX15_isSingle 136 = .ok (.aload_n 0, 1) := by decide +kernel
theorem dX15_isSingle_137 : decode cX15_isSingle 137 = .ok (.bipush 60, 2) := by decide +kernel
theorem dX15_isSingle_139 : decode cX15_isSingle 139 = .ok (.invokevirtual 205, 3) := by decide +kernel
theorem dX15_isSingle_142 : decode cX15_isSingle 142 = .ok (.ifCond .eq 8, 3) := by decide +kernel
theorem dX15_isSingle_145 : decode cX15_isSingle 145 = .ok (.bipush 38, 2) := by decide +kernel
theorem dX15_isSingle_147 : decode cX15_isSingle 147 = .ok (.goto 62, 3) := by decide +kernel
theorem dX15_isSingle_150 : decode cX15_isSingle 150 = .ok (.aload_n 0, 1) := by decide +kernel
theorem dX15_isSingle_151 : decode cX15_isSingle 151 = .ok (.bipush 62, 2) := by decide +kernel
theorem dX15_isSingle_153 : decode cX15_isSingle 153 = .ok (.invokevirtual 205, 3) := by decide +kernel
theorem dX15_isSingle_156 : decode cX15_isSingle 156 = .ok (.ifCond .eq 8, 3) := by decide +kernel
theorem dX15_isSingle_159 : decode cX15_isSingle 159 = .ok (.bipush 39, 2) := by decide +kernel
theorem dX15_isSingle_161 : decode cX15_isSingle 161 = .ok (.goto 48, 3) := by decide +kernel
theorem dX15_isSingle_164 : decode cX15_isSingle 164 = .ok (.aload_n 0, 1) := by decide +kernel
theorem dX15_isSingle_165 : decode cX15_isSingle 165 = .ok (.bipush 61, 2) := by decide +kernel
theorem dX15_isSingle_167 : decode cX15_isSingle 167 = .ok (.invokevirtual 205, 3) := by decide +kernel
theorem dX15_isSingle_170 : decode cX15_isSingle 170 = .ok (.ifCond .eq 8, 3) := by decide +kernel
theorem dX15_isSingle_173 : decode cX15_isSingle 173 = .ok (.bipush 42, 2) := by decide +kernel
theorem dX15_isSingle_175 : decode cX15_isSingle 175 = .ok (.goto 34, 3) := by decide +kernel
theorem dX15_isSingle_178 : decode cX15_isSingle 178 = .ok (.aload_n 0, 1) := by decide +kernel
theorem dX15_isSingle_179 : decode cX15_isSingle 179 = .ok (.sipush 300, 3) := by decide +kernel
theorem dX15_isSingle_182 : decode cX15_isSingle 182 = .ok (.invokevirtual 137, 3) := by decide +kernel
theorem dX15_isSingle_185 : decode cX15_isSingle 185 = .ok (.ifCond .eq 8, 3) := by decide +kernel
theorem dX15_isSingle_188 : decode cX15_isSingle 188 = .ok (.bipush 43, 2) := by decide +kernel
theorem dX15_isSingle_190 : decode cX15_isSingle 190 = .ok (.goto 19, 3) := by decide +kernel
theorem dX15_isSingle_193 : decode cX15_isSingle 193 = .ok (.aload_n 0, 1) := by decide +kernel
theorem dX15_isSingle_194 : decode cX15_isSingle 194 = .ok (.sipush 301, 3) := by decide +kernel
theorem dX15_isSingle_197 : decode cX15_isSingle 197 = .ok (.invokevirtual 137, 3) := by decide +kernel
theorem dX15_isSingle_200 : decode cX15_isSingle 200 = .ok (.ifCond .eq 8, 3) := by decide +kernel
theorem dX15_isSingle_203 : decode cX15_isSingle 203 = .ok (.bipush 44, 2) := by decide +kernel
theorem dX15_isSingle_205 : decode cX15_isSingle 205 = .ok (.goto 4, 3) := by decide +kernel
theorem dX15_isSingle_208 : decode cX15_isSingle 208 = .ok (.iconst (-1), 1) := by decide +kernel
theorem dX15_isSingle_209 : decode cX15_isSingle 209 = .ok (.istore_n 1, 1) := by decide +kernel
theorem dX15_isSingle_210 : decode cX15_isSingle 210 = .ok (.iload_n 1, 1) := by decide +kernel
theorem dX15_isSingle_211 : decode cX15_isSingle 211 = .ok (.iconst (-1), 1) := by decide +kernel
theorem dX15_isSingle_212 : decode cX15_isSingle 212 = .ok (.if_icmp .ne 5, 3) := by decide +kernel
theorem dX15_isSingle_215 : decode cX15_isSingle 215 = .ok (.iconst 0, 1) := by decide +kernel
theorem dX15_isSingle_216 : decode cX15_isSingle 216 = .ok (.ireturn, 1) := by decide +kernel
theorem dX15_isSingle_217 : decode cX15_isSingle 217 = .ok (.aload_n 0, 1) := by decide +kernel
theorem dX15_isSingle_218 : decode cX15_isSingle 218 = .ok (.dup, 1) := by decide +kernel
theorem dX15_isSingle_219 : decode cX15_isSingle 219 = .ok (.getfield 134, 3) := by decide +kernel
theorem dX15_isSingle_222 : decode cX15_isSingle 222 = .ok (.iconst 1, 1) := by decide +kernel
theorem dX15_isSingle_223 : decode cX15_isSingle 223 = .ok (.iadd, 1) := by decide +kernel
theorem dX15_isSingle_224 : decode cX15_isSingle 224 = .ok (.putfield 134, 3) := by decide +kernel
theorem dX15_isSingle_227 : decode cX15_isSingle 227 = .ok (.aload_n 0, 1) := by decide +kernel
theorem dX15_isSingle_228 : decode cX15_isSingle 228 = .ok (.invokevirtual 168, 3) := by decide +kernel
theorem dX15_isSingle_231 : decode cX15_isSingle 231 = .ok (.ifCond .ne 5, 3) := by decide +kernel
theorem dX15_isSingle_234 : decode cX15_isSingle 234 = .ok (.iconst 0, 1) := by decide +kernel
theorem dX15_isSingle_235 : decode cX15_isSingle 235 = .ok (.ireturn, 1) := by decide +kernel
theorem dX15_isSingle_236 : decode cX15_isSingle 236 = .ok (.aload_n 0, 1) := by decide +kernel
theorem dX15_isSingle_237 : decode cX15_isSingle 237 = .ok (.iload_n 1, 1) := by decide +kernel
theorem dX15_isSingle_238 : decode cX15_isSingle 238 = .ok (.invokevirtual 183, 3) := by decide +kernel
theorem dX15_isSingle_241 : decode cX15_isSingle 241 = .ok (.iconst 1, 1) := by decide +kernel
theorem dX15_isSingle_242 : decode cX15_isSingle 242 = .ok (.ireturn, 1) := by decide +kernel
theorem dX15_isSum_0 : decode cX15_isSum 0 = .ok (.aload_n 0, 1) := by decide +kernel
theorem dX15_isSum_1 : decode cX15_isSum 1 = .ok (.invokevirtual 211, 3) := by decide +kernel
theorem dX15_isSum_4 : decode cX15_isSum 4 = .ok (.ifCond .ne 5, 3) := by decide +kernel
theorem dX15_isSum_7 : decode cX15_isSum 7 = .ok (.iconst 0, 1) := by decide +kernel
theorem dX15_isSum_8 : decode cX15_isSum 8 = .ok (.ireturn, 1) := by decide +kernel
theorem dX15_isSum_9 : decode cX15_isSum 9 = .ok (.aload_n 0, 1) := by decide +kernel
theorem dX15_isSum_10 : decode cX15_isSum 10 = .ok (.bipush 43, 2) := by decide +kernel
theorem dX15_isSum_12 : decode cX15_isSum 12 = .ok (.invokevirtual 205, 3) := by decide +kernel
theorem dX15_isSum_15 : decode cX15_isSum 15 = .ok (.ifCond .ne 12, 3) := by decide +kernel
theorem dX15_isSum_18 : decode cX15_isSum 18 = .ok (.aload_n 0, 1) := by decide +kernel
theorem dX15_isSum_19 : decode cX15_isSum 19 = .ok (.bipush 45, 2) := by decide +kernel
theorem dX15_isSum_21 : decode cX15_isSum 21 = .ok (.invokevirtual 205, 3) := by decide +kernel
theorem dX15_isSum_24 : decode cX15_isSum 24 = .ok (.ifCond .eq 47, 3) := by decide +kernel
theorem dX15_isSum_27 : decode cX15_isSum 27 = .ok (.aload_n 0, 1) := by decide +kernel
theorem dX15_isSum_28 : decode cX15_isSum 28 = .ok (.bipush 43, 2) := by decide +kernel
theorem dX15_isSum_30 : decode cX15_isSum 30 = .ok (.invokevirtual 205, 3) := by decide +kernel
theorem dX15_isSum_33 : decode cX15_isSum 33 = .ok (.ifCond .eq 8, 3) := by decide +kernel
theorem dX15_isSum_36 : decode cX15_isSum 36 = .ok (.bipush 34, 2) := by decide +kernel
theorem dX15_isSum_38 : decode cX15_isSum 38 = .ok (.goto 5, 3) := by decide +kernel
theorem dX15_isSum_41 : decode cX15_isSum 41 = .ok (.bipush 35, 2) := by decide +kernel
theorem dX15_isSum_43 : decode cX15_isSum 43 = .ok (.istore_n 1, 1) := by decide +kernel
theorem dX15_isSum_44 : decode cX15_isSum 44 = .ok (.aload_n 0, 1) := by decide +kernel
theorem dX15_isSum_45 : decode cX15_isSum 45 = .ok (.dup, 1) := by decide +kernel
theorem dX15_isSum_46 : decode cX15_isSum 46 = .ok (.getfield 134, 3) := by decide +kernel
theorem dX15_isSum_49 : decode cX15_isSum 49 = .ok (.iconst 1, 1) := by decide +kernel
theorem dX15_isSum_50 : decode cX15_isSum 50 = .ok (.iadd, 1) := by decide +kernel
theorem dX15_isSum_51 : decode cX15_isSum 51 = .ok (.putfield 134, 3) := by decide +kernel
theorem dX15_isSum_54 : decode cX15_isSum 54 = .ok (.aload_n 0, 1) := by decide +kernel
theorem dX15_isSum_55 : decode cX15_isSum 55 = .ok (.invokevirtual 211, 3) := by decide +kernel
theorem dX15_isSum_58 : decode cX15_isSum 58 = .ok (.ifCond .ne 5, 3) := by decide +kernel
theorem dX15_isSum_61 : decode cX15_isSum 61 = .ok (.iconst 0, 1) := by decide +kernel
theorem dX15_isSum_62 : decode cX15_isSum 62 = .ok (.ireturn, 1) := by decide +kernel
theorem dX15_isSum_63 : decode cX15_isSum 63 = .ok (.aload_n 0, 1) := by decide +kernel
theorem dX15_isSum_64 : decode cX15_isSum 64 = .ok (.iload_n 1, 1) := by decide +kernel
theorem dX15_isSum_65 : decode cX15_isSum 65 = .ok (.invokevirtual 183, 3) := by decide +kernel
theorem dX15_isSum_68 : decode cX15_isSum 68 = .ok (.goto (-59), 3) := by decide +kernel
theorem dX15_isSum_71 : decode cX15_isSum 71 = .ok (.iconst 1, 1) := by decide +kernel
theorem dX15_isSum_72 : decode cX15_isSum 72 = .ok (.ireturn, 1) := by decide +kernel
theorem dX15_isProduct_0 : decode cX15_isProduct 0 = .ok (.aload_n 0, 1) := by decide +kernel
theorem dX15_isProduct_1 : decode cX15_isProduct 1 = .ok (.invokevirtual 214, 3) := by decide +kernel
theorem dX15_isProduct_4 : decode cX15_isProduct 4 = .ok (.ifCond .ne 5, 3) := by decide +kernel
theorem dX15_isProduct_7 : decode cX15_isProduct 7 = .ok (.iconst 0, 1) := by decide +kernel
theorem dX15_isProduct_8 : decode cX15_isProduct 8 = .ok (.ireturn, 1) := by decide +kernel
theorem dX15_isProduct_9 : decode cX15_isProduct 9 = .ok (.aload_n 0, 1) := by decide +kernel
theorem dX15_isProduct_10 : decode cX15_isProduct 10 = .ok (.bipush 42, 2) := by decide +kernel
theorem dX15_isProduct_12 : decode cX15_isProduct 12 = .ok (.invokevirtual 205, 3) := by decide +kernel
theorem dX15_isProduct_15 : decode cX15_isProduct 15 = .ok (.ifCond .ne 12, 3) := by decide +kernel
theorem dX15_isProduct_18 : decode cX15_isProduct 18 = .ok (.aload_n 0, 1) := by decide +kernel
theorem dX15_isProduct_19 : decode cX15_isProduct 19 = .ok (.bipush 47, 2) := by decide +kernel
theorem dX15_isProduct_21 : decode cX15_isProduct 21 = .ok (.invokevirtual 205, 3) := by decide +kernel
theorem dX15_isProduct_24 : decode cX15_isProduct 24 = .ok (.ifCond .eq 47, 3) := by decide +kernel
theorem dX15_isProduct_27 : decode cX15_isProduct 27 = .ok (.aload_n 0, 1) := by decide +kernel
theorem dX15_isProduct_28 : decode cX15_isProduct 28 = .ok (.bipush 42, 2) := by decide +kernel
theorem dX15_isProduct_30 : decode cX15_isProduct 30 = .ok (.invokevirtual 205, 3) := by decide +kernel
theorem dX15_isProduct_33 : decode cX15_isProduct 33 = .ok (.ifCond .eq 8, 3) := by decide +kernel
theorem dX15_isProduct_36 : decode cX15_isProduct 36 = .ok (.bipush 36, 2) := by decide +kernel
theorem dX15_isProduct_38 : decode cX15_isProduct 38 = .ok (.goto 5, 3) := by decide +kernel
theorem dX15_isProduct_41 : decode cX15_isProduct 41 = .ok (.bipush 37, 2) := by decide +kernel
theorem dX15_isProduct_43 : decode cX15_isProduct 43 = .ok (.istore_n 1, 1) := by decide +kernel
theorem dX15_isProduct_44 : decode cX15_isProduct 44 = .ok (.aload_n 0, 1) := by decide +kernel
theorem dX15_isProduct_45 : decode cX15_isProduct 45 = .ok (.dup, 1) := by decide +kernel
theorem dX15_isProduct_46 : decode cX15_isProduct 46 = .ok (.getfield 134, 3) := by decide +kernel
theorem dX15_isProduct_49 : decode cX15_isProduct 49 = .ok (.iconst 1, 1) := by decide +kernel
theorem dX15_isProduct_50 : decode cX15_isProduct 50 = .ok (.iadd, 1) := by decide +kernel
theorem dX15_isProduct_51 : decode cX15_isProduct 51 = .ok (.putfield 134, 3) := by decide +kernel
theorem dX15_isProduct_54 : decode cX15_isProduct 54 = .ok (.aload_n 0, 1) := by decide +kernel
theorem dX15_isProduct_55 : decode cX15_isProduct 55 = .ok (.invokevirtual 214, 3) := by decide +kernel
theorem dX15_isProduct_58 : decode cX15_isProduct 58 = .ok (.ifCond .ne 5, 3) := by decide +kernel
theorem dX15_isProduct_61 : decode cX15_isProduct 61 = .ok (.iconst 0, 1) := by decide +kernel
theorem dX15_isProduct_62 : decode cX15_isProduct 62 = .ok (.ireturn, 1) := by decide +kernel
theorem dX15_isProduct_63 : decode cX15_isProduct 63 = .ok (.aload_n 0, 1) := by decide +kernel
theorem dX15_isProduct_64 : decode cX15_isProduct 64 = .ok (.iload_n 1, 1) := by decide +kernel
theorem dX15_isProduct_65 : decode cX15_isProduct 65 = .ok (.invokevirtual 183, 3) := by decide +kernel
theorem dX15_isProduct_68 : decode cX15_isProduct 68 = .ok (.goto (-59), 3) := by decide +kernel
theorem dX15_isProduct_71 : decode cX15_isProduct 71 = .ok (.iconst 1, 1) := by decide +kernel
theorem dX15_isProduct_72 : decode cX15_isProduct 72 = .ok (.ireturn, 1) := by decide +kernel
theorem dX15_isInside_0 : decode cX15_isInside 0 = .ok (.aload_n 0, 1) := by decide +kernel
theorem dX15_isInside_1 : decode cX15_isInside 1 = .ok (.bipush 40, 2) := by decide +kernel
theorem dX15_isInside_3 : decode cX15_isInside 3 = .ok (.invokevirtual 205, 3) := by decide +kernel
theorem dX15_isInside_6 : decode cX15_isInside 6 = .ok (.ifCond .eq 37, 3) := by decide +kernel
theorem dX15_isInside_9 : decode cX15_isInside 9 = .ok (.aload_n 0, 1) := by decide +kernel
theorem dX15_isInside_10 : decode cX15_isInside 10 = .ok (.invokevirtual 202, 3) := by decide +kernel
theorem dX15_isInside_13 : decode cX15_isInside 13 = .ok (.ifCond .eq 30, 3) := by decide +kernel
theorem dX15_isInside_16 : decode cX15_isInside 16 = .ok (.aload_n 0, 1) := by decide +kernel
theorem dX15_isInside_17 : decode cX15_isInside 17 = .ok (.invokevirtual 168, 3) := by decide +kernel
theorem dX15_isInside_20 : decode cX15_isInside 20 = .ok (.ifCond .eq 23, 3) := by decide +kernel
theorem dX15_isInside_23 : decode cX15_isInside 23 = .ok (.iload_n 2, 1) := by decide +kernel
theorem dX15_isInside_24 : decode cX15_isInside 24 = .ok (.ifCond .eq 21, 3) := by decide +kernel
theorem dX15_isInside_27 : decode cX15_isInside 27 = .ok (.aload_n 0, 1) := by decide +kernel
theorem dX15_isInside_28 : decode cX15_isInside 28 = .ok (.bipush 44, 2) := by decide +kernel
theorem dX15_isInside_30 : decode cX15_isInside 30 = .ok (.invokevirtual 151, 3) := by decide +kernel
theorem dX15_isInside_33 : decode cX15_isInside 33 = .ok (.ifCond .eq 10, 3) := by decide +kernel
theorem dX15_isInside_36 : decode cX15_isInside 36 = .ok (.aload_n 0, 1) := by decide +kernel
theorem dX15_isInside_37 : decode cX15_isInside 37 = .ok (.invokevirtual 168, 3) := by decide +kernel
theorem dX15_isInside_40 : decode cX15_isInside 40 = .ok (.ifCond .ne 5, 3) := by decide +kernel
theorem dX15_isInside_43 : decode cX15_isInside 43 = .ok (.iconst 0, 1) := by decide +kernel
theorem dX15_isInside_44 : decode cX15_isInside 44 = .ok (.ireturn, 1) := by decide +kernel
theorem dX15_isInside_45 : decode cX15_isInside 45 = .ok (.aload_n 0, 1) := by decide +kernel
theorem dX15_isInside_46 : decode cX15_isInside 46 = .ok (.dup, 1) := by decide +kernel
theorem dX15_isInside_47 : decode cX15_isInside 47 = .ok (.getfield 190, 3) := by decide +kernel
theorem dX15_isInside_50 : decode cX15_isInside 50 = .ok (.iconst 1, 1) := by decide +kernel
theorem dX15_isInside_51 : decode cX15_isInside 51 = .ok (.isub, 1) := by decide +kernel
theorem dX15_isInside_52 : decode cX15_isInside 52 = .ok (.putfield 190, 3) := by decide +kernel
theorem dX15_isInside_55 : decode cX15_isInside 55 = .ok (.iload_n 2, 1) := by decide +kernel
theorem dX15_isInside_56 : decode cX15_isInside 56 = .ok (.ifCond .eq 8, 3) := by decide +kernel
theorem dX15_isInside_59 : decode cX15_isInside 59 = .ok (.aload_n 0, 1) := by decide +kernel
theorem dX15_isInside_60 : decode cX15_isInside 60 = .ok (.iload_n 1, 1) := by decide +kernel
theorem dX15_isInside_61 : decode cX15_isInside 61 = .ok (.invokevirtual 183, 3) := by decide +kernel
theorem dX15_isInside_64 : decode cX15_isInside 64 = .ok (.aload_n 0, 1) := by decide +kernel
theorem dX15_isInside_65 : decode cX15_isInside 65 = .ok (.bipush 41, 2) := by decide +kernel
theorem dX15_isInside_67 : decode cX15_isInside 67 = .ok (.invokevirtual 151, 3) := by decide +kernel
theorem dX15_isInside_70 : decode cX15_isInside 70 = .ok (.ireturn, 1) := by decide +kernel
theorem dX15_isValue_0 : decode cX15_isValue 0 = .ok (.aload_n 0, 1) := by decide +kernel
theorem dX15_isValue_1 : decode cX15_isValue 1 = .ok (.getfield 17, 3) := by decide +kernel
theorem dX15_isValue_4 : decode cX15_isValue 4 = .ok (.aload_n 0, 1) := by decide +kernel
theorem dX15_isValue_5 : decode cX15_isValue 5 = .ok (.getfield 134, 3) := by decide +kernel
theorem dX15_isValue_8 : decode cX15_isValue 8 = .ok (.iaload, 1) := by decide +kernel
theorem dX15_isValue_9 : decode cX15_isValue 9 = .ok (.istore_n 1, 1) := by decide +kernel
theorem dX15_isValue_10 : decode cX15_isValue 10 = .ok (.aload_n 0, 1) := by decide +kernel
theorem dX15_isValue_11 : decode cX15_isValue 11 = .ok (.bipush 41, 2) := by decide +kernel
theorem dX15_isValue_13 : decode cX15_isValue 13 = .ok (.invokevirtual 137, 3) := by decide +kernel
theorem dX15_isValue_16 : decode cX15_isValue 16 = .ok (.ifCond .eq 33, 3) := by decide +kernel
theorem dX15_isValue_19 : decode cX15_isValue 19 = .ok (.aload_n 0, 1) := by decide +kernel
theorem dX15_isValue_20 : decode cX15_isValue 20 = .ok (.bipush 32, 2) := by decide +kernel
theorem dX15_isValue_22 : decode cX15_isValue 22 = .ok (.invokevirtual 183, 3) := by decide +kernel
theorem dX15_isValue_25 : decode cX15_isValue 25 = .ok (.aload_n 0, 1) := by decide +kernel
theorem dX15_isValue_26 : decode cX15_isValue 26 = .ok (.aload_n 0, 1) := by decide +kernel
theorem dX15_isValue_27 : decode cX15_isValue 27 = .ok (.aload_n 0, 1) := by decide +kernel
theorem dX15_isValue_28 : decode cX15_isValue 28 = .ok (.getfield 134, 3) := by decide +kernel
theorem dX15_isValue_31 : decode cX15_isValue 31 = .ok (.invokevirtual 217, 3) := by decide +kernel
theorem dX15_isValue_34 : decode cX15_isValue 34 = .ok (.invokevirtual 183, 3) := by decide +kernel
theorem dX15_isValue_37 : decode cX15_isValue 37 = .ok (.aload_n 0, 1) := by decide +kernel
theorem dX15_isValue_38 : decode cX15_isValue 38 = .ok (.dup, 1) := by decide +kernel
theorem dX15_isValue_39 : decode cX15_isValue 39 = .ok (.getfield 134, 3) := by decide +kernel
theorem dX15_isValue_42 : decode cX15_isValue 42 = .ok (.iconst 1, 1) := by decide +kernel
theorem dX15_isValue_43 : decode cX15_isValue 43 = .ok (.iadd, 1) := by decide +kernel
theorem dX15_isValue_44 : decode cX15_isValue 44 = .ok (.putfield 134, 3) := by decide +kernel
theorem dX15_isValue_47 : decode cX15_isValue 47 = .ok (.iconst 1, 1) := by decide +kernel
theorem dX15_isValue_48 : decode cX15_isValue 48 = .ok (.ireturn, 1) := by decide +kernel
theorem dX15_isValue_49 : decode cX15_isValue 49 = .ok (.iload_n 1, 1) := by decide +kernel
theorem dX15_isValue_50 : decode cX15_isValue 50 = .ok (.bipush 10, 2) := by decide +kernel
theorem dX15_isValue_52 : decode cX15_isValue 52 = .ok (.if_icmp .lt 26, 3) := by decide +kernel
theorem dX15_isValue_55 : decode cX15_isValue 55 = .ok (.iload_n 1, 1) := by decide +kernel
theorem dX15_isValue_56 : decode cX15_isValue 56 = .ok (.bipush 12, 2) := by decide +kernel
theorem dX15_isValue_58 : decode cX15_isValue 58 = .ok (.if_icmp .gt 20, 3) := by decide +kernel
theorem dX15_isValue_61 : decode cX15_isValue 61 = .ok (.aload_n 0, 1) := by decide +kernel
theorem dX15_isValue_62 : decode cX15_isValue 62 = .ok (.iload_n 1, 1) := by decide +kernel
theorem dX15_isValue_63 : decode cX15_isValue 63 = .ok (.invokevirtual 183, 3) := by decide +kernel
theorem dX15_isValue_66 : decode cX15_isValue 66 = .ok (.aload_n 0, 1) := by decide +kernel
theorem dX15_isValue_67 : decode cX15_isValue 67 = .ok (.dup, 1) := by decide +kernel
theorem dX15_isValue_68 : decode cX15_isValue 68 = .ok (.getfield 134, 3) := by decide +kernel
theorem dX15_isValue_71 : decode cX15_isValue 71 = .ok (.iconst 1, 1) := by decide +kernel
theorem dX15_isValue_72 : decode cX15_isValue 72 = .ok (.iadd, 1) := by decide +kernel
theorem dX15_isValue_73 : decode cX15_isValue 73 = .ok (.putfield 134, 3) := by decide +kernel
theorem dX15_isValue_76 : decode cX15_isValue 76 = .ok (.iconst 1, 1) := by decide +kernel
theorem dX15_isValue_77 : decode cX15_isValue 77 = .ok (.ireturn, 1) := by decide +kernel
theorem dX15_isValue_78 : decode cX15_isValue 78 = .ok (.iload_n 1, 1) := by decide +kernel
theorem dX15_isValue_79 : decode cX15_isValue 79 = .ok (.bipush 13, 2) := by decide +kernel
theorem dX15_isValue_81 : decode cX15_isValue 81 = .ok (.if_icmp .lt 59, 3) := by decide +kernel
theorem dX15_isValue_84 : decode cX15_isValue 84 = .ok (.iload_n 1, 1) := by decide +kernel
theorem dX15_isValue_85 : decode cX15_isValue 85 = .ok (.bipush 15, 2) := by decide +kernel
theorem dX15_isValue_87 : decode cX15_isValue 87 = .ok (.if_icmp .gt 53, 3) := by decide +kernel
theorem dX15_isValue_90 : decode cX15_isValue 90 = .ok (.aload_n 0, 1) := by decide +kernel
theorem dX15_isValue_91 : decode cX15_isValue 91 = .ok (.iload_n 1, 1) := by decide +kernel
theorem dX15_isValue_92 : decode cX15_isValue 92 = .ok (.invokevirtual 183, 3) := by decide +kernel
theorem dX15_isValue_95 : decode cX15_isValue 95 = .ok (.aload_n 0, 1) := by decide +kernel
theorem dX15_isValue_96 : decode cX15_isValue 96 = .ok (.dup, 1) := by decide +kernel
theorem dX15_isValue_97 : decode cX15_isValue 97 = .ok (.getfield 134, 3) := by decide +kernel
theorem dX15_isValue_100 : decode cX15_isValue 100 = .ok (.iconst 1, 1) := by decide +kernel
theorem dX15_isValue_101 : decode cX15_isValue 101 = .ok (.iadd, 1) := by decide +kernel
theorem dX15_isValue_102 : decode cX15_isValue 102 = .ok (.putfield 134, 3) := by decide +kernel
theorem dX15_isValue_105 : decode cX15_isValue 105 = .ok (.aload_n 0, 1) := by decide +kernel
theorem dX15_isValue_106 : decode cX15_isValue 106 = .ok (.bipush 16, 2) := by decide +kernel
theorem dX15_isValue_108 : decode cX15_isValue 108 = .ok (.invokevirtual 140, 3) := by decide +kernel
theorem dX15_isValue_111 : decode cX15_isValue 111 = .ok (.ifCond .eq 27, 3) := by decide +kernel
theorem dX15_isValue_114 : decode cX15_isValue 114 = .ok (.aload_n 0, 1) := by decide +kernel
theorem dX15_isValue_115 : decode cX15_isValue 115 = .ok (.iload_n 1, 1) := by decide +kernel
theorem dX15_isValue_116 : decode cX15_isValue 116 = .ok (.bipush 15, 2) := by decide +kernel
theorem dX15_isValue_118 : decode cX15_isValue 118 = .ok (.if_icmp .ne 8, 3) := by decide +kernel
theorem dX15_isValue_121 : decode cX15_isValue 121 = .ok (.bipush 8, 2) := by decide +kernel
theorem dX15_isValue_123 : decode cX15_isValue 123 = .ok (.goto 5, 3) := by decide +kernel
theorem dX15_isValue_126 : decode cX15_isValue 126 = .ok (.bipush 7, 2) := by decide +kernel
theorem dX15_isValue_128 : decode cX15_isValue 128 = .ok (.invokevirtual 199, 3) := by decide +kernel
theorem dX15_isValue_131 : decode cX15_isValue 131 = .ok (.ifCond .eq 7, 3) := by decide +kernel
theorem dX15_isValue_134 : decode cX15_isValue 134 = .ok (.iconst 1, 1) := by decide +kernel
theorem dX15_isValue_135 : decode cX15_isValue 135 = .ok (.goto 4, 3) := by decide +kernel
theorem dX15_isValue_138 : decode cX15_isValue 138 = .ok (.iconst 0, 1) := by decide +kernel
theorem dX15_isValue_139 : decode cX15_isValue 139 = .ok (.ireturn, 1) := by decide +kernel
theorem dX15_isValue_140 : decode cX15_isValue 140 = .ok (.aload_n 0, 1) := by decide +kernel
theorem dX15_isValue_141 : decode cX15_isValue 141 = .ok (.bipush 45, 2) := by decide +kernel
theorem dX15_isValue_143 : decode cX15_isValue 143 = .ok (.invokevirtual 205, 3) := by decide +kernel
theorem dX15_isValue_146 : decode cX15_isValue 146 = .ok (.ifCond .eq 37, 3) := by decide +kernel
theorem dX15_isValue_149 : decode cX15_isValue 149 = .ok (.aload_n 0, 1) := by decide +kernel
theorem dX15_isValue_150 : decode cX15_isValue 150 = .ok (.invokevirtual 202, 3) := by decide +kernel
theorem dX15_isValue_153 : decode cX15_isValue 153 = .ok (.ifCond .eq 10, 3) := by decide +kernel
theorem dX15_isValue_156 : decode cX15_isValue 156 = .ok (.aload_n 0, 1) := by decide +kernel
theorem dX15_isValue_157 : decode cX15_isValue 157 = .ok (.invokevirtual 214, 3) := by decide +kernel
theorem dX15_isValue_160 : decode cX15_isValue 160 = .ok (.ifCond .ne 5, 3) := by decide +kernel
theorem dX15_isValue_163 : decode cX15_isValue 163 = .ok (.iconst 0, 1) := by decide +kernel
theorem dX15_isValue_164 : decode cX15_isValue 164 = .ok (.ireturn, 1) := by decide +kernel
theorem dX15_isValue_165 : decode cX15_isValue 165 = .ok (.aload_n 0, 1) := by decide +kernel
theorem dX15_isValue_166 : decode cX15_isValue 166 = .ok (.dup, 1) := by decide +kernel
theorem dX15_isValue_167 : decode cX15_isValue 167 = .ok (.getfield 190, 3) := by decide +kernel
theorem dX15_isValue_170 : decode cX15_isValue 170 = .ok (.iconst 1, 1) := by decide +kernel
theorem dX15_isValue_171 : decode cX15_isValue 171 = .ok (.isub, 1) := by decide +kernel
theorem dX15_isValue_172 : decode cX15_isValue 172 = .ok (.putfield 190, 3) := by decide +kernel
theorem dX15_isValue_175 : decode cX15_isValue 175 = .ok (.aload_n 0, 1) := by decide +kernel
theorem dX15_isValue_176 : decode cX15_isValue 176 = .ok (.bipush 33, 2) := by decide +kernel
theorem dX15_isValue_178 : decode cX15_isValue 178 = .ok (.invokevirtual 183, 3) := by decide +kernel
theorem dX15_isValue_181 : decode cX15_isValue 181 = .ok (.iconst 1, 1) := by decide +kernel
theorem dX15_isValue_182 : decode cX15_isValue 182 = .ok (.ireturn, 1) := by decide +kernel
theorem dX15_isValue_183 : decode cX15_isValue 183 = .ok (.aload_n 0, 1) := by decide +kernel
theorem dX15_isValue_184 : decode cX15_isValue 184 = .ok (.iload_n 1, 1) := by decide +kernel
theorem dX15_isValue_185 : decode cX15_isValue 185 = .ok (.aload_n 0, 1) := by decide +kernel
theorem dX15_isValue_186 : decode cX15_isValue 186 = .ok (.bipush 21, 2) := by decide +kernel
theorem dX15_isValue_188 : decode cX15_isValue 188 = .ok (.invokevirtual 140, 3) := by decide +kernel
theorem dX15_isValue_191 : decode cX15_isValue 191 = .ok (.ifCond .ne 12, 3) := by decide +kernel
theorem dX15_isValue_194 : decode cX15_isValue 194 = .ok (.aload_n 0, 1) := by decide +kernel
theorem dX15_isValue_195 : decode cX15_isValue 195 = .ok (.bipush 22, 2) := by decide +kernel
theorem dX15_isValue_197 : decode cX15_isValue 197 = .ok (.invokevirtual 140, 3) := by decide +kernel
theorem dX15_isValue_200 : decode cX15_isValue 200 = .ok (.ifCond .eq 7, 3) := by decide +kernel
theorem dX15_isValue_203 : decode cX15_isValue 203 = .ok (.iconst 1, 1) := by decide +kernel
theorem dX15_isValue_204 : decode cX15_isValue 204 = .ok (.goto 4, 3) := by decide +kernel
theorem dX15_isValue_207 : decode cX15_isValue 207 = .ok (.iconst 0, 1) := by decide +kernel
theorem dX15_isValue_208 : decode cX15_isValue 208 = .ok (.invokevirtual 220, 3) := by decide +kernel
theorem dX15_isValue_211 : decode cX15_isValue 211 = .ok (.ireturn, 1) := by decide +kernel
theorem dX15_numberAt_0 : decode cX15_numberAt 0 = .ok (.iconst 0, 1) := by decide +kernel
theorem dX15_numberAt_1 : decode cX15_numberAt 1 = .ok (.istore_n 2, 1) := by decide +kernel
theorem dX15_numberAt_2 : decode cX15_numberAt 2 = .ok (.iconst 0, 1) := by decide +kernel
theorem dX15_numberAt_3 : decode cX15_numberAt 3 = .ok (.istore_n 3, 1) := by decide +kernel
theorem dX15_numberAt_4 : decode cX15_numberAt 4 = .ok (.iload_n 3, 1) := by decide +kernel
theorem dX15_numberAt_5 : decode cX15_numberAt 5 = .ok (.aload_n 0, 1) := by decide +kernel
theorem dX15_numberAt_6 : decode cX15_numberAt 6 = .ok (.getfield 23, 3) := by decide +kernel
theorem dX15_numberAt_9 : decode cX15_numberAt 9 = .ok (.iload_n 1, 1) := by decide +kernel
theorem dX15_numberAt_10 : decode cX15_numberAt 10 = .ok (.iaload, 1) := by decide +kernel
theorem dX15_numberAt_11 : decode cX15_numberAt 11 = .ok (.if_icmp .ge 31, 3) := by decide +kernel
theorem dX15_numberAt_14 : decode cX15_numberAt 14 = .ok (.bipush 10, 2) := by decide +kernel
theorem dX15_numberAt_16 : decode cX15_numberAt 16 = .ok (.iload_n 2, 1) := by decide +kernel
theorem dX15_numberAt_17 : decode cX15_numberAt 17 = .ok (.imul, 1) := by decide +kernel
theorem dX15_numberAt_18 : decode cX15_numberAt 18 = .ok (.aload_n 0, 1) := by decide +kernel
theorem dX15_numberAt_19 : decode cX15_numberAt 19 = .ok (.getfield 9, 3) := by decide +kernel
theorem dX15_numberAt_22 : decode cX15_numberAt 22 = .ok (.aload_n 0, 1) := by decide +kernel
theorem dX15_numberAt_23 : decode cX15_numberAt 23 = .ok (.getfield 20, 3) := by decide +kernel
theorem dX15_numberAt_26 : decode cX15_numberAt 26 = .ok (.iload_n 1, 1) := by decide +kernel
theorem dX15_numberAt_27 : decode cX15_numberAt 27 = .ok (.iaload, 1) := by decide +kernel
theorem dX15_numberAt_28 : decode cX15_numberAt 28 = .ok (.iload_n 3, 1) := by decide +kernel
theorem dX15_numberAt_29 : decode cX15_numberAt 29 = .ok (.iadd, 1) := by decide +kernel
theorem dX15_numberAt_30 : decode cX15_numberAt 30 = .ok (.iaload, 1) := by decide +kernel
theorem dX15_numberAt_31 : decode cX15_numberAt 31 = .ok (.iadd, 1) := by decide +kernel
theorem dX15_numberAt_32 : decode cX15_numberAt 32 = .ok (.bipush 48, 2) := by decide +kernel
theorem dX15_numberAt_34 : decode cX15_numberAt 34 = .ok (.isub, 1) := by decide +kernel
theorem dX15_numberAt_35 : decode cX15_numberAt 35 = .ok (.istore_n 2, 1) := by decide +kernel
theorem dX15_numberAt_36 : decode cX15_numberAt 36 = .ok (.iinc 3 1, 3) := by decide +kernel
theorem dX15_numberAt_39 : decode cX15_numberAt 39 = .ok (.goto (-35), 3) := by decide +kernel
theorem dX15_numberAt_42 : decode cX15_numberAt 42 = .ok (.iload_n 2, 1) := by decide +kernel
theorem dX15_numberAt_43 : decode cX15_numberAt 43 = .ok (.ireturn, 1) := by decide +kernel
theorem dX15_isSame_0 : decode cX15_isSame 0 = .ok (.aload_n 0, 1) := by decide +kernel
theorem dX15_isSame_1 : decode cX15_isSame 1 = .ok (.getfield 23, 3) := by decide +kernel
theorem dX15_isSame_4 : decode cX15_isSame 4 = .ok (.iload_n 1, 1) := by decide +kernel
theorem dX15_isSame_5 : decode cX15_isSame 5 = .ok (.iaload, 1) := by decide +kernel
theorem dX15_isSame_6 : decode cX15_isSame 6 = .ok (.aload_n 0, 1) := by decide +kernel
theorem dX15_isSame_7 : decode cX15_isSame 7 = .ok (.getfield 23, 3) := by decide +kernel
theorem dX15_isSame_10 : decode cX15_isSame 10 = .ok (.iload_n 2, 1) := by decide +kernel
theorem dX15_isSame_11 : decode cX15_isSame 11 = .ok (.iaload, 1) := by decide +kernel
theorem dX15_isSame_12 : decode cX15_isSame 12 = .ok (.if_icmp .eq 5, 3) := by decide +kernel
theorem dX15_isSame_15 : decode cX15_isSame 15 = .ok (.iconst 0, 1) := by decide +kernel
theorem dX15_isSame_16 : decode cX15_isSame 16 = .ok (.ireturn, 1) := by decide +kernel
theorem dX15_isSame_17 : decode cX15_isSame 17 = .ok (.iconst 0, 1) := by decide +kernel
theorem dX15_isSame_18 : decode cX15_isSame 18 = .ok (.istore_n 3, 1) := by decide +kernel
theorem dX15_isSame_19 : decode cX15_isSame 19 = .ok (.iload_n 3, 1) := by decide +kernel
theorem dX15_isSame_20 : decode cX15_isSame 20 = .ok (.aload_n 0, 1) := by decide +kernel
theorem dX15_isSame_21 : decode cX15_isSame 21 = .ok (.getfield 23, 3) := by decide +kernel
theorem dX15_isSame_24 : decode cX15_isSame 24 = .ok (.iload_n 1, 1) := by decide +kernel
theorem dX15_isSame_25 : decode cX15_isSame 25 = .ok (.iaload, 1) := by decide +kernel
theorem dX15_isSame_26 : decode cX15_isSame 26 = .ok (.if_icmp .ge 40, 3) := by decide +kernel
theorem dX15_isSame_29 : decode cX15_isSame 29 = .ok (.aload_n 0, 1) := by decide +kernel
theorem dX15_isSame_30 : decode cX15_isSame 30 = .ok (.getfield 9, 3) := by decide +kernel
theorem dX15_isSame_33 : decode cX15_isSame 33 = .ok (.aload_n 0, 1) := by decide +kernel
theorem dX15_isSame_34 : decode cX15_isSame 34 = .ok (.getfield 20, 3) := by decide +kernel
theorem dX15_isSame_37 : decode cX15_isSame 37 = .ok (.iload_n 1, 1) := by decide +kernel
theorem dX15_isSame_38 : decode cX15_isSame 38 = .ok (.iaload, 1) := by decide +kernel
theorem dX15_isSame_39 : decode cX15_isSame 39 = .ok (.iload_n 3, 1) := by decide +kernel
theorem dX15_isSame_40 : decode cX15_isSame 40 = .ok (.iadd, 1) := by decide +kernel
theorem dX15_isSame_41 : decode cX15_isSame 41 = .ok (.iaload, 1) := by decide +kernel
theorem dX15_isSame_42 : decode cX15_isSame 42 = .ok (.aload_n 0, 1) := by decide +kernel
theorem dX15_isSame_43 : decode cX15_isSame 43 = .ok (.getfield 9, 3) := by decide +kernel
theorem dX15_isSame_46 : decode cX15_isSame 46 = .ok (.aload_n 0, 1) := by decide +kernel
theorem dX15_isSame_47 : decode cX15_isSame 47 = .ok (.getfield 20, 3) := by decide +kernel
theorem dX15_isSame_50 : decode cX15_isSame 50 = .ok (.iload_n 2, 1) := by decide +kernel
theorem dX15_isSame_51 : decode cX15_isSame 51 = .ok (.iaload, 1) := by decide +kernel
theorem dX15_isSame_52 : decode cX15_isSame 52 = .ok (.iload_n 3, 1) := by decide +kernel
theorem dX15_isSame_53 : decode cX15_isSame 53 = .ok (.iadd, 1) := by decide +kernel
theorem dX15_isSame_54 : decode cX15_isSame 54 = .ok (.iaload, 1) := by decide +kernel
theorem dX15_isSame_55 : decode cX15_isSame 55 = .ok (.if_icmp .eq 5, 3) := by decide +kernel
theorem dX15_isSame_58 : decode cX15_isSame 58 = .ok (.iconst 0, 1) := by decide +kernel
theorem dX15_isSame_59 : decode cX15_isSame 59 = .ok (.ireturn, 1) := by decide +kernel
theorem dX15_isSame_60 : decode cX15_isSame 60 = .ok (.iinc 3 1, 3) := by decide +kernel
theorem dX15_isSame_63 : decode cX15_isSame 63 = .ok (.goto (-44), 3) := by decide +kernel
theorem dX15_isSame_66 : decode cX15_isSame 66 = .ok (.iconst 1, 1) := by decide +kernel
theorem dX15_isSame_67 : decode cX15_isSame 67 = .ok (.ireturn, 1) := by decide +kernel
theorem dX15_told_0 : decode cX15_told 0 = .ok (.iconst 0, 1) := by decide +kernel
theorem dX15_told_1 : decode cX15_told 1 = .ok (.istore_n 3, 1) := by decide +kernel
theorem dX15_told_2 : decode cX15_told 2 = .ok (.iconst 0, 1) := by decide +kernel
theorem dX15_told_3 : decode cX15_told 3 = .ok (.istore 4, 2) := by decide +kernel
theorem dX15_told_5 : decode cX15_told 5 = .ok (.iload 4, 2) := by decide +kernel
theorem dX15_told_7 : decode cX15_told 7 = .ok (.iload_n 1, 1) := by decide +kernel
theorem dX15_told_8 : decode cX15_told 8 = .ok (.if_icmp .ge 38, 3) := by decide +kernel
theorem dX15_told_11 : decode cX15_told 11 = .ok (.aload_n 0, 1) := by decide +kernel
theorem dX15_told_12 : decode cX15_told 12 = .ok (.getfield 26, 3) := by decide +kernel
theorem dX15_told_15 : decode cX15_told 15 = .ok (.iload 4, 2) := by decide +kernel
theorem dX15_told_17 : decode cX15_told 17 = .ok (.iaload, 1) := by decide +kernel
theorem dX15_told_18 : decode cX15_told 18 = .ok (.iload_n 2, 1) := by decide +kernel
theorem dX15_told_19 : decode cX15_told 19 = .ok (.if_icmp .eq 6, 3) := by decide +kernel
theorem dX15_told_22 : decode cX15_told 22 = .ok (.goto 18, 3) := by decide +kernel
theorem dX15_told_25 : decode cX15_told 25 = .ok (.aload_n 0, 1) := by decide +kernel
theorem dX15_told_26 : decode cX15_told 26 = .ok (.iload 4, 2) := by decide +kernel
theorem dX15_told_28 : decode cX15_told 28 = .ok (.iload_n 1, 1) := by decide +kernel
theorem dX15_told_29 : decode cX15_told 29 = .ok (.invokevirtual 224, 3) := by decide +kernel
theorem dX15_told_32 : decode cX15_told 32 = .ok (.ifCond .eq 5, 3) := by decide +kernel
theorem dX15_told_35 : decode cX15_told 35 = .ok (.iload_n 3, 1) := by decide +kernel
theorem dX15_told_36 : decode cX15_told 36 = .ok (.ireturn, 1) := by decide +kernel
theorem dX15_told_37 : decode cX15_told 37 = .ok (.iinc 3 1, 3) := by decide +kernel
theorem dX15_told_40 : decode cX15_told 40 = .ok (.iinc 4 1, 3) := by decide +kernel
theorem dX15_told_43 : decode cX15_told 43 = .ok (.goto (-38), 3) := by decide +kernel
theorem dX15_told_46 : decode cX15_told 46 = .ok (.iconst (-1), 1) := by decide +kernel
theorem dX15_told_47 : decode cX15_told 47 = .ok (.ireturn, 1) := by decide +kernel
theorem dX15_inRange_0 : decode cX15_inRange 0 = .ok (.aload_n 0, 1) := by decide +kernel
theorem dX15_inRange_1 : decode cX15_inRange 1 = .ok (.iload_n 1, 1) := by decide +kernel
theorem dX15_inRange_2 : decode cX15_inRange 2 = .ok (.invokevirtual 217, 3) := by decide +kernel
theorem dX15_inRange_5 : decode cX15_inRange 5 = .ok (.iload_n 2, 1) := by decide +kernel
theorem dX15_inRange_6 : decode cX15_inRange 6 = .ok (.iload_n 3, 1) := by decide +kernel
theorem dX15_inRange_7 : decode cX15_inRange 7 = .ok (.invokestatic 75, 3) := by decide +kernel
theorem dX15_inRange_10 : decode cX15_inRange 10 = .ok (.ifCond .eq 7, 3) := by decide +kernel
theorem dX15_inRange_13 : decode cX15_inRange 13 = .ok (.iconst 0, 1) := by decide +kernel
theorem dX15_inRange_14 : decode cX15_inRange 14 = .ok (.goto 4, 3) := by decide +kernel
theorem dX15_inRange_17 : decode cX15_inRange 17 = .ok (.iconst 5, 1) := by decide +kernel
theorem dX15_inRange_18 : decode cX15_inRange 18 = .ok (.ireturn, 1) := by decide +kernel
theorem dX15_look_0 : decode cX15_look 0 = .ok (.iload_n 2, 1) := by decide +kernel
theorem dX15_look_1 : decode cX15_look 1 = .ok (.ifCond .eq 12, 3) := by decide +kernel
theorem dX15_look_4 : decode cX15_look 4 = .ok (.aload_n 0, 1) := by decide +kernel
theorem dX15_look_5 : decode cX15_look 5 = .ok (.iload_n 1, 1) := by decide +kernel
theorem dX15_look_6 : decode cX15_look 6 = .ok (.iconst 1, 1) := by decide +kernel
theorem dX15_look_7 : decode cX15_look 7 = .ok (.invokevirtual 227, 3) := by decide +kernel
theorem dX15_look_10 : decode cX15_look 10 = .ok (.goto 4, 3) := by decide +kernel
theorem dX15_look_13 : decode cX15_look 13 = .ok (.iconst (-1), 1) := by decide +kernel
theorem dX15_look_14 : decode cX15_look 14 = .ok (.istore 4, 2) := by decide +kernel
theorem dX15_look_16 : decode cX15_look 16 = .ok (.iload 4, 2) := by decide +kernel
theorem dX15_look_18 : decode cX15_look 18 = .ok (.iconst (-1), 1) := by decide +kernel
theorem dX15_look_19 : decode cX15_look 19 = .ok (.if_icmp .ne 28, 3) := by decide +kernel
theorem dX15_look_22 : decode cX15_look 22 = .ok (.iload_n 3, 1) := by decide +kernel
theorem dX15_look_23 : decode cX15_look 23 = .ok (.ifCond .eq 24, 3) := by decide +kernel
theorem dX15_look_26 : decode cX15_look 26 = .ok (.aload_n 0, 1) := by decide +kernel
theorem dX15_look_27 : decode cX15_look 27 = .ok (.iload_n 1, 1) := by decide +kernel
theorem dX15_look_28 : decode cX15_look 28 = .ok (.iconst 2, 1) := by decide +kernel
theorem dX15_look_29 : decode cX15_look 29 = .ok (.invokevirtual 227, 3) := by decide +kernel
theorem dX15_look_32 : decode cX15_look 32 = .ok (.istore 4, 2) := by decide +kernel
theorem dX15_look_34 : decode cX15_look 34 = .ok (.iload 4, 2) := by decide +kernel
theorem dX15_look_36 : decode cX15_look 36 = .ok (.iconst (-1), 1) := by decide +kernel
theorem dX15_look_37 : decode cX15_look 37 = .ok (.if_icmp .eq 10, 3) := by decide +kernel
theorem dX15_look_40 : decode cX15_look 40 = .ok (.iload_n 2, 1) := by decide +kernel
theorem dX15_look_41 : decode cX15_look 41 = .ok (.ifCond .eq 6, 3) := by decide +kernel
theorem dX15_look_44 : decode cX15_look 44 = .ok (.iinc 4 8, 3) := by decide +kernel
theorem dX15_look_47 : decode cX15_look 47 = .ok (.aload_n 0, 1) := by decide +kernel
theorem dX15_look_48 : decode cX15_look 48 = .ok (.getfield 29, 3) := by decide +kernel
theorem dX15_look_51 : decode cX15_look 51 = .ok (.iload_n 1, 1) := by decide +kernel
theorem dX15_look_52 : decode cX15_look 52 = .ok (.iload 4, 2) := by decide +kernel
theorem dX15_look_54 : decode cX15_look 54 = .ok (.iastore, 1) := by decide +kernel
theorem dX15_look_55 : decode cX15_look 55 = .ok (.iload 4, 2) := by decide +kernel
theorem dX15_look_57 : decode cX15_look 57 = .ok (.iconst (-1), 1) := by decide +kernel
theorem dX15_look_58 : decode cX15_look 58 = .ok (.if_icmp .ne 7, 3) := by decide +kernel
theorem dX15_look_61 : decode cX15_look 61 = .ok (.iconst 3, 1) := by decide +kernel
theorem dX15_look_62 : decode cX15_look 62 = .ok (.goto 4, 3) := by decide +kernel
theorem dX15_look_65 : decode cX15_look 65 = .ok (.iconst 0, 1) := by decide +kernel
theorem dX15_look_66 : decode cX15_look 66 = .ok (.ireturn, 1) := by decide +kernel
theorem dX15_isNew_0 : decode cX15_isNew 0 = .ok (.aload_n 0, 1) := by decide +kernel
theorem dX15_isNew_1 : decode cX15_isNew 1 = .ok (.iload_n 1, 1) := by decide +kernel
theorem dX15_isNew_2 : decode cX15_isNew 2 = .ok (.iconst 1, 1) := by decide +kernel
theorem dX15_isNew_3 : decode cX15_isNew 3 = .ok (.invokevirtual 227, 3) := by decide +kernel
theorem dX15_isNew_6 : decode cX15_isNew 6 = .ok (.iconst (-1), 1) := by decide +kernel
theorem dX15_isNew_7 : decode cX15_isNew 7 = .ok (.if_icmp .ne 13, 3) := by decide +kernel
theorem dX15_isNew_10 : decode cX15_isNew 10 = .ok (.aload_n 0, 1) := by decide +kernel
theorem dX15_isNew_11 : decode cX15_isNew 11 = .ok (.iload_n 1, 1) := by decide +kernel
theorem dX15_isNew_12 : decode cX15_isNew 12 = .ok (.iconst 2, 1) := by decide +kernel
theorem dX15_isNew_13 : decode cX15_isNew 13 = .ok (.invokevirtual 227, 3) := by decide +kernel
theorem dX15_isNew_16 : decode cX15_isNew 16 = .ok (.iconst (-1), 1) := by decide +kernel
theorem dX15_isNew_17 : decode cX15_isNew 17 = .ok (.if_icmp .eq 7, 3) := by decide +kernel
theorem dX15_isNew_20 : decode cX15_isNew 20 = .ok (.iconst 2, 1) := by decide +kernel
theorem dX15_isNew_21 : decode cX15_isNew 21 = .ok (.goto 13, 3) := by decide +kernel
theorem dX15_isNew_24 : decode cX15_isNew 24 = .ok (.iload_n 2, 1) := by decide +kernel
theorem dX15_isNew_25 : decode cX15_isNew 25 = .ok (.iload_n 3, 1) := by decide +kernel
theorem dX15_isNew_26 : decode cX15_isNew 26 = .ok (.if_icmp .ne 7, 3) := by decide +kernel
theorem dX15_isNew_29 : decode cX15_isNew 29 = .ok (.iconst 4, 1) := by decide +kernel
theorem dX15_isNew_30 : decode cX15_isNew 30 = .ok (.goto 4, 3) := by decide +kernel
theorem dX15_isNew_33 : decode cX15_isNew 33 = .ok (.iconst 0, 1) := by decide +kernel
theorem dX15_isNew_34 : decode cX15_isNew 34 = .ok (.ireturn, 1) := by decide +kernel
theorem dX15_newHedge_0 : decode cX15_newHedge 0 = .ok (.aload_n 0, 1) := by decide +kernel
theorem dX15_newHedge_1 : decode cX15_newHedge 1 = .ok (.iload_n 1, 1) := by decide +kernel
theorem dX15_newHedge_2 : decode cX15_newHedge 2 = .ok (.aload_n 0, 1) := by decide +kernel
theorem dX15_newHedge_3 : decode cX15_newHedge 3 = .ok (.getfield 39, 3) := by decide +kernel
theorem dX15_newHedge_6 : decode cX15_newHedge 6 = .ok (.getfield 72, 3) := by decide +kernel
theorem dX15_newHedge_9 : decode cX15_newHedge 9 = .ok (.bipush 8, 2) := by decide +kernel
theorem dX15_newHedge_11 : decode cX15_newHedge 11 = .ok (.invokevirtual 230, 3) := by decide +kernel
theorem dX15_newHedge_14 : decode cX15_newHedge 14 = .ok (.istore_n 2, 1) := by decide +kernel
theorem dX15_newHedge_15 : decode cX15_newHedge 15 = .ok (.iload_n 2, 1) := by decide +kernel
theorem dX15_newHedge_16 : decode cX15_newHedge 16 = .ok (.ifCond .le 5, 3) := by decide +kernel
theorem dX15_newHedge_19 : decode cX15_newHedge 19 = .ok (.iload_n 2, 1) := by decide +kernel
theorem dX15_newHedge_20 : decode cX15_newHedge 20 = .ok (.ireturn, 1) := by decide +kernel
theorem dX15_newHedge_21 : decode cX15_newHedge 21 = .ok (.aload_n 0, 1) := by decide +kernel
theorem dX15_newHedge_22 : decode cX15_newHedge 22 = .ok (.getfield 39, 3) := by decide +kernel
theorem dX15_newHedge_25 : decode cX15_newHedge 25 = .ok (.getfield 234, 3) := by decide +kernel
theorem dX15_newHedge_28 : decode cX15_newHedge 28 = .ok (.aload_n 0, 1) := by decide +kernel
theorem dX15_newHedge_29 : decode cX15_newHedge 29 = .ok (.getfield 39, 3) := by decide +kernel
theorem dX15_newHedge_32 : decode cX15_newHedge 32 = .ok (.getfield 72, 3) := by decide +kernel
theorem dX15_newHedge_35 : decode cX15_newHedge 35 = .ok (.aload_n 0, 1) := by decide +kernel
theorem dX15_newHedge_36 : decode cX15_newHedge 36 = .ok (.iload_n 1, 1) := by decide +kernel
theorem dX15_newHedge_37 : decode cX15_newHedge 37 = .ok (.iconst 2, 1) := by decide +kernel
theorem dX15_newHedge_38 : decode cX15_newHedge 38 = .ok (.iadd, 1) := by decide +kernel
theorem dX15_newHedge_39 : decode cX15_newHedge 39 = .ok (.invokevirtual 217, 3) := by decide +kernel
theorem dX15_newHedge_42 : decode cX15_newHedge 42 = .ok (.iastore, 1) := by decide +kernel
theorem dX15_newHedge_43 : decode cX15_newHedge 43 = .ok (.aload_n 0, 1) := by decide +kernel
theorem dX15_newHedge_44 : decode cX15_newHedge 44 = .ok (.getfield 39, 3) := by decide +kernel
theorem dX15_newHedge_47 : decode cX15_newHedge 47 = .ok (.dup, 1) := by decide +kernel
theorem dX15_newHedge_48 : decode cX15_newHedge 48 = .ok (.getfield 72, 3) := by decide +kernel
theorem dX15_newHedge_51 : decode cX15_newHedge 51 = .ok (.iconst 1, 1) := by decide +kernel
theorem dX15_newHedge_52 : decode cX15_newHedge 52 = .ok (.iadd, 1) := by decide +kernel
theorem dX15_newHedge_53 : decode cX15_newHedge 53 = .ok (.putfield 72, 3) := by decide +kernel
theorem dX15_newHedge_56 : decode cX15_newHedge 56 = .ok (.iconst 0, 1) := by decide +kernel
theorem dX15_newHedge_57 : decode cX15_newHedge 57 = .ok (.ireturn, 1) := by decide +kernel
theorem dX15_newRose_0 : decode cX15_newRose 0 = .ok (.aload_n 0, 1) := by decide +kernel
theorem dX15_newRose_1 : decode cX15_newRose 1 = .ok (.iload_n 1, 1) := by decide +kernel
theorem dX15_newRose_2 : decode cX15_newRose 2 = .ok (.aload_n 0, 1) := by decide +kernel
theorem dX15_newRose_3 : decode cX15_newRose 3 = .ok (.getfield 39, 3) := by decide +kernel
theorem dX15_newRose_6 : decode cX15_newRose 6 = .ok (.getfield 79, 3) := by decide +kernel
theorem dX15_newRose_9 : decode cX15_newRose 9 = .ok (.bipush 8, 2) := by decide +kernel
theorem dX15_newRose_11 : decode cX15_newRose 11 = .ok (.invokevirtual 230, 3) := by decide +kernel
theorem dX15_newRose_14 : decode cX15_newRose 14 = .ok (.istore_n 2, 1) := by decide +kernel
theorem dX15_newRose_15 : decode cX15_newRose 15 = .ok (.iload_n 2, 1) := by decide +kernel
theorem dX15_newRose_16 : decode cX15_newRose 16 = .ok (.ifCond .le 5, 3) := by decide +kernel
theorem dX15_newRose_19 : decode cX15_newRose 19 = .ok (.iload_n 2, 1) := by decide +kernel
theorem dX15_newRose_20 : decode cX15_newRose 20 = .ok (.ireturn, 1) := by decide +kernel
theorem dX15_newRose_21 : decode cX15_newRose 21 = .ok (.aload_n 0, 1) := by decide +kernel
theorem dX15_newRose_22 : decode cX15_newRose 22 = .ok (.getfield 39, 3) := by decide +kernel
theorem dX15_newRose_25 : decode cX15_newRose 25 = .ok (.getfield 237, 3) := by decide +kernel
theorem dX15_newRose_28 : decode cX15_newRose 28 = .ok (.aload_n 0, 1) := by decide +kernel
theorem dX15_newRose_29 : decode cX15_newRose 29 = .ok (.getfield 39, 3) := by decide +kernel
theorem dX15_newRose_32 : decode cX15_newRose 32 = .ok (.getfield 79, 3) := by decide +kernel
theorem dX15_newRose_35 : decode cX15_newRose 35 = .ok (.aload_n 0, 1) := by decide +kernel
theorem dX15_newRose_36 : decode cX15_newRose 36 = .ok (.iload_n 1, 1) := by decide +kernel
theorem dX15_newRose_37 : decode cX15_newRose 37 = .ok (.iconst 2, 1) := by decide +kernel
theorem dX15_newRose_38 : decode cX15_newRose 38 = .ok (.iadd, 1) := by decide +kernel
theorem dX15_newRose_39 : decode cX15_newRose 39 = .ok (.invokevirtual 217, 3) := by decide +kernel
theorem dX15_newRose_42 : decode cX15_newRose 42 = .ok (.iastore, 1) := by decide +kernel
theorem dX15_newRose_43 : decode cX15_newRose 43 = .ok (.aload_n 0, 1) := by decide +kernel
theorem dX15_newRose_44 : decode cX15_newRose 44 = .ok (.getfield 39, 3) := by decide +kernel
theorem dX15_newRose_47 : decode cX15_newRose 47 = .ok (.dup, 1) := by decide +kernel
theorem dX15_newRose_48 : decode cX15_newRose 48 = .ok (.getfield 79, 3) := by decide +kernel
theorem dX15_newRose_51 : decode cX15_newRose 51 = .ok (.iconst 1, 1) := by decide +kernel
theorem dX15_newRose_52 : decode cX15_newRose 52 = .ok (.iadd, 1) := by decide +kernel
theorem dX15_newRose_53 : decode cX15_newRose 53 = .ok (.putfield 79, 3) := by decide +kernel
theorem dX15_newRose_56 : decode cX15_newRose 56 = .ok (.iconst 0, 1) := by decide +kernel
theorem dX15_newRose_57 : decode cX15_newRose 57 = .ok (.ireturn, 1) := by decide +kernel
theorem dX15_newOrder_0 : decode cX15_newOrder 0 = .ok (.aload_n 0, 1) := by decide +kernel
theorem dX15_newOrder_1 : decode cX15_newOrder 1 = .ok (.getfield 39, 3) := by decide +kernel
theorem dX15_newOrder_4 : decode cX15_newOrder 4 = .ok (.getfield 240, 3) := by decide +kernel
theorem dX15_newOrder_7 : decode cX15_newOrder 7 = .ok (.bipush 16, 2) := by decide +kernel
theorem dX15_newOrder_9 : decode cX15_newOrder 9 = .ok (.if_icmp .ne 5, 3) := by decide +kernel
theorem dX15_newOrder_12 : decode cX15_newOrder 12 = .ok (.iconst 4, 1) := by decide +kernel
theorem dX15_newOrder_13 : decode cX15_newOrder 13 = .ok (.ireturn, 1) := by decide +kernel
theorem dX15_newOrder_14 : decode cX15_newOrder 14 = .ok (.aload_n 0, 1) := by decide +kernel
theorem dX15_newOrder_15 : decode cX15_newOrder 15 = .ok (.getfield 39, 3) := by decide +kernel
theorem dX15_newOrder_18 : decode cX15_newOrder 18 = .ok (.getfield 243, 3) := by decide +kernel
theorem dX15_newOrder_21 : decode cX15_newOrder 21 = .ok (.aload_n 0, 1) := by decide +kernel
theorem dX15_newOrder_22 : decode cX15_newOrder 22 = .ok (.getfield 39, 3) := by decide +kernel
theorem dX15_newOrder_25 : decode cX15_newOrder 25 = .ok (.getfield 240, 3) := by decide +kernel
theorem dX15_newOrder_28 : decode cX15_newOrder 28 = .ok (.iload_n 1, 1) := by decide +kernel
theorem dX15_newOrder_29 : decode cX15_newOrder 29 = .ok (.iastore, 1) := by decide +kernel
theorem dX15_newOrder_30 : decode cX15_newOrder 30 = .ok (.aload_n 0, 1) := by decide +kernel
theorem dX15_newOrder_31 : decode cX15_newOrder 31 = .ok (.getfield 39, 3) := by decide +kernel
theorem dX15_newOrder_34 : decode cX15_newOrder 34 = .ok (.dup, 1) := by decide +kernel
theorem dX15_newOrder_35 : decode cX15_newOrder 35 = .ok (.getfield 240, 3) := by decide +kernel
theorem dX15_newOrder_38 : decode cX15_newOrder 38 = .ok (.iconst 1, 1) := by decide +kernel
theorem dX15_newOrder_39 : decode cX15_newOrder 39 = .ok (.iadd, 1) := by decide +kernel
theorem dX15_newOrder_40 : decode cX15_newOrder 40 = .ok (.putfield 240, 3) := by decide +kernel
theorem dX15_newOrder_43 : decode cX15_newOrder 43 = .ok (.iconst 0, 1) := by decide +kernel
theorem dX15_newOrder_44 : decode cX15_newOrder 44 = .ok (.ireturn, 1) := by decide +kernel
theorem dX15_ofOrder_0 : decode cX15_ofOrder 0 = .ok (.aload_n 0, 1) := by decide +kernel
theorem dX15_ofOrder_1 : decode cX15_ofOrder 1 = .ok (.iload_n 1, 1) := by decide +kernel
theorem dX15_ofOrder_2 : decode cX15_ofOrder 2 = .ok (.iconst 1, 1) := by decide +kernel
theorem dX15_ofOrder_3 : decode cX15_ofOrder 3 = .ok (.iload_n 2, 1) := by decide +kernel
theorem dX15_ofOrder_4 : decode cX15_ofOrder 4 = .ok (.invokevirtual 246, 3) := by decide +kernel
theorem dX15_ofOrder_7 : decode cX15_ofOrder 7 = .ok (.istore_n 3, 1) := by decide +kernel
theorem dX15_ofOrder_8 : decode cX15_ofOrder 8 = .ok (.iload_n 2, 1) := by decide +kernel
theorem dX15_ofOrder_9 : decode cX15_ofOrder 9 = .ok (.ifCond .eq 29, 3) := by decide +kernel
theorem dX15_ofOrder_12 : decode cX15_ofOrder 12 = .ok (.aload_n 0, 1) := by decide +kernel
theorem dX15_ofOrder_13 : decode cX15_ofOrder 13 = .ok (.getfield 39, 3) := by decide +kernel
theorem dX15_ofOrder_16 : decode cX15_ofOrder 16 = .ok (.getfield 250, 3) := by decide +kernel
theorem dX15_ofOrder_19 : decode cX15_ofOrder 19 = .ok (.aload_n 0, 1) := by decide +kernel
theorem dX15_ofOrder_20 : decode cX15_ofOrder 20 = .ok (.getfield 39, 3) := by decide +kernel
theorem dX15_ofOrder_23 : decode cX15_ofOrder 23 = .ok (.getfield 240, 3) := by decide +kernel
theorem dX15_ofOrder_26 : decode cX15_ofOrder 26 = .ok (.iconst 1, 1) := by decide +kernel
theorem dX15_ofOrder_27 : decode cX15_ofOrder 27 = .ok (.isub, 1) := by decide +kernel
theorem dX15_ofOrder_28 : decode cX15_ofOrder 28 = .ok (.aload_n 0, 1) := by decide +kernel
theorem dX15_ofOrder_29 : decode cX15_ofOrder 29 = .ok (.getfield 29, 3) := by decide +kernel
theorem dX15_ofOrder_32 : decode cX15_ofOrder 32 = .ok (.iload_n 1, 1) := by decide +kernel
theorem dX15_ofOrder_33 : decode cX15_ofOrder 33 = .ok (.iaload, 1) := by decide +kernel
theorem dX15_ofOrder_34 : decode cX15_ofOrder 34 = .ok (.iastore, 1) := by decide +kernel
theorem dX15_ofOrder_35 : decode cX15_ofOrder 35 = .ok (.goto 26, 3) := by decide +kernel
theorem dX15_ofOrder_38 : decode cX15_ofOrder 38 = .ok (.aload_n 0, 1) := by decide +kernel
theorem dX15_ofOrder_39 : decode cX15_ofOrder 39 = .ok (.getfield 39, 3) := by decide +kernel
theorem dX15_ofOrder_42 : decode cX15_ofOrder 42 = .ok (.getfield 253, 3) := by decide +kernel
theorem dX15_ofOrder_45 : decode cX15_ofOrder 45 = .ok (.aload_n 0, 1) := by decide +kernel
theorem dX15_ofOrder_46 : decode cX15_ofOrder 46 = .ok (.getfield 39, 3) := by decide +kernel
theorem dX15_ofOrder_49 : decode cX15_ofOrder 49 = .ok (.getfield 240, 3) := by decide +kernel
theorem dX15_ofOrder_52 : decode cX15_ofOrder 52 = .ok (.iconst 1, 1) := by decide +kernel
theorem dX15_ofOrder_53 : decode cX15_ofOrder 53 = .ok (.isub, 1) := by decide +kernel
theorem dX15_ofOrder_54 : decode cX15_ofOrder 54 = .ok (.aload_n 0, 1) := by decide +kernel
theorem dX15_ofOrder_55 : decode cX15_ofOrder 55 = .ok (.getfield 29, 3) := by decide +kernel
theorem dX15_ofOrder_58 : decode cX15_ofOrder 58 = .ok (.iload_n 1, 1) := by decide +kernel
theorem dX15_ofOrder_59 : decode cX15_ofOrder 59 = .ok (.iaload, 1) := by decide +kernel
theorem dX15_ofOrder_60 : decode cX15_ofOrder 60 = .ok (.iastore, 1) := by decide +kernel
theorem dX15_ofOrder_61 : decode cX15_ofOrder 61 = .ok (.iload_n 3, 1) := by decide +kernel
theorem dX15_ofOrder_62 : decode cX15_ofOrder 62 = .ok (.ireturn, 1) := by decide +kernel
theorem dX15_errorOf_0 : decode cX15_errorOf 0 = .ok (.aload_n 0, 1) := by decide +kernel
theorem dX15_errorOf_1 : decode cX15_errorOf 1 = .ok (.getfield 26, 3) := by decide +kernel
theorem dX15_errorOf_4 : decode cX15_errorOf 4 = .ok (.iload_n 1, 1) := by decide +kernel
theorem dX15_errorOf_5 : decode cX15_errorOf 5 = .ok (.iaload, 1) := by decide +kernel
theorem dX15_errorOf_6 : decode cX15_errorOf 6 = .ok (.tableswitch 113 0 8 #[50, 52, 58, 64, 75, 82, 89, 97, 105], 50) := by decide +kernel
theorem dX15_errorOf_56 : decode cX15_errorOf 56 = .ok (.iconst 0, 1) := by decide +kernel
theorem dX15_errorOf_57 : decode cX15_errorOf 57 = .ok (.ireturn, 1) := by decide +kernel
theorem dX15_errorOf_58 : decode cX15_errorOf 58 = .ok (.aload_n 0, 1) := by decide +kernel
theorem dX15_errorOf_59 : decode cX15_errorOf 59 = .ok (.iload_n 1, 1) := by decide +kernel
theorem dX15_errorOf_60 : decode cX15_errorOf 60 = .ok (.invokevirtual 256, 3) := by decide +kernel
theorem dX15_errorOf_63 : decode cX15_errorOf 63 = .ok (.ireturn, 1) := by decide +kernel
theorem dX15_errorOf_64 : decode cX15_errorOf 64 = .ok (.aload_n 0, 1) := by decide +kernel
theorem dX15_errorOf_65 : decode cX15_errorOf 65 = .ok (.iload_n 1, 1) := by decide +kernel
theorem dX15_errorOf_66 : decode cX15_errorOf 66 = .ok (.invokevirtual 259, 3) := by decide +kernel
theorem dX15_errorOf_69 : decode cX15_errorOf 69 = .ok (.ireturn, 1) := by decide +kernel
theorem dX15_errorOf_70 : decode cX15_errorOf 70 = .ok (.aload_n 0, 1) := by decide +kernel
theorem dX15_errorOf_71 : decode cX15_errorOf 71 = .ok (.aload_n 0, 1) := by decide +kernel
theorem dX15_errorOf_72 : decode cX15_errorOf 72 = .ok (.getfield 17, 3) := by decide +kernel
theorem dX15_errorOf_75 : decode cX15_errorOf 75 = .ok (.iload_n 1, 1) := by decide +kernel
theorem dX15_errorOf_76 : decode cX15_errorOf 76 = .ok (.iaload, 1) := by decide +kernel
theorem dX15_errorOf_77 : decode cX15_errorOf 77 = .ok (.invokevirtual 262, 3) := by decide +kernel
theorem dX15_errorOf_80 : decode cX15_errorOf 80 = .ok (.ireturn, 1) := by decide +kernel
theorem dX15_errorOf_81 : decode cX15_errorOf 81 = .ok (.aload_n 0, 1) := by decide +kernel
theorem dX15_errorOf_82 : decode cX15_errorOf 82 = .ok (.iload_n 1, 1) := by decide +kernel
theorem dX15_errorOf_83 : decode cX15_errorOf 83 = .ok (.iconst 1, 1) := by decide +kernel
theorem dX15_errorOf_84 : decode cX15_errorOf 84 = .ok (.invokevirtual 265, 3) := by decide +kernel
theorem dX15_errorOf_87 : decode cX15_errorOf 87 = .ok (.ireturn, 1) := by decide +kernel
theorem dX15_errorOf_88 : decode cX15_errorOf 88 = .ok (.aload_n 0, 1) := by decide +kernel
theorem dX15_errorOf_89 : decode cX15_errorOf 89 = .ok (.iload_n 1, 1) := by decide +kernel
theorem dX15_errorOf_90 : decode cX15_errorOf 90 = .ok (.iconst 0, 1) := by decide +kernel
theorem dX15_errorOf_91 : decode cX15_errorOf 91 = .ok (.invokevirtual 265, 3) := by decide +kernel
theorem dX15_errorOf_94 : decode cX15_errorOf 94 = .ok (.ireturn, 1) := by decide +kernel
theorem dX15_errorOf_95 : decode cX15_errorOf 95 = .ok (.aload_n 0, 1) := by decide +kernel
theorem dX15_errorOf_96 : decode cX15_errorOf 96 = .ok (.iload_n 1, 1) := by decide +kernel
theorem dX15_errorOf_97 : decode cX15_errorOf 97 = .ok (.iconst 1, 1) := by decide +kernel
theorem dX15_errorOf_98 : decode cX15_errorOf 98 = .ok (.iconst 1, 1) := by decide +kernel
theorem dX15_errorOf_99 : decode cX15_errorOf 99 = .ok (.invokevirtual 246, 3) := by decide +kernel
theorem dX15_errorOf_102 : decode cX15_errorOf 102 = .ok (.ireturn, 1) := by decide +kernel
theorem dX15_errorOf_103 : decode cX15_errorOf 103 = .ok (.aload_n 0, 1) := by decide +kernel
theorem dX15_errorOf_104 : decode cX15_errorOf 104 = .ok (.iload_n 1, 1) := by decide +kernel
theorem dX15_errorOf_105 : decode cX15_errorOf 105 = .ok (.iconst 1, 1) := by decide +kernel
theorem dX15_errorOf_106 : decode cX15_errorOf 106 = .ok (.iconst 0, 1) := by decide +kernel
theorem dX15_errorOf_107 : decode cX15_errorOf 107 = .ok (.invokevirtual 246, 3) := by decide +kernel
theorem dX15_errorOf_110 : decode cX15_errorOf 110 = .ok (.ireturn, 1) := by decide +kernel
theorem dX15_errorOf_111 : decode cX15_errorOf 111 = .ok (.aload_n 0, 1) := by decide +kernel
theorem dX15_errorOf_112 : decode cX15_errorOf 112 = .ok (.iload_n 1, 1) := by decide +kernel
theorem dX15_errorOf_113 : decode cX15_errorOf 113 = .ok (.iconst 0, 1) := by decide +kernel
theorem dX15_errorOf_114 : decode cX15_errorOf 114 = .ok (.iconst 1, 1) := by decide +kernel
theorem dX15_errorOf_115 : decode cX15_errorOf 115 = .ok (.invokevirtual 246, 3) := by decide +kernel
theorem dX15_errorOf_118 : decode cX15_errorOf 118 = .ok (.ireturn, 1) := by decide +kernel
theorem dX15_errorOf_119 : decode cX15_errorOf 119 = .ok (.aload_n 0, 1) := by decide +kernel
theorem dX15_errorOf_120 : decode cX15_errorOf 120 = .ok (.iload_n 1, 1) := by decide +kernel
theorem dX15_errorOf_121 : decode cX15_errorOf 121 = .ok (.iconst 1, 1) := by decide +kernel
theorem dX15_errorOf_122 : decode cX15_errorOf 122 = .ok (.bipush 9, 2) := by decide +kernel
theorem dX15_errorOf_124 : decode cX15_errorOf 124 = .ok (.invokevirtual 269, 3) := by decide +kernel
theorem dX15_errorOf_127 : decode cX15_errorOf 127 = .ok (.ireturn, 1) := by decide +kernel
theorem dX15_read_0 : decode cX15_read 0 = .ok (.aload_n 0, 1) := by decide +kernel
theorem dX15_read_1 : decode cX15_read 1 = .ok (.new 32, 3) := by decide +kernel
theorem dX15_read_4 : decode cX15_read 4 = .ok (.dup, 1) := by decide +kernel
theorem dX15_read_5 : decode cX15_read 5 = .ok (.invokespecial 34, 3) := by decide +kernel
theorem dX15_read_8 : decode cX15_read 8 = .ok (.putfield 39, 3) := by decide +kernel
theorem dX15_read_11 : decode cX15_read 11 = .ok (.aload_n 0, 1) := by decide +kernel
theorem dX15_read_12 : decode cX15_read 12 = .ok (.invokevirtual 272, 3) := by decide +kernel
theorem dX15_read_15 : decode cX15_read 15 = .ok (.aload_n 0, 1) := by decide +kernel
theorem dX15_read_16 : decode cX15_read 16 = .ok (.iconst 0, 1) := by decide +kernel
theorem dX15_read_17 : decode cX15_read 17 = .ok (.putfield 134, 3) := by decide +kernel
theorem dX15_read_20 : decode cX15_read 20 = .ok (.aload_n 0, 1) := by decide +kernel
theorem dX15_read_21 : decode cX15_read 21 = .ok (.iconst 0, 1) := by decide +kernel
theorem dX15_read_22 : decode cX15_read 22 = .ok (.putfield 190, 3) := by decide +kernel
theorem dX15_read_25 : decode cX15_read 25 = .ok (.aload_n 0, 1) := by decide +kernel
theorem dX15_read_26 : decode cX15_read 26 = .ok (.invokevirtual 275, 3) := by decide +kernel
theorem dX15_read_29 : decode cX15_read 29 = .ok (.ifCond .ne 18, 3) := by decide +kernel
theorem dX15_read_32 : decode cX15_read 32 = .ok (.aload_n 0, 1) := by decide +kernel
theorem dX15_read_33 : decode cX15_read 33 = .ok (.aload_n 0, 1) := by decide +kernel
theorem dX15_read_34 : decode cX15_read 34 = .ok (.getfield 20, 3) := by decide +kernel
theorem dX15_read_37 : decode cX15_read 37 = .ok (.aload_n 0, 1) := by decide +kernel
theorem dX15_read_38 : decode cX15_read 38 = .ok (.getfield 134, 3) := by decide +kernel
theorem dX15_read_41 : decode cX15_read 41 = .ok (.iaload, 1) := by decide +kernel
theorem dX15_read_42 : decode cX15_read 42 = .ok (.putfield 13, 3) := by decide +kernel
theorem dX15_read_45 : decode cX15_read 45 = .ok (.iconst 1, 1) := by decide +kernel
theorem dX15_read_46 : decode cX15_read 46 = .ok (.ireturn, 1) := by decide +kernel
theorem dX15_read_47 : decode cX15_read 47 = .ok (.aload_n 0, 1) := by decide +kernel
theorem dX15_read_48 : decode cX15_read 48 = .ok (.getfield 134, 3) := by decide +kernel
theorem dX15_read_51 : decode cX15_read 51 = .ok (.istore_n 1, 1) := by decide +kernel
theorem dX15_read_52 : decode cX15_read 52 = .ok (.aload_n 0, 1) := by decide +kernel
theorem dX15_read_53 : decode cX15_read 53 = .ok (.iconst 0, 1) := by decide +kernel
theorem dX15_read_54 : decode cX15_read 54 = .ok (.putfield 134, 3) := by decide +kernel
theorem dX15_read_57 : decode cX15_read 57 = .ok (.aload_n 0, 1) := by decide +kernel
theorem dX15_read_58 : decode cX15_read 58 = .ok (.getfield 134, 3) := by decide +kernel
theorem dX15_read_61 : decode cX15_read 61 = .ok (.iload_n 1, 1) := by decide +kernel
theorem dX15_read_62 : decode cX15_read 62 = .ok (.if_icmp .ge 47, 3) := by decide +kernel
theorem dX15_read_65 : decode cX15_read 65 = .ok (.aload_n 0, 1) := by decide +kernel
theorem dX15_read_66 : decode cX15_read 66 = .ok (.aload_n 0, 1) := by decide +kernel
theorem dX15_read_67 : decode cX15_read 67 = .ok (.getfield 134, 3) := by decide +kernel
theorem dX15_read_70 : decode cX15_read 70 = .ok (.invokevirtual 278, 3) := by decide +kernel
theorem dX15_read_73 : decode cX15_read 73 = .ok (.istore_n 2, 1) := by decide +kernel
theorem dX15_read_74 : decode cX15_read 74 = .ok (.iload_n 2, 1) := by decide +kernel
theorem dX15_read_75 : decode cX15_read 75 = .ok (.ifCond .ne 6, 3) := by decide +kernel
theorem dX15_read_78 : decode cX15_read 78 = .ok (.goto 18, 3) := by decide +kernel
theorem dX15_read_81 : decode cX15_read 81 = .ok (.aload_n 0, 1) := by decide +kernel
theorem dX15_read_82 : decode cX15_read 82 = .ok (.aload_n 0, 1) := by decide +kernel
theorem dX15_read_83 : decode cX15_read 83 = .ok (.getfield 20, 3) := by decide +kernel
theorem dX15_read_86 : decode cX15_read 86 = .ok (.aload_n 0, 1) := by decide +kernel
theorem dX15_read_87 : decode cX15_read 87 = .ok (.getfield 134, 3) := by decide +kernel
theorem dX15_read_90 : decode cX15_read 90 = .ok (.iaload, 1) := by decide +kernel
theorem dX15_read_91 : decode cX15_read 91 = .ok (.putfield 13, 3) := by decide +kernel
theorem dX15_read_94 : decode cX15_read 94 = .ok (.iload_n 2, 1) := by decide +kernel
theorem dX15_read_95 : decode cX15_read 95 = .ok (.ireturn, 1) := by decide +kernel
theorem dX15_read_96 : decode cX15_read 96 = .ok (.aload_n 0, 1) := by decide +kernel
theorem dX15_read_97 : decode cX15_read 97 = .ok (.dup, 1) := by decide +kernel
theorem dX15_read_98 : decode cX15_read 98 = .ok (.getfield 134, 3) := by decide +kernel
theorem dX15_read_101 : decode cX15_read 101 = .ok (.iconst 1, 1) := by decide +kernel
theorem dX15_read_102 : decode cX15_read 102 = .ok (.iadd, 1) := by decide +kernel
theorem dX15_read_103 : decode cX15_read 103 = .ok (.putfield 134, 3) := by decide +kernel
theorem dX15_read_106 : decode cX15_read 106 = .ok (.goto (-49), 3) := by decide +kernel
theorem dX15_read_109 : decode cX15_read 109 = .ok (.iconst 0, 1) := by decide +kernel
theorem dX15_read_110 : decode cX15_read 110 = .ok (.istore_n 2, 1) := by decide +kernel
theorem dX15_read_111 : decode cX15_read 111 = .ok (.iload_n 2, 1) := by decide +kernel
theorem dX15_read_112 : decode cX15_read 112 = .ok (.aload_n 0, 1) := by decide +kernel
theorem dX15_read_113 : decode cX15_read 113 = .ok (.getfield 39, 3) := by decide +kernel
theorem dX15_read_116 : decode cX15_read 116 = .ok (.getfield 196, 3) := by decide +kernel
theorem dX15_read_119 : decode cX15_read 119 = .ok (.if_icmp .ge 48, 3) := by decide +kernel
theorem dX15_read_122 : decode cX15_read 122 = .ok (.aload_n 0, 1) := by decide +kernel
theorem dX15_read_123 : decode cX15_read 123 = .ok (.getfield 39, 3) := by decide +kernel
theorem dX15_read_126 : decode cX15_read 126 = .ok (.getfield 143, 3) := by decide +kernel
theorem dX15_read_129 : decode cX15_read 129 = .ok (.aload_n 0, 1) := by decide +kernel
theorem dX15_read_130 : decode cX15_read 130 = .ok (.getfield 39, 3) := by decide +kernel
theorem dX15_read_133 : decode cX15_read 133 = .ok (.getfield 193, 3) := by decide +kernel
theorem dX15_read_136 : decode cX15_read 136 = .ok (.iload_n 2, 1) := by decide +kernel
theorem dX15_read_137 : decode cX15_read 137 = .ok (.iaload, 1) := by decide +kernel
theorem dX15_read_138 : decode cX15_read 138 = .ok (.aload_n 0, 1) := by decide +kernel
theorem dX15_read_139 : decode cX15_read 139 = .ok (.getfield 29, 3) := by decide +kernel
theorem dX15_read_142 : decode cX15_read 142 = .ok (.aload_n 0, 1) := by decide +kernel
theorem dX15_read_143 : decode cX15_read 143 = .ok (.getfield 39, 3) := by decide +kernel
theorem dX15_read_146 : decode cX15_read 146 = .ok (.getfield 143, 3) := by decide +kernel
theorem dX15_read_149 : decode cX15_read 149 = .ok (.aload_n 0, 1) := by decide +kernel
theorem dX15_read_150 : decode cX15_read 150 = .ok (.getfield 39, 3) := by decide +kernel
theorem dX15_read_153 : decode cX15_read 153 = .ok (.getfield 193, 3) := by decide +kernel
theorem dX15_read_156 : decode cX15_read 156 = .ok (.iload_n 2, 1) := by decide +kernel
theorem dX15_read_157 : decode cX15_read 157 = .ok (.iaload, 1) := by decide +kernel
theorem dX15_read_158 : decode cX15_read 158 = .ok (.iaload, 1) := by decide +kernel
theorem dX15_read_159 : decode cX15_read 159 = .ok (.iaload, 1) := by decide +kernel
theorem dX15_read_160 : decode cX15_read 160 = .ok (.iastore, 1) := by decide +kernel
theorem dX15_read_161 : decode cX15_read 161 = .ok (.iinc 2 1, 3) := by decide +kernel
theorem dX15_read_164 : decode cX15_read 164 = .ok (.goto (-53), 3) := by decide +kernel
theorem dX15_read_167 : decode cX15_read 167 = .ok (.iconst 0, 1) := by decide +kernel
theorem dX15_read_168 : decode cX15_read 168 = .ok (.ireturn, 1) := by decide +kernel
theorem dX15_feed_0 : decode cX15_feed 0 = .ok (.aload_n 0, 1) := by decide +kernel
theorem dX15_feed_1 : decode cX15_feed 1 = .ok (.iconst 0, 1) := by decide +kernel
theorem dX15_feed_2 : decode cX15_feed 2 = .ok (.putfield 69, 3) := by decide +kernel
theorem dX15_feed_5 : decode cX15_feed 5 = .ok (.aload_n 0, 1) := by decide +kernel
theorem dX15_feed_6 : decode cX15_feed 6 = .ok (.getfield 95, 3) := by decide +kernel
theorem dX15_feed_9 : decode cX15_feed 9 = .ok (.sipush 1980, 3) := by decide +kernel
theorem dX15_feed_12 : decode cX15_feed 12 = .ok (.if_icmp .le 9, 3) := by decide +kernel
theorem dX15_feed_15 : decode cX15_feed 15 = .ok (.aload_n 0, 1) := by decide +kernel
theorem dX15_feed_16 : decode cX15_feed 16 = .ok (.iconst 1, 1) := by decide +kernel
theorem dX15_feed_17 : decode cX15_feed 17 = .ok (.invokevirtual 281, 3) := by decide +kernel
theorem dX15_feed_20 : decode cX15_feed 20 = .ok (.ireturn, 1) := by decide +kernel
theorem dX15_feed_21 : decode cX15_feed 21 = .ok (.iconst 5, 1) := by decide +kernel
theorem dX15_feed_22 : decode cX15_feed 22 = .ok (.newarray .int, 2) := by decide +kernel
theorem dX15_feed_24 : decode cX15_feed 24 = .ok (.dup, 1) := by decide +kernel
theorem dX15_feed_25 : decode cX15_feed 25 = .ok (.iconst 0, 1) := by decide +kernel
theorem dX15_feed_26 : decode cX15_feed 26 = .ok (.iload_n 1, 1) := by decide +kernel
theorem dX15_feed_27 : decode cX15_feed 27 = .ok (.iastore, 1) := by decide +kernel
theorem dX15_feed_28 : decode cX15_feed 28 = .ok (.dup, 1) := by decide +kernel
theorem dX15_feed_29 : decode cX15_feed 29 = .ok (.iconst 1, 1) := by decide +kernel
theorem dX15_feed_30 : decode cX15_feed 30 = .ok (.iload_n 2, 1) := by decide +kernel
theorem dX15_feed_31 : decode cX15_feed 31 = .ok (.iastore, 1) := by decide +kernel
theorem dX15_feed_32 : decode cX15_feed 32 = .ok (.dup, 1) := by decide +kernel
theorem dX15_feed_33 : decode cX15_feed 33 = .ok (.iconst 2, 1) := by decide +kernel
theorem dX15_feed_34 : decode cX15_feed 34 = .ok (.iload_n 3, 1) := by decide +kernel
theorem dX15_feed_35 : decode cX15_feed 35 = .ok (.iastore, 1) := by decide +kernel
theorem dX15_feed_36 : decode cX15_feed 36 = .ok (.dup, 1) := by decide +kernel
theorem dX15_feed_37 : decode cX15_feed 37 = .ok (.iconst 3, 1) := by decide +kernel
theorem dX15_feed_38 : decode cX15_feed 38 = .ok (.iload 4, 2) := by decide +kernel
theorem dX15_feed_40 : decode cX15_feed 40 = .ok (.iastore, 1) := by decide +kernel
theorem dX15_feed_41 : decode cX15_feed 41 = .ok (.dup, 1) := by decide +kernel
theorem dX15_feed_42 : decode cX15_feed 42 = .ok (.iconst 4, 1) := by decide +kernel
theorem dX15_feed_43 : decode cX15_feed 43 = .ok (.iload 5, 2) := by decide +kernel
theorem dX15_feed_45 : decode cX15_feed 45 = .ok (.iastore, 1) := by decide +kernel
theorem dX15_feed_46 : decode cX15_feed 46 = .ok (.astore 6, 2) := by decide +kernel
theorem dX15_feed_48 : decode cX15_feed 48 = .ok (.iconst 0, 1) := by decide +kernel
theorem dX15_feed_49 : decode cX15_feed 49 = .ok (.istore 7, 2) := by decide +kernel
theorem dX15_feed_51 : decode cX15_feed 51 = .ok (.iload 7, 2) := by decide +kernel
theorem dX15_feed_53 : decode cX15_feed 53 = .ok (.bipush 20, 2) := by decide +kernel
theorem dX15_feed_55 : decode cX15_feed 55 = .ok (.if_icmp .ge 43, 3) := by decide +kernel
theorem dX15_feed_58 : decode cX15_feed 58 = .ok (.aload_n 0, 1) := by decide +kernel
theorem dX15_feed_59 : decode cX15_feed 59 = .ok (.getfield 9, 3) := by decide +kernel
theorem dX15_feed_62 : decode cX15_feed 62 = .ok (.aload_n 0, 1) := by decide +kernel
theorem dX15_feed_63 : decode cX15_feed 63 = .ok (.getfield 95, 3) := by decide +kernel
theorem dX15_feed_66 : decode cX15_feed 66 = .ok (.iload 7, 2) := by decide +kernel
theorem dX15_feed_68 : decode cX15_feed 68 = .ok (.iadd, 1) := by decide +kernel
theorem dX15_feed_69 : decode cX15_feed 69 = .ok (.aload 6, 2) := by decide +kernel
theorem dX15_feed_71 : decode cX15_feed 71 = .ok (.iload 7, 2) := by decide +kernel
theorem dX15_feed_73 : decode cX15_feed 73 = .ok (.iconst 4, 1) := by decide +kernel
theorem dX15_feed_74 : decode cX15_feed 74 = .ok (.idiv, 1) := by decide +kernel
theorem dX15_feed_75 : decode cX15_feed 75 = .ok (.iaload, 1) := by decide +kernel
theorem dX15_feed_76 : decode cX15_feed 76 = .ok (.bipush 24, 2) := by decide +kernel
theorem dX15_feed_78 : decode cX15_feed 78 = .ok (.bipush 8, 2) := by decide +kernel
theorem dX15_feed_80 : decode cX15_feed 80 = .ok (.iload 7, 2) := by decide +kernel
theorem dX15_feed_82 : decode cX15_feed 82 = .ok (.iconst 4, 1) := by decide +kernel
theorem dX15_feed_83 : decode cX15_feed 83 = .ok (.irem, 1) := by decide +kernel
theorem dX15_feed_84 : decode cX15_feed 84 = .ok (.imul, 1) := by decide +kernel
theorem dX15_feed_85 : decode cX15_feed 85 = .ok (.isub, 1) := by decide +kernel
theorem dX15_feed_86 : decode cX15_feed 86 = .ok (.ishr, 1) := by decide +kernel
theorem dX15_feed_87 : decode cX15_feed 87 = .ok (.sipush 255, 3) := by decide +kernel
theorem dX15_feed_90 : decode cX15_feed 90 = .ok (.iand, 1) := by decide +kernel
theorem dX15_feed_91 : decode cX15_feed 91 = .ok (.iastore, 1) := by decide +kernel
theorem dX15_feed_92 : decode cX15_feed 92 = .ok (.iinc 7 1, 3) := by decide +kernel
theorem dX15_feed_95 : decode cX15_feed 95 = .ok (.goto (-44), 3) := by decide +kernel
theorem dX15_feed_98 : decode cX15_feed 98 = .ok (.aload_n 0, 1) := by decide +kernel
theorem dX15_feed_99 : decode cX15_feed 99 = .ok (.dup, 1) := by decide +kernel
theorem dX15_feed_100 : decode cX15_feed 100 = .ok (.getfield 95, 3) := by decide +kernel
theorem dX15_feed_103 : decode cX15_feed 103 = .ok (.bipush 20, 2) := by decide +kernel
theorem dX15_feed_105 : decode cX15_feed 105 = .ok (.iadd, 1) := by decide +kernel
theorem dX15_feed_106 : decode cX15_feed 106 = .ok (.putfield 95, 3) := by decide +kernel
theorem dX15_feed_109 : decode cX15_feed 109 = .ok (.aload_n 0, 1) := by decide +kernel
theorem dX15_feed_110 : decode cX15_feed 110 = .ok (.getfield 95, 3) := by decide +kernel
theorem dX15_feed_113 : decode cX15_feed 113 = .ok (.ireturn, 1) := by decide +kernel
theorem dX15_trim_0 : decode cX15_trim 0 = .ok (.aload_n 0, 1) := by decide +kernel
theorem dX15_trim_1 : decode cX15_trim 1 = .ok (.iconst 0, 1) := by decide +kernel
theorem dX15_trim_2 : decode cX15_trim 2 = .ok (.putfield 69, 3) := by decide +kernel
theorem dX15_trim_5 : decode cX15_trim 5 = .ok (.iload_n 1, 1) := by decide +kernel
theorem dX15_trim_6 : decode cX15_trim 6 = .ok (.iconst 0, 1) := by decide +kernel
theorem dX15_trim_7 : decode cX15_trim 7 = .ok (.aload_n 0, 1) := by decide +kernel
theorem dX15_trim_8 : decode cX15_trim 8 = .ok (.getfield 95, 3) := by decide +kernel
theorem dX15_trim_11 : decode cX15_trim 11 = .ok (.invokestatic 75, 3) := by decide +kernel
theorem dX15_trim_14 : decode cX15_trim 14 = .ok (.ifCond .ne 9, 3) := by decide +kernel
theorem dX15_trim_17 : decode cX15_trim 17 = .ok (.aload_n 0, 1) := by decide +kernel
theorem dX15_trim_18 : decode cX15_trim 18 = .ok (.iconst 1, 1) := by decide +kernel
theorem dX15_trim_19 : decode cX15_trim 19 = .ok (.invokevirtual 281, 3) := by decide +kernel
theorem dX15_trim_22 : decode cX15_trim 22 = .ok (.ireturn, 1) := by decide +kernel
theorem dX15_trim_23 : decode cX15_trim 23 = .ok (.aload_n 0, 1) := by decide +kernel
theorem dX15_trim_24 : decode cX15_trim 24 = .ok (.iload_n 1, 1) := by decide +kernel
theorem dX15_trim_25 : decode cX15_trim 25 = .ok (.putfield 95, 3) := by decide +kernel
theorem dX15_trim_28 : decode cX15_trim 28 = .ok (.iload_n 1, 1) := by decide +kernel
theorem dX15_trim_29 : decode cX15_trim 29 = .ok (.ireturn, 1) := by decide +kernel
theorem dX15_teach_0 : decode cX15_teach 0 = .ok (.aload_n 0, 1) := by decide +kernel
theorem dX15_teach_1 : decode cX15_teach 1 = .ok (.iconst 0, 1) := by decide +kernel
theorem dX15_teach_2 : decode cX15_teach 2 = .ok (.putfield 69, 3) := by decide +kernel
theorem dX15_teach_5 : decode cX15_teach 5 = .ok (.aload_n 0, 1) := by decide +kernel
theorem dX15_teach_6 : decode cX15_teach 6 = .ok (.iconst (-1), 1) := by decide +kernel
theorem dX15_teach_7 : decode cX15_teach 7 = .ok (.putfield 13, 3) := by decide +kernel
theorem dX15_teach_10 : decode cX15_teach 10 = .ok (.aload_n 0, 1) := by decide +kernel
theorem dX15_teach_11 : decode cX15_teach 11 = .ok (.invokevirtual 284, 3) := by decide +kernel
theorem dX15_teach_14 : decode cX15_teach 14 = .ok (.istore_n 1, 1) := by decide +kernel
theorem dX15_teach_15 : decode cX15_teach 15 = .ok (.aload_n 0, 1) := by decide +kernel
theorem dX15_teach_16 : decode cX15_teach 16 = .ok (.iconst 0, 1) := by decide +kernel
theorem dX15_teach_17 : decode cX15_teach 17 = .ok (.putfield 95, 3) := by decide +kernel
theorem dX15_teach_20 : decode cX15_teach 20 = .ok (.iload_n 1, 1) := by decide +kernel
theorem dX15_teach_21 : decode cX15_teach 21 = .ok (.ifCond .le 5, 3) := by decide +kernel
theorem dX15_teach_24 : decode cX15_teach 24 = .ok (.iload_n 1, 1) := by decide +kernel
theorem dX15_teach_25 : decode cX15_teach 25 = .ok (.ireturn, 1) := by decide +kernel
theorem dX15_teach_26 : decode cX15_teach 26 = .ok (.aload_n 0, 1) := by decide +kernel
theorem dX15_teach_27 : decode cX15_teach 27 = .ok (.aload_n 0, 1) := by decide +kernel
theorem dX15_teach_28 : decode cX15_teach 28 = .ok (.getfield 39, 3) := by decide +kernel
theorem dX15_teach_31 : decode cX15_teach 31 = .ok (.putfield 35, 3) := by decide +kernel
theorem dX15_teach_34 : decode cX15_teach 34 = .ok (.aload_n 0, 1) := by decide +kernel
theorem dX15_teach_35 : decode cX15_teach 35 = .ok (.getfield 62, 3) := by decide +kernel
theorem dX15_teach_38 : decode cX15_teach 38 = .ok (.invokevirtual 287, 3) := by decide +kernel
theorem dX15_teach_41 : decode cX15_teach 41 = .ok (.iconst 0, 1) := by decide +kernel
theorem dX15_teach_42 : decode cX15_teach 42 = .ok (.ireturn, 1) := by decide +kernel
theorem dX15_errorAt_0 : decode cX15_errorAt 0 = .ok (.aload_n 0, 1) := by decide +kernel
theorem dX15_errorAt_1 : decode cX15_errorAt 1 = .ok (.aload_n 0, 1) := by decide +kernel
theorem dX15_errorAt_2 : decode cX15_errorAt 2 = .ok (.getfield 13, 3) := by decide +kernel
theorem dX15_errorAt_5 : decode cX15_errorAt 5 = .ok (.invokevirtual 290, 3) := by decide +kernel
theorem dX15_errorAt_8 : decode cX15_errorAt 8 = .ok (.ireturn, 1) := by decide +kernel
theorem dX15_hedges_0 : decode cX15_hedges 0 = .ok (.aload_n 0, 1) := by decide +kernel
theorem dX15_hedges_1 : decode cX15_hedges 1 = .ok (.aload_n 0, 1) := by decide +kernel
theorem dX15_hedges_2 : decode cX15_hedges 2 = .ok (.getfield 35, 3) := by decide +kernel
theorem dX15_hedges_5 : decode cX15_hedges 5 = .ok (.getfield 72, 3) := by decide +kernel
theorem dX15_hedges_8 : decode cX15_hedges 8 = .ok (.invokevirtual 290, 3) := by decide +kernel
theorem dX15_hedges_11 : decode cX15_hedges 11 = .ok (.ireturn, 1) := by decide +kernel
theorem dX15_roses_0 : decode cX15_roses 0 = .ok (.aload_n 0, 1) := by decide +kernel
theorem dX15_roses_1 : decode cX15_roses 1 = .ok (.aload_n 0, 1) := by decide +kernel
theorem dX15_roses_2 : decode cX15_roses 2 = .ok (.getfield 35, 3) := by decide +kernel
theorem dX15_roses_5 : decode cX15_roses 5 = .ok (.getfield 79, 3) := by decide +kernel
theorem dX15_roses_8 : decode cX15_roses 8 = .ok (.invokevirtual 290, 3) := by decide +kernel
theorem dX15_roses_11 : decode cX15_roses 11 = .ok (.ireturn, 1) := by decide +kernel
theorem dX15_day_0 : decode cX15_day 0 = .ok (.aload_n 0, 1) := by decide +kernel
theorem dX15_day_1 : decode cX15_day 1 = .ok (.aload_n 0, 1) := by decide +kernel
theorem dX15_day_2 : decode cX15_day 2 = .ok (.getfield 62, 3) := by decide +kernel
theorem dX15_day_5 : decode cX15_day 5 = .ok (.getfield 293, 3) := by decide +kernel
theorem dX15_day_8 : decode cX15_day 8 = .ok (.invokevirtual 290, 3) := by decide +kernel
theorem dX15_day_11 : decode cX15_day 11 = .ok (.ireturn, 1) := by decide +kernel
theorem dX15_ordersCarriedOut_0 : decode cX15_ordersCarriedOut 0 = .ok (.aload_n 0, 1) := by decide +kernel
theorem dX15_ordersCarriedOut_1 : decode cX15_ordersCarriedOut 1 = .ok (.aload_n 0, 1) := by decide +kernel
theorem dX15_ordersCarriedOut_2 : decode cX15_ordersCarriedOut 2 = .ok (.getfield 62, 3) := by decide +kernel
theorem dX15_ordersCarriedOut_5 : decode cX15_ordersCarriedOut 5 = .ok (.getfield 296, 3) := by decide +kernel
theorem dX15_ordersCarriedOut_8 : decode cX15_ordersCarriedOut 8 = .ok (.invokevirtual 290, 3) := by decide +kernel
theorem dX15_ordersCarriedOut_11 : decode cX15_ordersCarriedOut 11 = .ok (.ireturn, 1) := by decide +kernel
theorem dX15_whispers_0 : decode cX15_whispers 0 = .ok (.aload_n 0, 1) := by decide +kernel
theorem dX15_whispers_1 : decode cX15_whispers 1 = .ok (.aload_n 0, 1) := by decide +kernel
theorem dX15_whispers_2 : decode cX15_whispers 2 = .ok (.getfield 62, 3) := by decide +kernel
theorem dX15_whispers_5 : decode cX15_whispers 5 = .ok (.getfield 299, 3) := by decide +kernel
theorem dX15_whispers_8 : decode cX15_whispers 8 = .ok (.invokevirtual 290, 3) := by decide +kernel
theorem dX15_whispers_11 : decode cX15_whispers 11 = .ok (.ireturn, 1) := by decide +kernel
theorem dX15_cycles_0 : decode cX15_cycles 0 = .ok (.aload_n 0, 1) := by decide +kernel
theorem dX15_cycles_1 : decode cX15_cycles 1 = .ok (.aload_n 0, 1) := by decide +kernel
theorem dX15_cycles_2 : decode cX15_cycles 2 = .ok (.getfield 62, 3) := by decide +kernel
theorem dX15_cycles_5 : decode cX15_cycles 5 = .ok (.getfield 302, 3) := by decide +kernel
theorem dX15_cycles_8 : decode cX15_cycles 8 = .ok (.invokevirtual 290, 3) := by decide +kernel
theorem dX15_cycles_11 : decode cX15_cycles 11 = .ok (.ireturn, 1) := by decide +kernel
theorem dX15_departures_0 : decode cX15_departures 0 = .ok (.aload_n 0, 1) := by decide +kernel
theorem dX15_departures_1 : decode cX15_departures 1 = .ok (.aload_n 0, 1) := by decide +kernel
theorem dX15_departures_2 : decode cX15_departures 2 = .ok (.getfield 62, 3) := by decide +kernel
theorem dX15_departures_5 : decode cX15_departures 5 = .ok (.invokevirtual 305, 3) := by decide +kernel
theorem dX15_departures_8 : decode cX15_departures 8 = .ok (.invokevirtual 290, 3) := by decide +kernel
theorem dX15_departures_11 : decode cX15_departures 11 = .ok (.ireturn, 1) := by decide +kernel
theorem dX15_isKnown_0 : decode cX15_isKnown 0 = .ok (.aload_n 0, 1) := by decide +kernel
theorem dX15_isKnown_1 : decode cX15_isKnown 1 = .ok (.iload_n 1, 1) := by decide +kernel
theorem dX15_isKnown_2 : decode cX15_isKnown 2 = .ok (.ifCond .eq 7, 3) := by decide +kernel
theorem dX15_isKnown_5 : decode cX15_isKnown 5 = .ok (.iconst 0, 1) := by decide +kernel
theorem dX15_isKnown_6 : decode cX15_isKnown 6 = .ok (.goto 4, 3) := by decide +kernel
theorem dX15_isKnown_9 : decode cX15_isKnown 9 = .ok (.iconst 1, 1) := by decide +kernel
theorem dX15_isKnown_10 : decode cX15_isKnown 10 = .ok (.putfield 69, 3) := by decide +kernel
theorem dX15_isKnown_13 : decode cX15_isKnown 13 = .ok (.iload_n 1, 1) := by decide +kernel
theorem dX15_isKnown_14 : decode cX15_isKnown 14 = .ok (.ireturn, 1) := by decide +kernel
theorem dX15_hushOf_0 : decode cX15_hushOf 0 = .ok (.aload_n 0, 1) := by decide +kernel
theorem dX15_hushOf_1 : decode cX15_hushOf 1 = .ok (.aload_n 0, 1) := by decide +kernel
theorem dX15_hushOf_2 : decode cX15_hushOf 2 = .ok (.iload_n 1, 1) := by decide +kernel
theorem dX15_hushOf_3 : decode cX15_hushOf 3 = .ok (.invokevirtual 308, 3) := by decide +kernel
theorem dX15_hushOf_6 : decode cX15_hushOf 6 = .ok (.invokevirtual 311, 3) := by decide +kernel
theorem dX15_hushOf_9 : decode cX15_hushOf 9 = .ok (.ifCond .eq 15, 3) := by decide +kernel
theorem dX15_hushOf_12 : decode cX15_hushOf 12 = .ok (.aload_n 0, 1) := by decide +kernel
theorem dX15_hushOf_13 : decode cX15_hushOf 13 = .ok (.getfield 35, 3) := by decide +kernel
theorem dX15_hushOf_16 : decode cX15_hushOf 16 = .ok (.getfield 234, 3) := by decide +kernel
theorem dX15_hushOf_19 : decode cX15_hushOf 19 = .ok (.iload_n 1, 1) := by decide +kernel
theorem dX15_hushOf_20 : decode cX15_hushOf 20 = .ok (.iaload, 1) := by decide +kernel
theorem dX15_hushOf_21 : decode cX15_hushOf 21 = .ok (.goto 4, 3) := by decide +kernel
theorem dX15_hushOf_24 : decode cX15_hushOf 24 = .ok (.iconst 0, 1) := by decide +kernel
theorem dX15_hushOf_25 : decode cX15_hushOf 25 = .ok (.ireturn, 1) := by decide +kernel
theorem dX15_heardBy_0 : decode cX15_heardBy 0 = .ok (.aload_n 0, 1) := by decide +kernel
theorem dX15_heardBy_1 : decode cX15_heardBy 1 = .ok (.aload_n 0, 1) := by decide +kernel
theorem dX15_heardBy_2 : decode cX15_heardBy 2 = .ok (.iload_n 1, 1) := by decide +kernel
theorem dX15_heardBy_3 : decode cX15_heardBy 3 = .ok (.invokevirtual 308, 3) := by decide +kernel
theorem dX15_heardBy_6 : decode cX15_heardBy 6 = .ok (.invokevirtual 311, 3) := by decide +kernel
theorem dX15_heardBy_9 : decode cX15_heardBy 9 = .ok (.ifCond .eq 15, 3) := by decide +kernel
theorem dX15_heardBy_12 : decode cX15_heardBy 12 = .ok (.aload_n 0, 1) := by decide +kernel
theorem dX15_heardBy_13 : decode cX15_heardBy 13 = .ok (.getfield 62, 3) := by decide +kernel
theorem dX15_heardBy_16 : decode cX15_heardBy 16 = .ok (.getfield 315, 3) := by decide +kernel
theorem dX15_heardBy_19 : decode cX15_heardBy 19 = .ok (.iload_n 1, 1) := by decide +kernel
theorem dX15_heardBy_20 : decode cX15_heardBy 20 = .ok (.iaload, 1) := by decide +kernel
theorem dX15_heardBy_21 : decode cX15_heardBy 21 = .ok (.goto 4, 3) := by decide +kernel
theorem dX15_heardBy_24 : decode cX15_heardBy 24 = .ok (.iconst 0, 1) := by decide +kernel
theorem dX15_heardBy_25 : decode cX15_heardBy 25 = .ok (.ireturn, 1) := by decide +kernel
theorem dX15_latestOf_0 : decode cX15_latestOf 0 = .ok (.aload_n 0, 1) := by decide +kernel
theorem dX15_latestOf_1 : decode cX15_latestOf 1 = .ok (.aload_n 0, 1) := by decide +kernel
theorem dX15_latestOf_2 : decode cX15_latestOf 2 = .ok (.iload_n 1, 1) := by decide +kernel
theorem dX15_latestOf_3 : decode cX15_latestOf 3 = .ok (.invokevirtual 308, 3) := by decide +kernel
theorem dX15_latestOf_6 : decode cX15_latestOf 6 = .ok (.invokevirtual 311, 3) := by decide +kernel
theorem dX15_latestOf_9 : decode cX15_latestOf 9 = .ok (.ifCond .eq 15, 3) := by decide +kernel
theorem dX15_latestOf_12 : decode cX15_latestOf 12 = .ok (.aload_n 0, 1) := by decide +kernel
theorem dX15_latestOf_13 : decode cX15_latestOf 13 = .ok (.getfield 62, 3) := by decide +kernel
theorem dX15_latestOf_16 : decode cX15_latestOf 16 = .ok (.getfield 318, 3) := by decide +kernel
theorem dX15_latestOf_19 : decode cX15_latestOf 19 = .ok (.iload_n 1, 1) := by decide +kernel
theorem dX15_latestOf_20 : decode cX15_latestOf 20 = .ok (.iaload, 1) := by decide +kernel
theorem dX15_latestOf_21 : decode cX15_latestOf 21 = .ok (.goto 4, 3) := by decide +kernel
theorem dX15_latestOf_24 : decode cX15_latestOf 24 = .ok (.iconst 0, 1) := by decide +kernel
theorem dX15_latestOf_25 : decode cX15_latestOf 25 = .ok (.ireturn, 1) := by decide +kernel
theorem dX15_listenersOf_0 : decode cX15_listenersOf 0 = .ok (.aload_n 0, 1) := by decide +kernel
theorem dX15_listenersOf_1 : decode cX15_listenersOf 1 = .ok (.aload_n 0, 1) := by decide +kernel
theorem dX15_listenersOf_2 : decode cX15_listenersOf 2 = .ok (.iload_n 1, 1) := by decide +kernel
theorem dX15_listenersOf_3 : decode cX15_listenersOf 3 = .ok (.invokevirtual 308, 3) := by decide +kernel
theorem dX15_listenersOf_6 : decode cX15_listenersOf 6 = .ok (.invokevirtual 311, 3) := by decide +kernel
theorem dX15_listenersOf_9 : decode cX15_listenersOf 9 = .ok (.ifCond .eq 15, 3) := by decide +kernel
theorem dX15_listenersOf_12 : decode cX15_listenersOf 12 = .ok (.aload_n 0, 1) := by decide +kernel
theorem dX15_listenersOf_13 : decode cX15_listenersOf 13 = .ok (.getfield 62, 3) := by decide +kernel
theorem dX15_listenersOf_16 : decode cX15_listenersOf 16 = .ok (.getfield 321, 3) := by decide +kernel
theorem dX15_listenersOf_19 : decode cX15_listenersOf 19 = .ok (.iload_n 1, 1) := by decide +kernel
theorem dX15_listenersOf_20 : decode cX15_listenersOf 20 = .ok (.iaload, 1) := by decide +kernel
theorem dX15_listenersOf_21 : decode cX15_listenersOf 21 = .ok (.goto 4, 3) := by decide +kernel
theorem dX15_listenersOf_24 : decode cX15_listenersOf 24 = .ok (.iconst 0, 1) := by decide +kernel
theorem dX15_listenersOf_25 : decode cX15_listenersOf 25 = .ok (.ireturn, 1) := by decide +kernel
theorem dX15_hedgeInRow_0 : decode cX15_hedgeInRow 0 = .ok (.aload_n 0, 1) := by decide +kernel
theorem dX15_hedgeInRow_1 : decode cX15_hedgeInRow 1 = .ok (.aload_n 0, 1) := by decide +kernel
theorem dX15_hedgeInRow_2 : decode cX15_hedgeInRow 2 = .ok (.iload_n 1, 1) := by decide +kernel
theorem dX15_hedgeInRow_3 : decode cX15_hedgeInRow 3 = .ok (.invokevirtual 308, 3) := by decide +kernel
theorem dX15_hedgeInRow_6 : decode cX15_hedgeInRow 6 = .ok (.ifCond .eq 15, 3) := by decide +kernel
theorem dX15_hedgeInRow_9 : decode cX15_hedgeInRow 9 = .ok (.aload_n 0, 1) := by decide +kernel
theorem dX15_hedgeInRow_10 : decode cX15_hedgeInRow 10 = .ok (.iload_n 2, 1) := by decide +kernel
theorem dX15_hedgeInRow_11 : decode cX15_hedgeInRow 11 = .ok (.invokevirtual 308, 3) := by decide +kernel
theorem dX15_hedgeInRow_14 : decode cX15_hedgeInRow 14 = .ok (.ifCond .eq 7, 3) := by decide +kernel
theorem dX15_hedgeInRow_17 : decode cX15_hedgeInRow 17 = .ok (.iconst 1, 1) := by decide +kernel
theorem dX15_hedgeInRow_18 : decode cX15_hedgeInRow 18 = .ok (.goto 4, 3) := by decide +kernel
theorem dX15_hedgeInRow_21 : decode cX15_hedgeInRow 21 = .ok (.iconst 0, 1) := by decide +kernel
theorem dX15_hedgeInRow_22 : decode cX15_hedgeInRow 22 = .ok (.invokevirtual 311, 3) := by decide +kernel
theorem dX15_hedgeInRow_25 : decode cX15_hedgeInRow 25 = .ok (.ifCond .eq 15, 3) := by decide +kernel
theorem dX15_hedgeInRow_28 : decode cX15_hedgeInRow 28 = .ok (.aload_n 0, 1) := by decide +kernel
theorem dX15_hedgeInRow_29 : decode cX15_hedgeInRow 29 = .ok (.getfield 62, 3) := by decide +kernel
theorem dX15_hedgeInRow_32 : decode cX15_hedgeInRow 32 = .ok (.iload_n 1, 1) := by decide +kernel
theorem dX15_hedgeInRow_33 : decode cX15_hedgeInRow 33 = .ok (.iload_n 2, 1) := by decide +kernel
theorem dX15_hedgeInRow_34 : decode cX15_hedgeInRow 34 = .ok (.invokevirtual 324, 3) := by decide +kernel
theorem dX15_hedgeInRow_37 : decode cX15_hedgeInRow 37 = .ok (.goto 4, 3) := by decide +kernel
theorem dX15_hedgeInRow_40 : decode cX15_hedgeInRow 40 = .ok (.iconst 0, 1) := by decide +kernel
theorem dX15_hedgeInRow_41 : decode cX15_hedgeInRow 41 = .ok (.ireturn, 1) := by decide +kernel
theorem dX15_roseInRow_0 : decode cX15_roseInRow 0 = .ok (.aload_n 0, 1) := by decide +kernel
theorem dX15_roseInRow_1 : decode cX15_roseInRow 1 = .ok (.aload_n 0, 1) := by decide +kernel
theorem dX15_roseInRow_2 : decode cX15_roseInRow 2 = .ok (.iload_n 1, 1) := by decide +kernel
theorem dX15_roseInRow_3 : decode cX15_roseInRow 3 = .ok (.invokevirtual 327, 3) := by decide +kernel
theorem dX15_roseInRow_6 : decode cX15_roseInRow 6 = .ok (.ifCond .eq 15, 3) := by decide +kernel
theorem dX15_roseInRow_9 : decode cX15_roseInRow 9 = .ok (.aload_n 0, 1) := by decide +kernel
theorem dX15_roseInRow_10 : decode cX15_roseInRow 10 = .ok (.iload_n 2, 1) := by decide +kernel
theorem dX15_roseInRow_11 : decode cX15_roseInRow 11 = .ok (.invokevirtual 308, 3) := by decide +kernel
theorem dX15_roseInRow_14 : decode cX15_roseInRow 14 = .ok (.ifCond .eq 7, 3) := by decide +kernel
theorem dX15_roseInRow_17 : decode cX15_roseInRow 17 = .ok (.iconst 1, 1) := by decide +kernel
theorem dX15_roseInRow_18 : decode cX15_roseInRow 18 = .ok (.goto 4, 3) := by decide +kernel
theorem dX15_roseInRow_21 : decode cX15_roseInRow 21 = .ok (.iconst 0, 1) := by decide +kernel
theorem dX15_roseInRow_22 : decode cX15_roseInRow 22 = .ok (.invokevirtual 311, 3) := by decide +kernel
theorem dX15_roseInRow_25 : decode cX15_roseInRow 25 = .ok (.ifCond .eq 18, 3) := by decide +kernel
theorem dX15_roseInRow_28 : decode cX15_roseInRow 28 = .ok (.aload_n 0, 1) := by decide +kernel
theorem dX15_roseInRow_29 : decode cX15_roseInRow 29 = .ok (.getfield 62, 3) := by decide +kernel
theorem dX15_roseInRow_32 : decode cX15_roseInRow 32 = .ok (.bipush 8, 2) := by decide +kernel
theorem dX15_roseInRow_34 : decode cX15_roseInRow 34 = .ok (.iload_n 1, 1) := by decide +kernel
theorem dX15_roseInRow_35 : decode cX15_roseInRow 35 = .ok (.iadd, 1) := by decide +kernel
theorem dX15_roseInRow_36 : decode cX15_roseInRow 36 = .ok (.iload_n 2, 1) := by decide +kernel
theorem dX15_roseInRow_37 : decode cX15_roseInRow 37 = .ok (.invokevirtual 324, 3) := by decide +kernel
theorem dX15_roseInRow_40 : decode cX15_roseInRow 40 = .ok (.goto 4, 3) := by decide +kernel
theorem dX15_roseInRow_43 : decode cX15_roseInRow 43 = .ok (.iconst 0, 1) := by decide +kernel
theorem dX15_roseInRow_44 : decode cX15_roseInRow 44 = .ok (.ireturn, 1) := by decide +kernel
theorem dX15_patienceOf_0 : decode cX15_patienceOf 0 = .ok (.aload_n 0, 1) := by decide +kernel
theorem dX15_patienceOf_1 : decode cX15_patienceOf 1 = .ok (.aload_n 0, 1) := by decide +kernel
theorem dX15_patienceOf_2 : decode cX15_patienceOf 2 = .ok (.iload_n 1, 1) := by decide +kernel
theorem dX15_patienceOf_3 : decode cX15_patienceOf 3 = .ok (.invokevirtual 327, 3) := by decide +kernel
theorem dX15_patienceOf_6 : decode cX15_patienceOf 6 = .ok (.invokevirtual 311, 3) := by decide +kernel
theorem dX15_patienceOf_9 : decode cX15_patienceOf 9 = .ok (.ifCond .eq 15, 3) := by decide +kernel
theorem dX15_patienceOf_12 : decode cX15_patienceOf 12 = .ok (.aload_n 0, 1) := by decide +kernel
theorem dX15_patienceOf_13 : decode cX15_patienceOf 13 = .ok (.getfield 35, 3) := by decide +kernel
theorem dX15_patienceOf_16 : decode cX15_patienceOf 16 = .ok (.getfield 237, 3) := by decide +kernel
theorem dX15_patienceOf_19 : decode cX15_patienceOf 19 = .ok (.iload_n 1, 1) := by decide +kernel
theorem dX15_patienceOf_20 : decode cX15_patienceOf 20 = .ok (.iaload, 1) := by decide +kernel
theorem dX15_patienceOf_21 : decode cX15_patienceOf 21 = .ok (.goto 4, 3) := by decide +kernel
theorem dX15_patienceOf_24 : decode cX15_patienceOf 24 = .ok (.iconst 0, 1) := by decide +kernel
theorem dX15_patienceOf_25 : decode cX15_patienceOf 25 = .ok (.ireturn, 1) := by decide +kernel
theorem dX15_petalsOf_0 : decode cX15_petalsOf 0 = .ok (.aload_n 0, 1) := by decide +kernel
theorem dX15_petalsOf_1 : decode cX15_petalsOf 1 = .ok (.aload_n 0, 1) := by decide +kernel
theorem dX15_petalsOf_2 : decode cX15_petalsOf 2 = .ok (.iload_n 1, 1) := by decide +kernel
theorem dX15_petalsOf_3 : decode cX15_petalsOf 3 = .ok (.invokevirtual 327, 3) := by decide +kernel
theorem dX15_petalsOf_6 : decode cX15_petalsOf 6 = .ok (.invokevirtual 311, 3) := by decide +kernel
theorem dX15_petalsOf_9 : decode cX15_petalsOf 9 = .ok (.ifCond .eq 15, 3) := by decide +kernel
theorem dX15_petalsOf_12 : decode cX15_petalsOf 12 = .ok (.aload_n 0, 1) := by decide +kernel
theorem dX15_petalsOf_13 : decode cX15_petalsOf 13 = .ok (.getfield 62, 3) := by decide +kernel
theorem dX15_petalsOf_16 : decode cX15_petalsOf 16 = .ok (.getfield 330, 3) := by decide +kernel
theorem dX15_petalsOf_19 : decode cX15_petalsOf 19 = .ok (.iload_n 1, 1) := by decide +kernel
theorem dX15_petalsOf_20 : decode cX15_petalsOf 20 = .ok (.iaload, 1) := by decide +kernel
theorem dX15_petalsOf_21 : decode cX15_petalsOf 21 = .ok (.goto 4, 3) := by decide +kernel
theorem dX15_petalsOf_24 : decode cX15_petalsOf 24 = .ok (.iconst 0, 1) := by decide +kernel
theorem dX15_petalsOf_25 : decode cX15_petalsOf 25 = .ok (.ireturn, 1) := by decide +kernel
theorem dX15_countOf_0 : decode cX15_countOf 0 = .ok (.aload_n 0, 1) := by decide +kernel
theorem dX15_countOf_1 : decode cX15_countOf 1 = .ok (.aload_n 0, 1) := by decide +kernel
theorem dX15_countOf_2 : decode cX15_countOf 2 = .ok (.iload_n 1, 1) := by decide +kernel
theorem dX15_countOf_3 : decode cX15_countOf 3 = .ok (.invokevirtual 327, 3) := by decide +kernel
theorem dX15_countOf_6 : decode cX15_countOf 6 = .ok (.invokevirtual 311, 3) := by decide +kernel
theorem dX15_countOf_9 : decode cX15_countOf 9 = .ok (.ifCond .eq 15, 3) := by decide +kernel
theorem dX15_countOf_12 : decode cX15_countOf 12 = .ok (.aload_n 0, 1) := by decide +kernel
theorem dX15_countOf_13 : decode cX15_countOf 13 = .ok (.getfield 62, 3) := by decide +kernel
theorem dX15_countOf_16 : decode cX15_countOf 16 = .ok (.getfield 333, 3) := by decide +kernel
theorem dX15_countOf_19 : decode cX15_countOf 19 = .ok (.iload_n 1, 1) := by decide +kernel
theorem dX15_countOf_20 : decode cX15_countOf 20 = .ok (.iaload, 1) := by decide +kernel
theorem dX15_countOf_21 : decode cX15_countOf 21 = .ok (.goto 4, 3) := by decide +kernel
theorem dX15_countOf_24 : decode cX15_countOf 24 = .ok (.iconst 0, 1) := by decide +kernel
theorem dX15_countOf_25 : decode cX15_countOf 25 = .ok (.ireturn, 1) := by decide +kernel
theorem dX15_hedgesOf_0 : decode cX15_hedgesOf 0 = .ok (.aload_n 0, 1) := by decide +kernel
theorem dX15_hedgesOf_1 : decode cX15_hedgesOf 1 = .ok (.aload_n 0, 1) := by decide +kernel
theorem dX15_hedgesOf_2 : decode cX15_hedgesOf 2 = .ok (.iload_n 1, 1) := by decide +kernel
theorem dX15_hedgesOf_3 : decode cX15_hedgesOf 3 = .ok (.invokevirtual 327, 3) := by decide +kernel
theorem dX15_hedgesOf_6 : decode cX15_hedgesOf 6 = .ok (.invokevirtual 311, 3) := by decide +kernel
theorem dX15_hedgesOf_9 : decode cX15_hedgesOf 9 = .ok (.ifCond .eq 17, 3) := by decide +kernel
theorem dX15_hedgesOf_12 : decode cX15_hedgesOf 12 = .ok (.aload_n 0, 1) := by decide +kernel
theorem dX15_hedgesOf_13 : decode cX15_hedgesOf 13 = .ok (.getfield 62, 3) := by decide +kernel
theorem dX15_hedgesOf_16 : decode cX15_hedgesOf 16 = .ok (.bipush 8, 2) := by decide +kernel
theorem dX15_hedgesOf_18 : decode cX15_hedgesOf 18 = .ok (.iload_n 1, 1) := by decide +kernel
theorem dX15_hedgesOf_19 : decode cX15_hedgesOf 19 = .ok (.iadd, 1) := by decide +kernel
theorem dX15_hedgesOf_20 : decode cX15_hedgesOf 20 = .ok (.invokevirtual 336, 3) := by decide +kernel
theorem dX15_hedgesOf_23 : decode cX15_hedgesOf 23 = .ok (.goto 4, 3) := by decide +kernel
theorem dX15_hedgesOf_26 : decode cX15_hedgesOf 26 = .ok (.iconst 0, 1) := by decide +kernel
theorem dX15_hedgesOf_27 : decode cX15_hedgesOf 27 = .ok (.ireturn, 1) := by decide +kernel
theorem dX15_fullest_0 : decode cX15_fullest 0 = .ok (.aload_n 0, 1) := by decide +kernel
theorem dX15_fullest_1 : decode cX15_fullest 1 = .ok (.aload_n 0, 1) := by decide +kernel
theorem dX15_fullest_2 : decode cX15_fullest 2 = .ok (.getfield 62, 3) := by decide +kernel
theorem dX15_fullest_5 : decode cX15_fullest 5 = .ok (.invokevirtual 339, 3) := by decide +kernel
theorem dX15_fullest_8 : decode cX15_fullest 8 = .ok (.invokevirtual 290, 3) := by decide +kernel
theorem dX15_fullest_11 : decode cX15_fullest 11 = .ok (.ireturn, 1) := by decide +kernel
theorem dX15_listens_0 : decode cX15_listens 0 = .ok (.aload_n 0, 1) := by decide +kernel
theorem dX15_listens_1 : decode cX15_listens 1 = .ok (.getfield 62, 3) := by decide +kernel
theorem dX15_listens_4 : decode cX15_listens 4 = .ok (.iload_n 1, 1) := by decide +kernel
theorem dX15_listens_5 : decode cX15_listens 5 = .ok (.iload_n 2, 1) := by decide +kernel
theorem dX15_listens_6 : decode cX15_listens 6 = .ok (.invokevirtual 342, 3) := by decide +kernel
theorem dX15_listens_9 : decode cX15_listens 9 = .ok (.ifCond .eq 15, 3) := by decide +kernel
theorem dX15_listens_12 : decode cX15_listens 12 = .ok (.aload_n 0, 1) := by decide +kernel
theorem dX15_listens_13 : decode cX15_listens 13 = .ok (.getfield 62, 3) := by decide +kernel
theorem dX15_listens_16 : decode cX15_listens 16 = .ok (.iload_n 1, 1) := by decide +kernel
theorem dX15_listens_17 : decode cX15_listens 17 = .ok (.iload_n 2, 1) := by decide +kernel
theorem dX15_listens_18 : decode cX15_listens 18 = .ok (.invokevirtual 345, 3) := by decide +kernel
theorem dX15_listens_21 : decode cX15_listens 21 = .ok (.goto 8, 3) := by decide +kernel
theorem dX15_listens_24 : decode cX15_listens 24 = .ok (.aload_n 0, 1) := by decide +kernel
theorem dX15_listens_25 : decode cX15_listens 25 = .ok (.iconst 2, 1) := by decide +kernel
theorem dX15_listens_26 : decode cX15_listens 26 = .ok (.invokevirtual 281, 3) := by decide +kernel
theorem dX15_listens_29 : decode cX15_listens 29 = .ok (.ireturn, 1) := by decide +kernel
theorem dX15_leaves_0 : decode cX15_leaves 0 = .ok (.aload_n 0, 1) := by decide +kernel
theorem dX15_leaves_1 : decode cX15_leaves 1 = .ok (.getfield 62, 3) := by decide +kernel
theorem dX15_leaves_4 : decode cX15_leaves 4 = .ok (.iload_n 1, 1) := by decide +kernel
theorem dX15_leaves_5 : decode cX15_leaves 5 = .ok (.iload_n 2, 1) := by decide +kernel
theorem dX15_leaves_6 : decode cX15_leaves 6 = .ok (.invokevirtual 324, 3) := by decide +kernel
theorem dX15_leaves_9 : decode cX15_leaves 9 = .ok (.iconst (-1), 1) := by decide +kernel
theorem dX15_leaves_10 : decode cX15_leaves 10 = .ok (.if_icmp .ne 11, 3) := by decide +kernel
theorem dX15_leaves_13 : decode cX15_leaves 13 = .ok (.aload_n 0, 1) := by decide +kernel
theorem dX15_leaves_14 : decode cX15_leaves 14 = .ok (.iconst 2, 1) := by decide +kernel
theorem dX15_leaves_15 : decode cX15_leaves 15 = .ok (.invokevirtual 281, 3) := by decide +kernel
theorem dX15_leaves_18 : decode cX15_leaves 18 = .ok (.goto 12, 3) := by decide +kernel
theorem dX15_leaves_21 : decode cX15_leaves 21 = .ok (.aload_n 0, 1) := by decide +kernel
theorem dX15_leaves_22 : decode cX15_leaves 22 = .ok (.getfield 62, 3) := by decide +kernel
theorem dX15_leaves_25 : decode cX15_leaves 25 = .ok (.iload_n 1, 1) := by decide +kernel
theorem dX15_leaves_26 : decode cX15_leaves 26 = .ok (.iload_n 2, 1) := by decide +kernel
theorem dX15_leaves_27 : decode cX15_leaves 27 = .ok (.invokevirtual 348, 3) := by decide +kernel
theorem dX15_leaves_30 : decode cX15_leaves 30 = .ok (.ireturn, 1) := by decide +kernel
theorem dX15_hedgeListens_0 : decode cX15_hedgeListens 0 = .ok (.aload_n 0, 1) := by decide +kernel
theorem dX15_hedgeListens_1 : decode cX15_hedgeListens 1 = .ok (.aload_n 0, 1) := by decide +kernel
theorem dX15_hedgeListens_2 : decode cX15_hedgeListens 2 = .ok (.iload_n 1, 1) := by decide +kernel
theorem dX15_hedgeListens_3 : decode cX15_hedgeListens 3 = .ok (.invokevirtual 308, 3) := by decide +kernel
theorem dX15_hedgeListens_6 : decode cX15_hedgeListens 6 = .ok (.ifCond .eq 15, 3) := by decide +kernel
theorem dX15_hedgeListens_9 : decode cX15_hedgeListens 9 = .ok (.aload_n 0, 1) := by decide +kernel
theorem dX15_hedgeListens_10 : decode cX15_hedgeListens 10 = .ok (.iload_n 2, 1) := by decide +kernel
theorem dX15_hedgeListens_11 : decode cX15_hedgeListens 11 = .ok (.invokevirtual 308, 3) := by decide +kernel
theorem dX15_hedgeListens_14 : decode cX15_hedgeListens 14 = .ok (.ifCond .eq 7, 3) := by decide +kernel
theorem dX15_hedgeListens_17 : decode cX15_hedgeListens 17 = .ok (.iconst 1, 1) := by decide +kernel
theorem dX15_hedgeListens_18 : decode cX15_hedgeListens 18 = .ok (.goto 4, 3) := by decide +kernel
theorem dX15_hedgeListens_21 : decode cX15_hedgeListens 21 = .ok (.iconst 0, 1) := by decide +kernel
theorem dX15_hedgeListens_22 : decode cX15_hedgeListens 22 = .ok (.invokevirtual 311, 3) := by decide +kernel
theorem dX15_hedgeListens_25 : decode cX15_hedgeListens 25 = .ok (.ifCond .eq 12, 3) := by decide +kernel
theorem dX15_hedgeListens_28 : decode cX15_hedgeListens 28 = .ok (.aload_n 0, 1) := by decide +kernel
theorem dX15_hedgeListens_29 : decode cX15_hedgeListens 29 = .ok (.iload_n 1, 1) := by decide +kernel
theorem dX15_hedgeListens_30 : decode cX15_hedgeListens 30 = .ok (.iload_n 2, 1) := by decide +kernel
theorem dX15_hedgeListens_31 : decode cX15_hedgeListens 31 = .ok (.invokevirtual 351, 3) := by decide +kernel
theorem dX15_hedgeListens_34 : decode cX15_hedgeListens 34 = .ok (.goto 4, 3) := by decide +kernel
theorem dX15_hedgeListens_37 : decode cX15_hedgeListens 37 = .ok (.iconst 0, 1) := by decide +kernel
theorem dX15_hedgeListens_38 : decode cX15_hedgeListens 38 = .ok (.ireturn, 1) := by decide +kernel
theorem dX15_roseListens_0 : decode cX15_roseListens 0 = .ok (.aload_n 0, 1) := by decide +kernel
theorem dX15_roseListens_1 : decode cX15_roseListens 1 = .ok (.aload_n 0, 1) := by decide +kernel
theorem dX15_roseListens_2 : decode cX15_roseListens 2 = .ok (.iload_n 1, 1) := by decide +kernel
theorem dX15_roseListens_3 : decode cX15_roseListens 3 = .ok (.invokevirtual 327, 3) := by decide +kernel
theorem dX15_roseListens_6 : decode cX15_roseListens 6 = .ok (.ifCond .eq 15, 3) := by decide +kernel
theorem dX15_roseListens_9 : decode cX15_roseListens 9 = .ok (.aload_n 0, 1) := by decide +kernel
theorem dX15_roseListens_10 : decode cX15_roseListens 10 = .ok (.iload_n 2, 1) := by decide +kernel
theorem dX15_roseListens_11 : decode cX15_roseListens 11 = .ok (.invokevirtual 308, 3) := by decide +kernel
theorem dX15_roseListens_14 : decode cX15_roseListens 14 = .ok (.ifCond .eq 7, 3) := by decide +kernel
theorem dX15_roseListens_17 : decode cX15_roseListens 17 = .ok (.iconst 1, 1) := by decide +kernel
theorem dX15_roseListens_18 : decode cX15_roseListens 18 = .ok (.goto 4, 3) := by decide +kernel
theorem dX15_roseListens_21 : decode cX15_roseListens 21 = .ok (.iconst 0, 1) := by decide +kernel
theorem dX15_roseListens_22 : decode cX15_roseListens 22 = .ok (.invokevirtual 311, 3) := by decide +kernel
theorem dX15_roseListens_25 : decode cX15_roseListens 25 = .ok (.ifCond .eq 15, 3) := by decide +kernel
theorem dX15_roseListens_28 : decode cX15_roseListens 28 = .ok (.aload_n 0, 1) := by decide +kernel
theorem dX15_roseListens_29 : decode cX15_roseListens 29 = .ok (.bipush 8, 2) := by decide +kernel
theorem dX15_roseListens_31 : decode cX15_roseListens 31 = .ok (.iload_n 1, 1) := by decide +kernel
theorem dX15_roseListens_32 : decode cX15_roseListens 32 = .ok (.iadd, 1) := by decide +kernel
theorem dX15_roseListens_33 : decode cX15_roseListens 33 = .ok (.iload_n 2, 1) := by decide +kernel
theorem dX15_roseListens_34 : decode cX15_roseListens 34 = .ok (.invokevirtual 351, 3) := by decide +kernel
theorem dX15_roseListens_37 : decode cX15_roseListens 37 = .ok (.goto 4, 3) := by decide +kernel
theorem dX15_roseListens_40 : decode cX15_roseListens 40 = .ok (.iconst 0, 1) := by decide +kernel
theorem dX15_roseListens_41 : decode cX15_roseListens 41 = .ok (.ireturn, 1) := by decide +kernel
theorem dX15_hedgeLeaves_0 : decode cX15_hedgeLeaves 0 = .ok (.aload_n 0, 1) := by decide +kernel
theorem dX15_hedgeLeaves_1 : decode cX15_hedgeLeaves 1 = .ok (.aload_n 0, 1) := by decide +kernel
theorem dX15_hedgeLeaves_2 : decode cX15_hedgeLeaves 2 = .ok (.iload_n 1, 1) := by decide +kernel
theorem dX15_hedgeLeaves_3 : decode cX15_hedgeLeaves 3 = .ok (.invokevirtual 308, 3) := by decide +kernel
theorem dX15_hedgeLeaves_6 : decode cX15_hedgeLeaves 6 = .ok (.ifCond .eq 15, 3) := by decide +kernel
theorem dX15_hedgeLeaves_9 : decode cX15_hedgeLeaves 9 = .ok (.aload_n 0, 1) := by decide +kernel
theorem dX15_hedgeLeaves_10 : decode cX15_hedgeLeaves 10 = .ok (.iload_n 2, 1) := by decide +kernel
theorem dX15_hedgeLeaves_11 : decode cX15_hedgeLeaves 11 = .ok (.invokevirtual 308, 3) := by decide +kernel
theorem dX15_hedgeLeaves_14 : decode cX15_hedgeLeaves 14 = .ok (.ifCond .eq 7, 3) := by decide +kernel
theorem dX15_hedgeLeaves_17 : decode cX15_hedgeLeaves 17 = .ok (.iconst 1, 1) := by decide +kernel
theorem dX15_hedgeLeaves_18 : decode cX15_hedgeLeaves 18 = .ok (.goto 4, 3) := by decide +kernel
theorem dX15_hedgeLeaves_21 : decode cX15_hedgeLeaves 21 = .ok (.iconst 0, 1) := by decide +kernel
theorem dX15_hedgeLeaves_22 : decode cX15_hedgeLeaves 22 = .ok (.invokevirtual 311, 3) := by decide +kernel
theorem dX15_hedgeLeaves_25 : decode cX15_hedgeLeaves 25 = .ok (.ifCond .eq 12, 3) := by decide +kernel
theorem dX15_hedgeLeaves_28 : decode cX15_hedgeLeaves 28 = .ok (.aload_n 0, 1) := by decide +kernel
theorem dX15_hedgeLeaves_29 : decode cX15_hedgeLeaves 29 = .ok (.iload_n 1, 1) := by decide +kernel
theorem dX15_hedgeLeaves_30 : decode cX15_hedgeLeaves 30 = .ok (.iload_n 2, 1) := by decide +kernel
theorem dX15_hedgeLeaves_31 : decode cX15_hedgeLeaves 31 = .ok (.invokevirtual 352, 3) := by decide +kernel
theorem dX15_hedgeLeaves_34 : decode cX15_hedgeLeaves 34 = .ok (.goto 4, 3) := by decide +kernel
theorem dX15_hedgeLeaves_37 : decode cX15_hedgeLeaves 37 = .ok (.iconst 0, 1) := by decide +kernel
theorem dX15_hedgeLeaves_38 : decode cX15_hedgeLeaves 38 = .ok (.ireturn, 1) := by decide +kernel
theorem dX15_roseLeaves_0 : decode cX15_roseLeaves 0 = .ok (.aload_n 0, 1) := by decide +kernel
theorem dX15_roseLeaves_1 : decode cX15_roseLeaves 1 = .ok (.aload_n 0, 1) := by decide +kernel
theorem dX15_roseLeaves_2 : decode cX15_roseLeaves 2 = .ok (.iload_n 1, 1) := by decide +kernel
theorem dX15_roseLeaves_3 : decode cX15_roseLeaves 3 = .ok (.invokevirtual 327, 3) := by decide +kernel
theorem dX15_roseLeaves_6 : decode cX15_roseLeaves 6 = .ok (.ifCond .eq 15, 3) := by decide +kernel
theorem dX15_roseLeaves_9 : decode cX15_roseLeaves 9 = .ok (.aload_n 0, 1) := by decide +kernel
theorem dX15_roseLeaves_10 : decode cX15_roseLeaves 10 = .ok (.iload_n 2, 1) := by decide +kernel
theorem dX15_roseLeaves_11 : decode cX15_roseLeaves 11 = .ok (.invokevirtual 308, 3) := by decide +kernel
theorem dX15_roseLeaves_14 : decode cX15_roseLeaves 14 = .ok (.ifCond .eq 7, 3) := by decide +kernel
theorem dX15_roseLeaves_17 : decode cX15_roseLeaves 17 = .ok (.iconst 1, 1) := by decide +kernel
theorem dX15_roseLeaves_18 : decode cX15_roseLeaves 18 = .ok (.goto 4, 3) := by decide +kernel
theorem dX15_roseLeaves_21 : decode cX15_roseLeaves 21 = .ok (.iconst 0, 1) := by decide +kernel
theorem dX15_roseLeaves_22 : decode cX15_roseLeaves 22 = .ok (.invokevirtual 311, 3) := by decide +kernel
theorem dX15_roseLeaves_25 : decode cX15_roseLeaves 25 = .ok (.ifCond .eq 15, 3) := by decide +kernel
theorem dX15_roseLeaves_28 : decode cX15_roseLeaves 28 = .ok (.aload_n 0, 1) := by decide +kernel
theorem dX15_roseLeaves_29 : decode cX15_roseLeaves 29 = .ok (.bipush 8, 2) := by decide +kernel
theorem dX15_roseLeaves_31 : decode cX15_roseLeaves 31 = .ok (.iload_n 1, 1) := by decide +kernel
theorem dX15_roseLeaves_32 : decode cX15_roseLeaves 32 = .ok (.iadd, 1) := by decide +kernel
theorem dX15_roseLeaves_33 : decode cX15_roseLeaves 33 = .ok (.iload_n 2, 1) := by decide +kernel
theorem dX15_roseLeaves_34 : decode cX15_roseLeaves 34 = .ok (.invokevirtual 352, 3) := by decide +kernel
theorem dX15_roseLeaves_37 : decode cX15_roseLeaves 37 = .ok (.goto 4, 3) := by decide +kernel
theorem dX15_roseLeaves_40 : decode cX15_roseLeaves 40 = .ok (.iconst 0, 1) := by decide +kernel
theorem dX15_roseLeaves_41 : decode cX15_roseLeaves 41 = .ok (.ireturn, 1) := by decide +kernel
theorem dX15_isNews_0 : decode cX15_isNews 0 = .ok (.aload_n 0, 1) := by decide +kernel
theorem dX15_isNews_1 : decode cX15_isNews 1 = .ok (.aload_n 0, 1) := by decide +kernel
theorem dX15_isNews_2 : decode cX15_isNews 2 = .ok (.iload_n 1, 1) := by decide +kernel
theorem dX15_isNews_3 : decode cX15_isNews 3 = .ok (.invokevirtual 308, 3) := by decide +kernel
theorem dX15_isNews_6 : decode cX15_isNews 6 = .ok (.invokevirtual 311, 3) := by decide +kernel
theorem dX15_isNews_9 : decode cX15_isNews 9 = .ok (.ifCond .ne 5, 3) := by decide +kernel
theorem dX15_isNews_12 : decode cX15_isNews 12 = .ok (.iconst 0, 1) := by decide +kernel
theorem dX15_isNews_13 : decode cX15_isNews 13 = .ok (.ireturn, 1) := by decide +kernel
theorem dX15_isNews_14 : decode cX15_isNews 14 = .ok (.aload_n 0, 1) := by decide +kernel
theorem dX15_isNews_15 : decode cX15_isNews 15 = .ok (.iload_n 2, 1) := by decide +kernel
theorem dX15_isNews_16 : decode cX15_isNews 16 = .ok (.iconst 1, 1) := by decide +kernel
theorem dX15_isNews_17 : decode cX15_isNews 17 = .ok (.bipush 99, 2) := by decide +kernel
theorem dX15_isNews_19 : decode cX15_isNews 19 = .ok (.invokestatic 75, 3) := by decide +kernel
theorem dX15_isNews_22 : decode cX15_isNews 22 = .ok (.ifCond .eq 7, 3) := by decide +kernel
theorem dX15_isNews_25 : decode cX15_isNews 25 = .ok (.iconst 0, 1) := by decide +kernel
theorem dX15_isNews_26 : decode cX15_isNews 26 = .ok (.goto 4, 3) := by decide +kernel
theorem dX15_isNews_29 : decode cX15_isNews 29 = .ok (.iconst 2, 1) := by decide +kernel
theorem dX15_isNews_30 : decode cX15_isNews 30 = .ok (.putfield 69, 3) := by decide +kernel
theorem dX15_isNews_33 : decode cX15_isNews 33 = .ok (.aload_n 0, 1) := by decide +kernel
theorem dX15_isNews_34 : decode cX15_isNews 34 = .ok (.getfield 69, 3) := by decide +kernel
theorem dX15_isNews_37 : decode cX15_isNews 37 = .ok (.ifCond .ne 7, 3) := by decide +kernel
theorem dX15_isNews_40 : decode cX15_isNews 40 = .ok (.iconst 1, 1) := by decide +kernel
theorem dX15_isNews_41 : decode cX15_isNews 41 = .ok (.goto 4, 3) := by decide +kernel
theorem dX15_isNews_44 : decode cX15_isNews 44 = .ok (.iconst 0, 1) := by decide +kernel
theorem dX15_isNews_45 : decode cX15_isNews 45 = .ok (.ireturn, 1) := by decide +kernel
theorem dX15_tell_0 : decode cX15_tell 0 = .ok (.aload_n 0, 1) := by decide +kernel
theorem dX15_tell_1 : decode cX15_tell 1 = .ok (.iload_n 1, 1) := by decide +kernel
theorem dX15_tell_2 : decode cX15_tell 2 = .ok (.iload_n 2, 1) := by decide +kernel
theorem dX15_tell_3 : decode cX15_tell 3 = .ok (.invokevirtual 353, 3) := by decide +kernel
theorem dX15_tell_6 : decode cX15_tell 6 = .ok (.ifCond .eq 15, 3) := by decide +kernel
theorem dX15_tell_9 : decode cX15_tell 9 = .ok (.aload_n 0, 1) := by decide +kernel
theorem dX15_tell_10 : decode cX15_tell 10 = .ok (.getfield 62, 3) := by decide +kernel
theorem dX15_tell_13 : decode cX15_tell 13 = .ok (.iload_n 1, 1) := by decide +kernel
theorem dX15_tell_14 : decode cX15_tell 14 = .ok (.iload_n 2, 1) := by decide +kernel
theorem dX15_tell_15 : decode cX15_tell 15 = .ok (.invokevirtual 356, 3) := by decide +kernel
theorem dX15_tell_18 : decode cX15_tell 18 = .ok (.goto 4, 3) := by decide +kernel
theorem dX15_tell_21 : decode cX15_tell 21 = .ok (.iconst 0, 1) := by decide +kernel
theorem dX15_tell_22 : decode cX15_tell 22 = .ok (.ireturn, 1) := by decide +kernel
theorem dX15_passDays_0 : decode cX15_passDays 0 = .ok (.aload_n 0, 1) := by decide +kernel
theorem dX15_passDays_1 : decode cX15_passDays 1 = .ok (.iconst 0, 1) := by decide +kernel
theorem dX15_passDays_2 : decode cX15_passDays 2 = .ok (.putfield 69, 3) := by decide +kernel
theorem dX15_passDays_5 : decode cX15_passDays 5 = .ok (.iload_n 1, 1) := by decide +kernel
theorem dX15_passDays_6 : decode cX15_passDays 6 = .ok (.iconst 1, 1) := by decide +kernel
theorem dX15_passDays_7 : decode cX15_passDays 7 = .ok (.bipush 30, 2) := by decide +kernel
theorem dX15_passDays_9 : decode cX15_passDays 9 = .ok (.invokestatic 75, 3) := by decide +kernel
theorem dX15_passDays_12 : decode cX15_passDays 12 = .ok (.ifCond .ne 9, 3) := by decide +kernel
theorem dX15_passDays_15 : decode cX15_passDays 15 = .ok (.aload_n 0, 1) := by decide +kernel
theorem dX15_passDays_16 : decode cX15_passDays 16 = .ok (.iconst 1, 1) := by decide +kernel
theorem dX15_passDays_17 : decode cX15_passDays 17 = .ok (.invokevirtual 281, 3) := by decide +kernel
theorem dX15_passDays_20 : decode cX15_passDays 20 = .ok (.ireturn, 1) := by decide +kernel
theorem dX15_passDays_21 : decode cX15_passDays 21 = .ok (.aload_n 0, 1) := by decide +kernel
theorem dX15_passDays_22 : decode cX15_passDays 22 = .ok (.getfield 62, 3) := by decide +kernel
theorem dX15_passDays_25 : decode cX15_passDays 25 = .ok (.getfield 299, 3) := by decide +kernel
theorem dX15_passDays_28 : decode cX15_passDays 28 = .ok (.istore_n 2, 1) := by decide +kernel
theorem dX15_passDays_29 : decode cX15_passDays 29 = .ok (.aload_n 0, 1) := by decide +kernel
theorem dX15_passDays_30 : decode cX15_passDays 30 = .ok (.getfield 62, 3) := by decide +kernel
theorem dX15_passDays_33 : decode cX15_passDays 33 = .ok (.iload_n 1, 1) := by decide +kernel
theorem dX15_passDays_34 : decode cX15_passDays 34 = .ok (.invokevirtual 359, 3) := by decide +kernel
theorem dX15_passDays_37 : decode cX15_passDays 37 = .ok (.getfield 299, 3) := by decide +kernel
theorem dX15_passDays_40 : decode cX15_passDays 40 = .ok (.iload_n 2, 1) := by decide +kernel
theorem dX15_passDays_41 : decode cX15_passDays 41 = .ok (.isub, 1) := by decide +kernel
theorem dX15_passDays_42 : decode cX15_passDays 42 = .ok (.ireturn, 1) := by decide +kernel
theorem dX15_reach_0 : decode cX15_reach 0 = .ok (.aload_n 0, 1) := by decide +kernel
theorem dX15_reach_1 : decode cX15_reach 1 = .ok (.iload_n 1, 1) := by decide +kernel
theorem dX15_reach_2 : decode cX15_reach 2 = .ok (.iload_n 2, 1) := by decide +kernel
theorem dX15_reach_3 : decode cX15_reach 3 = .ok (.invokevirtual 353, 3) := by decide +kernel
theorem dX15_reach_6 : decode cX15_reach 6 = .ok (.ifCond .ne 5, 3) := by decide +kernel
theorem dX15_reach_9 : decode cX15_reach 9 = .ok (.iconst 0, 1) := by decide +kernel
theorem dX15_reach_10 : decode cX15_reach 10 = .ok (.ireturn, 1) := by decide +kernel
theorem dX15_reach_11 : decode cX15_reach 11 = .ok (.aload_n 0, 1) := by decide +kernel
theorem dX15_reach_12 : decode cX15_reach 12 = .ok (.invokevirtual 363, 3) := by decide +kernel
theorem dX15_reach_15 : decode cX15_reach 15 = .ok (.iload_n 1, 1) := by decide +kernel
theorem dX15_reach_16 : decode cX15_reach 16 = .ok (.iload_n 2, 1) := by decide +kernel
theorem dX15_reach_17 : decode cX15_reach 17 = .ok (.invokevirtual 356, 3) := by decide +kernel
theorem dX15_reach_20 : decode cX15_reach 20 = .ok (.pop, 1) := by decide +kernel
theorem dX15_reach_21 : decode cX15_reach 21 = .ok (.iconst 0, 1) := by decide +kernel
theorem dX15_reach_22 : decode cX15_reach 22 = .ok (.istore_n 3, 1) := by decide +kernel
theorem dX15_reach_23 : decode cX15_reach 23 = .ok (.iconst 0, 1) := by decide +kernel
theorem dX15_reach_24 : decode cX15_reach 24 = .ok (.istore 4, 2) := by decide +kernel
theorem dX15_reach_26 : decode cX15_reach 26 = .ok (.iload 4, 2) := by decide +kernel
theorem dX15_reach_28 : decode cX15_reach 28 = .ok (.aload_n 0, 1) := by decide +kernel
theorem dX15_reach_29 : decode cX15_reach 29 = .ok (.getfield 35, 3) := by decide +kernel
theorem dX15_reach_32 : decode cX15_reach 32 = .ok (.getfield 72, 3) := by decide +kernel
theorem dX15_reach_35 : decode cX15_reach 35 = .ok (.if_icmp .ge 27, 3) := by decide +kernel
theorem dX15_reach_38 : decode cX15_reach 38 = .ok (.iload_n 3, 1) := by decide +kernel
theorem dX15_reach_39 : decode cX15_reach 39 = .ok (.aload_n 0, 1) := by decide +kernel
theorem dX15_reach_40 : decode cX15_reach 40 = .ok (.getfield 54, 3) := by decide +kernel
theorem dX15_reach_43 : decode cX15_reach 43 = .ok (.iload 4, 2) := by decide +kernel
theorem dX15_reach_45 : decode cX15_reach 45 = .ok (.iaload, 1) := by decide +kernel
theorem dX15_reach_46 : decode cX15_reach 46 = .ok (.ifCond .le 7, 3) := by decide +kernel
theorem dX15_reach_49 : decode cX15_reach 49 = .ok (.iconst 1, 1) := by decide +kernel
theorem dX15_reach_50 : decode cX15_reach 50 = .ok (.goto 4, 3) := by decide +kernel
theorem dX15_reach_53 : decode cX15_reach 53 = .ok (.iconst 0, 1) := by decide +kernel
theorem dX15_reach_54 : decode cX15_reach 54 = .ok (.iadd, 1) := by decide +kernel
theorem dX15_reach_55 : decode cX15_reach 55 = .ok (.istore_n 3, 1) := by decide +kernel
theorem dX15_reach_56 : decode cX15_reach 56 = .ok (.iinc 4 1, 3) := by decide +kernel
theorem dX15_reach_59 : decode cX15_reach 59 = .ok (.goto (-33), 3) := by decide +kernel
theorem dX15_reach_62 : decode cX15_reach 62 = .ok (.iload_n 3, 1) := by decide +kernel
theorem dX15_reach_63 : decode cX15_reach 63 = .ok (.ireturn, 1) := by decide +kernel
theorem dX15_loudnessAt_0 : decode cX15_loudnessAt 0 = .ok (.aload_n 0, 1) := by decide +kernel
theorem dX15_loudnessAt_1 : decode cX15_loudnessAt 1 = .ok (.aload_n 0, 1) := by decide +kernel
theorem dX15_loudnessAt_2 : decode cX15_loudnessAt 2 = .ok (.iload_n 1, 1) := by decide +kernel
theorem dX15_loudnessAt_3 : decode cX15_loudnessAt 3 = .ok (.invokevirtual 308, 3) := by decide +kernel
theorem dX15_loudnessAt_6 : decode cX15_loudnessAt 6 = .ok (.ifCond .eq 15, 3) := by decide +kernel
theorem dX15_loudnessAt_9 : decode cX15_loudnessAt 9 = .ok (.aload_n 0, 1) := by decide +kernel
theorem dX15_loudnessAt_10 : decode cX15_loudnessAt 10 = .ok (.iload_n 2, 1) := by decide +kernel
theorem dX15_loudnessAt_11 : decode cX15_loudnessAt 11 = .ok (.invokevirtual 308, 3) := by decide +kernel
theorem dX15_loudnessAt_14 : decode cX15_loudnessAt 14 = .ok (.ifCond .eq 7, 3) := by decide +kernel
theorem dX15_loudnessAt_17 : decode cX15_loudnessAt 17 = .ok (.iconst 1, 1) := by decide +kernel
theorem dX15_loudnessAt_18 : decode cX15_loudnessAt 18 = .ok (.goto 4, 3) := by decide +kernel
theorem dX15_loudnessAt_21 : decode cX15_loudnessAt 21 = .ok (.iconst 0, 1) := by decide +kernel
theorem dX15_loudnessAt_22 : decode cX15_loudnessAt 22 = .ok (.invokevirtual 311, 3) := by decide +kernel
theorem dX15_loudnessAt_25 : decode cX15_loudnessAt 25 = .ok (.ifCond .ne 5, 3) := by decide +kernel
theorem dX15_loudnessAt_28 : decode cX15_loudnessAt 28 = .ok (.iconst 0, 1) := by decide +kernel
theorem dX15_loudnessAt_29 : decode cX15_loudnessAt 29 = .ok (.ireturn, 1) := by decide +kernel
theorem dX15_loudnessAt_30 : decode cX15_loudnessAt 30 = .ok (.aload_n 0, 1) := by decide +kernel
theorem dX15_loudnessAt_31 : decode cX15_loudnessAt 31 = .ok (.invokevirtual 363, 3) := by decide +kernel
theorem dX15_loudnessAt_34 : decode cX15_loudnessAt 34 = .ok (.iload_n 1, 1) := by decide +kernel
theorem dX15_loudnessAt_35 : decode cX15_loudnessAt 35 = .ok (.bipush 99, 2) := by decide +kernel
theorem dX15_loudnessAt_37 : decode cX15_loudnessAt 37 = .ok (.invokevirtual 356, 3) := by decide +kernel
theorem dX15_loudnessAt_40 : decode cX15_loudnessAt 40 = .ok (.pop, 1) := by decide +kernel
theorem dX15_loudnessAt_41 : decode cX15_loudnessAt 41 = .ok (.aload_n 0, 1) := by decide +kernel
theorem dX15_loudnessAt_42 : decode cX15_loudnessAt 42 = .ok (.getfield 54, 3) := by decide +kernel
theorem dX15_loudnessAt_45 : decode cX15_loudnessAt 45 = .ok (.iload_n 2, 1) := by decide +kernel
theorem dX15_loudnessAt_46 : decode cX15_loudnessAt 46 = .ok (.iaload, 1) := by decide +kernel
theorem dX15_loudnessAt_47 : decode cX15_loudnessAt 47 = .ok (.ireturn, 1) := by decide +kernel
theorem dX15_comesBack_0 : decode cX15_comesBack 0 = .ok (.aload_n 0, 1) := by decide +kernel
theorem dX15_comesBack_1 : decode cX15_comesBack 1 = .ok (.iload_n 1, 1) := by decide +kernel
theorem dX15_comesBack_2 : decode cX15_comesBack 2 = .ok (.invokevirtual 308, 3) := by decide +kernel
theorem dX15_comesBack_5 : decode cX15_comesBack 5 = .ok (.ifCond .ne 9, 3) := by decide +kernel
theorem dX15_comesBack_8 : decode cX15_comesBack 8 = .ok (.aload_n 0, 1) := by decide +kernel
theorem dX15_comesBack_9 : decode cX15_comesBack 9 = .ok (.iconst 1, 1) := by decide +kernel
theorem dX15_comesBack_10 : decode cX15_comesBack 10 = .ok (.invokevirtual 367, 3) := by decide +kernel
theorem dX15_comesBack_13 : decode cX15_comesBack 13 = .ok (.ireturn, 1) := by decide +kernel
theorem dX15_comesBack_14 : decode cX15_comesBack 14 = .ok (.aload_n 0, 1) := by decide +kernel
theorem dX15_comesBack_15 : decode cX15_comesBack 15 = .ok (.iconst 0, 1) := by decide +kernel
theorem dX15_comesBack_16 : decode cX15_comesBack 16 = .ok (.putfield 69, 3) := by decide +kernel
theorem dX15_comesBack_19 : decode cX15_comesBack 19 = .ok (.aload_n 0, 1) := by decide +kernel
theorem dX15_comesBack_20 : decode cX15_comesBack 20 = .ok (.invokevirtual 363, 3) := by decide +kernel
theorem dX15_comesBack_23 : decode cX15_comesBack 23 = .ok (.iload_n 1, 1) := by decide +kernel
theorem dX15_comesBack_24 : decode cX15_comesBack 24 = .ok (.bipush 99, 2) := by decide +kernel
theorem dX15_comesBack_26 : decode cX15_comesBack 26 = .ok (.invokevirtual 356, 3) := by decide +kernel
theorem dX15_comesBack_29 : decode cX15_comesBack 29 = .ok (.pop, 1) := by decide +kernel
theorem dX15_comesBack_30 : decode cX15_comesBack 30 = .ok (.aload_n 0, 1) := by decide +kernel
theorem dX15_comesBack_31 : decode cX15_comesBack 31 = .ok (.getfield 370, 3) := by decide +kernel
theorem dX15_comesBack_34 : decode cX15_comesBack 34 = .ok (.ireturn, 1) := by decide +kernel
theorem dX15_petalsAfter_0 : decode cX15_petalsAfter 0 = .ok (.aload_n 0, 1) := by decide +kernel
theorem dX15_petalsAfter_1 : decode cX15_petalsAfter 1 = .ok (.aload_n 0, 1) := by decide +kernel
theorem dX15_petalsAfter_2 : decode cX15_petalsAfter 2 = .ok (.iload_n 1, 1) := by decide +kernel
theorem dX15_petalsAfter_3 : decode cX15_petalsAfter 3 = .ok (.invokevirtual 327, 3) := by decide +kernel
theorem dX15_petalsAfter_6 : decode cX15_petalsAfter 6 = .ok (.invokevirtual 311, 3) := by decide +kernel
theorem dX15_petalsAfter_9 : decode cX15_petalsAfter 9 = .ok (.ifCond .ne 5, 3) := by decide +kernel
theorem dX15_petalsAfter_12 : decode cX15_petalsAfter 12 = .ok (.iconst 0, 1) := by decide +kernel
theorem dX15_petalsAfter_13 : decode cX15_petalsAfter 13 = .ok (.ireturn, 1) := by decide +kernel
theorem dX15_petalsAfter_14 : decode cX15_petalsAfter 14 = .ok (.iload_n 2, 1) := by decide +kernel
theorem dX15_petalsAfter_15 : decode cX15_petalsAfter 15 = .ok (.iconst 1, 1) := by decide +kernel
theorem dX15_petalsAfter_16 : decode cX15_petalsAfter 16 = .ok (.bipush 30, 2) := by decide +kernel
theorem dX15_petalsAfter_18 : decode cX15_petalsAfter 18 = .ok (.invokestatic 75, 3) := by decide +kernel
theorem dX15_petalsAfter_21 : decode cX15_petalsAfter 21 = .ok (.ifCond .eq 19, 3) := by decide +kernel
theorem dX15_petalsAfter_24 : decode cX15_petalsAfter 24 = .ok (.aload_n 0, 1) := by decide +kernel
theorem dX15_petalsAfter_25 : decode cX15_petalsAfter 25 = .ok (.invokevirtual 363, 3) := by decide +kernel
theorem dX15_petalsAfter_28 : decode cX15_petalsAfter 28 = .ok (.iload_n 2, 1) := by decide +kernel
theorem dX15_petalsAfter_29 : decode cX15_petalsAfter 29 = .ok (.invokevirtual 359, 3) := by decide +kernel
theorem dX15_petalsAfter_32 : decode cX15_petalsAfter 32 = .ok (.getfield 330, 3) := by decide +kernel
theorem dX15_petalsAfter_35 : decode cX15_petalsAfter 35 = .ok (.iload_n 1, 1) := by decide +kernel
theorem dX15_petalsAfter_36 : decode cX15_petalsAfter 36 = .ok (.iaload, 1) := by decide +kernel
theorem dX15_petalsAfter_37 : decode cX15_petalsAfter 37 = .ok (.goto 8, 3) := by decide +kernel
theorem dX15_petalsAfter_40 : decode cX15_petalsAfter 40 = .ok (.aload_n 0, 1) := by decide +kernel
theorem dX15_petalsAfter_41 : decode cX15_petalsAfter 41 = .ok (.iconst 2, 1) := by decide +kernel
theorem dX15_petalsAfter_42 : decode cX15_petalsAfter 42 = .ok (.invokevirtual 281, 3) := by decide +kernel
theorem dX15_petalsAfter_45 : decode cX15_petalsAfter 45 = .ok (.ireturn, 1) := by decide +kernel
theorem dX15_daysUntilLeft_0 : decode cX15_daysUntilLeft 0 = .ok (.aload_n 0, 1) := by decide +kernel
theorem dX15_daysUntilLeft_1 : decode cX15_daysUntilLeft 1 = .ok (.aload_n 0, 1) := by decide +kernel
theorem dX15_daysUntilLeft_2 : decode cX15_daysUntilLeft 2 = .ok (.iload_n 1, 1) := by decide +kernel
theorem dX15_daysUntilLeft_3 : decode cX15_daysUntilLeft 3 = .ok (.invokevirtual 327, 3) := by decide +kernel
theorem dX15_daysUntilLeft_6 : decode cX15_daysUntilLeft 6 = .ok (.invokevirtual 311, 3) := by decide +kernel
theorem dX15_daysUntilLeft_9 : decode cX15_daysUntilLeft 9 = .ok (.ifCond .eq 14, 3) := by decide +kernel
theorem dX15_daysUntilLeft_12 : decode cX15_daysUntilLeft 12 = .ok (.aload_n 0, 1) := by decide +kernel
theorem dX15_daysUntilLeft_13 : decode cX15_daysUntilLeft 13 = .ok (.invokevirtual 363, 3) := by decide +kernel
theorem dX15_daysUntilLeft_16 : decode cX15_daysUntilLeft 16 = .ok (.iload_n 1, 1) := by decide +kernel
theorem dX15_daysUntilLeft_17 : decode cX15_daysUntilLeft 17 = .ok (.invokevirtual 374, 3) := by decide +kernel
theorem dX15_daysUntilLeft_20 : decode cX15_daysUntilLeft 20 = .ok (.goto 4, 3) := by decide +kernel
theorem dX15_daysUntilLeft_23 : decode cX15_daysUntilLeft 23 = .ok (.iconst 0, 1) := by decide +kernel
theorem dX15_daysUntilLeft_24 : decode cX15_daysUntilLeft 24 = .ok (.ireturn, 1) := by decide +kernel
theorem dX15_best_0 : decode cX15_best 0 = .ok (.iconst (-1), 1) := by decide +kernel
theorem dX15_best_1 : decode cX15_best 1 = .ok (.istore_n 2, 1) := by decide +kernel
theorem dX15_best_2 : decode cX15_best 2 = .ok (.iconst (-1), 1) := by decide +kernel
theorem dX15_best_3 : decode cX15_best 3 = .ok (.istore_n 3, 1) := by decide +kernel
theorem dX15_best_4 : decode cX15_best 4 = .ok (.iconst 0, 1) := by decide +kernel
theorem dX15_best_5 : decode cX15_best 5 = .ok (.istore 4, 2) := by decide +kernel
theorem dX15_best_7 : decode cX15_best 7 = .ok (.iload 4, 2) := by decide +kernel
theorem dX15_best_9 : decode cX15_best 9 = .ok (.aload_n 0, 1) := by decide +kernel
theorem dX15_best_10 : decode cX15_best 10 = .ok (.getfield 35, 3) := by decide +kernel
theorem dX15_best_13 : decode cX15_best 13 = .ok (.getfield 72, 3) := by decide +kernel
theorem dX15_best_16 : decode cX15_best 16 = .ok (.if_icmp .ge 45, 3) := by decide +kernel
theorem dX15_best_19 : decode cX15_best 19 = .ok (.aload_n 0, 1) := by decide +kernel
theorem dX15_best_20 : decode cX15_best 20 = .ok (.invokevirtual 363, 3) := by decide +kernel
theorem dX15_best_23 : decode cX15_best 23 = .ok (.iload 4, 2) := by decide +kernel
theorem dX15_best_25 : decode cX15_best 25 = .ok (.iload_n 1, 1) := by decide +kernel
theorem dX15_best_26 : decode cX15_best 26 = .ok (.invokevirtual 356, 3) := by decide +kernel
theorem dX15_best_29 : decode cX15_best 29 = .ok (.pop, 1) := by decide +kernel
theorem dX15_best_30 : decode cX15_best 30 = .ok (.aload_n 0, 1) := by decide +kernel
theorem dX15_best_31 : decode cX15_best 31 = .ok (.getfield 66, 3) := by decide +kernel
theorem dX15_best_34 : decode cX15_best 34 = .ok (.invokevirtual 377, 3) := by decide +kernel
theorem dX15_best_37 : decode cX15_best 37 = .ok (.iload_n 3, 1) := by decide +kernel
theorem dX15_best_38 : decode cX15_best 38 = .ok (.if_icmp .gt 6, 3) := by decide +kernel
theorem dX15_best_41 : decode cX15_best 41 = .ok (.goto 14, 3) := by decide +kernel
theorem dX15_best_44 : decode cX15_best 44 = .ok (.iload 4, 2) := by decide +kernel
theorem dX15_best_46 : decode cX15_best 46 = .ok (.istore_n 2, 1) := by decide +kernel
theorem dX15_best_47 : decode cX15_best 47 = .ok (.aload_n 0, 1) := by decide +kernel
theorem dX15_best_48 : decode cX15_best 48 = .ok (.getfield 66, 3) := by decide +kernel
theorem dX15_best_51 : decode cX15_best 51 = .ok (.invokevirtual 377, 3) := by decide +kernel
theorem dX15_best_54 : decode cX15_best 54 = .ok (.istore_n 3, 1) := by decide +kernel
theorem dX15_best_55 : decode cX15_best 55 = .ok (.iinc 4 1, 3) := by decide +kernel
theorem dX15_best_58 : decode cX15_best 58 = .ok (.goto (-51), 3) := by decide +kernel
theorem dX15_best_61 : decode cX15_best 61 = .ok (.iload_n 2, 1) := by decide +kernel
theorem dX15_best_62 : decode cX15_best 62 = .ok (.ireturn, 1) := by decide +kernel
theorem dX15_bestToTell_0 : decode cX15_bestToTell 0 = .ok (.aload_n 0, 1) := by decide +kernel
theorem dX15_bestToTell_1 : decode cX15_bestToTell 1 = .ok (.iconst 0, 1) := by decide +kernel
theorem dX15_bestToTell_2 : decode cX15_bestToTell 2 = .ok (.putfield 69, 3) := by decide +kernel
theorem dX15_bestToTell_5 : decode cX15_bestToTell 5 = .ok (.iload_n 1, 1) := by decide +kernel
theorem dX15_bestToTell_6 : decode cX15_bestToTell 6 = .ok (.iconst 1, 1) := by decide +kernel
theorem dX15_bestToTell_7 : decode cX15_bestToTell 7 = .ok (.bipush 99, 2) := by decide +kernel
theorem dX15_bestToTell_9 : decode cX15_bestToTell 9 = .ok (.invokestatic 75, 3) := by decide +kernel
theorem dX15_bestToTell_12 : decode cX15_bestToTell 12 = .ok (.ifCond .eq 11, 3) := by decide +kernel
theorem dX15_bestToTell_15 : decode cX15_bestToTell 15 = .ok (.aload_n 0, 1) := by decide +kernel
theorem dX15_bestToTell_16 : decode cX15_bestToTell 16 = .ok (.iload_n 1, 1) := by decide +kernel
theorem dX15_bestToTell_17 : decode cX15_bestToTell 17 = .ok (.invokevirtual 380, 3) := by decide +kernel
theorem dX15_bestToTell_20 : decode cX15_bestToTell 20 = .ok (.goto 8, 3) := by decide +kernel
theorem dX15_bestToTell_23 : decode cX15_bestToTell 23 = .ok (.aload_n 0, 1) := by decide +kernel
theorem dX15_bestToTell_24 : decode cX15_bestToTell 24 = .ok (.iconst 1, 1) := by decide +kernel
theorem dX15_bestToTell_25 : decode cX15_bestToTell 25 = .ok (.invokevirtual 281, 3) := by decide +kernel
theorem dX15_bestToTell_28 : decode cX15_bestToTell 28 = .ok (.ireturn, 1) := by decide +kernel
theorem dX15_meanPetals_0 : decode cX15_meanPetals 0 = .ok (.aload_n 0, 1) := by decide +kernel
theorem dX15_meanPetals_1 : decode cX15_meanPetals 1 = .ok (.iconst 0, 1) := by decide +kernel
theorem dX15_meanPetals_2 : decode cX15_meanPetals 2 = .ok (.putfield 69, 3) := by decide +kernel
theorem dX15_meanPetals_5 : decode cX15_meanPetals 5 = .ok (.aload_n 0, 1) := by decide +kernel
theorem dX15_meanPetals_6 : decode cX15_meanPetals 6 = .ok (.getfield 35, 3) := by decide +kernel
theorem dX15_meanPetals_9 : decode cX15_meanPetals 9 = .ok (.getfield 79, 3) := by decide +kernel
theorem dX15_meanPetals_12 : decode cX15_meanPetals 12 = .ok (.ifCond .ne 7, 3) := by decide +kernel
theorem dX15_meanPetals_15 : decode cX15_meanPetals 15 = .ok (.dconst 0, 1) := by decide +kernel
theorem dX15_meanPetals_16 : decode cX15_meanPetals 16 = .ok (.goto 20, 3) := by decide +kernel
theorem dX15_meanPetals_19 : decode cX15_meanPetals 19 = .ok (.aload_n 0, 1) := by decide +kernel
theorem dX15_meanPetals_20 : decode cX15_meanPetals 20 = .ok (.getfield 62, 3) := by decide +kernel
theorem dX15_meanPetals_23 : decode cX15_meanPetals 23 = .ok (.invokevirtual 377, 3) := by decide +kernel
theorem dX15_meanPetals_26 : decode cX15_meanPetals 26 = .ok (.i2d, 1) := by decide +kernel
theorem dX15_meanPetals_27 : decode cX15_meanPetals 27 = .ok (.aload_n 0, 1) := by decide +kernel
theorem dX15_meanPetals_28 : decode cX15_meanPetals 28 = .ok (.getfield 35, 3) := by decide +kernel
theorem dX15_meanPetals_31 : decode cX15_meanPetals 31 = .ok (.getfield 79, 3) := by decide +kernel
theorem dX15_meanPetals_34 : decode cX15_meanPetals 34 = .ok (.i2d, 1) := by decide +kernel
theorem dX15_meanPetals_35 : decode cX15_meanPetals 35 = .ok (.ddiv, 1) := by decide +kernel
theorem dX15_meanPetals_36 : decode cX15_meanPetals 36 = .ok (.dreturn, 1) := by decide +kernel
theorem dX15_digest_0 : decode cX15_digest 0 = .ok (.aload_n 0, 1) := by decide +kernel
theorem dX15_digest_1 : decode cX15_digest 1 = .ok (.iconst 0, 1) := by decide +kernel
theorem dX15_digest_2 : decode cX15_digest 2 = .ok (.putfield 69, 3) := by decide +kernel
theorem dX15_digest_5 : decode cX15_digest 5 = .ok (.bipush 9, 2) := by decide +kernel
theorem dX15_digest_7 : decode cX15_digest 7 = .ok (.newarray .int, 2) := by decide +kernel
theorem dX15_digest_9 : decode cX15_digest 9 = .ok (.dup, 1) := by decide +kernel
theorem dX15_digest_10 : decode cX15_digest 10 = .ok (.iconst 0, 1) := by decide +kernel
theorem dX15_digest_11 : decode cX15_digest 11 = .ok (.aload_n 0, 1) := by decide +kernel
theorem dX15_digest_12 : decode cX15_digest 12 = .ok (.getfield 35, 3) := by decide +kernel
theorem dX15_digest_15 : decode cX15_digest 15 = .ok (.getfield 72, 3) := by decide +kernel
theorem dX15_digest_18 : decode cX15_digest 18 = .ok (.iastore, 1) := by decide +kernel
theorem dX15_digest_19 : decode cX15_digest 19 = .ok (.dup, 1) := by decide +kernel
theorem dX15_digest_20 : decode cX15_digest 20 = .ok (.iconst 1, 1) := by decide +kernel
theorem dX15_digest_21 : decode cX15_digest 21 = .ok (.aload_n 0, 1) := by decide +kernel
theorem dX15_digest_22 : decode cX15_digest 22 = .ok (.getfield 35, 3) := by decide +kernel
theorem dX15_digest_25 : decode cX15_digest 25 = .ok (.getfield 79, 3) := by decide +kernel
theorem dX15_digest_28 : decode cX15_digest 28 = .ok (.iastore, 1) := by decide +kernel
theorem dX15_digest_29 : decode cX15_digest 29 = .ok (.dup, 1) := by decide +kernel
theorem dX15_digest_30 : decode cX15_digest 30 = .ok (.iconst 2, 1) := by decide +kernel
theorem dX15_digest_31 : decode cX15_digest 31 = .ok (.aload_n 0, 1) := by decide +kernel
theorem dX15_digest_32 : decode cX15_digest 32 = .ok (.getfield 62, 3) := by decide +kernel
theorem dX15_digest_35 : decode cX15_digest 35 = .ok (.getfield 293, 3) := by decide +kernel
theorem dX15_digest_38 : decode cX15_digest 38 = .ok (.iastore, 1) := by decide +kernel
theorem dX15_digest_39 : decode cX15_digest 39 = .ok (.dup, 1) := by decide +kernel
theorem dX15_digest_40 : decode cX15_digest 40 = .ok (.iconst 3, 1) := by decide +kernel
theorem dX15_digest_41 : decode cX15_digest 41 = .ok (.aload_n 0, 1) := by decide +kernel
theorem dX15_digest_42 : decode cX15_digest 42 = .ok (.getfield 62, 3) := by decide +kernel
theorem dX15_digest_45 : decode cX15_digest 45 = .ok (.getfield 296, 3) := by decide +kernel
theorem dX15_digest_48 : decode cX15_digest 48 = .ok (.iastore, 1) := by decide +kernel
theorem dX15_digest_49 : decode cX15_digest 49 = .ok (.dup, 1) := by decide +kernel
theorem dX15_digest_50 : decode cX15_digest 50 = .ok (.iconst 4, 1) := by decide +kernel
theorem dX15_digest_51 : decode cX15_digest 51 = .ok (.aload_n 0, 1) := by decide +kernel
theorem dX15_digest_52 : decode cX15_digest 52 = .ok (.getfield 62, 3) := by decide +kernel
theorem dX15_digest_55 : decode cX15_digest 55 = .ok (.getfield 299, 3) := by decide +kernel
theorem dX15_digest_58 : decode cX15_digest 58 = .ok (.iastore, 1) := by decide +kernel
theorem dX15_digest_59 : decode cX15_digest 59 = .ok (.dup, 1) := by decide +kernel
theorem dX15_digest_60 : decode cX15_digest 60 = .ok (.iconst 5, 1) := by decide +kernel
theorem dX15_digest_61 : decode cX15_digest 61 = .ok (.aload_n 0, 1) := by decide +kernel
theorem dX15_digest_62 : decode cX15_digest 62 = .ok (.getfield 62, 3) := by decide +kernel
theorem dX15_digest_65 : decode cX15_digest 65 = .ok (.getfield 302, 3) := by decide +kernel
theorem dX15_digest_68 : decode cX15_digest 68 = .ok (.iastore, 1) := by decide +kernel
theorem dX15_digest_69 : decode cX15_digest 69 = .ok (.dup, 1) := by decide +kernel
theorem dX15_digest_70 : decode cX15_digest 70 = .ok (.bipush 6, 2) := by decide +kernel
theorem dX15_digest_72 : decode cX15_digest 72 = .ok (.aload_n 0, 1) := by decide +kernel
theorem dX15_digest_73 : decode cX15_digest 73 = .ok (.getfield 62, 3) := by decide +kernel
theorem dX15_digest_76 : decode cX15_digest 76 = .ok (.invokevirtual 305, 3) := by decide +kernel
theorem dX15_digest_79 : decode cX15_digest 79 = .ok (.iastore, 1) := by decide +kernel
theorem dX15_digest_80 : decode cX15_digest 80 = .ok (.dup, 1) := by decide +kernel
theorem dX15_digest_81 : decode cX15_digest 81 = .ok (.bipush 7, 2) := by decide +kernel
theorem dX15_digest_83 : decode cX15_digest 83 = .ok (.aload_n 0, 1) := by decide +kernel
theorem dX15_digest_84 : decode cX15_digest 84 = .ok (.getfield 62, 3) := by decide +kernel
theorem dX15_digest_87 : decode cX15_digest 87 = .ok (.invokevirtual 339, 3) := by decide +kernel
theorem dX15_digest_90 : decode cX15_digest 90 = .ok (.iastore, 1) := by decide +kernel
theorem dX15_digest_91 : decode cX15_digest 91 = .ok (.dup, 1) := by decide +kernel
theorem dX15_digest_92 : decode cX15_digest 92 = .ok (.bipush 8, 2) := by decide +kernel
theorem dX15_digest_94 : decode cX15_digest 94 = .ok (.aload_n 0, 1) := by decide +kernel
theorem dX15_digest_95 : decode cX15_digest 95 = .ok (.bipush 20, 2) := by decide +kernel
theorem dX15_digest_97 : decode cX15_digest 97 = .ok (.invokevirtual 380, 3) := by decide +kernel
theorem dX15_digest_100 : decode cX15_digest 100 = .ok (.iastore, 1) := by decide +kernel
theorem dX15_digest_101 : decode cX15_digest 101 = .ok (.astore_n 1, 1) := by decide +kernel
theorem dX15_digest_102 : decode cX15_digest 102 = .ok (.ldc2_w 383, 3) := by decide +kernel
theorem dX15_digest_105 : decode cX15_digest 105 = .ok (.lstore_n 2, 1) := by decide +kernel
theorem dX15_digest_106 : decode cX15_digest 106 = .ok (.aload_n 1, 1) := by decide +kernel
theorem dX15_digest_107 : decode cX15_digest 107 = .ok (.astore 4, 2) := by decide +kernel
theorem dX15_digest_109 : decode cX15_digest 109 = .ok (.aload 4, 2) := by decide +kernel
theorem dX15_digest_111 : decode cX15_digest 111 = .ok (.arraylength, 1) := by decide +kernel
theorem dX15_digest_112 : decode cX15_digest 112 = .ok (.istore 5, 2) := by decide +kernel
theorem dX15_digest_114 : decode cX15_digest 114 = .ok (.iconst 0, 1) := by decide +kernel
theorem dX15_digest_115 : decode cX15_digest 115 = .ok (.istore 6, 2) := by decide +kernel
theorem dX15_digest_117 : decode cX15_digest 117 = .ok (.iload 6, 2) := by decide +kernel
theorem dX15_digest_119 : decode cX15_digest 119 = .ok (.iload 5, 2) := by decide +kernel
theorem dX15_digest_121 : decode cX15_digest 121 = .ok (.if_icmp .ge 26, 3) := by decide +kernel
theorem dX15_digest_124 : decode cX15_digest 124 = .ok (.aload 4, 2) := by decide +kernel
theorem dX15_digest_126 : decode cX15_digest 126 = .ok (.iload 6, 2) := by decide +kernel
theorem dX15_digest_128 : decode cX15_digest 128 = .ok (.iaload, 1) := by decide +kernel
theorem dX15_digest_129 : decode cX15_digest 129 = .ok (.istore 7, 2) := by decide +kernel
theorem dX15_digest_131 : decode cX15_digest 131 = .ok (.lload_n 2, 1) := by decide +kernel
theorem dX15_digest_132 : decode cX15_digest 132 = .ok (.ldc2_w 385, 3) := by decide +kernel
theorem dX15_digest_135 : decode cX15_digest 135 = .ok (.lmul, 1) := by decide +kernel
theorem dX15_digest_136 : decode cX15_digest 136 = .ok (.iload 7, 2) := by decide +kernel
theorem dX15_digest_138 : decode cX15_digest 138 = .ok (.i2l, 1) := by decide +kernel
theorem dX15_digest_139 : decode cX15_digest 139 = .ok (.ladd, 1) := by decide +kernel
theorem dX15_digest_140 : decode cX15_digest 140 = .ok (.lstore_n 2, 1) := by decide +kernel
theorem dX15_digest_141 : decode cX15_digest 141 = .ok (.iinc 6 1, 3) := by decide +kernel
theorem dX15_digest_144 : decode cX15_digest 144 = .ok (.goto (-27), 3) := by decide +kernel
theorem dX15_digest_147 : decode cX15_digest 147 = .ok (.iconst 0, 1) := by decide +kernel
theorem dX15_digest_148 : decode cX15_digest 148 = .ok (.istore 4, 2) := by decide +kernel
theorem dX15_digest_150 : decode cX15_digest 150 = .ok (.iload 4, 2) := by decide +kernel
theorem dX15_digest_152 : decode cX15_digest 152 = .ok (.aload_n 0, 1) := by decide +kernel
theorem dX15_digest_153 : decode cX15_digest 153 = .ok (.getfield 35, 3) := by decide +kernel
theorem dX15_digest_156 : decode cX15_digest 156 = .ok (.getfield 72, 3) := by decide +kernel
theorem dX15_digest_159 : decode cX15_digest 159 = .ok (.if_icmp .ge 142, 3) := by decide +kernel
theorem dX15_digest_162 : decode cX15_digest 162 = .ok (.lload_n 2, 1) := by decide +kernel
theorem dX15_digest_163 : decode cX15_digest 163 = .ok (.ldc2_w 385, 3) := by decide +kernel
theorem dX15_digest_166 : decode cX15_digest 166 = .ok (.lmul, 1) := by decide +kernel
theorem dX15_digest_167 : decode cX15_digest 167 = .ok (.aload_n 0, 1) := by decide +kernel
theorem dX15_digest_168 : decode cX15_digest 168 = .ok (.getfield 62, 3) := by decide +kernel
theorem dX15_digest_171 : decode cX15_digest 171 = .ok (.getfield 315, 3) := by decide +kernel
theorem dX15_digest_174 : decode cX15_digest 174 = .ok (.iload 4, 2) := by decide +kernel
theorem dX15_digest_176 : decode cX15_digest 176 = .ok (.iaload, 1) := by decide +kernel
theorem dX15_digest_177 : decode cX15_digest 177 = .ok (.i2l, 1) := by decide +kernel
theorem dX15_digest_178 : decode cX15_digest 178 = .ok (.ladd, 1) := by decide +kernel
theorem dX15_digest_179 : decode cX15_digest 179 = .ok (.ldc2_w 385, 3) := by decide +kernel
theorem dX15_digest_182 : decode cX15_digest 182 = .ok (.lmul, 1) := by decide +kernel
theorem dX15_digest_183 : decode cX15_digest 183 = .ok (.aload_n 0, 1) := by decide +kernel
theorem dX15_digest_184 : decode cX15_digest 184 = .ok (.getfield 62, 3) := by decide +kernel
theorem dX15_digest_187 : decode cX15_digest 187 = .ok (.getfield 318, 3) := by decide +kernel
theorem dX15_digest_190 : decode cX15_digest 190 = .ok (.iload 4, 2) := by decide +kernel
theorem dX15_digest_192 : decode cX15_digest 192 = .ok (.iaload, 1) := by decide +kernel
theorem dX15_digest_193 : decode cX15_digest 193 = .ok (.i2l, 1) := by decide +kernel
theorem dX15_digest_194 : decode cX15_digest 194 = .ok (.ladd, 1) := by decide +kernel
theorem dX15_digest_195 : decode cX15_digest 195 = .ok (.ldc2_w 385, 3) := by decide +kernel
theorem dX15_digest_198 : decode cX15_digest 198 = .ok (.lmul, 1) := by decide +kernel
theorem dX15_digest_199 : decode cX15_digest 199 = .ok (.aload_n 0, 1) := by decide +kernel
theorem dX15_digest_200 : decode cX15_digest 200 = .ok (.getfield 62, 3) := by decide +kernel
theorem dX15_digest_203 : decode cX15_digest 203 = .ok (.getfield 321, 3) := by decide +kernel
theorem dX15_digest_206 : decode cX15_digest 206 = .ok (.iload 4, 2) := by decide +kernel
theorem dX15_digest_208 : decode cX15_digest 208 = .ok (.iaload, 1) := by decide +kernel
theorem dX15_digest_209 : decode cX15_digest 209 = .ok (.i2l, 1) := by decide +kernel
theorem dX15_digest_210 : decode cX15_digest 210 = .ok (.ladd, 1) := by decide +kernel
theorem dX15_digest_211 : decode cX15_digest 211 = .ok (.lstore_n 2, 1) := by decide +kernel
theorem dX15_digest_212 : decode cX15_digest 212 = .ok (.iconst 0, 1) := by decide +kernel
theorem dX15_digest_213 : decode cX15_digest 213 = .ok (.istore 5, 2) := by decide +kernel
theorem dX15_digest_215 : decode cX15_digest 215 = .ok (.iload 5, 2) := by decide +kernel
theorem dX15_digest_217 : decode cX15_digest 217 = .ok (.aload_n 0, 1) := by decide +kernel
theorem dX15_digest_218 : decode cX15_digest 218 = .ok (.getfield 35, 3) := by decide +kernel
theorem dX15_digest_221 : decode cX15_digest 221 = .ok (.getfield 72, 3) := by decide +kernel
theorem dX15_digest_224 : decode cX15_digest 224 = .ok (.if_icmp .ge 28, 3) := by decide +kernel
theorem dX15_digest_227 : decode cX15_digest 227 = .ok (.lload_n 2, 1) := by decide +kernel
theorem dX15_digest_228 : decode cX15_digest 228 = .ok (.ldc2_w 385, 3) := by decide +kernel
theorem dX15_digest_231 : decode cX15_digest 231 = .ok (.lmul, 1) := by decide +kernel
theorem dX15_digest_232 : decode cX15_digest 232 = .ok (.aload_n 0, 1) := by decide +kernel
theorem dX15_digest_233 : decode cX15_digest 233 = .ok (.getfield 62, 3) := by decide +kernel
theorem dX15_digest_236 : decode cX15_digest 236 = .ok (.iload 5, 2) := by decide +kernel
theorem dX15_digest_238 : decode cX15_digest 238 = .ok (.iload 4, 2) := by decide +kernel
theorem dX15_digest_240 : decode cX15_digest 240 = .ok (.invokevirtual 324, 3) := by decide +kernel
theorem dX15_digest_243 : decode cX15_digest 243 = .ok (.i2l, 1) := by decide +kernel
theorem dX15_digest_244 : decode cX15_digest 244 = .ok (.ladd, 1) := by decide +kernel
theorem dX15_digest_245 : decode cX15_digest 245 = .ok (.lstore_n 2, 1) := by decide +kernel
theorem dX15_digest_246 : decode cX15_digest 246 = .ok (.iinc 5 1, 3) := by decide +kernel
theorem dX15_digest_249 : decode cX15_digest 249 = .ok (.goto (-34), 3) := by decide +kernel
theorem dX15_digest_252 : decode cX15_digest 252 = .ok (.iconst 0, 1) := by decide +kernel
theorem dX15_digest_253 : decode cX15_digest 253 = .ok (.istore 5, 2) := by decide +kernel
theorem dX15_digest_255 : decode cX15_digest 255 = .ok (.iload 5, 2) := by decide +kernel
theorem dX15_digest_257 : decode cX15_digest 257 = .ok (.aload_n 0, 1) := by decide +kernel
theorem dX15_digest_258 : decode cX15_digest 258 = .ok (.getfield 35, 3) := by decide +kernel
theorem dX15_digest_261 : decode cX15_digest 261 = .ok (.getfield 79, 3) := by decide +kernel
theorem dX15_digest_264 : decode cX15_digest 264 = .ok (.if_icmp .ge 31, 3) := by decide +kernel
theorem dX15_digest_267 : decode cX15_digest 267 = .ok (.lload_n 2, 1) := by decide +kernel
theorem dX15_digest_268 : decode cX15_digest 268 = .ok (.ldc2_w 385, 3) := by decide +kernel
theorem dX15_digest_271 : decode cX15_digest 271 = .ok (.lmul, 1) := by decide +kernel
theorem dX15_digest_272 : decode cX15_digest 272 = .ok (.aload_n 0, 1) := by decide +kernel
theorem dX15_digest_273 : decode cX15_digest 273 = .ok (.getfield 62, 3) := by decide +kernel
theorem dX15_digest_276 : decode cX15_digest 276 = .ok (.bipush 8, 2) := by decide +kernel
theorem dX15_digest_278 : decode cX15_digest 278 = .ok (.iload 5, 2) := by decide +kernel
theorem dX15_digest_280 : decode cX15_digest 280 = .ok (.iadd, 1) := by decide +kernel
theorem dX15_digest_281 : decode cX15_digest 281 = .ok (.iload 4, 2) := by decide +kernel
theorem dX15_digest_283 : decode cX15_digest 283 = .ok (.invokevirtual 324, 3) := by decide +kernel
theorem dX15_digest_286 : decode cX15_digest 286 = .ok (.i2l, 1) := by decide +kernel
theorem dX15_digest_287 : decode cX15_digest 287 = .ok (.ladd, 1) := by decide +kernel
theorem dX15_digest_288 : decode cX15_digest 288 = .ok (.lstore_n 2, 1) := by decide +kernel
theorem dX15_digest_289 : decode cX15_digest 289 = .ok (.iinc 5 1, 3) := by decide +kernel
theorem dX15_digest_292 : decode cX15_digest 292 = .ok (.goto (-37), 3) := by decide +kernel
theorem dX15_digest_295 : decode cX15_digest 295 = .ok (.iinc 4 1, 3) := by decide +kernel
theorem dX15_digest_298 : decode cX15_digest 298 = .ok (.goto (-148), 3) := by decide +kernel
theorem dX15_digest_301 : decode cX15_digest 301 = .ok (.iconst 0, 1) := by decide +kernel
theorem dX15_digest_302 : decode cX15_digest 302 = .ok (.istore 4, 2) := by decide +kernel
theorem dX15_digest_304 : decode cX15_digest 304 = .ok (.iload 4, 2) := by decide +kernel
theorem dX15_digest_306 : decode cX15_digest 306 = .ok (.aload_n 0, 1) := by decide +kernel
theorem dX15_digest_307 : decode cX15_digest 307 = .ok (.getfield 35, 3) := by decide +kernel
theorem dX15_digest_310 : decode cX15_digest 310 = .ok (.getfield 79, 3) := by decide +kernel
theorem dX15_digest_313 : decode cX15_digest 313 = .ok (.if_icmp .ge 61, 3) := by decide +kernel
theorem dX15_digest_316 : decode cX15_digest 316 = .ok (.lload_n 2, 1) := by decide +kernel
theorem dX15_digest_317 : decode cX15_digest 317 = .ok (.ldc2_w 385, 3) := by decide +kernel
theorem dX15_digest_320 : decode cX15_digest 320 = .ok (.lmul, 1) := by decide +kernel
theorem dX15_digest_321 : decode cX15_digest 321 = .ok (.aload_n 0, 1) := by decide +kernel
theorem dX15_digest_322 : decode cX15_digest 322 = .ok (.getfield 62, 3) := by decide +kernel
theorem dX15_digest_325 : decode cX15_digest 325 = .ok (.getfield 330, 3) := by decide +kernel
theorem dX15_digest_328 : decode cX15_digest 328 = .ok (.iload 4, 2) := by decide +kernel
theorem dX15_digest_330 : decode cX15_digest 330 = .ok (.iaload, 1) := by decide +kernel
theorem dX15_digest_331 : decode cX15_digest 331 = .ok (.i2l, 1) := by decide +kernel
theorem dX15_digest_332 : decode cX15_digest 332 = .ok (.ladd, 1) := by decide +kernel
theorem dX15_digest_333 : decode cX15_digest 333 = .ok (.ldc2_w 385, 3) := by decide +kernel
theorem dX15_digest_336 : decode cX15_digest 336 = .ok (.lmul, 1) := by decide +kernel
theorem dX15_digest_337 : decode cX15_digest 337 = .ok (.aload_n 0, 1) := by decide +kernel
theorem dX15_digest_338 : decode cX15_digest 338 = .ok (.getfield 62, 3) := by decide +kernel
theorem dX15_digest_341 : decode cX15_digest 341 = .ok (.getfield 333, 3) := by decide +kernel
theorem dX15_digest_344 : decode cX15_digest 344 = .ok (.iload 4, 2) := by decide +kernel
theorem dX15_digest_346 : decode cX15_digest 346 = .ok (.iaload, 1) := by decide +kernel
theorem dX15_digest_347 : decode cX15_digest 347 = .ok (.i2l, 1) := by decide +kernel
theorem dX15_digest_348 : decode cX15_digest 348 = .ok (.ladd, 1) := by decide +kernel
theorem dX15_digest_349 : decode cX15_digest 349 = .ok (.ldc2_w 385, 3) := by decide +kernel
theorem dX15_digest_352 : decode cX15_digest 352 = .ok (.lmul, 1) := by decide +kernel
theorem dX15_digest_353 : decode cX15_digest 353 = .ok (.aload_n 0, 1) := by decide +kernel
theorem dX15_digest_354 : decode cX15_digest 354 = .ok (.getfield 62, 3) := by decide +kernel
theorem dX15_digest_357 : decode cX15_digest 357 = .ok (.bipush 8, 2) := by decide +kernel
theorem dX15_digest_359 : decode cX15_digest 359 = .ok (.iload 4, 2) := by decide +kernel
theorem dX15_digest_361 : decode cX15_digest 361 = .ok (.iadd, 1) := by decide +kernel
theorem dX15_digest_362 : decode cX15_digest 362 = .ok (.invokevirtual 336, 3) := by decide +kernel
theorem dX15_digest_365 : decode cX15_digest 365 = .ok (.i2l, 1) := by decide +kernel
theorem dX15_digest_366 : decode cX15_digest 366 = .ok (.ladd, 1) := by decide +kernel
theorem dX15_digest_367 : decode cX15_digest 367 = .ok (.lstore_n 2, 1) := by decide +kernel
theorem dX15_digest_368 : decode cX15_digest 368 = .ok (.iinc 4 1, 3) := by decide +kernel
theorem dX15_digest_371 : decode cX15_digest 371 = .ok (.goto (-67), 3) := by decide +kernel
theorem dX15_digest_374 : decode cX15_digest 374 = .ok (.lload_n 2, 1) := by decide +kernel
theorem dX15_digest_375 : decode cX15_digest 375 = .ok (.lreturn, 1) := by decide +kernel
theorem dJ11_isValidCodePoint_9a6ad_0 : decode cJ11_isValidCodePoint_9a6ad 0 = .ok (.iload_n 0, 1) := by decide +kernel
theorem dJ11_isValidCodePoint_9a6ad_1 : decode cJ11_isValidCodePoint_9a6ad 1 = .ok (.bipush 16, 2) := by decide +kernel
theorem dJ11_isValidCodePoint_9a6ad_3 : decode cJ11_isValidCodePoint_9a6ad 3 = .ok (.iushr, 1) := by decide +kernel
theorem dJ11_isValidCodePoint_9a6ad_4 : decode cJ11_isValidCodePoint_9a6ad 4 = .ok (.istore_n 1, 1) := by decide +kernel
theorem dJ11_isValidCodePoint_9a6ad_5 : decode cJ11_isValidCodePoint_9a6ad 5 = .ok (.iload_n 1, 1) := by decide +kernel
theorem dJ11_isValidCodePoint_9a6ad_6 : decode cJ11_isValidCodePoint_9a6ad 6 = .ok (.bipush 17, 2) := by decide +kernel
theorem dJ11_isValidCodePoint_9a6ad_8 : decode cJ11_isValidCodePoint_9a6ad 8 = .ok (.if_icmp .ge 7, 3) := by decide +kernel
theorem dJ11_isValidCodePoint_9a6ad_11 : decode cJ11_isValidCodePoint_9a6ad 11 = .ok (.iconst 1, 1) := by decide +kernel
theorem dJ11_isValidCodePoint_9a6ad_12 : decode cJ11_isValidCodePoint_9a6ad 12 = .ok (.goto 4, 3) := by decide +kernel
theorem dJ11_isValidCodePoint_9a6ad_15 : decode cJ11_isValidCodePoint_9a6ad 15 = .ok (.iconst 0, 1) := by decide +kernel
theorem dJ11_isValidCodePoint_9a6ad_16 : decode cJ11_isValidCodePoint_9a6ad 16 = .ok (.ireturn, 1) := by decide +kernel
theorem dJ11_highSurrogate_5068e_0 : decode cJ11_highSurrogate_5068e 0 = .ok (.iload_n 0, 1) := by decide +kernel
theorem dJ11_highSurrogate_5068e_1 : decode cJ11_highSurrogate_5068e 1 = .ok (.bipush 10, 2) := by decide +kernel
theorem dJ11_highSurrogate_5068e_3 : decode cJ11_highSurrogate_5068e 3 = .ok (.iushr, 1) := by decide +kernel
theorem dJ11_highSurrogate_5068e_4 : decode cJ11_highSurrogate_5068e 4 = .ok (.ldc 110, 2) := by decide +kernel
theorem dJ11_highSurrogate_5068e_6 : decode cJ11_highSurrogate_5068e 6 = .ok (.iadd, 1) := by decide +kernel
theorem dJ11_highSurrogate_5068e_7 : decode cJ11_highSurrogate_5068e 7 = .ok (.i2c, 1) := by decide +kernel
theorem dJ11_highSurrogate_5068e_8 : decode cJ11_highSurrogate_5068e 8 = .ok (.ireturn, 1) := by decide +kernel
theorem dJ11_lowSurrogate_5068e_0 : decode cJ11_lowSurrogate_5068e 0 = .ok (.iload_n 0, 1) := by decide +kernel
theorem dJ11_lowSurrogate_5068e_1 : decode cJ11_lowSurrogate_5068e 1 = .ok (.sipush 1023, 3) := by decide +kernel
theorem dJ11_lowSurrogate_5068e_4 : decode cJ11_lowSurrogate_5068e 4 = .ok (.iand, 1) := by decide +kernel
theorem dJ11_lowSurrogate_5068e_5 : decode cJ11_lowSurrogate_5068e 5 = .ok (.ldc 76, 2) := by decide +kernel
theorem dJ11_lowSurrogate_5068e_7 : decode cJ11_lowSurrogate_5068e 7 = .ok (.iadd, 1) := by decide +kernel
theorem dJ11_lowSurrogate_5068e_8 : decode cJ11_lowSurrogate_5068e 8 = .ok (.i2c, 1) := by decide +kernel
theorem dJ11_lowSurrogate_5068e_9 : decode cJ11_lowSurrogate_5068e 9 = .ok (.ireturn, 1) := by decide +kernel
theorem dJx29ce0_ordinal_8abf5_0 : decode cJx29ce0_ordinal_8abf5 0 = .ok (.aload_n 0, 1) := by decide +kernel
theorem dJx29ce0_ordinal_8abf5_1 : decode cJx29ce0_ordinal_8abf5 1 = .ok (.getfield 7, 3) := by decide +kernel
theorem dJx29ce0_ordinal_8abf5_4 : decode cJx29ce0_ordinal_8abf5 4 = .ok (.ireturn, 1) := by decide +kernel
theorem dJ9_max_7cf53_0 : decode cJ9_max_7cf53 0 = .ok (.iload_n 0, 1) := by decide +kernel
theorem dJ9_max_7cf53_1 : decode cJ9_max_7cf53 1 = .ok (.iload_n 1, 1) := by decide +kernel
theorem dJ9_max_7cf53_2 : decode cJ9_max_7cf53 2 = .ok (.if_icmp .lt 7, 3) := by decide +kernel
theorem dJ9_max_7cf53_5 : decode cJ9_max_7cf53 5 = .ok (.iload_n 0, 1) := by decide +kernel
theorem dJ9_max_7cf53_6 : decode cJ9_max_7cf53 6 = .ok (.goto 4, 3) := by decide +kernel
theorem dJ9_max_7cf53_9 : decode cJ9_max_7cf53 9 = .ok (.iload_n 1, 1) := by decide +kernel
theorem dJ9_max_7cf53_10 : decode cJ9_max_7cf53 10 = .ok (.ireturn, 1) := by decide +kernel
theorem dJ9_min_7cf53_0 : decode cJ9_min_7cf53 0 = .ok (.iload_n 0, 1) := by decide +kernel
theorem dJ9_min_7cf53_1 : decode cJ9_min_7cf53 1 = .ok (.iload_n 1, 1) := by decide +kernel
theorem dJ9_min_7cf53_2 : decode cJ9_min_7cf53 2 = .ok (.if_icmp .gt 7, 3) := by decide +kernel
theorem dJ9_min_7cf53_5 : decode cJ9_min_7cf53 5 = .ok (.iload_n 0, 1) := by decide +kernel
theorem dJ9_min_7cf53_6 : decode cJ9_min_7cf53 6 = .ok (.goto 4, 3) := by decide +kernel
theorem dJ9_min_7cf53_9 : decode cJ9_min_7cf53 9 = .ok (.iload_n 1, 1) := by decide +kernel
theorem dJ9_min_7cf53_10 : decode cJ9_min_7cf53 10 = .ok (.ireturn, 1) := by decide +kernel
theorem dJ0_length_8abf5_0 : decode cJ0_length_8abf5 0 = .ok (.aload_n 0, 1) := by decide +kernel
theorem dJ0_length_8abf5_1 : decode cJ0_length_8abf5 1 = .ok (.getfield 9, 3) := by decide +kernel
theorem dJ0_length_8abf5_4 : decode cJ0_length_8abf5 4 = .ok (.arraylength, 1) := by decide +kernel
theorem dJ0_length_8abf5_5 : decode cJ0_length_8abf5 5 = .ok (.aload_n 0, 1) := by decide +kernel
theorem dJ0_length_8abf5_6 : decode cJ0_length_8abf5 6 = .ok (.invokevirtual 335, 3) := by decide +kernel
theorem dJ0_length_8abf5_9 : decode cJ0_length_8abf5 9 = .ok (.ishr, 1) := by decide +kernel
theorem dJ0_length_8abf5_10 : decode cJ0_length_8abf5 10 = .ok (.ireturn, 1) := by decide +kernel
theorem dJ0_charAt_5068e_0 : decode cJ0_charAt_5068e 0 = .ok (.aload_n 0, 1) := by decide +kernel
theorem dJ0_charAt_5068e_1 : decode cJ0_charAt_5068e 1 = .ok (.invokevirtual 492, 3) := by decide +kernel
theorem dJ0_charAt_5068e_4 : decode cJ0_charAt_5068e 4 = .ok (.ifCond .eq 12, 3) := by decide +kernel
theorem dJ0_charAt_5068e_7 : decode cJ0_charAt_5068e 7 = .ok (.aload_n 0, 1) := by decide +kernel
theorem dJ0_charAt_5068e_8 : decode cJ0_charAt_5068e 8 = .ok (.getfield 9, 3) := by decide +kernel
theorem dJ0_charAt_5068e_11 : decode cJ0_charAt_5068e 11 = .ok (.iload_n 1, 1) := by decide +kernel
theorem dJ0_charAt_5068e_12 : decode cJ0_charAt_5068e 12 = .ok (.invokestatic 495, 3) := by decide +kernel
theorem dJ0_charAt_5068e_15 : decode cJ0_charAt_5068e 15 = .ok (.ireturn, 1) := by decide +kernel
theorem dJ0_charAt_5068e_16 : decode cJ0_charAt_5068e 16 = .ok (.aload_n 0, 1) := by decide +kernel
theorem dJ0_charAt_5068e_17 : decode cJ0_charAt_5068e 17 = .ok (.getfield 9, 3) := by decide +kernel
theorem dJ0_charAt_5068e_20 : decode cJ0_charAt_5068e 20 = .ok (.iload_n 1, 1) := by decide +kernel
theorem dJ0_charAt_5068e_21 : decode cJ0_charAt_5068e 21 = .ok (.invokestatic 498, 3) := by decide +kernel
theorem dJ0_charAt_5068e_24 : decode cJ0_charAt_5068e 24 = .ok (.ireturn, 1) := by decide +kernel
theorem dJ0_indexOf_0f7a4_0 : decode cJ0_indexOf_0f7a4 0 = .ok (.aload_n 0, 1) := by decide +kernel
theorem dJ0_indexOf_0f7a4_1 : decode cJ0_indexOf_0f7a4 1 = .ok (.iload_n 1, 1) := by decide +kernel
theorem dJ0_indexOf_0f7a4_2 : decode cJ0_indexOf_0f7a4 2 = .ok (.iconst 0, 1) := by decide +kernel
theorem dJ0_indexOf_0f7a4_3 : decode cJ0_indexOf_0f7a4 3 = .ok (.invokevirtual 633, 3) := by decide +kernel
theorem dJ0_indexOf_0f7a4_6 : decode cJ0_indexOf_0f7a4 6 = .ok (.ireturn, 1) := by decide +kernel
theorem dJ0_indexOf_7cf53_0 : decode cJ0_indexOf_7cf53 0 = .ok (.aload_n 0, 1) := by decide +kernel
theorem dJ0_indexOf_7cf53_1 : decode cJ0_indexOf_7cf53 1 = .ok (.invokevirtual 492, 3) := by decide +kernel
theorem dJ0_indexOf_7cf53_4 : decode cJ0_indexOf_7cf53 4 = .ok (.ifCond .eq 19, 3) := by decide +kernel
theorem dJ0_indexOf_7cf53_7 : decode cJ0_indexOf_7cf53 7 = .ok (.aload_n 0, 1) := by decide +kernel
theorem dJ0_indexOf_7cf53_8 : decode cJ0_indexOf_7cf53 8 = .ok (.getfield 9, 3) := by decide +kernel
theorem dJ0_indexOf_7cf53_11 : decode cJ0_indexOf_7cf53 11 = .ok (.iload_n 1, 1) := by decide +kernel
theorem dJ0_indexOf_7cf53_12 : decode cJ0_indexOf_7cf53 12 = .ok (.iload_n 2, 1) := by decide +kernel
theorem dJ0_indexOf_7cf53_13 : decode cJ0_indexOf_7cf53 13 = .ok (.aload_n 0, 1) := by decide +kernel
theorem dJ0_indexOf_7cf53_14 : decode cJ0_indexOf_7cf53 14 = .ok (.invokevirtual 505, 3) := by decide +kernel
theorem dJ0_indexOf_7cf53_17 : decode cJ0_indexOf_7cf53 17 = .ok (.invokestatic 637, 3) := by decide +kernel
theorem dJ0_indexOf_7cf53_20 : decode cJ0_indexOf_7cf53 20 = .ok (.goto 16, 3) := by decide +kernel
theorem dJ0_indexOf_7cf53_23 : decode cJ0_indexOf_7cf53 23 = .ok (.aload_n 0, 1) := by decide +kernel
theorem dJ0_indexOf_7cf53_24 : decode cJ0_indexOf_7cf53 24 = .ok (.getfield 9, 3) := by decide +kernel
theorem dJ0_indexOf_7cf53_27 : decode cJ0_indexOf_7cf53 27 = .ok (.iload_n 1, 1) := by decide +kernel
theorem dJ0_indexOf_7cf53_28 : decode cJ0_indexOf_7cf53 28 = .ok (.iload_n 2, 1) := by decide +kernel
theorem dJ0_indexOf_7cf53_29 : decode cJ0_indexOf_7cf53 29 = .ok (.aload_n 0, 1) := by decide +kernel
theorem dJ0_indexOf_7cf53_30 : decode cJ0_indexOf_7cf53 30 = .ok (.invokevirtual 505, 3) := by decide +kernel
theorem dJ0_indexOf_7cf53_33 : decode cJ0_indexOf_7cf53 33 = .ok (.invokestatic 640, 3) := by decide +kernel
theorem dJ0_indexOf_7cf53_36 : decode cJ0_indexOf_7cf53 36 = .ok (.ireturn, 1) := by decide +kernel
theorem dJ0_coder_7d493_0 : decode cJ0_coder_7d493 0 = .ok (.getstatic 38, 3) := by decide +kernel
theorem dJ0_coder_7d493_3 : decode cJ0_coder_7d493 3 = .ok (.ifCond .eq 10, 3) := by decide +kernel
theorem dJ0_coder_7d493_6 : decode cJ0_coder_7d493 6 = .ok (.aload_n 0, 1) := by decide +kernel
theorem dJ0_coder_7d493_7 : decode cJ0_coder_7d493 7 = .ok (.getfield 15, 3) := by decide +kernel
theorem dJ0_coder_7d493_10 : decode cJ0_coder_7d493 10 = .ok (.goto 4, 3) := by decide +kernel
theorem dJ0_coder_7d493_13 : decode cJ0_coder_7d493 13 = .ok (.iconst 1, 1) := by decide +kernel
theorem dJ0_coder_7d493_14 : decode cJ0_coder_7d493 14 = .ok (.ireturn, 1) := by decide +kernel
theorem dJ0_isLatin1_aae02_0 : decode cJ0_isLatin1_aae02 0 = .ok (.getstatic 38, 3) := by decide +kernel
theorem dJ0_isLatin1_aae02_3 : decode cJ0_isLatin1_aae02 3 = .ok (.ifCond .eq 14, 3) := by decide +kernel
theorem dJ0_isLatin1_aae02_6 : decode cJ0_isLatin1_aae02 6 = .ok (.aload_n 0, 1) := by decide +kernel
theorem dJ0_isLatin1_aae02_7 : decode cJ0_isLatin1_aae02 7 = .ok (.getfield 15, 3) := by decide +kernel
theorem dJ0_isLatin1_aae02_10 : decode cJ0_isLatin1_aae02 10 = .ok (.ifCond .ne 7, 3) := by decide +kernel
theorem dJ0_isLatin1_aae02_13 : decode cJ0_isLatin1_aae02 13 = .ok (.iconst 1, 1) := by decide +kernel
theorem dJ0_isLatin1_aae02_14 : decode cJ0_isLatin1_aae02 14 = .ok (.goto 4, 3) := by decide +kernel
theorem dJ0_isLatin1_aae02_17 : decode cJ0_isLatin1_aae02 17 = .ok (.iconst 0, 1) := by decide +kernel
theorem dJ0_isLatin1_aae02_18 : decode cJ0_isLatin1_aae02 18 = .ok (.ireturn, 1) := by decide +kernel
theorem dJ0_checkIndex_df160_0 : decode cJ0_checkIndex_df160 0 = .ok (.iload_n 0, 1) := by decide +kernel
theorem dJ0_checkIndex_df160_1 : decode cJ0_checkIndex_df160 1 = .ok (.iload_n 1, 1) := by decide +kernel
theorem dJ0_checkIndex_df160_2 : decode cJ0_checkIndex_df160 2 = .ok (.getstatic 1053, 3) := by decide +kernel
theorem dJ0_checkIndex_df160_5 : decode cJ0_checkIndex_df160 5 = .ok (.invokestatic 1059, 3) := by decide +kernel
theorem dJ0_checkIndex_df160_8 : decode cJ0_checkIndex_df160 8 = .ok (.pop, 1) := by decide +kernel
theorem dJ0_checkIndex_df160_9 : decode cJ0_checkIndex_df160 9 = .ok (.return_, 1) := by decide +kernel
theorem dJ0_checkBoundsBeginEnd_23922_0 : decode cJ0_checkBoundsBeginEnd_23922 0 = .ok (.iload_n 0, 1) := by decide +kernel
theorem dJ0_checkBoundsBeginEnd_23922_1 : decode cJ0_checkBoundsBeginEnd_23922 1 = .ok (.iload_n 1, 1) := by decide +kernel
theorem dJ0_checkBoundsBeginEnd_23922_2 : decode cJ0_checkBoundsBeginEnd_23922 2 = .ok (.iload_n 2, 1) := by decide +kernel
theorem dJ0_checkBoundsBeginEnd_23922_3 : decode cJ0_checkBoundsBeginEnd_23922 3 = .ok (.getstatic 1053, 3) := by decide +kernel
theorem dJ0_checkBoundsBeginEnd_23922_6 : decode cJ0_checkBoundsBeginEnd_23922 6 = .ok (.invokestatic 1062, 3) := by decide +kernel
theorem dJ0_checkBoundsBeginEnd_23922_9 : decode cJ0_checkBoundsBeginEnd_23922 9 = .ok (.pop, 1) := by decide +kernel
theorem dJ0_checkBoundsBeginEnd_23922_10 : decode cJ0_checkBoundsBeginEnd_23922 10 = .ok (.return_, 1) := by decide +kernel
theorem dJ1_charAt_3b067_0 : decode cJ1_charAt_3b067 0 = .ok (.iload_n 1, 1) := by decide +kernel
theorem dJ1_charAt_3b067_1 : decode cJ1_charAt_3b067 1 = .ok (.aload_n 0, 1) := by decide +kernel
theorem dJ1_charAt_3b067_2 : decode cJ1_charAt_3b067 2 = .ok (.arraylength, 1) := by decide +kernel
theorem dJ1_charAt_3b067_3 : decode cJ1_charAt_3b067 3 = .ok (.invokestatic 9, 3) := by decide +kernel
theorem dJ1_charAt_3b067_6 : decode cJ1_charAt_3b067 6 = .ok (.aload_n 0, 1) := by decide +kernel
theorem dJ1_charAt_3b067_7 : decode cJ1_charAt_3b067 7 = .ok (.iload_n 1, 1) := by decide +kernel
theorem dJ1_charAt_3b067_8 : decode cJ1_charAt_3b067 8 = .ok (.baload, 1) := by decide +kernel
theorem dJ1_charAt_3b067_9 : decode cJ1_charAt_3b067 9 = .ok (.sipush 255, 3) := by decide +kernel
theorem dJ1_charAt_3b067_12 : decode cJ1_charAt_3b067 12 = .ok (.iand, 1) := by decide +kernel
theorem dJ1_charAt_3b067_13 : decode cJ1_charAt_3b067 13 = .ok (.i2c, 1) := by decide +kernel
theorem dJ1_charAt_3b067_14 : decode cJ1_charAt_3b067 14 = .ok (.ireturn, 1) := by decide +kernel
theorem dJ1_canEncode_9a6ad_0 : decode cJ1_canEncode_9a6ad 0 = .ok (.iload_n 0, 1) := by decide +kernel
theorem dJ1_canEncode_9a6ad_1 : decode cJ1_canEncode_9a6ad 1 = .ok (.ifCond .lt 14, 3) := by decide +kernel
theorem dJ1_canEncode_9a6ad_4 : decode cJ1_canEncode_9a6ad 4 = .ok (.iload_n 0, 1) := by decide +kernel
theorem dJ1_canEncode_9a6ad_5 : decode cJ1_canEncode_9a6ad 5 = .ok (.sipush 255, 3) := by decide +kernel
theorem dJ1_canEncode_9a6ad_8 : decode cJ1_canEncode_9a6ad 8 = .ok (.if_icmp .gt 7, 3) := by decide +kernel
theorem dJ1_canEncode_9a6ad_11 : decode cJ1_canEncode_9a6ad 11 = .ok (.iconst 1, 1) := by decide +kernel
theorem dJ1_canEncode_9a6ad_12 : decode cJ1_canEncode_9a6ad 12 = .ok (.goto 4, 3) := by decide +kernel
theorem dJ1_canEncode_9a6ad_15 : decode cJ1_canEncode_9a6ad 15 = .ok (.iconst 0, 1) := by decide +kernel
theorem dJ1_canEncode_9a6ad_16 : decode cJ1_canEncode_9a6ad 16 = .ok (.ireturn, 1) := by decide +kernel
theorem dJ1_indexOf_4cfef_0 : decode cJ1_indexOf_4cfef 0 = .ok (.iload_n 1, 1) := by decide +kernel
theorem dJ1_indexOf_4cfef_1 : decode cJ1_indexOf_4cfef 1 = .ok (.invokestatic 88, 3) := by decide +kernel
theorem dJ1_indexOf_4cfef_4 : decode cJ1_indexOf_4cfef 4 = .ok (.ifCond .ne 5, 3) := by decide +kernel
theorem dJ1_indexOf_4cfef_7 : decode cJ1_indexOf_4cfef 7 = .ok (.iconst (-1), 1) := by decide +kernel
theorem dJ1_indexOf_4cfef_8 : decode cJ1_indexOf_4cfef 8 = .ok (.ireturn, 1) := by decide +kernel
theorem dJ1_indexOf_4cfef_9 : decode cJ1_indexOf_4cfef 9 = .ok (.iload_n 2, 1) := by decide +kernel
theorem dJ1_indexOf_4cfef_10 : decode cJ1_indexOf_4cfef 10 = .ok (.iconst 0, 1) := by decide +kernel
theorem dJ1_indexOf_4cfef_11 : decode cJ1_indexOf_4cfef 11 = .ok (.invokestatic 92, 3) := by decide +kernel
theorem dJ1_indexOf_4cfef_14 : decode cJ1_indexOf_4cfef 14 = .ok (.istore_n 2, 1) := by decide +kernel
theorem dJ1_indexOf_4cfef_15 : decode cJ1_indexOf_4cfef 15 = .ok (.iload_n 3, 1) := by decide +kernel
theorem dJ1_indexOf_4cfef_16 : decode cJ1_indexOf_4cfef 16 = .ok (.aload_n 0, 1) := by decide +kernel
theorem dJ1_indexOf_4cfef_17 : decode cJ1_indexOf_4cfef 17 = .ok (.arraylength, 1) := by decide +kernel
theorem dJ1_indexOf_4cfef_18 : decode cJ1_indexOf_4cfef 18 = .ok (.invokestatic 38, 3) := by decide +kernel
theorem dJ1_indexOf_4cfef_21 : decode cJ1_indexOf_4cfef 21 = .ok (.istore_n 3, 1) := by decide +kernel
theorem dJ1_indexOf_4cfef_22 : decode cJ1_indexOf_4cfef 22 = .ok (.iload_n 2, 1) := by decide +kernel
theorem dJ1_indexOf_4cfef_23 : decode cJ1_indexOf_4cfef 23 = .ok (.iload_n 3, 1) := by decide +kernel
theorem dJ1_indexOf_4cfef_24 : decode cJ1_indexOf_4cfef 24 = .ok (.if_icmp .lt 5, 3) := by decide +kernel
theorem dJ1_indexOf_4cfef_27 : decode cJ1_indexOf_4cfef 27 = .ok (.iconst (-1), 1) := by decide +kernel
theorem dJ1_indexOf_4cfef_28 : decode cJ1_indexOf_4cfef 28 = .ok (.ireturn, 1) := by decide +kernel
theorem dJ1_indexOf_4cfef_29 : decode cJ1_indexOf_4cfef 29 = .ok (.aload_n 0, 1) := by decide +kernel
theorem dJ1_indexOf_4cfef_30 : decode cJ1_indexOf_4cfef 30 = .ok (.iload_n 1, 1) := by decide +kernel
theorem dJ1_indexOf_4cfef_31 : decode cJ1_indexOf_4cfef 31 = .ok (.iload_n 2, 1) := by decide +kernel
theorem dJ1_indexOf_4cfef_32 : decode cJ1_indexOf_4cfef 32 = .ok (.iload_n 3, 1) := by decide +kernel
theorem dJ1_indexOf_4cfef_33 : decode cJ1_indexOf_4cfef 33 = .ok (.invokestatic 95, 3) := by decide +kernel
theorem dJ1_indexOf_4cfef_36 : decode cJ1_indexOf_4cfef 36 = .ok (.ireturn, 1) := by decide +kernel
theorem dJ1_indexOfChar_4cfef_0 : decode cJ1_indexOfChar_4cfef 0 = .ok (.iload_n 1, 1) := by decide +kernel
theorem dJ1_indexOfChar_4cfef_1 : decode cJ1_indexOfChar_4cfef 1 = .ok (.i2b, 1) := by decide +kernel
theorem dJ1_indexOfChar_4cfef_2 : decode cJ1_indexOfChar_4cfef 2 = .ok (.istore 4, 2) := by decide +kernel
theorem dJ1_indexOfChar_4cfef_4 : decode cJ1_indexOfChar_4cfef 4 = .ok (.iload_n 2, 1) := by decide +kernel
theorem dJ1_indexOfChar_4cfef_5 : decode cJ1_indexOfChar_4cfef 5 = .ok (.istore 5, 2) := by decide +kernel
theorem dJ1_indexOfChar_4cfef_7 : decode cJ1_indexOfChar_4cfef 7 = .ok (.iload 5, 2) := by decide +kernel
theorem dJ1_indexOfChar_4cfef_9 : decode cJ1_indexOfChar_4cfef 9 = .ok (.iload_n 3, 1) := by decide +kernel
theorem dJ1_indexOfChar_4cfef_10 : decode cJ1_indexOfChar_4cfef 10 = .ok (.if_icmp .ge 21, 3) := by decide +kernel
theorem dJ1_indexOfChar_4cfef_13 : decode cJ1_indexOfChar_4cfef 13 = .ok (.aload_n 0, 1) := by decide +kernel
theorem dJ1_indexOfChar_4cfef_14 : decode cJ1_indexOfChar_4cfef 14 = .ok (.iload 5, 2) := by decide +kernel
theorem dJ1_indexOfChar_4cfef_16 : decode cJ1_indexOfChar_4cfef 16 = .ok (.baload, 1) := by decide +kernel
theorem dJ1_indexOfChar_4cfef_17 : decode cJ1_indexOfChar_4cfef 17 = .ok (.iload 4, 2) := by decide +kernel
theorem dJ1_indexOfChar_4cfef_19 : decode cJ1_indexOfChar_4cfef 19 = .ok (.if_icmp .ne 6, 3) := by decide +kernel
theorem dJ1_indexOfChar_4cfef_22 : decode cJ1_indexOfChar_4cfef 22 = .ok (.iload 5, 2) := by decide +kernel
theorem dJ1_indexOfChar_4cfef_24 : decode cJ1_indexOfChar_4cfef 24 = .ok (.ireturn, 1) := by decide +kernel
theorem dJ1_indexOfChar_4cfef_25 : decode cJ1_indexOfChar_4cfef 25 = .ok (.iinc 5 1, 3) := by decide +kernel
theorem dJ1_indexOfChar_4cfef_28 : decode cJ1_indexOfChar_4cfef 28 = .ok (.goto (-21), 3) := by decide +kernel
theorem dJ1_indexOfChar_4cfef_31 : decode cJ1_indexOfChar_4cfef 31 = .ok (.iconst (-1), 1) := by decide +kernel
theorem dJ1_indexOfChar_4cfef_32 : decode cJ1_indexOfChar_4cfef 32 = .ok (.ireturn, 1) := by decide +kernel
theorem dJ2_getChar_3b067_0 : decode cJ2_getChar_3b067 0 = .ok (.getstatic 44, 3) := by decide +kernel
theorem dJ2_getChar_3b067_3 : decode cJ2_getChar_3b067 3 = .ok (.ifCond .ne 25, 3) := by decide +kernel
theorem dJ2_getChar_3b067_6 : decode cJ2_getChar_3b067 6 = .ok (.iload_n 1, 1) := by decide +kernel
theorem dJ2_getChar_3b067_7 : decode cJ2_getChar_3b067 7 = .ok (.ifCond .lt 11, 3) := by decide +kernel
theorem dJ2_getChar_3b067_10 : decode cJ2_getChar_3b067 10 = .ok (.iload_n 1, 1) := by decide +kernel
theorem dJ2_getChar_3b067_11 : decode cJ2_getChar_3b067 11 = .ok (.aload_n 0, 1) := by decide +kernel
theorem dJ2_getChar_3b067_12 : decode cJ2_getChar_3b067 12 = .ok (.invokestatic 48, 3) := by decide +kernel
theorem dJ2_getChar_3b067_15 : decode cJ2_getChar_3b067 15 = .ok (.if_icmp .lt 13, 3) := by decide +kernel
theorem dJ2_getChar_3b067_18 : decode cJ2_getChar_3b067 18 = .ok (.new 52, 3) := by decide +kernel
theorem dJ2_getChar_3b067_21 : decode cJ2_getChar_3b067 21 = .ok (.dup, 1) := by decide +kernel
theorem dJ2_getChar_3b067_22 : decode cJ2_getChar_3b067 22 = .ok (.ldc 54, 2) := by decide +kernel
theorem dJ2_getChar_3b067_24 : decode cJ2_getChar_3b067 24 = .ok (.invokespecial 56, 3) := by decide +kernel
theorem dJ2_getChar_3b067_27 : decode cJ2_getChar_3b067 27 = .ok (.athrow, 1) := by decide +kernel
theorem dJ2_getChar_3b067_28 : decode cJ2_getChar_3b067 28 = .ok (.iload_n 1, 1) := by decide +kernel
theorem dJ2_getChar_3b067_29 : decode cJ2_getChar_3b067 29 = .ok (.iconst 1, 1) := by decide +kernel
theorem dJ2_getChar_3b067_30 : decode cJ2_getChar_3b067 30 = .ok (.ishl, 1) := by decide +kernel
theorem dJ2_getChar_3b067_31 : decode cJ2_getChar_3b067 31 = .ok (.istore_n 1, 1) := by decide +kernel
theorem dJ2_getChar_3b067_32 : decode cJ2_getChar_3b067 32 = .ok (.aload_n 0, 1) := by decide +kernel
theorem dJ2_getChar_3b067_33 : decode cJ2_getChar_3b067 33 = .ok (.iload_n 1, 1) := by decide +kernel
theorem dJ2_getChar_3b067_34 : decode cJ2_getChar_3b067 34 = .ok (.iinc 1 1, 3) := by decide +kernel
theorem dJ2_getChar_3b067_37 : decode cJ2_getChar_3b067 37 = .ok (.baload, 1) := by decide +kernel
theorem dJ2_getChar_3b067_38 : decode cJ2_getChar_3b067 38 = .ok (.sipush 255, 3) := by decide +kernel
theorem dJ2_getChar_3b067_41 : decode cJ2_getChar_3b067 41 = .ok (.iand, 1) := by decide +kernel
theorem dJ2_getChar_3b067_42 : decode cJ2_getChar_3b067 42 = .ok (.getstatic 59, 3) := by decide +kernel
theorem dJ2_getChar_3b067_45 : decode cJ2_getChar_3b067 45 = .ok (.ishl, 1) := by decide +kernel
theorem dJ2_getChar_3b067_46 : decode cJ2_getChar_3b067 46 = .ok (.aload_n 0, 1) := by decide +kernel
theorem dJ2_getChar_3b067_47 : decode cJ2_getChar_3b067 47 = .ok (.iload_n 1, 1) := by decide +kernel
theorem dJ2_getChar_3b067_48 : decode cJ2_getChar_3b067 48 = .ok (.baload, 1) := by decide +kernel
theorem dJ2_getChar_3b067_49 : decode cJ2_getChar_3b067 49 = .ok (.sipush 255, 3) := by decide +kernel
theorem dJ2_getChar_3b067_52 : decode cJ2_getChar_3b067 52 = .ok (.iand, 1) := by decide +kernel
theorem dJ2_getChar_3b067_53 : decode cJ2_getChar_3b067 53 = .ok (.getstatic 63, 3) := by decide +kernel
theorem dJ2_getChar_3b067_56 : decode cJ2_getChar_3b067 56 = .ok (.ishl, 1) := by decide +kernel
theorem dJ2_getChar_3b067_57 : decode cJ2_getChar_3b067 57 = .ok (.ior, 1) := by decide +kernel
theorem dJ2_getChar_3b067_58 : decode cJ2_getChar_3b067 58 = .ok (.i2c, 1) := by decide +kernel
theorem dJ2_getChar_3b067_59 : decode cJ2_getChar_3b067 59 = .ok (.ireturn, 1) := by decide +kernel
theorem dJ2_length_9d52b_0 : decode cJ2_length_9d52b 0 = .ok (.aload_n 0, 1) := by decide +kernel
theorem dJ2_length_9d52b_1 : decode cJ2_length_9d52b 1 = .ok (.arraylength, 1) := by decide +kernel
theorem dJ2_length_9d52b_2 : decode cJ2_length_9d52b 2 = .ok (.iconst 1, 1) := by decide +kernel
theorem dJ2_length_9d52b_3 : decode cJ2_length_9d52b 3 = .ok (.ishr, 1) := by decide +kernel
theorem dJ2_length_9d52b_4 : decode cJ2_length_9d52b 4 = .ok (.ireturn, 1) := by decide +kernel
theorem dJ2_indexOf_4cfef_0 : decode cJ2_indexOf_4cfef 0 = .ok (.iload_n 2, 1) := by decide +kernel
theorem dJ2_indexOf_4cfef_1 : decode cJ2_indexOf_4cfef 1 = .ok (.iconst 0, 1) := by decide +kernel
theorem dJ2_indexOf_4cfef_2 : decode cJ2_indexOf_4cfef 2 = .ok (.invokestatic 224, 3) := by decide +kernel
theorem dJ2_indexOf_4cfef_5 : decode cJ2_indexOf_4cfef 5 = .ok (.istore_n 2, 1) := by decide +kernel
theorem dJ2_indexOf_4cfef_6 : decode cJ2_indexOf_4cfef 6 = .ok (.iload_n 3, 1) := by decide +kernel
theorem dJ2_indexOf_4cfef_7 : decode cJ2_indexOf_4cfef 7 = .ok (.aload_n 0, 1) := by decide +kernel
theorem dJ2_indexOf_4cfef_8 : decode cJ2_indexOf_4cfef 8 = .ok (.arraylength, 1) := by decide +kernel
theorem dJ2_indexOf_4cfef_9 : decode cJ2_indexOf_4cfef 9 = .ok (.iconst 1, 1) := by decide +kernel
theorem dJ2_indexOf_4cfef_10 : decode cJ2_indexOf_4cfef 10 = .ok (.ishr, 1) := by decide +kernel
theorem dJ2_indexOf_4cfef_11 : decode cJ2_indexOf_4cfef 11 = .ok (.invokestatic 183, 3) := by decide +kernel
theorem dJ2_indexOf_4cfef_14 : decode cJ2_indexOf_4cfef 14 = .ok (.istore_n 3, 1) := by decide +kernel
theorem dJ2_indexOf_4cfef_15 : decode cJ2_indexOf_4cfef 15 = .ok (.iload_n 2, 1) := by decide +kernel
theorem dJ2_indexOf_4cfef_16 : decode cJ2_indexOf_4cfef 16 = .ok (.iload_n 3, 1) := by decide +kernel
theorem dJ2_indexOf_4cfef_17 : decode cJ2_indexOf_4cfef 17 = .ok (.if_icmp .lt 5, 3) := by decide +kernel
theorem dJ2_indexOf_4cfef_20 : decode cJ2_indexOf_4cfef 20 = .ok (.iconst (-1), 1) := by decide +kernel
theorem dJ2_indexOf_4cfef_21 : decode cJ2_indexOf_4cfef 21 = .ok (.ireturn, 1) := by decide +kernel
theorem dJ2_indexOf_4cfef_22 : decode cJ2_indexOf_4cfef 22 = .ok (.iload_n 1, 1) := by decide +kernel
theorem dJ2_indexOf_4cfef_23 : decode cJ2_indexOf_4cfef 23 = .ok (.ldc 227, 2) := by decide +kernel
theorem dJ2_indexOf_4cfef_25 : decode cJ2_indexOf_4cfef 25 = .ok (.if_icmp .ge 11, 3) := by decide +kernel
theorem dJ2_indexOf_4cfef_28 : decode cJ2_indexOf_4cfef 28 = .ok (.aload_n 0, 1) := by decide +kernel
theorem dJ2_indexOf_4cfef_29 : decode cJ2_indexOf_4cfef 29 = .ok (.iload_n 1, 1) := by decide +kernel
theorem dJ2_indexOf_4cfef_30 : decode cJ2_indexOf_4cfef 30 = .ok (.iload_n 2, 1) := by decide +kernel
theorem dJ2_indexOf_4cfef_31 : decode cJ2_indexOf_4cfef 31 = .ok (.iload_n 3, 1) := by decide +kernel
theorem dJ2_indexOf_4cfef_32 : decode cJ2_indexOf_4cfef 32 = .ok (.invokestatic 228, 3) := by decide +kernel
theorem dJ2_indexOf_4cfef_35 : decode cJ2_indexOf_4cfef 35 = .ok (.ireturn, 1) := by decide +kernel
theorem dJ2_indexOf_4cfef_36 : decode cJ2_indexOf_4cfef 36 = .ok (.aload_n 0, 1) := by decide +kernel
theorem dJ2_indexOf_4cfef_37 : decode cJ2_indexOf_4cfef 37 = .ok (.iload_n 1, 1) := by decide +kernel
theorem dJ2_indexOf_4cfef_38 : decode cJ2_indexOf_4cfef 38 = .ok (.iload_n 2, 1) := by decide +kernel
theorem dJ2_indexOf_4cfef_39 : decode cJ2_indexOf_4cfef 39 = .ok (.iload_n 3, 1) := by decide +kernel
theorem dJ2_indexOf_4cfef_40 : decode cJ2_indexOf_4cfef 40 = .ok (.invokestatic 232, 3) := by decide +kernel
theorem dJ2_indexOf_4cfef_43 : decode cJ2_indexOf_4cfef 43 = .ok (.ireturn, 1) := by decide +kernel
theorem dJ2_indexOfChar_4cfef_0 : decode cJ2_indexOfChar_4cfef 0 = .ok (.iload_n 2, 1) := by decide +kernel
theorem dJ2_indexOfChar_4cfef_1 : decode cJ2_indexOfChar_4cfef 1 = .ok (.iload_n 3, 1) := by decide +kernel
theorem dJ2_indexOfChar_4cfef_2 : decode cJ2_indexOfChar_4cfef 2 = .ok (.aload_n 0, 1) := by decide +kernel
theorem dJ2_indexOfChar_4cfef_3 : decode cJ2_indexOfChar_4cfef 3 = .ok (.invokestatic 96, 3) := by decide +kernel
theorem dJ2_indexOfChar_4cfef_6 : decode cJ2_indexOfChar_4cfef 6 = .ok (.aload_n 0, 1) := by decide +kernel
theorem dJ2_indexOfChar_4cfef_7 : decode cJ2_indexOfChar_4cfef 7 = .ok (.iload_n 1, 1) := by decide +kernel
theorem dJ2_indexOfChar_4cfef_8 : decode cJ2_indexOfChar_4cfef 8 = .ok (.iload_n 2, 1) := by decide +kernel
theorem dJ2_indexOfChar_4cfef_9 : decode cJ2_indexOfChar_4cfef 9 = .ok (.iload_n 3, 1) := by decide +kernel
theorem dJ2_indexOfChar_4cfef_10 : decode cJ2_indexOfChar_4cfef 10 = .ok (.invokestatic 244, 3) := by decide +kernel
theorem dJ2_indexOfChar_4cfef_13 : decode cJ2_indexOfChar_4cfef 13 = .ok (.ireturn, 1) := by decide +kernel
theorem dJ2_indexOfCharUnsafe_4cfef_0 : decode cJ2_indexOfCharUnsafe_4cfef 0 = .ok (.iload_n 2, 1) := by decide +kernel
theorem dJ2_indexOfCharUnsafe_4cfef_1 : decode cJ2_indexOfCharUnsafe_4cfef 1 = .ok (.istore 4, 2) := by decide +kernel
theorem dJ2_indexOfCharUnsafe_4cfef_3 : decode cJ2_indexOfCharUnsafe_4cfef 3 = .ok (.iload 4, 2) := by decide +kernel
theorem dJ2_indexOfCharUnsafe_4cfef_5 : decode cJ2_indexOfCharUnsafe_4cfef 5 = .ok (.iload_n 3, 1) := by decide +kernel
theorem dJ2_indexOfCharUnsafe_4cfef_6 : decode cJ2_indexOfCharUnsafe_4cfef 6 = .ok (.if_icmp .ge 22, 3) := by decide +kernel
theorem dJ2_indexOfCharUnsafe_4cfef_9 : decode cJ2_indexOfCharUnsafe_4cfef 9 = .ok (.aload_n 0, 1) := by decide +kernel
theorem dJ2_indexOfCharUnsafe_4cfef_10 : decode cJ2_indexOfCharUnsafe_4cfef 10 = .ok (.iload 4, 2) := by decide +kernel
theorem dJ2_indexOfCharUnsafe_4cfef_12 : decode cJ2_indexOfCharUnsafe_4cfef 12 = .ok (.invokestatic 71, 3) := by decide +kernel
theorem dJ2_indexOfCharUnsafe_4cfef_15 : decode cJ2_indexOfCharUnsafe_4cfef 15 = .ok (.iload_n 1, 1) := by decide +kernel
theorem dJ2_indexOfCharUnsafe_4cfef_16 : decode cJ2_indexOfCharUnsafe_4cfef 16 = .ok (.if_icmp .ne 6, 3) := by decide +kernel
theorem dJ2_indexOfCharUnsafe_4cfef_19 : decode cJ2_indexOfCharUnsafe_4cfef 19 = .ok (.iload 4, 2) := by decide +kernel
theorem dJ2_indexOfCharUnsafe_4cfef_21 : decode cJ2_indexOfCharUnsafe_4cfef 21 = .ok (.ireturn, 1) := by decide +kernel
theorem dJ2_indexOfCharUnsafe_4cfef_22 : decode cJ2_indexOfCharUnsafe_4cfef 22 = .ok (.iinc 4 1, 3) := by decide +kernel
theorem dJ2_indexOfCharUnsafe_4cfef_25 : decode cJ2_indexOfCharUnsafe_4cfef 25 = .ok (.goto (-22), 3) := by decide +kernel
theorem dJ2_indexOfCharUnsafe_4cfef_28 : decode cJ2_indexOfCharUnsafe_4cfef 28 = .ok (.iconst (-1), 1) := by decide +kernel
theorem dJ2_indexOfCharUnsafe_4cfef_29 : decode cJ2_indexOfCharUnsafe_4cfef 29 = .ok (.ireturn, 1) := by decide +kernel
theorem dJ2_indexOfSupplementary_4cfef_0 : decode cJ2_indexOfSupplementary_4cfef 0 = .ok (.iload_n 1, 1) := by decide +kernel
theorem dJ2_indexOfSupplementary_4cfef_1 : decode cJ2_indexOfSupplementary_4cfef 1 = .ok (.invokestatic 164, 3) := by decide +kernel
theorem dJ2_indexOfSupplementary_4cfef_4 : decode cJ2_indexOfSupplementary_4cfef 4 = .ok (.ifCond .eq 65, 3) := by decide +kernel
theorem dJ2_indexOfSupplementary_4cfef_7 : decode cJ2_indexOfSupplementary_4cfef 7 = .ok (.iload_n 1, 1) := by decide +kernel
theorem dJ2_indexOfSupplementary_4cfef_8 : decode cJ2_indexOfSupplementary_4cfef 8 = .ok (.invokestatic 157, 3) := by decide +kernel
theorem dJ2_indexOfSupplementary_4cfef_11 : decode cJ2_indexOfSupplementary_4cfef 11 = .ok (.istore 4, 2) := by decide +kernel
theorem dJ2_indexOfSupplementary_4cfef_13 : decode cJ2_indexOfSupplementary_4cfef 13 = .ok (.iload_n 1, 1) := by decide +kernel
theorem dJ2_indexOfSupplementary_4cfef_14 : decode cJ2_indexOfSupplementary_4cfef 14 = .ok (.invokestatic 161, 3) := by decide +kernel
theorem dJ2_indexOfSupplementary_4cfef_17 : decode cJ2_indexOfSupplementary_4cfef 17 = .ok (.istore 5, 2) := by decide +kernel
theorem dJ2_indexOfSupplementary_4cfef_19 : decode cJ2_indexOfSupplementary_4cfef 19 = .ok (.iload_n 2, 1) := by decide +kernel
theorem dJ2_indexOfSupplementary_4cfef_20 : decode cJ2_indexOfSupplementary_4cfef 20 = .ok (.iload_n 3, 1) := by decide +kernel
theorem dJ2_indexOfSupplementary_4cfef_21 : decode cJ2_indexOfSupplementary_4cfef 21 = .ok (.aload_n 0, 1) := by decide +kernel
theorem dJ2_indexOfSupplementary_4cfef_22 : decode cJ2_indexOfSupplementary_4cfef 22 = .ok (.invokestatic 96, 3) := by decide +kernel
theorem dJ2_indexOfSupplementary_4cfef_25 : decode cJ2_indexOfSupplementary_4cfef 25 = .ok (.iload_n 2, 1) := by decide +kernel
theorem dJ2_indexOfSupplementary_4cfef_26 : decode cJ2_indexOfSupplementary_4cfef 26 = .ok (.istore 6, 2) := by decide +kernel
theorem dJ2_indexOfSupplementary_4cfef_28 : decode cJ2_indexOfSupplementary_4cfef 28 = .ok (.iload 6, 2) := by decide +kernel
theorem dJ2_indexOfSupplementary_4cfef_30 : decode cJ2_indexOfSupplementary_4cfef 30 = .ok (.iload_n 3, 1) := by decide +kernel
theorem dJ2_indexOfSupplementary_4cfef_31 : decode cJ2_indexOfSupplementary_4cfef 31 = .ok (.iconst 1, 1) := by decide +kernel
theorem dJ2_indexOfSupplementary_4cfef_32 : decode cJ2_indexOfSupplementary_4cfef 32 = .ok (.isub, 1) := by decide +kernel
theorem dJ2_indexOfSupplementary_4cfef_33 : decode cJ2_indexOfSupplementary_4cfef 33 = .ok (.if_icmp .ge 36, 3) := by decide +kernel
theorem dJ2_indexOfSupplementary_4cfef_36 : decode cJ2_indexOfSupplementary_4cfef 36 = .ok (.aload_n 0, 1) := by decide +kernel
theorem dJ2_indexOfSupplementary_4cfef_37 : decode cJ2_indexOfSupplementary_4cfef 37 = .ok (.iload 6, 2) := by decide +kernel
theorem dJ2_indexOfSupplementary_4cfef_39 : decode cJ2_indexOfSupplementary_4cfef 39 = .ok (.invokestatic 71, 3) := by decide +kernel
theorem dJ2_indexOfSupplementary_4cfef_42 : decode cJ2_indexOfSupplementary_4cfef 42 = .ok (.iload 4, 2) := by decide +kernel
theorem dJ2_indexOfSupplementary_4cfef_44 : decode cJ2_indexOfSupplementary_4cfef 44 = .ok (.if_icmp .ne 19, 3) := by decide +kernel
theorem dJ2_indexOfSupplementary_4cfef_47 : decode cJ2_indexOfSupplementary_4cfef 47 = .ok (.aload_n 0, 1) := by decide +kernel
theorem dJ2_indexOfSupplementary_4cfef_48 : decode cJ2_indexOfSupplementary_4cfef 48 = .ok (.iload 6, 2) := by decide +kernel
theorem dJ2_indexOfSupplementary_4cfef_50 : decode cJ2_indexOfSupplementary_4cfef 50 = .ok (.iconst 1, 1) := by decide +kernel
theorem dJ2_indexOfSupplementary_4cfef_51 : decode cJ2_indexOfSupplementary_4cfef 51 = .ok (.iadd, 1) := by decide +kernel
theorem dJ2_indexOfSupplementary_4cfef_52 : decode cJ2_indexOfSupplementary_4cfef 52 = .ok (.invokestatic 71, 3) := by decide +kernel
theorem dJ2_indexOfSupplementary_4cfef_55 : decode cJ2_indexOfSupplementary_4cfef 55 = .ok (.iload 5, 2) := by decide +kernel
theorem dJ2_indexOfSupplementary_4cfef_57 : decode cJ2_indexOfSupplementary_4cfef 57 = .ok (.if_icmp .ne 6, 3) := by decide +kernel
theorem dJ2_indexOfSupplementary_4cfef_60 : decode cJ2_indexOfSupplementary_4cfef 60 = .ok (.iload 6, 2) := by decide +kernel
theorem dJ2_indexOfSupplementary_4cfef_62 : decode cJ2_indexOfSupplementary_4cfef 62 = .ok (.ireturn, 1) := by decide +kernel
theorem dJ2_indexOfSupplementary_4cfef_63 : decode cJ2_indexOfSupplementary_4cfef 63 = .ok (.iinc 6 1, 3) := by decide +kernel
theorem dJ2_indexOfSupplementary_4cfef_66 : decode cJ2_indexOfSupplementary_4cfef 66 = .ok (.goto (-38), 3) := by decide +kernel
theorem dJ2_indexOfSupplementary_4cfef_69 : decode cJ2_indexOfSupplementary_4cfef 69 = .ok (.iconst (-1), 1) := by decide +kernel
theorem dJ2_indexOfSupplementary_4cfef_70 : decode cJ2_indexOfSupplementary_4cfef 70 = .ok (.ireturn, 1) := by decide +kernel
theorem dJ2_charAt_3b067_0 : decode cJ2_charAt_3b067 0 = .ok (.iload_n 1, 1) := by decide +kernel
theorem dJ2_charAt_3b067_1 : decode cJ2_charAt_3b067 1 = .ok (.aload_n 0, 1) := by decide +kernel
theorem dJ2_charAt_3b067_2 : decode cJ2_charAt_3b067 2 = .ok (.invokestatic 67, 3) := by decide +kernel
theorem dJ2_charAt_3b067_5 : decode cJ2_charAt_3b067 5 = .ok (.aload_n 0, 1) := by decide +kernel
theorem dJ2_charAt_3b067_6 : decode cJ2_charAt_3b067 6 = .ok (.iload_n 1, 1) := by decide +kernel
theorem dJ2_charAt_3b067_7 : decode cJ2_charAt_3b067 7 = .ok (.invokestatic 71, 3) := by decide +kernel
theorem dJ2_charAt_3b067_10 : decode cJ2_charAt_3b067 10 = .ok (.ireturn, 1) := by decide +kernel
theorem dJ2_checkIndex_2214a_0 : decode cJ2_checkIndex_2214a 0 = .ok (.iload_n 0, 1) := by decide +kernel
theorem dJ2_checkIndex_2214a_1 : decode cJ2_checkIndex_2214a 1 = .ok (.aload_n 1, 1) := by decide +kernel
theorem dJ2_checkIndex_2214a_2 : decode cJ2_checkIndex_2214a 2 = .ok (.invokestatic 48, 3) := by decide +kernel
theorem dJ2_checkIndex_2214a_5 : decode cJ2_checkIndex_2214a 5 = .ok (.invokestatic 414, 3) := by decide +kernel
theorem dJ2_checkIndex_2214a_8 : decode cJ2_checkIndex_2214a 8 = .ok (.return_, 1) := by decide +kernel
theorem dJ2_checkBoundsBeginEnd_d044e_0 : decode cJ2_checkBoundsBeginEnd_d044e 0 = .ok (.iload_n 0, 1) := by decide +kernel
theorem dJ2_checkBoundsBeginEnd_d044e_1 : decode cJ2_checkBoundsBeginEnd_d044e 1 = .ok (.iload_n 1, 1) := by decide +kernel
theorem dJ2_checkBoundsBeginEnd_d044e_2 : decode cJ2_checkBoundsBeginEnd_d044e 2 = .ok (.aload_n 2, 1) := by decide +kernel
theorem dJ2_checkBoundsBeginEnd_d044e_3 : decode cJ2_checkBoundsBeginEnd_d044e 3 = .ok (.invokestatic 48, 3) := by decide +kernel
theorem dJ2_checkBoundsBeginEnd_d044e_6 : decode cJ2_checkBoundsBeginEnd_d044e 6 = .ok (.invokestatic 241, 3) := by decide +kernel
theorem dJ2_checkBoundsBeginEnd_d044e_9 : decode cJ2_checkBoundsBeginEnd_d044e 9 = .ok (.return_, 1) := by decide +kernel
theorem dJ3_checkIndex_8e157_0 : decode cJ3_checkIndex_8e157 0 = .ok (.iload_n 0, 1) := by decide +kernel
theorem dJ3_checkIndex_8e157_1 : decode cJ3_checkIndex_8e157 1 = .ok (.ifCond .lt 8, 3) := by decide +kernel
theorem dJ3_checkIndex_8e157_4 : decode cJ3_checkIndex_8e157 4 = .ok (.iload_n 0, 1) := by decide +kernel
theorem dJ3_checkIndex_8e157_5 : decode cJ3_checkIndex_8e157 5 = .ok (.iload_n 1, 1) := by decide +kernel
theorem dJ3_checkIndex_8e157_6 : decode cJ3_checkIndex_8e157 6 = .ok (.if_icmp .lt 10, 3) := by decide +kernel
theorem dJ3_checkIndex_8e157_9 : decode cJ3_checkIndex_8e157 9 = .ok (.aload_n 2, 1) := by decide +kernel
theorem dJ3_checkIndex_8e157_10 : decode cJ3_checkIndex_8e157 10 = .ok (.iload_n 0, 1) := by decide +kernel
theorem dJ3_checkIndex_8e157_11 : decode cJ3_checkIndex_8e157 11 = .ok (.iload_n 1, 1) := by decide +kernel
theorem dJ3_checkIndex_8e157_12 : decode cJ3_checkIndex_8e157 12 = .ok (.invokestatic 95, 3) := by decide +kernel
theorem dJ3_checkIndex_8e157_15 : decode cJ3_checkIndex_8e157 15 = .ok (.athrow, 1) := by decide +kernel
theorem dJ3_checkIndex_8e157_16 : decode cJ3_checkIndex_8e157 16 = .ok (.iload_n 0, 1) := by decide +kernel
theorem dJ3_checkIndex_8e157_17 : decode cJ3_checkIndex_8e157 17 = .ok (.ireturn, 1) := by decide +kernel
theorem dJ3_checkFromToIndex_8c36e_0 : decode cJ3_checkFromToIndex_8c36e 0 = .ok (.iload_n 0, 1) := by decide +kernel
theorem dJ3_checkFromToIndex_8c36e_1 : decode cJ3_checkFromToIndex_8c36e 1 = .ok (.ifCond .lt 13, 3) := by decide +kernel
theorem dJ3_checkFromToIndex_8c36e_4 : decode cJ3_checkFromToIndex_8c36e 4 = .ok (.iload_n 0, 1) := by decide +kernel
theorem dJ3_checkFromToIndex_8c36e_5 : decode cJ3_checkFromToIndex_8c36e 5 = .ok (.iload_n 1, 1) := by decide +kernel
theorem dJ3_checkFromToIndex_8c36e_6 : decode cJ3_checkFromToIndex_8c36e 6 = .ok (.if_icmp .gt 8, 3) := by decide +kernel
theorem dJ3_checkFromToIndex_8c36e_9 : decode cJ3_checkFromToIndex_8c36e 9 = .ok (.iload_n 1, 1) := by decide +kernel
theorem dJ3_checkFromToIndex_8c36e_10 : decode cJ3_checkFromToIndex_8c36e 10 = .ok (.iload_n 2, 1) := by decide +kernel
theorem dJ3_checkFromToIndex_8c36e_11 : decode cJ3_checkFromToIndex_8c36e 11 = .ok (.if_icmp .le 11, 3) := by decide +kernel
theorem dJ3_checkFromToIndex_8c36e_14 : decode cJ3_checkFromToIndex_8c36e 14 = .ok (.aload_n 3, 1) := by decide +kernel
theorem dJ3_checkFromToIndex_8c36e_15 : decode cJ3_checkFromToIndex_8c36e 15 = .ok (.iload_n 0, 1) := by decide +kernel
theorem dJ3_checkFromToIndex_8c36e_16 : decode cJ3_checkFromToIndex_8c36e 16 = .ok (.iload_n 1, 1) := by decide +kernel
theorem dJ3_checkFromToIndex_8c36e_17 : decode cJ3_checkFromToIndex_8c36e 17 = .ok (.iload_n 2, 1) := by decide +kernel
theorem dJ3_checkFromToIndex_8c36e_18 : decode cJ3_checkFromToIndex_8c36e 18 = .ok (.invokestatic 99, 3) := by decide +kernel
theorem dJ3_checkFromToIndex_8c36e_21 : decode cJ3_checkFromToIndex_8c36e 21 = .ok (.athrow, 1) := by decide +kernel
theorem dJ3_checkFromToIndex_8c36e_22 : decode cJ3_checkFromToIndex_8c36e 22 = .ok (.iload_n 0, 1) := by decide +kernel
theorem dJ3_checkFromToIndex_8c36e_23 : decode cJ3_checkFromToIndex_8c36e 23 = .ok (.ireturn, 1) := by decide +kernel
theorem dL_feed_0 : decode cL_feed 0 = .ok (.aload 6, 2) := by decide +kernel
theorem dL_feed_2 : decode cL_feed 2 = .ok (.iconst 0, 1) := by decide +kernel
theorem dL_feed_3 : decode cL_feed 3 = .ok (.aload_n 0, 1) := by decide +kernel
theorem dL_feed_4 : decode cL_feed 4 = .ok (.iload_n 1, 1) := by decide +kernel
theorem dL_feed_5 : decode cL_feed 5 = .ok (.iload_n 2, 1) := by decide +kernel
theorem dL_feed_6 : decode cL_feed 6 = .ok (.iload_n 3, 1) := by decide +kernel
theorem dL_feed_7 : decode cL_feed 7 = .ok (.iload 4, 2) := by decide +kernel
theorem dL_feed_9 : decode cL_feed 9 = .ok (.iload 5, 2) := by decide +kernel
theorem dL_feed_11 : decode cL_feed 11 = .ok (.invokevirtual 7, 3) := by decide +kernel
theorem dL_feed_14 : decode cL_feed 14 = .ok (.i2l, 1) := by decide +kernel
theorem dL_feed_15 : decode cL_feed 15 = .ok (.lastore, 1) := by decide +kernel
theorem dL_feed_16 : decode cL_feed 16 = .ok (.goto 7, 3) := by decide +kernel
theorem dL_feed_19 : decode cL_feed 19 = .ok (.astore 7, 2) := by decide +kernel
theorem dL_feed_21 : decode cL_feed 21 = .ok (.iconst 1, 1) := by decide +kernel
theorem dL_feed_22 : decode cL_feed 22 = .ok (.ireturn, 1) := by decide +kernel
theorem dL_feed_23 : decode cL_feed 23 = .ok (.iconst 0, 1) := by decide +kernel
theorem dL_feed_24 : decode cL_feed 24 = .ok (.ireturn, 1) := by decide +kernel
theorem dL_trim_0 : decode cL_trim 0 = .ok (.aload_n 2, 1) := by decide +kernel
theorem dL_trim_1 : decode cL_trim 1 = .ok (.iconst 0, 1) := by decide +kernel
theorem dL_trim_2 : decode cL_trim 2 = .ok (.aload_n 0, 1) := by decide +kernel
theorem dL_trim_3 : decode cL_trim 3 = .ok (.iload_n 1, 1) := by decide +kernel
theorem dL_trim_4 : decode cL_trim 4 = .ok (.invokevirtual 15, 3) := by decide +kernel
theorem dL_trim_7 : decode cL_trim 7 = .ok (.i2l, 1) := by decide +kernel
theorem dL_trim_8 : decode cL_trim 8 = .ok (.lastore, 1) := by decide +kernel
theorem dL_trim_9 : decode cL_trim 9 = .ok (.goto 6, 3) := by decide +kernel
theorem dL_trim_12 : decode cL_trim 12 = .ok (.astore_n 3, 1) := by decide +kernel
theorem dL_trim_13 : decode cL_trim 13 = .ok (.iconst 1, 1) := by decide +kernel
theorem dL_trim_14 : decode cL_trim 14 = .ok (.ireturn, 1) := by decide +kernel
theorem dL_trim_15 : decode cL_trim 15 = .ok (.iconst 0, 1) := by decide +kernel
theorem dL_trim_16 : decode cL_trim 16 = .ok (.ireturn, 1) := by decide +kernel
theorem dL_hushOf_0 : decode cL_hushOf 0 = .ok (.aload_n 2, 1) := by decide +kernel
theorem dL_hushOf_1 : decode cL_hushOf 1 = .ok (.iconst 0, 1) := by decide +kernel
theorem dL_hushOf_2 : decode cL_hushOf 2 = .ok (.aload_n 0, 1) := by decide +kernel
theorem dL_hushOf_3 : decode cL_hushOf 3 = .ok (.iload_n 1, 1) := by decide +kernel
theorem dL_hushOf_4 : decode cL_hushOf 4 = .ok (.invokevirtual 21, 3) := by decide +kernel
theorem dL_hushOf_7 : decode cL_hushOf 7 = .ok (.i2l, 1) := by decide +kernel
theorem dL_hushOf_8 : decode cL_hushOf 8 = .ok (.lastore, 1) := by decide +kernel
theorem dL_hushOf_9 : decode cL_hushOf 9 = .ok (.goto 6, 3) := by decide +kernel
theorem dL_hushOf_12 : decode cL_hushOf 12 = .ok (.astore_n 3, 1) := by decide +kernel
theorem dL_hushOf_13 : decode cL_hushOf 13 = .ok (.iconst 1, 1) := by decide +kernel
theorem dL_hushOf_14 : decode cL_hushOf 14 = .ok (.ireturn, 1) := by decide +kernel
theorem dL_hushOf_15 : decode cL_hushOf 15 = .ok (.iconst 0, 1) := by decide +kernel
theorem dL_hushOf_16 : decode cL_hushOf 16 = .ok (.ireturn, 1) := by decide +kernel
theorem dL_heardBy_0 : decode cL_heardBy 0 = .ok (.aload_n 2, 1) := by decide +kernel
theorem dL_heardBy_1 : decode cL_heardBy 1 = .ok (.iconst 0, 1) := by decide +kernel
theorem dL_heardBy_2 : decode cL_heardBy 2 = .ok (.aload_n 0, 1) := by decide +kernel
theorem dL_heardBy_3 : decode cL_heardBy 3 = .ok (.iload_n 1, 1) := by decide +kernel
theorem dL_heardBy_4 : decode cL_heardBy 4 = .ok (.invokevirtual 26, 3) := by decide +kernel
theorem dL_heardBy_7 : decode cL_heardBy 7 = .ok (.i2l, 1) := by decide +kernel
theorem dL_heardBy_8 : decode cL_heardBy 8 = .ok (.lastore, 1) := by decide +kernel
theorem dL_heardBy_9 : decode cL_heardBy 9 = .ok (.goto 6, 3) := by decide +kernel
theorem dL_heardBy_12 : decode cL_heardBy 12 = .ok (.astore_n 3, 1) := by decide +kernel
theorem dL_heardBy_13 : decode cL_heardBy 13 = .ok (.iconst 1, 1) := by decide +kernel
theorem dL_heardBy_14 : decode cL_heardBy 14 = .ok (.ireturn, 1) := by decide +kernel
theorem dL_heardBy_15 : decode cL_heardBy 15 = .ok (.iconst 0, 1) := by decide +kernel
theorem dL_heardBy_16 : decode cL_heardBy 16 = .ok (.ireturn, 1) := by decide +kernel
theorem dL_latestOf_0 : decode cL_latestOf 0 = .ok (.aload_n 2, 1) := by decide +kernel
theorem dL_latestOf_1 : decode cL_latestOf 1 = .ok (.iconst 0, 1) := by decide +kernel
theorem dL_latestOf_2 : decode cL_latestOf 2 = .ok (.aload_n 0, 1) := by decide +kernel
theorem dL_latestOf_3 : decode cL_latestOf 3 = .ok (.iload_n 1, 1) := by decide +kernel
theorem dL_latestOf_4 : decode cL_latestOf 4 = .ok (.invokevirtual 29, 3) := by decide +kernel
theorem dL_latestOf_7 : decode cL_latestOf 7 = .ok (.i2l, 1) := by decide +kernel
theorem dL_latestOf_8 : decode cL_latestOf 8 = .ok (.lastore, 1) := by decide +kernel
theorem dL_latestOf_9 : decode cL_latestOf 9 = .ok (.goto 6, 3) := by decide +kernel
theorem dL_latestOf_12 : decode cL_latestOf 12 = .ok (.astore_n 3, 1) := by decide +kernel
theorem dL_latestOf_13 : decode cL_latestOf 13 = .ok (.iconst 1, 1) := by decide +kernel
theorem dL_latestOf_14 : decode cL_latestOf 14 = .ok (.ireturn, 1) := by decide +kernel
theorem dL_latestOf_15 : decode cL_latestOf 15 = .ok (.iconst 0, 1) := by decide +kernel
theorem dL_latestOf_16 : decode cL_latestOf 16 = .ok (.ireturn, 1) := by decide +kernel
theorem dL_listenersOf_0 : decode cL_listenersOf 0 = .ok (.aload_n 2, 1) := by decide +kernel
theorem dL_listenersOf_1 : decode cL_listenersOf 1 = .ok (.iconst 0, 1) := by decide +kernel
theorem dL_listenersOf_2 : decode cL_listenersOf 2 = .ok (.aload_n 0, 1) := by decide +kernel
theorem dL_listenersOf_3 : decode cL_listenersOf 3 = .ok (.iload_n 1, 1) := by decide +kernel
theorem dL_listenersOf_4 : decode cL_listenersOf 4 = .ok (.invokevirtual 32, 3) := by decide +kernel
theorem dL_listenersOf_7 : decode cL_listenersOf 7 = .ok (.i2l, 1) := by decide +kernel
theorem dL_listenersOf_8 : decode cL_listenersOf 8 = .ok (.lastore, 1) := by decide +kernel
theorem dL_listenersOf_9 : decode cL_listenersOf 9 = .ok (.goto 6, 3) := by decide +kernel
theorem dL_listenersOf_12 : decode cL_listenersOf 12 = .ok (.astore_n 3, 1) := by decide +kernel
theorem dL_listenersOf_13 : decode cL_listenersOf 13 = .ok (.iconst 1, 1) := by decide +kernel
theorem dL_listenersOf_14 : decode cL_listenersOf 14 = .ok (.ireturn, 1) := by decide +kernel
theorem dL_listenersOf_15 : decode cL_listenersOf 15 = .ok (.iconst 0, 1) := by decide +kernel
theorem dL_listenersOf_16 : decode cL_listenersOf 16 = .ok (.ireturn, 1) := by decide +kernel
theorem dL_hedgeInRow_0 : decode cL_hedgeInRow 0 = .ok (.aload_n 3, 1) := by decide +kernel
theorem dL_hedgeInRow_1 : decode cL_hedgeInRow 1 = .ok (.iconst 0, 1) := by decide +kernel
theorem dL_hedgeInRow_2 : decode cL_hedgeInRow 2 = .ok (.aload_n 0, 1) := by decide +kernel
theorem dL_hedgeInRow_3 : decode cL_hedgeInRow 3 = .ok (.iload_n 1, 1) := by decide +kernel
theorem dL_hedgeInRow_4 : decode cL_hedgeInRow 4 = .ok (.iload_n 2, 1) := by decide +kernel
theorem dL_hedgeInRow_5 : decode cL_hedgeInRow 5 = .ok (.invokevirtual 35, 3) := by decide +kernel
theorem dL_hedgeInRow_8 : decode cL_hedgeInRow 8 = .ok (.i2l, 1) := by decide +kernel
theorem dL_hedgeInRow_9 : decode cL_hedgeInRow 9 = .ok (.lastore, 1) := by decide +kernel
theorem dL_hedgeInRow_10 : decode cL_hedgeInRow 10 = .ok (.goto 7, 3) := by decide +kernel
theorem dL_hedgeInRow_13 : decode cL_hedgeInRow 13 = .ok (.astore 4, 2) := by decide +kernel
theorem dL_hedgeInRow_15 : decode cL_hedgeInRow 15 = .ok (.iconst 1, 1) := by decide +kernel
theorem dL_hedgeInRow_16 : decode cL_hedgeInRow 16 = .ok (.ireturn, 1) := by decide +kernel
theorem dL_hedgeInRow_17 : decode cL_hedgeInRow 17 = .ok (.iconst 0, 1) := by decide +kernel
theorem dL_hedgeInRow_18 : decode cL_hedgeInRow 18 = .ok (.ireturn, 1) := by decide +kernel
theorem dL_roseInRow_0 : decode cL_roseInRow 0 = .ok (.aload_n 3, 1) := by decide +kernel
theorem dL_roseInRow_1 : decode cL_roseInRow 1 = .ok (.iconst 0, 1) := by decide +kernel
theorem dL_roseInRow_2 : decode cL_roseInRow 2 = .ok (.aload_n 0, 1) := by decide +kernel
theorem dL_roseInRow_3 : decode cL_roseInRow 3 = .ok (.iload_n 1, 1) := by decide +kernel
theorem dL_roseInRow_4 : decode cL_roseInRow 4 = .ok (.iload_n 2, 1) := by decide +kernel
theorem dL_roseInRow_5 : decode cL_roseInRow 5 = .ok (.invokevirtual 39, 3) := by decide +kernel
theorem dL_roseInRow_8 : decode cL_roseInRow 8 = .ok (.i2l, 1) := by decide +kernel
theorem dL_roseInRow_9 : decode cL_roseInRow 9 = .ok (.lastore, 1) := by decide +kernel
theorem dL_roseInRow_10 : decode cL_roseInRow 10 = .ok (.goto 7, 3) := by decide +kernel
theorem dL_roseInRow_13 : decode cL_roseInRow 13 = .ok (.astore 4, 2) := by decide +kernel
theorem dL_roseInRow_15 : decode cL_roseInRow 15 = .ok (.iconst 1, 1) := by decide +kernel
theorem dL_roseInRow_16 : decode cL_roseInRow 16 = .ok (.ireturn, 1) := by decide +kernel
theorem dL_roseInRow_17 : decode cL_roseInRow 17 = .ok (.iconst 0, 1) := by decide +kernel
theorem dL_roseInRow_18 : decode cL_roseInRow 18 = .ok (.ireturn, 1) := by decide +kernel
theorem dL_patienceOf_0 : decode cL_patienceOf 0 = .ok (.aload_n 2, 1) := by decide +kernel
theorem dL_patienceOf_1 : decode cL_patienceOf 1 = .ok (.iconst 0, 1) := by decide +kernel
theorem dL_patienceOf_2 : decode cL_patienceOf 2 = .ok (.aload_n 0, 1) := by decide +kernel
theorem dL_patienceOf_3 : decode cL_patienceOf 3 = .ok (.iload_n 1, 1) := by decide +kernel
theorem dL_patienceOf_4 : decode cL_patienceOf 4 = .ok (.invokevirtual 42, 3) := by decide +kernel
theorem dL_patienceOf_7 : decode cL_patienceOf 7 = .ok (.i2l, 1) := by decide +kernel
theorem dL_patienceOf_8 : decode cL_patienceOf 8 = .ok (.lastore, 1) := by decide +kernel
theorem dL_patienceOf_9 : decode cL_patienceOf 9 = .ok (.goto 6, 3) := by decide +kernel
theorem dL_patienceOf_12 : decode cL_patienceOf 12 = .ok (.astore_n 3, 1) := by decide +kernel
theorem dL_patienceOf_13 : decode cL_patienceOf 13 = .ok (.iconst 1, 1) := by decide +kernel
theorem dL_patienceOf_14 : decode cL_patienceOf 14 = .ok (.ireturn, 1) := by decide +kernel
theorem dL_patienceOf_15 : decode cL_patienceOf 15 = .ok (.iconst 0, 1) := by decide +kernel
theorem dL_patienceOf_16 : decode cL_patienceOf 16 = .ok (.ireturn, 1) := by decide +kernel
theorem dL_petalsOf_0 : decode cL_petalsOf 0 = .ok (.aload_n 2, 1) := by decide +kernel
theorem dL_petalsOf_1 : decode cL_petalsOf 1 = .ok (.iconst 0, 1) := by decide +kernel
theorem dL_petalsOf_2 : decode cL_petalsOf 2 = .ok (.aload_n 0, 1) := by decide +kernel
theorem dL_petalsOf_3 : decode cL_petalsOf 3 = .ok (.iload_n 1, 1) := by decide +kernel
theorem dL_petalsOf_4 : decode cL_petalsOf 4 = .ok (.invokevirtual 45, 3) := by decide +kernel
theorem dL_petalsOf_7 : decode cL_petalsOf 7 = .ok (.i2l, 1) := by decide +kernel
theorem dL_petalsOf_8 : decode cL_petalsOf 8 = .ok (.lastore, 1) := by decide +kernel
theorem dL_petalsOf_9 : decode cL_petalsOf 9 = .ok (.goto 6, 3) := by decide +kernel
theorem dL_petalsOf_12 : decode cL_petalsOf 12 = .ok (.astore_n 3, 1) := by decide +kernel
theorem dL_petalsOf_13 : decode cL_petalsOf 13 = .ok (.iconst 1, 1) := by decide +kernel
theorem dL_petalsOf_14 : decode cL_petalsOf 14 = .ok (.ireturn, 1) := by decide +kernel
theorem dL_petalsOf_15 : decode cL_petalsOf 15 = .ok (.iconst 0, 1) := by decide +kernel
theorem dL_petalsOf_16 : decode cL_petalsOf 16 = .ok (.ireturn, 1) := by decide +kernel
theorem dL_countOf_0 : decode cL_countOf 0 = .ok (.aload_n 2, 1) := by decide +kernel
theorem dL_countOf_1 : decode cL_countOf 1 = .ok (.iconst 0, 1) := by decide +kernel
theorem dL_countOf_2 : decode cL_countOf 2 = .ok (.aload_n 0, 1) := by decide +kernel
theorem dL_countOf_3 : decode cL_countOf 3 = .ok (.iload_n 1, 1) := by decide +kernel
theorem dL_countOf_4 : decode cL_countOf 4 = .ok (.invokevirtual 48, 3) := by decide +kernel
theorem dL_countOf_7 : decode cL_countOf 7 = .ok (.i2l, 1) := by decide +kernel
theorem dL_countOf_8 : decode cL_countOf 8 = .ok (.lastore, 1) := by decide +kernel
theorem dL_countOf_9 : decode cL_countOf 9 = .ok (.goto 6, 3) := by decide +kernel
theorem dL_countOf_12 : decode cL_countOf 12 = .ok (.astore_n 3, 1) := by decide +kernel
theorem dL_countOf_13 : decode cL_countOf 13 = .ok (.iconst 1, 1) := by decide +kernel
theorem dL_countOf_14 : decode cL_countOf 14 = .ok (.ireturn, 1) := by decide +kernel
theorem dL_countOf_15 : decode cL_countOf 15 = .ok (.iconst 0, 1) := by decide +kernel
theorem dL_countOf_16 : decode cL_countOf 16 = .ok (.ireturn, 1) := by decide +kernel
theorem dL_hedgesOf_0 : decode cL_hedgesOf 0 = .ok (.aload_n 2, 1) := by decide +kernel
theorem dL_hedgesOf_1 : decode cL_hedgesOf 1 = .ok (.iconst 0, 1) := by decide +kernel
theorem dL_hedgesOf_2 : decode cL_hedgesOf 2 = .ok (.aload_n 0, 1) := by decide +kernel
theorem dL_hedgesOf_3 : decode cL_hedgesOf 3 = .ok (.iload_n 1, 1) := by decide +kernel
theorem dL_hedgesOf_4 : decode cL_hedgesOf 4 = .ok (.invokevirtual 51, 3) := by decide +kernel
theorem dL_hedgesOf_7 : decode cL_hedgesOf 7 = .ok (.i2l, 1) := by decide +kernel
theorem dL_hedgesOf_8 : decode cL_hedgesOf 8 = .ok (.lastore, 1) := by decide +kernel
theorem dL_hedgesOf_9 : decode cL_hedgesOf 9 = .ok (.goto 6, 3) := by decide +kernel
theorem dL_hedgesOf_12 : decode cL_hedgesOf 12 = .ok (.astore_n 3, 1) := by decide +kernel
theorem dL_hedgesOf_13 : decode cL_hedgesOf 13 = .ok (.iconst 1, 1) := by decide +kernel
theorem dL_hedgesOf_14 : decode cL_hedgesOf 14 = .ok (.ireturn, 1) := by decide +kernel
theorem dL_hedgesOf_15 : decode cL_hedgesOf 15 = .ok (.iconst 0, 1) := by decide +kernel
theorem dL_hedgesOf_16 : decode cL_hedgesOf 16 = .ok (.ireturn, 1) := by decide +kernel
theorem dL_hedgeListens_0 : decode cL_hedgeListens 0 = .ok (.aload_n 3, 1) := by decide +kernel
theorem dL_hedgeListens_1 : decode cL_hedgeListens 1 = .ok (.iconst 0, 1) := by decide +kernel
theorem dL_hedgeListens_2 : decode cL_hedgeListens 2 = .ok (.aload_n 0, 1) := by decide +kernel
theorem dL_hedgeListens_3 : decode cL_hedgeListens 3 = .ok (.iload_n 1, 1) := by decide +kernel
theorem dL_hedgeListens_4 : decode cL_hedgeListens 4 = .ok (.iload_n 2, 1) := by decide +kernel
theorem dL_hedgeListens_5 : decode cL_hedgeListens 5 = .ok (.invokevirtual 54, 3) := by decide +kernel
theorem dL_hedgeListens_8 : decode cL_hedgeListens 8 = .ok (.i2l, 1) := by decide +kernel
theorem dL_hedgeListens_9 : decode cL_hedgeListens 9 = .ok (.lastore, 1) := by decide +kernel
theorem dL_hedgeListens_10 : decode cL_hedgeListens 10 = .ok (.goto 11, 3) := by decide +kernel
theorem dL_hedgeListens_13 : decode cL_hedgeListens 13 = .ok (.astore 4, 2) := by decide +kernel
theorem dL_hedgeListens_15 : decode cL_hedgeListens 15 = .ok (.iconst 1, 1) := by decide +kernel
theorem dL_hedgeListens_16 : decode cL_hedgeListens 16 = .ok (.ireturn, 1) := by decide +kernel
theorem dL_hedgeListens_17 : decode cL_hedgeListens 17 = .ok (.astore 4, 2) := by decide +kernel
theorem dL_hedgeListens_19 : decode cL_hedgeListens 19 = .ok (.iconst 2, 1) := by decide +kernel
theorem dL_hedgeListens_20 : decode cL_hedgeListens 20 = .ok (.ireturn, 1) := by decide +kernel
theorem dL_hedgeListens_21 : decode cL_hedgeListens 21 = .ok (.iconst 0, 1) := by decide +kernel
theorem dL_hedgeListens_22 : decode cL_hedgeListens 22 = .ok (.ireturn, 1) := by decide +kernel
theorem dL_roseListens_0 : decode cL_roseListens 0 = .ok (.aload_n 3, 1) := by decide +kernel
theorem dL_roseListens_1 : decode cL_roseListens 1 = .ok (.iconst 0, 1) := by decide +kernel
theorem dL_roseListens_2 : decode cL_roseListens 2 = .ok (.aload_n 0, 1) := by decide +kernel
theorem dL_roseListens_3 : decode cL_roseListens 3 = .ok (.iload_n 1, 1) := by decide +kernel
theorem dL_roseListens_4 : decode cL_roseListens 4 = .ok (.iload_n 2, 1) := by decide +kernel
theorem dL_roseListens_5 : decode cL_roseListens 5 = .ok (.invokevirtual 57, 3) := by decide +kernel
theorem dL_roseListens_8 : decode cL_roseListens 8 = .ok (.i2l, 1) := by decide +kernel
theorem dL_roseListens_9 : decode cL_roseListens 9 = .ok (.lastore, 1) := by decide +kernel
theorem dL_roseListens_10 : decode cL_roseListens 10 = .ok (.goto 11, 3) := by decide +kernel
theorem dL_roseListens_13 : decode cL_roseListens 13 = .ok (.astore 4, 2) := by decide +kernel
theorem dL_roseListens_15 : decode cL_roseListens 15 = .ok (.iconst 1, 1) := by decide +kernel
theorem dL_roseListens_16 : decode cL_roseListens 16 = .ok (.ireturn, 1) := by decide +kernel
theorem dL_roseListens_17 : decode cL_roseListens 17 = .ok (.astore 4, 2) := by decide +kernel
theorem dL_roseListens_19 : decode cL_roseListens 19 = .ok (.iconst 2, 1) := by decide +kernel
theorem dL_roseListens_20 : decode cL_roseListens 20 = .ok (.ireturn, 1) := by decide +kernel
theorem dL_roseListens_21 : decode cL_roseListens 21 = .ok (.iconst 0, 1) := by decide +kernel
theorem dL_roseListens_22 : decode cL_roseListens 22 = .ok (.ireturn, 1) := by decide +kernel
theorem dL_hedgeLeaves_0 : decode cL_hedgeLeaves 0 = .ok (.aload_n 3, 1) := by decide +kernel
theorem dL_hedgeLeaves_1 : decode cL_hedgeLeaves 1 = .ok (.iconst 0, 1) := by decide +kernel
theorem dL_hedgeLeaves_2 : decode cL_hedgeLeaves 2 = .ok (.aload_n 0, 1) := by decide +kernel
theorem dL_hedgeLeaves_3 : decode cL_hedgeLeaves 3 = .ok (.iload_n 1, 1) := by decide +kernel
theorem dL_hedgeLeaves_4 : decode cL_hedgeLeaves 4 = .ok (.iload_n 2, 1) := by decide +kernel
theorem dL_hedgeLeaves_5 : decode cL_hedgeLeaves 5 = .ok (.invokevirtual 60, 3) := by decide +kernel
theorem dL_hedgeLeaves_8 : decode cL_hedgeLeaves 8 = .ok (.i2l, 1) := by decide +kernel
theorem dL_hedgeLeaves_9 : decode cL_hedgeLeaves 9 = .ok (.lastore, 1) := by decide +kernel
theorem dL_hedgeLeaves_10 : decode cL_hedgeLeaves 10 = .ok (.goto 11, 3) := by decide +kernel
theorem dL_hedgeLeaves_13 : decode cL_hedgeLeaves 13 = .ok (.astore 4, 2) := by decide +kernel
theorem dL_hedgeLeaves_15 : decode cL_hedgeLeaves 15 = .ok (.iconst 1, 1) := by decide +kernel
theorem dL_hedgeLeaves_16 : decode cL_hedgeLeaves 16 = .ok (.ireturn, 1) := by decide +kernel
theorem dL_hedgeLeaves_17 : decode cL_hedgeLeaves 17 = .ok (.astore 4, 2) := by decide +kernel
theorem dL_hedgeLeaves_19 : decode cL_hedgeLeaves 19 = .ok (.iconst 2, 1) := by decide +kernel
theorem dL_hedgeLeaves_20 : decode cL_hedgeLeaves 20 = .ok (.ireturn, 1) := by decide +kernel
theorem dL_hedgeLeaves_21 : decode cL_hedgeLeaves 21 = .ok (.iconst 0, 1) := by decide +kernel
theorem dL_hedgeLeaves_22 : decode cL_hedgeLeaves 22 = .ok (.ireturn, 1) := by decide +kernel
theorem dL_roseLeaves_0 : decode cL_roseLeaves 0 = .ok (.aload_n 3, 1) := by decide +kernel
theorem dL_roseLeaves_1 : decode cL_roseLeaves 1 = .ok (.iconst 0, 1) := by decide +kernel
theorem dL_roseLeaves_2 : decode cL_roseLeaves 2 = .ok (.aload_n 0, 1) := by decide +kernel
theorem dL_roseLeaves_3 : decode cL_roseLeaves 3 = .ok (.iload_n 1, 1) := by decide +kernel
theorem dL_roseLeaves_4 : decode cL_roseLeaves 4 = .ok (.iload_n 2, 1) := by decide +kernel
theorem dL_roseLeaves_5 : decode cL_roseLeaves 5 = .ok (.invokevirtual 63, 3) := by decide +kernel
theorem dL_roseLeaves_8 : decode cL_roseLeaves 8 = .ok (.i2l, 1) := by decide +kernel
theorem dL_roseLeaves_9 : decode cL_roseLeaves 9 = .ok (.lastore, 1) := by decide +kernel
theorem dL_roseLeaves_10 : decode cL_roseLeaves 10 = .ok (.goto 11, 3) := by decide +kernel
theorem dL_roseLeaves_13 : decode cL_roseLeaves 13 = .ok (.astore 4, 2) := by decide +kernel
theorem dL_roseLeaves_15 : decode cL_roseLeaves 15 = .ok (.iconst 1, 1) := by decide +kernel
theorem dL_roseLeaves_16 : decode cL_roseLeaves 16 = .ok (.ireturn, 1) := by decide +kernel
theorem dL_roseLeaves_17 : decode cL_roseLeaves 17 = .ok (.astore 4, 2) := by decide +kernel
theorem dL_roseLeaves_19 : decode cL_roseLeaves 19 = .ok (.iconst 2, 1) := by decide +kernel
theorem dL_roseLeaves_20 : decode cL_roseLeaves 20 = .ok (.ireturn, 1) := by decide +kernel
theorem dL_roseLeaves_21 : decode cL_roseLeaves 21 = .ok (.iconst 0, 1) := by decide +kernel
theorem dL_roseLeaves_22 : decode cL_roseLeaves 22 = .ok (.ireturn, 1) := by decide +kernel
theorem dL_tell_0 : decode cL_tell 0 = .ok (.aload_n 3, 1) := by decide +kernel
theorem dL_tell_1 : decode cL_tell 1 = .ok (.iconst 0, 1) := by decide +kernel
theorem dL_tell_2 : decode cL_tell 2 = .ok (.aload_n 0, 1) := by decide +kernel
theorem dL_tell_3 : decode cL_tell 3 = .ok (.iload_n 1, 1) := by decide +kernel
theorem dL_tell_4 : decode cL_tell 4 = .ok (.iload_n 2, 1) := by decide +kernel
theorem dL_tell_5 : decode cL_tell 5 = .ok (.invokevirtual 66, 3) := by decide +kernel
theorem dL_tell_8 : decode cL_tell 8 = .ok (.i2l, 1) := by decide +kernel
theorem dL_tell_9 : decode cL_tell 9 = .ok (.lastore, 1) := by decide +kernel
theorem dL_tell_10 : decode cL_tell 10 = .ok (.goto 11, 3) := by decide +kernel
theorem dL_tell_13 : decode cL_tell 13 = .ok (.astore 4, 2) := by decide +kernel
theorem dL_tell_15 : decode cL_tell 15 = .ok (.iconst 1, 1) := by decide +kernel
theorem dL_tell_16 : decode cL_tell 16 = .ok (.ireturn, 1) := by decide +kernel
theorem dL_tell_17 : decode cL_tell 17 = .ok (.astore 4, 2) := by decide +kernel
theorem dL_tell_19 : decode cL_tell 19 = .ok (.iconst 2, 1) := by decide +kernel
theorem dL_tell_20 : decode cL_tell 20 = .ok (.ireturn, 1) := by decide +kernel
theorem dL_tell_21 : decode cL_tell 21 = .ok (.iconst 0, 1) := by decide +kernel
theorem dL_tell_22 : decode cL_tell 22 = .ok (.ireturn, 1) := by decide +kernel
theorem dL_passDays_0 : decode cL_passDays 0 = .ok (.aload_n 2, 1) := by decide +kernel
theorem dL_passDays_1 : decode cL_passDays 1 = .ok (.iconst 0, 1) := by decide +kernel
theorem dL_passDays_2 : decode cL_passDays 2 = .ok (.aload_n 0, 1) := by decide +kernel
theorem dL_passDays_3 : decode cL_passDays 3 = .ok (.iload_n 1, 1) := by decide +kernel
theorem dL_passDays_4 : decode cL_passDays 4 = .ok (.invokevirtual 69, 3) := by decide +kernel
theorem dL_passDays_7 : decode cL_passDays 7 = .ok (.i2l, 1) := by decide +kernel
theorem dL_passDays_8 : decode cL_passDays 8 = .ok (.lastore, 1) := by decide +kernel
theorem dL_passDays_9 : decode cL_passDays 9 = .ok (.goto 6, 3) := by decide +kernel
theorem dL_passDays_12 : decode cL_passDays 12 = .ok (.astore_n 3, 1) := by decide +kernel
theorem dL_passDays_13 : decode cL_passDays 13 = .ok (.iconst 1, 1) := by decide +kernel
theorem dL_passDays_14 : decode cL_passDays 14 = .ok (.ireturn, 1) := by decide +kernel
theorem dL_passDays_15 : decode cL_passDays 15 = .ok (.iconst 0, 1) := by decide +kernel
theorem dL_passDays_16 : decode cL_passDays 16 = .ok (.ireturn, 1) := by decide +kernel
theorem dL_reach_0 : decode cL_reach 0 = .ok (.aload_n 3, 1) := by decide +kernel
theorem dL_reach_1 : decode cL_reach 1 = .ok (.iconst 0, 1) := by decide +kernel
theorem dL_reach_2 : decode cL_reach 2 = .ok (.aload_n 0, 1) := by decide +kernel
theorem dL_reach_3 : decode cL_reach 3 = .ok (.iload_n 1, 1) := by decide +kernel
theorem dL_reach_4 : decode cL_reach 4 = .ok (.iload_n 2, 1) := by decide +kernel
theorem dL_reach_5 : decode cL_reach 5 = .ok (.invokevirtual 72, 3) := by decide +kernel
theorem dL_reach_8 : decode cL_reach 8 = .ok (.i2l, 1) := by decide +kernel
theorem dL_reach_9 : decode cL_reach 9 = .ok (.lastore, 1) := by decide +kernel
theorem dL_reach_10 : decode cL_reach 10 = .ok (.goto 11, 3) := by decide +kernel
theorem dL_reach_13 : decode cL_reach 13 = .ok (.astore 4, 2) := by decide +kernel
theorem dL_reach_15 : decode cL_reach 15 = .ok (.iconst 1, 1) := by decide +kernel
theorem dL_reach_16 : decode cL_reach 16 = .ok (.ireturn, 1) := by decide +kernel
theorem dL_reach_17 : decode cL_reach 17 = .ok (.astore 4, 2) := by decide +kernel
theorem dL_reach_19 : decode cL_reach 19 = .ok (.iconst 2, 1) := by decide +kernel
theorem dL_reach_20 : decode cL_reach 20 = .ok (.ireturn, 1) := by decide +kernel
theorem dL_reach_21 : decode cL_reach 21 = .ok (.iconst 0, 1) := by decide +kernel
theorem dL_reach_22 : decode cL_reach 22 = .ok (.ireturn, 1) := by decide +kernel
theorem dL_loudnessAt_0 : decode cL_loudnessAt 0 = .ok (.aload_n 3, 1) := by decide +kernel
theorem dL_loudnessAt_1 : decode cL_loudnessAt 1 = .ok (.iconst 0, 1) := by decide +kernel
theorem dL_loudnessAt_2 : decode cL_loudnessAt 2 = .ok (.aload_n 0, 1) := by decide +kernel
theorem dL_loudnessAt_3 : decode cL_loudnessAt 3 = .ok (.iload_n 1, 1) := by decide +kernel
theorem dL_loudnessAt_4 : decode cL_loudnessAt 4 = .ok (.iload_n 2, 1) := by decide +kernel
theorem dL_loudnessAt_5 : decode cL_loudnessAt 5 = .ok (.invokevirtual 75, 3) := by decide +kernel
theorem dL_loudnessAt_8 : decode cL_loudnessAt 8 = .ok (.i2l, 1) := by decide +kernel
theorem dL_loudnessAt_9 : decode cL_loudnessAt 9 = .ok (.lastore, 1) := by decide +kernel
theorem dL_loudnessAt_10 : decode cL_loudnessAt 10 = .ok (.goto 7, 3) := by decide +kernel
theorem dL_loudnessAt_13 : decode cL_loudnessAt 13 = .ok (.astore 4, 2) := by decide +kernel
theorem dL_loudnessAt_15 : decode cL_loudnessAt 15 = .ok (.iconst 1, 1) := by decide +kernel
theorem dL_loudnessAt_16 : decode cL_loudnessAt 16 = .ok (.ireturn, 1) := by decide +kernel
theorem dL_loudnessAt_17 : decode cL_loudnessAt 17 = .ok (.iconst 0, 1) := by decide +kernel
theorem dL_loudnessAt_18 : decode cL_loudnessAt 18 = .ok (.ireturn, 1) := by decide +kernel
theorem dL_comesBack_0 : decode cL_comesBack 0 = .ok (.aload_n 2, 1) := by decide +kernel
theorem dL_comesBack_1 : decode cL_comesBack 1 = .ok (.iconst 0, 1) := by decide +kernel
theorem dL_comesBack_2 : decode cL_comesBack 2 = .ok (.aload_n 0, 1) := by decide +kernel
theorem dL_comesBack_3 : decode cL_comesBack 3 = .ok (.iload_n 1, 1) := by decide +kernel
theorem dL_comesBack_4 : decode cL_comesBack 4 = .ok (.invokevirtual 78, 3) := by decide +kernel
theorem dL_comesBack_7 : decode cL_comesBack 7 = .ok (.ifCond .eq 7, 3) := by decide +kernel
theorem dL_comesBack_10 : decode cL_comesBack 10 = .ok (.lconst 1, 1) := by decide +kernel
theorem dL_comesBack_11 : decode cL_comesBack 11 = .ok (.goto 4, 3) := by decide +kernel
theorem dL_comesBack_14 : decode cL_comesBack 14 = .ok (.lconst 0, 1) := by decide +kernel
theorem dL_comesBack_15 : decode cL_comesBack 15 = .ok (.lastore, 1) := by decide +kernel
theorem dL_comesBack_16 : decode cL_comesBack 16 = .ok (.goto 6, 3) := by decide +kernel
theorem dL_comesBack_19 : decode cL_comesBack 19 = .ok (.astore_n 3, 1) := by decide +kernel
theorem dL_comesBack_20 : decode cL_comesBack 20 = .ok (.iconst 1, 1) := by decide +kernel
theorem dL_comesBack_21 : decode cL_comesBack 21 = .ok (.ireturn, 1) := by decide +kernel
theorem dL_comesBack_22 : decode cL_comesBack 22 = .ok (.iconst 0, 1) := by decide +kernel
theorem dL_comesBack_23 : decode cL_comesBack 23 = .ok (.ireturn, 1) := by decide +kernel
theorem dL_petalsAfter_0 : decode cL_petalsAfter 0 = .ok (.aload_n 3, 1) := by decide +kernel
theorem dL_petalsAfter_1 : decode cL_petalsAfter 1 = .ok (.iconst 0, 1) := by decide +kernel
theorem dL_petalsAfter_2 : decode cL_petalsAfter 2 = .ok (.aload_n 0, 1) := by decide +kernel
theorem dL_petalsAfter_3 : decode cL_petalsAfter 3 = .ok (.iload_n 1, 1) := by decide +kernel
theorem dL_petalsAfter_4 : decode cL_petalsAfter 4 = .ok (.iload_n 2, 1) := by decide +kernel
theorem dL_petalsAfter_5 : decode cL_petalsAfter 5 = .ok (.invokevirtual 82, 3) := by decide +kernel
theorem dL_petalsAfter_8 : decode cL_petalsAfter 8 = .ok (.i2l, 1) := by decide +kernel
theorem dL_petalsAfter_9 : decode cL_petalsAfter 9 = .ok (.lastore, 1) := by decide +kernel
theorem dL_petalsAfter_10 : decode cL_petalsAfter 10 = .ok (.goto 11, 3) := by decide +kernel
theorem dL_petalsAfter_13 : decode cL_petalsAfter 13 = .ok (.astore 4, 2) := by decide +kernel
theorem dL_petalsAfter_15 : decode cL_petalsAfter 15 = .ok (.iconst 1, 1) := by decide +kernel
theorem dL_petalsAfter_16 : decode cL_petalsAfter 16 = .ok (.ireturn, 1) := by decide +kernel
theorem dL_petalsAfter_17 : decode cL_petalsAfter 17 = .ok (.astore 4, 2) := by decide +kernel
theorem dL_petalsAfter_19 : decode cL_petalsAfter 19 = .ok (.iconst 2, 1) := by decide +kernel
theorem dL_petalsAfter_20 : decode cL_petalsAfter 20 = .ok (.ireturn, 1) := by decide +kernel
theorem dL_petalsAfter_21 : decode cL_petalsAfter 21 = .ok (.iconst 0, 1) := by decide +kernel
theorem dL_petalsAfter_22 : decode cL_petalsAfter 22 = .ok (.ireturn, 1) := by decide +kernel
theorem dL_daysUntilLeft_0 : decode cL_daysUntilLeft 0 = .ok (.aload_n 2, 1) := by decide +kernel
theorem dL_daysUntilLeft_1 : decode cL_daysUntilLeft 1 = .ok (.iconst 0, 1) := by decide +kernel
theorem dL_daysUntilLeft_2 : decode cL_daysUntilLeft 2 = .ok (.aload_n 0, 1) := by decide +kernel
theorem dL_daysUntilLeft_3 : decode cL_daysUntilLeft 3 = .ok (.iload_n 1, 1) := by decide +kernel
theorem dL_daysUntilLeft_4 : decode cL_daysUntilLeft 4 = .ok (.invokevirtual 85, 3) := by decide +kernel
theorem dL_daysUntilLeft_7 : decode cL_daysUntilLeft 7 = .ok (.i2l, 1) := by decide +kernel
theorem dL_daysUntilLeft_8 : decode cL_daysUntilLeft 8 = .ok (.lastore, 1) := by decide +kernel
theorem dL_daysUntilLeft_9 : decode cL_daysUntilLeft 9 = .ok (.goto 6, 3) := by decide +kernel
theorem dL_daysUntilLeft_12 : decode cL_daysUntilLeft 12 = .ok (.astore_n 3, 1) := by decide +kernel
theorem dL_daysUntilLeft_13 : decode cL_daysUntilLeft 13 = .ok (.iconst 1, 1) := by decide +kernel
theorem dL_daysUntilLeft_14 : decode cL_daysUntilLeft 14 = .ok (.ireturn, 1) := by decide +kernel
theorem dL_daysUntilLeft_15 : decode cL_daysUntilLeft 15 = .ok (.iconst 0, 1) := by decide +kernel
theorem dL_daysUntilLeft_16 : decode cL_daysUntilLeft 16 = .ok (.ireturn, 1) := by decide +kernel
theorem dL_bestToTell_0 : decode cL_bestToTell 0 = .ok (.aload_n 2, 1) := by decide +kernel
theorem dL_bestToTell_1 : decode cL_bestToTell 1 = .ok (.iconst 0, 1) := by decide +kernel
theorem dL_bestToTell_2 : decode cL_bestToTell 2 = .ok (.aload_n 0, 1) := by decide +kernel
theorem dL_bestToTell_3 : decode cL_bestToTell 3 = .ok (.iload_n 1, 1) := by decide +kernel
theorem dL_bestToTell_4 : decode cL_bestToTell 4 = .ok (.invokevirtual 88, 3) := by decide +kernel
theorem dL_bestToTell_7 : decode cL_bestToTell 7 = .ok (.i2l, 1) := by decide +kernel
theorem dL_bestToTell_8 : decode cL_bestToTell 8 = .ok (.lastore, 1) := by decide +kernel
theorem dL_bestToTell_9 : decode cL_bestToTell 9 = .ok (.goto 6, 3) := by decide +kernel
theorem dL_bestToTell_12 : decode cL_bestToTell 12 = .ok (.astore_n 3, 1) := by decide +kernel
theorem dL_bestToTell_13 : decode cL_bestToTell 13 = .ok (.iconst 1, 1) := by decide +kernel
theorem dL_bestToTell_14 : decode cL_bestToTell 14 = .ok (.ireturn, 1) := by decide +kernel
theorem dL_bestToTell_15 : decode cL_bestToTell 15 = .ok (.iconst 0, 1) := by decide +kernel
theorem dL_bestToTell_16 : decode cL_bestToTell 16 = .ok (.ireturn, 1) := by decide +kernel
theorem dL_law_0 : decode cL_law 0 = .ok (.new 8, 3) := by decide +kernel
theorem dL_law_3 : decode cL_law 3 = .ok (.dup, 1) := by decide +kernel
theorem dL_law_4 : decode cL_law 4 = .ok (.invokespecial 91, 3) := by decide +kernel
theorem dL_law_7 : decode cL_law 7 = .ok (.astore_n 1, 1) := by decide +kernel
theorem dL_law_8 : decode cL_law 8 = .ok (.new 92, 3) := by decide +kernel
theorem dL_law_11 : decode cL_law 11 = .ok (.dup, 1) := by decide +kernel
theorem dL_law_12 : decode cL_law 12 = .ok (.invokespecial 94, 3) := by decide +kernel
theorem dL_law_15 : decode cL_law 15 = .ok (.astore_n 2, 1) := by decide +kernel
theorem dL_law_16 : decode cL_law 16 = .ok (.iconst 1, 1) := by decide +kernel
theorem dL_law_17 : decode cL_law 17 = .ok (.newarray .long, 2) := by decide +kernel
theorem dL_law_19 : decode cL_law 19 = .ok (.astore_n 3, 1) := by decide +kernel
theorem dL_law_20 : decode cL_law 20 = .ok (.iconst 0, 1) := by decide +kernel
theorem dL_law_21 : decode cL_law 21 = .ok (.istore 4, 2) := by decide +kernel
theorem dL_law_23 : decode cL_law 23 = .ok (.iload 4, 2) := by decide +kernel
theorem dL_law_25 : decode cL_law 25 = .ok (.aload_n 0, 1) := by decide +kernel
theorem dL_law_26 : decode cL_law 26 = .ok (.arraylength, 1) := by decide +kernel
theorem dL_law_27 : decode cL_law 27 = .ok (.bipush 6, 2) := by decide +kernel
theorem dL_law_29 : decode cL_law 29 = .ok (.isub, 1) := by decide +kernel
theorem dL_law_30 : decode cL_law 30 = .ok (.if_icmp .gt 1880, 3) := by decide +kernel
theorem dL_law_33 : decode cL_law 33 = .ok (.aload_n 0, 1) := by decide +kernel
theorem dL_law_34 : decode cL_law 34 = .ok (.iload 4, 2) := by decide +kernel
theorem dL_law_36 : decode cL_law 36 = .ok (.iaload, 1) := by decide +kernel
theorem dL_law_37 : decode cL_law 37 = .ok (.bipush 63, 2) := by decide +kernel
theorem dL_law_39 : decode cL_law 39 = .ok (.iand, 1) := by decide +kernel
theorem dL_law_40 : decode cL_law 40 = .ok (.tableswitch 1864 0 35 #[160, 264, 320, 333, 346, 359, 372, 385, 398, 411, 424, 437, 493, 549, 605, 661, 729, 797, 853, 909, 965, 1021, 1034, 1102, 1170, 1238, 1306, 1374, 1430, 1498, 1566, 1629, 1697, 1753, 1809, 1850], 160) := by decide +kernel
theorem dL_law_200 : decode cL_law 200 = .ok (.aload_n 1, 1) := by decide +kernel
theorem dL_law_201 : decode cL_law 201 = .ok (.aload_n 0, 1) := by decide +kernel
theorem dL_law_202 : decode cL_law 202 = .ok (.iload 4, 2) := by decide +kernel
theorem dL_law_204 : decode cL_law 204 = .ok (.iconst 1, 1) := by decide +kernel
theorem dL_law_205 : decode cL_law 205 = .ok (.iadd, 1) := by decide +kernel
theorem dL_law_206 : decode cL_law 206 = .ok (.iaload, 1) := by decide +kernel
theorem dL_law_207 : decode cL_law 207 = .ok (.aload_n 0, 1) := by decide +kernel
theorem dL_law_208 : decode cL_law 208 = .ok (.iload 4, 2) := by decide +kernel
theorem dL_law_210 : decode cL_law 210 = .ok (.iconst 2, 1) := by decide +kernel
theorem dL_law_211 : decode cL_law 211 = .ok (.iadd, 1) := by decide +kernel
theorem dL_law_212 : decode cL_law 212 = .ok (.iaload, 1) := by decide +kernel
theorem dL_law_213 : decode cL_law 213 = .ok (.aload_n 0, 1) := by decide +kernel
theorem dL_law_214 : decode cL_law 214 = .ok (.iload 4, 2) := by decide +kernel
theorem dL_law_216 : decode cL_law 216 = .ok (.iconst 3, 1) := by decide +kernel
theorem dL_law_217 : decode cL_law 217 = .ok (.iadd, 1) := by decide +kernel
theorem dL_law_218 : decode cL_law 218 = .ok (.iaload, 1) := by decide +kernel
theorem dL_law_219 : decode cL_law 219 = .ok (.aload_n 0, 1) := by decide +kernel
theorem dL_law_220 : decode cL_law 220 = .ok (.iload 4, 2) := by decide +kernel
theorem dL_law_222 : decode cL_law 222 = .ok (.iconst 4, 1) := by decide +kernel
theorem dL_law_223 : decode cL_law 223 = .ok (.iadd, 1) := by decide +kernel
theorem dL_law_224 : decode cL_law 224 = .ok (.iaload, 1) := by decide +kernel
theorem dL_law_225 : decode cL_law 225 = .ok (.aload_n 0, 1) := by decide +kernel
theorem dL_law_226 : decode cL_law 226 = .ok (.iload 4, 2) := by decide +kernel
theorem dL_law_228 : decode cL_law 228 = .ok (.iconst 5, 1) := by decide +kernel
theorem dL_law_229 : decode cL_law 229 = .ok (.iadd, 1) := by decide +kernel
theorem dL_law_230 : decode cL_law 230 = .ok (.iaload, 1) := by decide +kernel
theorem dL_law_231 : decode cL_law 231 = .ok (.aload_n 3, 1) := by decide +kernel
theorem dL_law_232 : decode cL_law 232 = .ok (.invokestatic 95, 3) := by decide +kernel
theorem dL_law_235 : decode cL_law 235 = .ok (.istore 5, 2) := by decide +kernel
theorem dL_law_237 : decode cL_law 237 = .ok (.aload_n 2, 1) := by decide +kernel
theorem dL_law_238 : decode cL_law 238 = .ok (.aload_n 0, 1) := by decide +kernel
theorem dL_law_239 : decode cL_law 239 = .ok (.iload 4, 2) := by decide +kernel
theorem dL_law_241 : decode cL_law 241 = .ok (.iconst 1, 1) := by decide +kernel
theorem dL_law_242 : decode cL_law 242 = .ok (.iadd, 1) := by decide +kernel
theorem dL_law_243 : decode cL_law 243 = .ok (.iaload, 1) := by decide +kernel
theorem dL_law_244 : decode cL_law 244 = .ok (.aload_n 0, 1) := by decide +kernel
theorem dL_law_245 : decode cL_law 245 = .ok (.iload 4, 2) := by decide +kernel
theorem dL_law_247 : decode cL_law 247 = .ok (.iconst 2, 1) := by decide +kernel
theorem dL_law_248 : decode cL_law 248 = .ok (.iadd, 1) := by decide +kernel
theorem dL_law_249 : decode cL_law 249 = .ok (.iaload, 1) := by decide +kernel
theorem dL_law_250 : decode cL_law 250 = .ok (.aload_n 0, 1) := by decide +kernel
theorem dL_law_251 : decode cL_law 251 = .ok (.iload 4, 2) := by decide +kernel
theorem dL_law_253 : decode cL_law 253 = .ok (.iconst 3, 1) := by decide +kernel
theorem dL_law_254 : decode cL_law 254 = .ok (.iadd, 1) := by decide +kernel
theorem dL_law_255 : decode cL_law 255 = .ok (.iaload, 1) := by decide +kernel
theorem dL_law_256 : decode cL_law 256 = .ok (.aload_n 0, 1) := by decide +kernel
theorem dL_law_257 : decode cL_law 257 = .ok (.iload 4, 2) := by decide +kernel
theorem dL_law_259 : decode cL_law 259 = .ok (.iconst 4, 1) := by decide +kernel
theorem dL_law_260 : decode cL_law 260 = .ok (.iadd, 1) := by decide +kernel
theorem dL_law_261 : decode cL_law 261 = .ok (.iaload, 1) := by decide +kernel
theorem dL_law_262 : decode cL_law 262 = .ok (.aload_n 0, 1) := by decide +kernel
theorem dL_law_263 : decode cL_law 263 = .ok (.iload 4, 2) := by decide +kernel
theorem dL_law_265 : decode cL_law 265 = .ok (.iconst 5, 1) := by decide +kernel
theorem dL_law_266 : decode cL_law 266 = .ok (.iadd, 1) := by decide +kernel
theorem dL_law_267 : decode cL_law 267 = .ok (.iaload, 1) := by decide +kernel
theorem dL_law_268 : decode cL_law 268 = .ok (.invokevirtual 100, 3) := by decide +kernel
theorem dL_law_271 : decode cL_law 271 = .ok (.istore 6, 2) := by decide +kernel
theorem dL_law_273 : decode cL_law 273 = .ok (.aload_n 2, 1) := by decide +kernel
theorem dL_law_274 : decode cL_law 274 = .ok (.invokevirtual 101, 3) := by decide +kernel
theorem dL_law_277 : decode cL_law 277 = .ok (.iload 5, 2) := by decide +kernel
theorem dL_law_279 : decode cL_law 279 = .ok (.if_icmp .eq 5, 3) := by decide +kernel
theorem dL_law_282 : decode cL_law 282 = .ok (.iconst 0, 1) := by decide +kernel
theorem dL_law_283 : decode cL_law 283 = .ok (.ireturn, 1) := by decide +kernel
theorem dL_law_284 : decode cL_law 284 = .ok (.iload 5, 2) := by decide +kernel
theorem dL_law_286 : decode cL_law 286 = .ok (.ifCond .ne 15, 3) := by decide +kernel
theorem dL_law_289 : decode cL_law 289 = .ok (.aload_n 3, 1) := by decide +kernel
theorem dL_law_290 : decode cL_law 290 = .ok (.iconst 0, 1) := by decide +kernel
theorem dL_law_291 : decode cL_law 291 = .ok (.laload, 1) := by decide +kernel
theorem dL_law_292 : decode cL_law 292 = .ok (.iload 6, 2) := by decide +kernel
theorem dL_law_294 : decode cL_law 294 = .ok (.i2l, 1) := by decide +kernel
theorem dL_law_295 : decode cL_law 295 = .ok (.lcmp, 1) := by decide +kernel
theorem dL_law_296 : decode cL_law 296 = .ok (.ifCond .eq 5, 3) := by decide +kernel
theorem dL_law_299 : decode cL_law 299 = .ok (.iconst 0, 1) := by decide +kernel
theorem dL_law_300 : decode cL_law 300 = .ok (.ireturn, 1) := by decide +kernel
theorem dL_law_301 : decode cL_law 301 = .ok (.goto 1603, 3) := by decide +kernel
theorem dL_law_304 : decode cL_law 304 = .ok (.aload_n 1, 1) := by decide +kernel
theorem dL_law_305 : decode cL_law 305 = .ok (.aload_n 0, 1) := by decide +kernel
theorem dL_law_306 : decode cL_law 306 = .ok (.iload 4, 2) := by decide +kernel
theorem dL_law_308 : decode cL_law 308 = .ok (.iconst 1, 1) := by decide +kernel
theorem dL_law_309 : decode cL_law 309 = .ok (.iadd, 1) := by decide +kernel
theorem dL_law_310 : decode cL_law 310 = .ok (.iaload, 1) := by decide +kernel
theorem dL_law_311 : decode cL_law 311 = .ok (.aload_n 3, 1) := by decide +kernel
theorem dL_law_312 : decode cL_law 312 = .ok (.invokestatic 105, 3) := by decide +kernel
theorem dL_law_315 : decode cL_law 315 = .ok (.istore 5, 2) := by decide +kernel
theorem dL_law_317 : decode cL_law 317 = .ok (.aload_n 2, 1) := by decide +kernel
theorem dL_law_318 : decode cL_law 318 = .ok (.aload_n 0, 1) := by decide +kernel
theorem dL_law_319 : decode cL_law 319 = .ok (.iload 4, 2) := by decide +kernel
theorem dL_law_321 : decode cL_law 321 = .ok (.iconst 1, 1) := by decide +kernel
theorem dL_law_322 : decode cL_law 322 = .ok (.iadd, 1) := by decide +kernel
theorem dL_law_323 : decode cL_law 323 = .ok (.iaload, 1) := by decide +kernel
theorem dL_law_324 : decode cL_law 324 = .ok (.invokevirtual 108, 3) := by decide +kernel
theorem dL_law_327 : decode cL_law 327 = .ok (.istore 6, 2) := by decide +kernel
theorem dL_law_329 : decode cL_law 329 = .ok (.aload_n 2, 1) := by decide +kernel
theorem dL_law_330 : decode cL_law 330 = .ok (.invokevirtual 101, 3) := by decide +kernel
theorem dL_law_333 : decode cL_law 333 = .ok (.iload 5, 2) := by decide +kernel
theorem dL_law_335 : decode cL_law 335 = .ok (.if_icmp .eq 5, 3) := by decide +kernel
theorem dL_law_338 : decode cL_law 338 = .ok (.iconst 0, 1) := by decide +kernel
theorem dL_law_339 : decode cL_law 339 = .ok (.ireturn, 1) := by decide +kernel
theorem dL_law_340 : decode cL_law 340 = .ok (.iload 5, 2) := by decide +kernel
theorem dL_law_342 : decode cL_law 342 = .ok (.ifCond .ne 15, 3) := by decide +kernel
theorem dL_law_345 : decode cL_law 345 = .ok (.aload_n 3, 1) := by decide +kernel
theorem dL_law_346 : decode cL_law 346 = .ok (.iconst 0, 1) := by decide +kernel
theorem dL_law_347 : decode cL_law 347 = .ok (.laload, 1) := by decide +kernel
theorem dL_law_348 : decode cL_law 348 = .ok (.iload 6, 2) := by decide +kernel
theorem dL_law_350 : decode cL_law 350 = .ok (.i2l, 1) := by decide +kernel
theorem dL_law_351 : decode cL_law 351 = .ok (.lcmp, 1) := by decide +kernel
theorem dL_law_352 : decode cL_law 352 = .ok (.ifCond .eq 5, 3) := by decide +kernel
theorem dL_law_355 : decode cL_law 355 = .ok (.iconst 0, 1) := by decide +kernel
theorem dL_law_356 : decode cL_law 356 = .ok (.ireturn, 1) := by decide +kernel
theorem dL_law_357 : decode cL_law 357 = .ok (.goto 1547, 3) := by decide +kernel
theorem dL_law_360 : decode cL_law 360 = .ok (.aload_n 1, 1) := by decide +kernel
theorem dL_law_361 : decode cL_law 361 = .ok (.invokevirtual 109, 3) := by decide +kernel
theorem dL_law_364 : decode cL_law 364 = .ok (.aload_n 2, 1) := by decide +kernel
theorem dL_law_365 : decode cL_law 365 = .ok (.invokevirtual 112, 3) := by decide +kernel
theorem dL_law_368 : decode cL_law 368 = .ok (.if_icmp .eq 1536, 3) := by decide +kernel
theorem dL_law_371 : decode cL_law 371 = .ok (.iconst 0, 1) := by decide +kernel
theorem dL_law_372 : decode cL_law 372 = .ok (.ireturn, 1) := by decide +kernel
theorem dL_law_373 : decode cL_law 373 = .ok (.aload_n 1, 1) := by decide +kernel
theorem dL_law_374 : decode cL_law 374 = .ok (.invokevirtual 113, 3) := by decide +kernel
theorem dL_law_377 : decode cL_law 377 = .ok (.aload_n 2, 1) := by decide +kernel
theorem dL_law_378 : decode cL_law 378 = .ok (.invokevirtual 116, 3) := by decide +kernel
theorem dL_law_381 : decode cL_law 381 = .ok (.if_icmp .eq 1523, 3) := by decide +kernel
theorem dL_law_384 : decode cL_law 384 = .ok (.iconst 0, 1) := by decide +kernel
theorem dL_law_385 : decode cL_law 385 = .ok (.ireturn, 1) := by decide +kernel
theorem dL_law_386 : decode cL_law 386 = .ok (.aload_n 1, 1) := by decide +kernel
theorem dL_law_387 : decode cL_law 387 = .ok (.invokevirtual 117, 3) := by decide +kernel
theorem dL_law_390 : decode cL_law 390 = .ok (.aload_n 2, 1) := by decide +kernel
theorem dL_law_391 : decode cL_law 391 = .ok (.invokevirtual 120, 3) := by decide +kernel
theorem dL_law_394 : decode cL_law 394 = .ok (.if_icmp .eq 1510, 3) := by decide +kernel
theorem dL_law_397 : decode cL_law 397 = .ok (.iconst 0, 1) := by decide +kernel
theorem dL_law_398 : decode cL_law 398 = .ok (.ireturn, 1) := by decide +kernel
theorem dL_law_399 : decode cL_law 399 = .ok (.aload_n 1, 1) := by decide +kernel
theorem dL_law_400 : decode cL_law 400 = .ok (.invokevirtual 121, 3) := by decide +kernel
theorem dL_law_403 : decode cL_law 403 = .ok (.aload_n 2, 1) := by decide +kernel
theorem dL_law_404 : decode cL_law 404 = .ok (.invokevirtual 124, 3) := by decide +kernel
theorem dL_law_407 : decode cL_law 407 = .ok (.if_icmp .eq 1497, 3) := by decide +kernel
theorem dL_law_410 : decode cL_law 410 = .ok (.iconst 0, 1) := by decide +kernel
theorem dL_law_411 : decode cL_law 411 = .ok (.ireturn, 1) := by decide +kernel
theorem dL_law_412 : decode cL_law 412 = .ok (.aload_n 1, 1) := by decide +kernel
theorem dL_law_413 : decode cL_law 413 = .ok (.invokevirtual 125, 3) := by decide +kernel
theorem dL_law_416 : decode cL_law 416 = .ok (.aload_n 2, 1) := by decide +kernel
theorem dL_law_417 : decode cL_law 417 = .ok (.invokevirtual 128, 3) := by decide +kernel
theorem dL_law_420 : decode cL_law 420 = .ok (.if_icmp .eq 1484, 3) := by decide +kernel
theorem dL_law_423 : decode cL_law 423 = .ok (.iconst 0, 1) := by decide +kernel
theorem dL_law_424 : decode cL_law 424 = .ok (.ireturn, 1) := by decide +kernel
theorem dL_law_425 : decode cL_law 425 = .ok (.aload_n 1, 1) := by decide +kernel
theorem dL_law_426 : decode cL_law 426 = .ok (.invokevirtual 129, 3) := by decide +kernel
theorem dL_law_429 : decode cL_law 429 = .ok (.aload_n 2, 1) := by decide +kernel
theorem dL_law_430 : decode cL_law 430 = .ok (.invokevirtual 132, 3) := by decide +kernel
theorem dL_law_433 : decode cL_law 433 = .ok (.if_icmp .eq 1471, 3) := by decide +kernel
theorem dL_law_436 : decode cL_law 436 = .ok (.iconst 0, 1) := by decide +kernel
theorem dL_law_437 : decode cL_law 437 = .ok (.ireturn, 1) := by decide +kernel
theorem dL_law_438 : decode cL_law 438 = .ok (.aload_n 1, 1) := by decide +kernel
theorem dL_law_439 : decode cL_law 439 = .ok (.invokevirtual 133, 3) := by decide +kernel
theorem dL_law_442 : decode cL_law 442 = .ok (.aload_n 2, 1) := by decide +kernel
theorem dL_law_443 : decode cL_law 443 = .ok (.invokevirtual 136, 3) := by decide +kernel
theorem dL_law_446 : decode cL_law 446 = .ok (.if_icmp .eq 1458, 3) := by decide +kernel
theorem dL_law_449 : decode cL_law 449 = .ok (.iconst 0, 1) := by decide +kernel
theorem dL_law_450 : decode cL_law 450 = .ok (.ireturn, 1) := by decide +kernel
theorem dL_law_451 : decode cL_law 451 = .ok (.aload_n 1, 1) := by decide +kernel
theorem dL_law_452 : decode cL_law 452 = .ok (.invokevirtual 137, 3) := by decide +kernel
theorem dL_law_455 : decode cL_law 455 = .ok (.aload_n 2, 1) := by decide +kernel
theorem dL_law_456 : decode cL_law 456 = .ok (.invokevirtual 140, 3) := by decide +kernel
theorem dL_law_459 : decode cL_law 459 = .ok (.if_icmp .eq 1445, 3) := by decide +kernel
theorem dL_law_462 : decode cL_law 462 = .ok (.iconst 0, 1) := by decide +kernel
theorem dL_law_463 : decode cL_law 463 = .ok (.ireturn, 1) := by decide +kernel
theorem dL_law_464 : decode cL_law 464 = .ok (.aload_n 1, 1) := by decide +kernel
theorem dL_law_465 : decode cL_law 465 = .ok (.invokevirtual 141, 3) := by decide +kernel
theorem dL_law_468 : decode cL_law 468 = .ok (.aload_n 2, 1) := by decide +kernel
theorem dL_law_469 : decode cL_law 469 = .ok (.invokevirtual 144, 3) := by decide +kernel
theorem dL_law_472 : decode cL_law 472 = .ok (.if_icmp .eq 1432, 3) := by decide +kernel
theorem dL_law_475 : decode cL_law 475 = .ok (.iconst 0, 1) := by decide +kernel
theorem dL_law_476 : decode cL_law 476 = .ok (.ireturn, 1) := by decide +kernel
theorem dL_law_477 : decode cL_law 477 = .ok (.aload_n 1, 1) := by decide +kernel
theorem dL_law_478 : decode cL_law 478 = .ok (.aload_n 0, 1) := by decide +kernel
theorem dL_law_479 : decode cL_law 479 = .ok (.iload 4, 2) := by decide +kernel
theorem dL_law_481 : decode cL_law 481 = .ok (.iconst 1, 1) := by decide +kernel
theorem dL_law_482 : decode cL_law 482 = .ok (.iadd, 1) := by decide +kernel
theorem dL_law_483 : decode cL_law 483 = .ok (.iaload, 1) := by decide +kernel
theorem dL_law_484 : decode cL_law 484 = .ok (.aload_n 3, 1) := by decide +kernel
theorem dL_law_485 : decode cL_law 485 = .ok (.invokestatic 145, 3) := by decide +kernel
theorem dL_law_488 : decode cL_law 488 = .ok (.istore 5, 2) := by decide +kernel
theorem dL_law_490 : decode cL_law 490 = .ok (.aload_n 2, 1) := by decide +kernel
theorem dL_law_491 : decode cL_law 491 = .ok (.aload_n 0, 1) := by decide +kernel
theorem dL_law_492 : decode cL_law 492 = .ok (.iload 4, 2) := by decide +kernel
theorem dL_law_494 : decode cL_law 494 = .ok (.iconst 1, 1) := by decide +kernel
theorem dL_law_495 : decode cL_law 495 = .ok (.iadd, 1) := by decide +kernel
theorem dL_law_496 : decode cL_law 496 = .ok (.iaload, 1) := by decide +kernel
theorem dL_law_497 : decode cL_law 497 = .ok (.invokevirtual 147, 3) := by decide +kernel
theorem dL_law_500 : decode cL_law 500 = .ok (.istore 6, 2) := by decide +kernel
theorem dL_law_502 : decode cL_law 502 = .ok (.aload_n 2, 1) := by decide +kernel
theorem dL_law_503 : decode cL_law 503 = .ok (.invokevirtual 101, 3) := by decide +kernel
theorem dL_law_506 : decode cL_law 506 = .ok (.iload 5, 2) := by decide +kernel
theorem dL_law_508 : decode cL_law 508 = .ok (.if_icmp .eq 5, 3) := by decide +kernel
theorem dL_law_511 : decode cL_law 511 = .ok (.iconst 0, 1) := by decide +kernel
theorem dL_law_512 : decode cL_law 512 = .ok (.ireturn, 1) := by decide +kernel
theorem dL_law_513 : decode cL_law 513 = .ok (.iload 5, 2) := by decide +kernel
theorem dL_law_515 : decode cL_law 515 = .ok (.ifCond .ne 15, 3) := by decide +kernel
theorem dL_law_518 : decode cL_law 518 = .ok (.aload_n 3, 1) := by decide +kernel
theorem dL_law_519 : decode cL_law 519 = .ok (.iconst 0, 1) := by decide +kernel
theorem dL_law_520 : decode cL_law 520 = .ok (.laload, 1) := by decide +kernel
theorem dL_law_521 : decode cL_law 521 = .ok (.iload 6, 2) := by decide +kernel
theorem dL_law_523 : decode cL_law 523 = .ok (.i2l, 1) := by decide +kernel
theorem dL_law_524 : decode cL_law 524 = .ok (.lcmp, 1) := by decide +kernel
theorem dL_law_525 : decode cL_law 525 = .ok (.ifCond .eq 5, 3) := by decide +kernel
theorem dL_law_528 : decode cL_law 528 = .ok (.iconst 0, 1) := by decide +kernel
theorem dL_law_529 : decode cL_law 529 = .ok (.ireturn, 1) := by decide +kernel
theorem dL_law_530 : decode cL_law 530 = .ok (.goto 1374, 3) := by decide +kernel
theorem dL_law_533 : decode cL_law 533 = .ok (.aload_n 1, 1) := by decide +kernel
theorem dL_law_534 : decode cL_law 534 = .ok (.aload_n 0, 1) := by decide +kernel
theorem dL_law_535 : decode cL_law 535 = .ok (.iload 4, 2) := by decide +kernel
theorem dL_law_537 : decode cL_law 537 = .ok (.iconst 1, 1) := by decide +kernel
theorem dL_law_538 : decode cL_law 538 = .ok (.iadd, 1) := by decide +kernel
theorem dL_law_539 : decode cL_law 539 = .ok (.iaload, 1) := by decide +kernel
theorem dL_law_540 : decode cL_law 540 = .ok (.aload_n 3, 1) := by decide +kernel
theorem dL_law_541 : decode cL_law 541 = .ok (.invokestatic 148, 3) := by decide +kernel
theorem dL_law_544 : decode cL_law 544 = .ok (.istore 5, 2) := by decide +kernel
theorem dL_law_546 : decode cL_law 546 = .ok (.aload_n 2, 1) := by decide +kernel
theorem dL_law_547 : decode cL_law 547 = .ok (.aload_n 0, 1) := by decide +kernel
theorem dL_law_548 : decode cL_law 548 = .ok (.iload 4, 2) := by decide +kernel
theorem dL_law_550 : decode cL_law 550 = .ok (.iconst 1, 1) := by decide +kernel
theorem dL_law_551 : decode cL_law 551 = .ok (.iadd, 1) := by decide +kernel
theorem dL_law_552 : decode cL_law 552 = .ok (.iaload, 1) := by decide +kernel
theorem dL_law_553 : decode cL_law 553 = .ok (.invokevirtual 150, 3) := by decide +kernel
theorem dL_law_556 : decode cL_law 556 = .ok (.istore 6, 2) := by decide +kernel
theorem dL_law_558 : decode cL_law 558 = .ok (.aload_n 2, 1) := by decide +kernel
theorem dL_law_559 : decode cL_law 559 = .ok (.invokevirtual 101, 3) := by decide +kernel
theorem dL_law_562 : decode cL_law 562 = .ok (.iload 5, 2) := by decide +kernel
theorem dL_law_564 : decode cL_law 564 = .ok (.if_icmp .eq 5, 3) := by decide +kernel
theorem dL_law_567 : decode cL_law 567 = .ok (.iconst 0, 1) := by decide +kernel
theorem dL_law_568 : decode cL_law 568 = .ok (.ireturn, 1) := by decide +kernel
theorem dL_law_569 : decode cL_law 569 = .ok (.iload 5, 2) := by decide +kernel
theorem dL_law_571 : decode cL_law 571 = .ok (.ifCond .ne 15, 3) := by decide +kernel
theorem dL_law_574 : decode cL_law 574 = .ok (.aload_n 3, 1) := by decide +kernel
theorem dL_law_575 : decode cL_law 575 = .ok (.iconst 0, 1) := by decide +kernel
theorem dL_law_576 : decode cL_law 576 = .ok (.laload, 1) := by decide +kernel
theorem dL_law_577 : decode cL_law 577 = .ok (.iload 6, 2) := by decide +kernel
theorem dL_law_579 : decode cL_law 579 = .ok (.i2l, 1) := by decide +kernel
theorem dL_law_580 : decode cL_law 580 = .ok (.lcmp, 1) := by decide +kernel
theorem dL_law_581 : decode cL_law 581 = .ok (.ifCond .eq 5, 3) := by decide +kernel
theorem dL_law_584 : decode cL_law 584 = .ok (.iconst 0, 1) := by decide +kernel
theorem dL_law_585 : decode cL_law 585 = .ok (.ireturn, 1) := by decide +kernel
theorem dL_law_586 : decode cL_law 586 = .ok (.goto 1318, 3) := by decide +kernel
theorem dL_law_589 : decode cL_law 589 = .ok (.aload_n 1, 1) := by decide +kernel
theorem dL_law_590 : decode cL_law 590 = .ok (.aload_n 0, 1) := by decide +kernel
theorem dL_law_591 : decode cL_law 591 = .ok (.iload 4, 2) := by decide +kernel
theorem dL_law_593 : decode cL_law 593 = .ok (.iconst 1, 1) := by decide +kernel
theorem dL_law_594 : decode cL_law 594 = .ok (.iadd, 1) := by decide +kernel
theorem dL_law_595 : decode cL_law 595 = .ok (.iaload, 1) := by decide +kernel
theorem dL_law_596 : decode cL_law 596 = .ok (.aload_n 3, 1) := by decide +kernel
theorem dL_law_597 : decode cL_law 597 = .ok (.invokestatic 151, 3) := by decide +kernel
theorem dL_law_600 : decode cL_law 600 = .ok (.istore 5, 2) := by decide +kernel
theorem dL_law_602 : decode cL_law 602 = .ok (.aload_n 2, 1) := by decide +kernel
theorem dL_law_603 : decode cL_law 603 = .ok (.aload_n 0, 1) := by decide +kernel
theorem dL_law_604 : decode cL_law 604 = .ok (.iload 4, 2) := by decide +kernel
theorem dL_law_606 : decode cL_law 606 = .ok (.iconst 1, 1) := by decide +kernel
theorem dL_law_607 : decode cL_law 607 = .ok (.iadd, 1) := by decide +kernel
theorem dL_law_608 : decode cL_law 608 = .ok (.iaload, 1) := by decide +kernel
theorem dL_law_609 : decode cL_law 609 = .ok (.invokevirtual 153, 3) := by decide +kernel
theorem dL_law_612 : decode cL_law 612 = .ok (.istore 6, 2) := by decide +kernel
theorem dL_law_614 : decode cL_law 614 = .ok (.aload_n 2, 1) := by decide +kernel
theorem dL_law_615 : decode cL_law 615 = .ok (.invokevirtual 101, 3) := by decide +kernel
theorem dL_law_618 : decode cL_law 618 = .ok (.iload 5, 2) := by decide +kernel
theorem dL_law_620 : decode cL_law 620 = .ok (.if_icmp .eq 5, 3) := by decide +kernel
theorem dL_law_623 : decode cL_law 623 = .ok (.iconst 0, 1) := by decide +kernel
theorem dL_law_624 : decode cL_law 624 = .ok (.ireturn, 1) := by decide +kernel
theorem dL_law_625 : decode cL_law 625 = .ok (.iload 5, 2) := by decide +kernel
theorem dL_law_627 : decode cL_law 627 = .ok (.ifCond .ne 15, 3) := by decide +kernel
theorem dL_law_630 : decode cL_law 630 = .ok (.aload_n 3, 1) := by decide +kernel
theorem dL_law_631 : decode cL_law 631 = .ok (.iconst 0, 1) := by decide +kernel
theorem dL_law_632 : decode cL_law 632 = .ok (.laload, 1) := by decide +kernel
theorem dL_law_633 : decode cL_law 633 = .ok (.iload 6, 2) := by decide +kernel
theorem dL_law_635 : decode cL_law 635 = .ok (.i2l, 1) := by decide +kernel
theorem dL_law_636 : decode cL_law 636 = .ok (.lcmp, 1) := by decide +kernel
theorem dL_law_637 : decode cL_law 637 = .ok (.ifCond .eq 5, 3) := by decide +kernel
theorem dL_law_640 : decode cL_law 640 = .ok (.iconst 0, 1) := by decide +kernel
theorem dL_law_641 : decode cL_law 641 = .ok (.ireturn, 1) := by decide +kernel
theorem dL_law_642 : decode cL_law 642 = .ok (.goto 1262, 3) := by decide +kernel
theorem dL_law_645 : decode cL_law 645 = .ok (.aload_n 1, 1) := by decide +kernel
theorem dL_law_646 : decode cL_law 646 = .ok (.aload_n 0, 1) := by decide +kernel
theorem dL_law_647 : decode cL_law 647 = .ok (.iload 4, 2) := by decide +kernel
theorem dL_law_649 : decode cL_law 649 = .ok (.iconst 1, 1) := by decide +kernel
theorem dL_law_650 : decode cL_law 650 = .ok (.iadd, 1) := by decide +kernel
theorem dL_law_651 : decode cL_law 651 = .ok (.iaload, 1) := by decide +kernel
theorem dL_law_652 : decode cL_law 652 = .ok (.aload_n 3, 1) := by decide +kernel
theorem dL_law_653 : decode cL_law 653 = .ok (.invokestatic 154, 3) := by decide +kernel
theorem dL_law_656 : decode cL_law 656 = .ok (.istore 5, 2) := by decide +kernel
theorem dL_law_658 : decode cL_law 658 = .ok (.aload_n 2, 1) := by decide +kernel
theorem dL_law_659 : decode cL_law 659 = .ok (.aload_n 0, 1) := by decide +kernel
theorem dL_law_660 : decode cL_law 660 = .ok (.iload 4, 2) := by decide +kernel
theorem dL_law_662 : decode cL_law 662 = .ok (.iconst 1, 1) := by decide +kernel
theorem dL_law_663 : decode cL_law 663 = .ok (.iadd, 1) := by decide +kernel
theorem dL_law_664 : decode cL_law 664 = .ok (.iaload, 1) := by decide +kernel
theorem dL_law_665 : decode cL_law 665 = .ok (.invokevirtual 156, 3) := by decide +kernel
theorem dL_law_668 : decode cL_law 668 = .ok (.istore 6, 2) := by decide +kernel
theorem dL_law_670 : decode cL_law 670 = .ok (.aload_n 2, 1) := by decide +kernel
theorem dL_law_671 : decode cL_law 671 = .ok (.invokevirtual 101, 3) := by decide +kernel
theorem dL_law_674 : decode cL_law 674 = .ok (.iload 5, 2) := by decide +kernel
theorem dL_law_676 : decode cL_law 676 = .ok (.if_icmp .eq 5, 3) := by decide +kernel
theorem dL_law_679 : decode cL_law 679 = .ok (.iconst 0, 1) := by decide +kernel
theorem dL_law_680 : decode cL_law 680 = .ok (.ireturn, 1) := by decide +kernel
theorem dL_law_681 : decode cL_law 681 = .ok (.iload 5, 2) := by decide +kernel
theorem dL_law_683 : decode cL_law 683 = .ok (.ifCond .ne 15, 3) := by decide +kernel
theorem dL_law_686 : decode cL_law 686 = .ok (.aload_n 3, 1) := by decide +kernel
theorem dL_law_687 : decode cL_law 687 = .ok (.iconst 0, 1) := by decide +kernel
theorem dL_law_688 : decode cL_law 688 = .ok (.laload, 1) := by decide +kernel
theorem dL_law_689 : decode cL_law 689 = .ok (.iload 6, 2) := by decide +kernel
theorem dL_law_691 : decode cL_law 691 = .ok (.i2l, 1) := by decide +kernel
theorem dL_law_692 : decode cL_law 692 = .ok (.lcmp, 1) := by decide +kernel
theorem dL_law_693 : decode cL_law 693 = .ok (.ifCond .eq 5, 3) := by decide +kernel
theorem dL_law_696 : decode cL_law 696 = .ok (.iconst 0, 1) := by decide +kernel
theorem dL_law_697 : decode cL_law 697 = .ok (.ireturn, 1) := by decide +kernel
theorem dL_law_698 : decode cL_law 698 = .ok (.goto 1206, 3) := by decide +kernel
theorem dL_law_701 : decode cL_law 701 = .ok (.aload_n 1, 1) := by decide +kernel
theorem dL_law_702 : decode cL_law 702 = .ok (.aload_n 0, 1) := by decide +kernel
theorem dL_law_703 : decode cL_law 703 = .ok (.iload 4, 2) := by decide +kernel
theorem dL_law_705 : decode cL_law 705 = .ok (.iconst 1, 1) := by decide +kernel
theorem dL_law_706 : decode cL_law 706 = .ok (.iadd, 1) := by decide +kernel
theorem dL_law_707 : decode cL_law 707 = .ok (.iaload, 1) := by decide +kernel
theorem dL_law_708 : decode cL_law 708 = .ok (.aload_n 0, 1) := by decide +kernel
theorem dL_law_709 : decode cL_law 709 = .ok (.iload 4, 2) := by decide +kernel
theorem dL_law_711 : decode cL_law 711 = .ok (.iconst 2, 1) := by decide +kernel
theorem dL_law_712 : decode cL_law 712 = .ok (.iadd, 1) := by decide +kernel
theorem dL_law_713 : decode cL_law 713 = .ok (.iaload, 1) := by decide +kernel
theorem dL_law_714 : decode cL_law 714 = .ok (.aload_n 3, 1) := by decide +kernel
theorem dL_law_715 : decode cL_law 715 = .ok (.invokestatic 157, 3) := by decide +kernel
theorem dL_law_718 : decode cL_law 718 = .ok (.istore 5, 2) := by decide +kernel
theorem dL_law_720 : decode cL_law 720 = .ok (.aload_n 2, 1) := by decide +kernel
theorem dL_law_721 : decode cL_law 721 = .ok (.aload_n 0, 1) := by decide +kernel
theorem dL_law_722 : decode cL_law 722 = .ok (.iload 4, 2) := by decide +kernel
theorem dL_law_724 : decode cL_law 724 = .ok (.iconst 1, 1) := by decide +kernel
theorem dL_law_725 : decode cL_law 725 = .ok (.iadd, 1) := by decide +kernel
theorem dL_law_726 : decode cL_law 726 = .ok (.iaload, 1) := by decide +kernel
theorem dL_law_727 : decode cL_law 727 = .ok (.aload_n 0, 1) := by decide +kernel
theorem dL_law_728 : decode cL_law 728 = .ok (.iload 4, 2) := by decide +kernel
theorem dL_law_730 : decode cL_law 730 = .ok (.iconst 2, 1) := by decide +kernel
theorem dL_law_731 : decode cL_law 731 = .ok (.iadd, 1) := by decide +kernel
theorem dL_law_732 : decode cL_law 732 = .ok (.iaload, 1) := by decide +kernel
theorem dL_law_733 : decode cL_law 733 = .ok (.invokevirtual 160, 3) := by decide +kernel
theorem dL_law_736 : decode cL_law 736 = .ok (.istore 6, 2) := by decide +kernel
theorem dL_law_738 : decode cL_law 738 = .ok (.aload_n 2, 1) := by decide +kernel
theorem dL_law_739 : decode cL_law 739 = .ok (.invokevirtual 101, 3) := by decide +kernel
theorem dL_law_742 : decode cL_law 742 = .ok (.iload 5, 2) := by decide +kernel
theorem dL_law_744 : decode cL_law 744 = .ok (.if_icmp .eq 5, 3) := by decide +kernel
theorem dL_law_747 : decode cL_law 747 = .ok (.iconst 0, 1) := by decide +kernel
theorem dL_law_748 : decode cL_law 748 = .ok (.ireturn, 1) := by decide +kernel
theorem dL_law_749 : decode cL_law 749 = .ok (.iload 5, 2) := by decide +kernel
theorem dL_law_751 : decode cL_law 751 = .ok (.ifCond .ne 15, 3) := by decide +kernel
theorem dL_law_754 : decode cL_law 754 = .ok (.aload_n 3, 1) := by decide +kernel
theorem dL_law_755 : decode cL_law 755 = .ok (.iconst 0, 1) := by decide +kernel
theorem dL_law_756 : decode cL_law 756 = .ok (.laload, 1) := by decide +kernel
theorem dL_law_757 : decode cL_law 757 = .ok (.iload 6, 2) := by decide +kernel
theorem dL_law_759 : decode cL_law 759 = .ok (.i2l, 1) := by decide +kernel
theorem dL_law_760 : decode cL_law 760 = .ok (.lcmp, 1) := by decide +kernel
theorem dL_law_761 : decode cL_law 761 = .ok (.ifCond .eq 5, 3) := by decide +kernel
theorem dL_law_764 : decode cL_law 764 = .ok (.iconst 0, 1) := by decide +kernel
theorem dL_law_765 : decode cL_law 765 = .ok (.ireturn, 1) := by decide +kernel
theorem dL_law_766 : decode cL_law 766 = .ok (.goto 1138, 3) := by decide +kernel
theorem dL_law_769 : decode cL_law 769 = .ok (.aload_n 1, 1) := by decide +kernel
theorem dL_law_770 : decode cL_law 770 = .ok (.aload_n 0, 1) := by decide +kernel
theorem dL_law_771 : decode cL_law 771 = .ok (.iload 4, 2) := by decide +kernel
theorem dL_law_773 : decode cL_law 773 = .ok (.iconst 1, 1) := by decide +kernel
theorem dL_law_774 : decode cL_law 774 = .ok (.iadd, 1) := by decide +kernel
theorem dL_law_775 : decode cL_law 775 = .ok (.iaload, 1) := by decide +kernel
theorem dL_law_776 : decode cL_law 776 = .ok (.aload_n 0, 1) := by decide +kernel
theorem dL_law_777 : decode cL_law 777 = .ok (.iload 4, 2) := by decide +kernel
theorem dL_law_779 : decode cL_law 779 = .ok (.iconst 2, 1) := by decide +kernel
theorem dL_law_780 : decode cL_law 780 = .ok (.iadd, 1) := by decide +kernel
theorem dL_law_781 : decode cL_law 781 = .ok (.iaload, 1) := by decide +kernel
theorem dL_law_782 : decode cL_law 782 = .ok (.aload_n 3, 1) := by decide +kernel
theorem dL_law_783 : decode cL_law 783 = .ok (.invokestatic 161, 3) := by decide +kernel
theorem dL_law_786 : decode cL_law 786 = .ok (.istore 5, 2) := by decide +kernel
theorem dL_law_788 : decode cL_law 788 = .ok (.aload_n 2, 1) := by decide +kernel
theorem dL_law_789 : decode cL_law 789 = .ok (.aload_n 0, 1) := by decide +kernel
theorem dL_law_790 : decode cL_law 790 = .ok (.iload 4, 2) := by decide +kernel
theorem dL_law_792 : decode cL_law 792 = .ok (.iconst 1, 1) := by decide +kernel
theorem dL_law_793 : decode cL_law 793 = .ok (.iadd, 1) := by decide +kernel
theorem dL_law_794 : decode cL_law 794 = .ok (.iaload, 1) := by decide +kernel
theorem dL_law_795 : decode cL_law 795 = .ok (.aload_n 0, 1) := by decide +kernel
theorem dL_law_796 : decode cL_law 796 = .ok (.iload 4, 2) := by decide +kernel
theorem dL_law_798 : decode cL_law 798 = .ok (.iconst 2, 1) := by decide +kernel
theorem dL_law_799 : decode cL_law 799 = .ok (.iadd, 1) := by decide +kernel
theorem dL_law_800 : decode cL_law 800 = .ok (.iaload, 1) := by decide +kernel
theorem dL_law_801 : decode cL_law 801 = .ok (.invokevirtual 163, 3) := by decide +kernel
theorem dL_law_804 : decode cL_law 804 = .ok (.istore 6, 2) := by decide +kernel
theorem dL_law_806 : decode cL_law 806 = .ok (.aload_n 2, 1) := by decide +kernel
theorem dL_law_807 : decode cL_law 807 = .ok (.invokevirtual 101, 3) := by decide +kernel
theorem dL_law_810 : decode cL_law 810 = .ok (.iload 5, 2) := by decide +kernel
theorem dL_law_812 : decode cL_law 812 = .ok (.if_icmp .eq 5, 3) := by decide +kernel
theorem dL_law_815 : decode cL_law 815 = .ok (.iconst 0, 1) := by decide +kernel
theorem dL_law_816 : decode cL_law 816 = .ok (.ireturn, 1) := by decide +kernel
theorem dL_law_817 : decode cL_law 817 = .ok (.iload 5, 2) := by decide +kernel
theorem dL_law_819 : decode cL_law 819 = .ok (.ifCond .ne 15, 3) := by decide +kernel
theorem dL_law_822 : decode cL_law 822 = .ok (.aload_n 3, 1) := by decide +kernel
theorem dL_law_823 : decode cL_law 823 = .ok (.iconst 0, 1) := by decide +kernel
theorem dL_law_824 : decode cL_law 824 = .ok (.laload, 1) := by decide +kernel
theorem dL_law_825 : decode cL_law 825 = .ok (.iload 6, 2) := by decide +kernel
theorem dL_law_827 : decode cL_law 827 = .ok (.i2l, 1) := by decide +kernel
theorem dL_law_828 : decode cL_law 828 = .ok (.lcmp, 1) := by decide +kernel
theorem dL_law_829 : decode cL_law 829 = .ok (.ifCond .eq 5, 3) := by decide +kernel
theorem dL_law_832 : decode cL_law 832 = .ok (.iconst 0, 1) := by decide +kernel
theorem dL_law_833 : decode cL_law 833 = .ok (.ireturn, 1) := by decide +kernel
theorem dL_law_834 : decode cL_law 834 = .ok (.goto 1070, 3) := by decide +kernel
theorem dL_law_837 : decode cL_law 837 = .ok (.aload_n 1, 1) := by decide +kernel
theorem dL_law_838 : decode cL_law 838 = .ok (.aload_n 0, 1) := by decide +kernel
theorem dL_law_839 : decode cL_law 839 = .ok (.iload 4, 2) := by decide +kernel
theorem dL_law_841 : decode cL_law 841 = .ok (.iconst 1, 1) := by decide +kernel
theorem dL_law_842 : decode cL_law 842 = .ok (.iadd, 1) := by decide +kernel
theorem dL_law_843 : decode cL_law 843 = .ok (.iaload, 1) := by decide +kernel
theorem dL_law_844 : decode cL_law 844 = .ok (.aload_n 3, 1) := by decide +kernel
theorem dL_law_845 : decode cL_law 845 = .ok (.invokestatic 164, 3) := by decide +kernel
theorem dL_law_848 : decode cL_law 848 = .ok (.istore 5, 2) := by decide +kernel
theorem dL_law_850 : decode cL_law 850 = .ok (.aload_n 2, 1) := by decide +kernel
theorem dL_law_851 : decode cL_law 851 = .ok (.aload_n 0, 1) := by decide +kernel
theorem dL_law_852 : decode cL_law 852 = .ok (.iload 4, 2) := by decide +kernel
theorem dL_law_854 : decode cL_law 854 = .ok (.iconst 1, 1) := by decide +kernel
theorem dL_law_855 : decode cL_law 855 = .ok (.iadd, 1) := by decide +kernel
theorem dL_law_856 : decode cL_law 856 = .ok (.iaload, 1) := by decide +kernel
theorem dL_law_857 : decode cL_law 857 = .ok (.invokevirtual 166, 3) := by decide +kernel
theorem dL_law_860 : decode cL_law 860 = .ok (.istore 6, 2) := by decide +kernel
theorem dL_law_862 : decode cL_law 862 = .ok (.aload_n 2, 1) := by decide +kernel
theorem dL_law_863 : decode cL_law 863 = .ok (.invokevirtual 101, 3) := by decide +kernel
theorem dL_law_866 : decode cL_law 866 = .ok (.iload 5, 2) := by decide +kernel
theorem dL_law_868 : decode cL_law 868 = .ok (.if_icmp .eq 5, 3) := by decide +kernel
theorem dL_law_871 : decode cL_law 871 = .ok (.iconst 0, 1) := by decide +kernel
theorem dL_law_872 : decode cL_law 872 = .ok (.ireturn, 1) := by decide +kernel
theorem dL_law_873 : decode cL_law 873 = .ok (.iload 5, 2) := by decide +kernel
theorem dL_law_875 : decode cL_law 875 = .ok (.ifCond .ne 15, 3) := by decide +kernel
theorem dL_law_878 : decode cL_law 878 = .ok (.aload_n 3, 1) := by decide +kernel
theorem dL_law_879 : decode cL_law 879 = .ok (.iconst 0, 1) := by decide +kernel
theorem dL_law_880 : decode cL_law 880 = .ok (.laload, 1) := by decide +kernel
theorem dL_law_881 : decode cL_law 881 = .ok (.iload 6, 2) := by decide +kernel
theorem dL_law_883 : decode cL_law 883 = .ok (.i2l, 1) := by decide +kernel
theorem dL_law_884 : decode cL_law 884 = .ok (.lcmp, 1) := by decide +kernel
theorem dL_law_885 : decode cL_law 885 = .ok (.ifCond .eq 5, 3) := by decide +kernel
theorem dL_law_888 : decode cL_law 888 = .ok (.iconst 0, 1) := by decide +kernel
theorem dL_law_889 : decode cL_law 889 = .ok (.ireturn, 1) := by decide +kernel
theorem dL_law_890 : decode cL_law 890 = .ok (.goto 1014, 3) := by decide +kernel
theorem dL_law_893 : decode cL_law 893 = .ok (.aload_n 1, 1) := by decide +kernel
theorem dL_law_894 : decode cL_law 894 = .ok (.aload_n 0, 1) := by decide +kernel
theorem dL_law_895 : decode cL_law 895 = .ok (.iload 4, 2) := by decide +kernel
theorem dL_law_897 : decode cL_law 897 = .ok (.iconst 1, 1) := by decide +kernel
theorem dL_law_898 : decode cL_law 898 = .ok (.iadd, 1) := by decide +kernel
theorem dL_law_899 : decode cL_law 899 = .ok (.iaload, 1) := by decide +kernel
theorem dL_law_900 : decode cL_law 900 = .ok (.aload_n 3, 1) := by decide +kernel
theorem dL_law_901 : decode cL_law 901 = .ok (.invokestatic 167, 3) := by decide +kernel
theorem dL_law_904 : decode cL_law 904 = .ok (.istore 5, 2) := by decide +kernel
theorem dL_law_906 : decode cL_law 906 = .ok (.aload_n 2, 1) := by decide +kernel
theorem dL_law_907 : decode cL_law 907 = .ok (.aload_n 0, 1) := by decide +kernel
theorem dL_law_908 : decode cL_law 908 = .ok (.iload 4, 2) := by decide +kernel
theorem dL_law_910 : decode cL_law 910 = .ok (.iconst 1, 1) := by decide +kernel
theorem dL_law_911 : decode cL_law 911 = .ok (.iadd, 1) := by decide +kernel
theorem dL_law_912 : decode cL_law 912 = .ok (.iaload, 1) := by decide +kernel
theorem dL_law_913 : decode cL_law 913 = .ok (.invokevirtual 169, 3) := by decide +kernel
theorem dL_law_916 : decode cL_law 916 = .ok (.istore 6, 2) := by decide +kernel
theorem dL_law_918 : decode cL_law 918 = .ok (.aload_n 2, 1) := by decide +kernel
theorem dL_law_919 : decode cL_law 919 = .ok (.invokevirtual 101, 3) := by decide +kernel
theorem dL_law_922 : decode cL_law 922 = .ok (.iload 5, 2) := by decide +kernel
theorem dL_law_924 : decode cL_law 924 = .ok (.if_icmp .eq 5, 3) := by decide +kernel
theorem dL_law_927 : decode cL_law 927 = .ok (.iconst 0, 1) := by decide +kernel
theorem dL_law_928 : decode cL_law 928 = .ok (.ireturn, 1) := by decide +kernel
theorem dL_law_929 : decode cL_law 929 = .ok (.iload 5, 2) := by decide +kernel
theorem dL_law_931 : decode cL_law 931 = .ok (.ifCond .ne 15, 3) := by decide +kernel
theorem dL_law_934 : decode cL_law 934 = .ok (.aload_n 3, 1) := by decide +kernel
theorem dL_law_935 : decode cL_law 935 = .ok (.iconst 0, 1) := by decide +kernel
theorem dL_law_936 : decode cL_law 936 = .ok (.laload, 1) := by decide +kernel
theorem dL_law_937 : decode cL_law 937 = .ok (.iload 6, 2) := by decide +kernel
theorem dL_law_939 : decode cL_law 939 = .ok (.i2l, 1) := by decide +kernel
theorem dL_law_940 : decode cL_law 940 = .ok (.lcmp, 1) := by decide +kernel
theorem dL_law_941 : decode cL_law 941 = .ok (.ifCond .eq 5, 3) := by decide +kernel
theorem dL_law_944 : decode cL_law 944 = .ok (.iconst 0, 1) := by decide +kernel
theorem dL_law_945 : decode cL_law 945 = .ok (.ireturn, 1) := by decide +kernel
theorem dL_law_946 : decode cL_law 946 = .ok (.goto 958, 3) := by decide +kernel
theorem dL_law_949 : decode cL_law 949 = .ok (.aload_n 1, 1) := by decide +kernel
theorem dL_law_950 : decode cL_law 950 = .ok (.aload_n 0, 1) := by decide +kernel
theorem dL_law_951 : decode cL_law 951 = .ok (.iload 4, 2) := by decide +kernel
theorem dL_law_953 : decode cL_law 953 = .ok (.iconst 1, 1) := by decide +kernel
theorem dL_law_954 : decode cL_law 954 = .ok (.iadd, 1) := by decide +kernel
theorem dL_law_955 : decode cL_law 955 = .ok (.iaload, 1) := by decide +kernel
theorem dL_law_956 : decode cL_law 956 = .ok (.aload_n 3, 1) := by decide +kernel
theorem dL_law_957 : decode cL_law 957 = .ok (.invokestatic 170, 3) := by decide +kernel
theorem dL_law_960 : decode cL_law 960 = .ok (.istore 5, 2) := by decide +kernel
theorem dL_law_962 : decode cL_law 962 = .ok (.aload_n 2, 1) := by decide +kernel
theorem dL_law_963 : decode cL_law 963 = .ok (.aload_n 0, 1) := by decide +kernel
theorem dL_law_964 : decode cL_law 964 = .ok (.iload 4, 2) := by decide +kernel
theorem dL_law_966 : decode cL_law 966 = .ok (.iconst 1, 1) := by decide +kernel
theorem dL_law_967 : decode cL_law 967 = .ok (.iadd, 1) := by decide +kernel
theorem dL_law_968 : decode cL_law 968 = .ok (.iaload, 1) := by decide +kernel
theorem dL_law_969 : decode cL_law 969 = .ok (.invokevirtual 172, 3) := by decide +kernel
theorem dL_law_972 : decode cL_law 972 = .ok (.istore 6, 2) := by decide +kernel
theorem dL_law_974 : decode cL_law 974 = .ok (.aload_n 2, 1) := by decide +kernel
theorem dL_law_975 : decode cL_law 975 = .ok (.invokevirtual 101, 3) := by decide +kernel
theorem dL_law_978 : decode cL_law 978 = .ok (.iload 5, 2) := by decide +kernel
theorem dL_law_980 : decode cL_law 980 = .ok (.if_icmp .eq 5, 3) := by decide +kernel
theorem dL_law_983 : decode cL_law 983 = .ok (.iconst 0, 1) := by decide +kernel
theorem dL_law_984 : decode cL_law 984 = .ok (.ireturn, 1) := by decide +kernel
theorem dL_law_985 : decode cL_law 985 = .ok (.iload 5, 2) := by decide +kernel
theorem dL_law_987 : decode cL_law 987 = .ok (.ifCond .ne 15, 3) := by decide +kernel
theorem dL_law_990 : decode cL_law 990 = .ok (.aload_n 3, 1) := by decide +kernel
theorem dL_law_991 : decode cL_law 991 = .ok (.iconst 0, 1) := by decide +kernel
theorem dL_law_992 : decode cL_law 992 = .ok (.laload, 1) := by decide +kernel
theorem dL_law_993 : decode cL_law 993 = .ok (.iload 6, 2) := by decide +kernel
theorem dL_law_995 : decode cL_law 995 = .ok (.i2l, 1) := by decide +kernel
theorem dL_law_996 : decode cL_law 996 = .ok (.lcmp, 1) := by decide +kernel
theorem dL_law_997 : decode cL_law 997 = .ok (.ifCond .eq 5, 3) := by decide +kernel
theorem dL_law_1000 : decode cL_law 1000 = .ok (.iconst 0, 1) := by decide +kernel
theorem dL_law_1001 : decode cL_law 1001 = .ok (.ireturn, 1) := by decide +kernel
theorem dL_law_1002 : decode cL_law 1002 = .ok (.goto 902, 3) := by decide +kernel
theorem dL_law_1005 : decode cL_law 1005 = .ok (.aload_n 1, 1) := by decide +kernel
theorem dL_law_1006 : decode cL_law 1006 = .ok (.aload_n 0, 1) := by decide +kernel
theorem dL_law_1007 : decode cL_law 1007 = .ok (.iload 4, 2) := by decide +kernel
theorem dL_law_1009 : decode cL_law 1009 = .ok (.iconst 1, 1) := by decide +kernel
theorem dL_law_1010 : decode cL_law 1010 = .ok (.iadd, 1) := by decide +kernel
theorem dL_law_1011 : decode cL_law 1011 = .ok (.iaload, 1) := by decide +kernel
theorem dL_law_1012 : decode cL_law 1012 = .ok (.aload_n 3, 1) := by decide +kernel
theorem dL_law_1013 : decode cL_law 1013 = .ok (.invokestatic 173, 3) := by decide +kernel
theorem dL_law_1016 : decode cL_law 1016 = .ok (.istore 5, 2) := by decide +kernel
theorem dL_law_1018 : decode cL_law 1018 = .ok (.aload_n 2, 1) := by decide +kernel
theorem dL_law_1019 : decode cL_law 1019 = .ok (.aload_n 0, 1) := by decide +kernel
theorem dL_law_1020 : decode cL_law 1020 = .ok (.iload 4, 2) := by decide +kernel
theorem dL_law_1022 : decode cL_law 1022 = .ok (.iconst 1, 1) := by decide +kernel
theorem dL_law_1023 : decode cL_law 1023 = .ok (.iadd, 1) := by decide +kernel
theorem dL_law_1024 : decode cL_law 1024 = .ok (.iaload, 1) := by decide +kernel
theorem dL_law_1025 : decode cL_law 1025 = .ok (.invokevirtual 175, 3) := by decide +kernel
theorem dL_law_1028 : decode cL_law 1028 = .ok (.istore 6, 2) := by decide +kernel
theorem dL_law_1030 : decode cL_law 1030 = .ok (.aload_n 2, 1) := by decide +kernel
theorem dL_law_1031 : decode cL_law 1031 = .ok (.invokevirtual 101, 3) := by decide +kernel
theorem dL_law_1034 : decode cL_law 1034 = .ok (.iload 5, 2) := by decide +kernel
theorem dL_law_1036 : decode cL_law 1036 = .ok (.if_icmp .eq 5, 3) := by decide +kernel
theorem dL_law_1039 : decode cL_law 1039 = .ok (.iconst 0, 1) := by decide +kernel
theorem dL_law_1040 : decode cL_law 1040 = .ok (.ireturn, 1) := by decide +kernel
theorem dL_law_1041 : decode cL_law 1041 = .ok (.iload 5, 2) := by decide +kernel
theorem dL_law_1043 : decode cL_law 1043 = .ok (.ifCond .ne 15, 3) := by decide +kernel
theorem dL_law_1046 : decode cL_law 1046 = .ok (.aload_n 3, 1) := by decide +kernel
theorem dL_law_1047 : decode cL_law 1047 = .ok (.iconst 0, 1) := by decide +kernel
theorem dL_law_1048 : decode cL_law 1048 = .ok (.laload, 1) := by decide +kernel
theorem dL_law_1049 : decode cL_law 1049 = .ok (.iload 6, 2) := by decide +kernel
theorem dL_law_1051 : decode cL_law 1051 = .ok (.i2l, 1) := by decide +kernel
theorem dL_law_1052 : decode cL_law 1052 = .ok (.lcmp, 1) := by decide +kernel
theorem dL_law_1053 : decode cL_law 1053 = .ok (.ifCond .eq 5, 3) := by decide +kernel
theorem dL_law_1056 : decode cL_law 1056 = .ok (.iconst 0, 1) := by decide +kernel
theorem dL_law_1057 : decode cL_law 1057 = .ok (.ireturn, 1) := by decide +kernel
theorem dL_law_1058 : decode cL_law 1058 = .ok (.goto 846, 3) := by decide +kernel
theorem dL_law_1061 : decode cL_law 1061 = .ok (.aload_n 1, 1) := by decide +kernel
theorem dL_law_1062 : decode cL_law 1062 = .ok (.invokevirtual 176, 3) := by decide +kernel
theorem dL_law_1065 : decode cL_law 1065 = .ok (.aload_n 2, 1) := by decide +kernel
theorem dL_law_1066 : decode cL_law 1066 = .ok (.invokevirtual 179, 3) := by decide +kernel
theorem dL_law_1069 : decode cL_law 1069 = .ok (.if_icmp .eq 835, 3) := by decide +kernel
theorem dL_law_1072 : decode cL_law 1072 = .ok (.iconst 0, 1) := by decide +kernel
theorem dL_law_1073 : decode cL_law 1073 = .ok (.ireturn, 1) := by decide +kernel
theorem dL_law_1074 : decode cL_law 1074 = .ok (.aload_n 1, 1) := by decide +kernel
theorem dL_law_1075 : decode cL_law 1075 = .ok (.aload_n 0, 1) := by decide +kernel
theorem dL_law_1076 : decode cL_law 1076 = .ok (.iload 4, 2) := by decide +kernel
theorem dL_law_1078 : decode cL_law 1078 = .ok (.iconst 1, 1) := by decide +kernel
theorem dL_law_1079 : decode cL_law 1079 = .ok (.iadd, 1) := by decide +kernel
theorem dL_law_1080 : decode cL_law 1080 = .ok (.iaload, 1) := by decide +kernel
theorem dL_law_1081 : decode cL_law 1081 = .ok (.aload_n 0, 1) := by decide +kernel
theorem dL_law_1082 : decode cL_law 1082 = .ok (.iload 4, 2) := by decide +kernel
theorem dL_law_1084 : decode cL_law 1084 = .ok (.iconst 2, 1) := by decide +kernel
theorem dL_law_1085 : decode cL_law 1085 = .ok (.iadd, 1) := by decide +kernel
theorem dL_law_1086 : decode cL_law 1086 = .ok (.iaload, 1) := by decide +kernel
theorem dL_law_1087 : decode cL_law 1087 = .ok (.aload_n 3, 1) := by decide +kernel
theorem dL_law_1088 : decode cL_law 1088 = .ok (.invokestatic 180, 3) := by decide +kernel
theorem dL_law_1091 : decode cL_law 1091 = .ok (.istore 5, 2) := by decide +kernel
theorem dL_law_1093 : decode cL_law 1093 = .ok (.aload_n 2, 1) := by decide +kernel
theorem dL_law_1094 : decode cL_law 1094 = .ok (.aload_n 0, 1) := by decide +kernel
theorem dL_law_1095 : decode cL_law 1095 = .ok (.iload 4, 2) := by decide +kernel
theorem dL_law_1097 : decode cL_law 1097 = .ok (.iconst 1, 1) := by decide +kernel
theorem dL_law_1098 : decode cL_law 1098 = .ok (.iadd, 1) := by decide +kernel
theorem dL_law_1099 : decode cL_law 1099 = .ok (.iaload, 1) := by decide +kernel
theorem dL_law_1100 : decode cL_law 1100 = .ok (.aload_n 0, 1) := by decide +kernel
theorem dL_law_1101 : decode cL_law 1101 = .ok (.iload 4, 2) := by decide +kernel
theorem dL_law_1103 : decode cL_law 1103 = .ok (.iconst 2, 1) := by decide +kernel
theorem dL_law_1104 : decode cL_law 1104 = .ok (.iadd, 1) := by decide +kernel
theorem dL_law_1105 : decode cL_law 1105 = .ok (.iaload, 1) := by decide +kernel
theorem dL_law_1106 : decode cL_law 1106 = .ok (.invokevirtual 182, 3) := by decide +kernel
theorem dL_law_1109 : decode cL_law 1109 = .ok (.istore 6, 2) := by decide +kernel
theorem dL_law_1111 : decode cL_law 1111 = .ok (.aload_n 2, 1) := by decide +kernel
theorem dL_law_1112 : decode cL_law 1112 = .ok (.invokevirtual 101, 3) := by decide +kernel
theorem dL_law_1115 : decode cL_law 1115 = .ok (.iload 5, 2) := by decide +kernel
theorem dL_law_1117 : decode cL_law 1117 = .ok (.if_icmp .eq 5, 3) := by decide +kernel
theorem dL_law_1120 : decode cL_law 1120 = .ok (.iconst 0, 1) := by decide +kernel
theorem dL_law_1121 : decode cL_law 1121 = .ok (.ireturn, 1) := by decide +kernel
theorem dL_law_1122 : decode cL_law 1122 = .ok (.iload 5, 2) := by decide +kernel
theorem dL_law_1124 : decode cL_law 1124 = .ok (.ifCond .ne 15, 3) := by decide +kernel
theorem dL_law_1127 : decode cL_law 1127 = .ok (.aload_n 3, 1) := by decide +kernel
theorem dL_law_1128 : decode cL_law 1128 = .ok (.iconst 0, 1) := by decide +kernel
theorem dL_law_1129 : decode cL_law 1129 = .ok (.laload, 1) := by decide +kernel
theorem dL_law_1130 : decode cL_law 1130 = .ok (.iload 6, 2) := by decide +kernel
theorem dL_law_1132 : decode cL_law 1132 = .ok (.i2l, 1) := by decide +kernel
theorem dL_law_1133 : decode cL_law 1133 = .ok (.lcmp, 1) := by decide +kernel
theorem dL_law_1134 : decode cL_law 1134 = .ok (.ifCond .eq 5, 3) := by decide +kernel
theorem dL_law_1137 : decode cL_law 1137 = .ok (.iconst 0, 1) := by decide +kernel
theorem dL_law_1138 : decode cL_law 1138 = .ok (.ireturn, 1) := by decide +kernel
theorem dL_law_1139 : decode cL_law 1139 = .ok (.goto 765, 3) := by decide +kernel
theorem dL_law_1142 : decode cL_law 1142 = .ok (.aload_n 1, 1) := by decide +kernel
theorem dL_law_1143 : decode cL_law 1143 = .ok (.aload_n 0, 1) := by decide +kernel
theorem dL_law_1144 : decode cL_law 1144 = .ok (.iload 4, 2) := by decide +kernel
theorem dL_law_1146 : decode cL_law 1146 = .ok (.iconst 1, 1) := by decide +kernel
theorem dL_law_1147 : decode cL_law 1147 = .ok (.iadd, 1) := by decide +kernel
theorem dL_law_1148 : decode cL_law 1148 = .ok (.iaload, 1) := by decide +kernel
theorem dL_law_1149 : decode cL_law 1149 = .ok (.aload_n 0, 1) := by decide +kernel
theorem dL_law_1150 : decode cL_law 1150 = .ok (.iload 4, 2) := by decide +kernel
theorem dL_law_1152 : decode cL_law 1152 = .ok (.iconst 2, 1) := by decide +kernel
theorem dL_law_1153 : decode cL_law 1153 = .ok (.iadd, 1) := by decide +kernel
theorem dL_law_1154 : decode cL_law 1154 = .ok (.iaload, 1) := by decide +kernel
theorem dL_law_1155 : decode cL_law 1155 = .ok (.aload_n 3, 1) := by decide +kernel
theorem dL_law_1156 : decode cL_law 1156 = .ok (.invokestatic 183, 3) := by decide +kernel
theorem dL_law_1159 : decode cL_law 1159 = .ok (.istore 5, 2) := by decide +kernel
theorem dL_law_1161 : decode cL_law 1161 = .ok (.aload_n 2, 1) := by decide +kernel
theorem dL_law_1162 : decode cL_law 1162 = .ok (.aload_n 0, 1) := by decide +kernel
theorem dL_law_1163 : decode cL_law 1163 = .ok (.iload 4, 2) := by decide +kernel
theorem dL_law_1165 : decode cL_law 1165 = .ok (.iconst 1, 1) := by decide +kernel
theorem dL_law_1166 : decode cL_law 1166 = .ok (.iadd, 1) := by decide +kernel
theorem dL_law_1167 : decode cL_law 1167 = .ok (.iaload, 1) := by decide +kernel
theorem dL_law_1168 : decode cL_law 1168 = .ok (.aload_n 0, 1) := by decide +kernel
theorem dL_law_1169 : decode cL_law 1169 = .ok (.iload 4, 2) := by decide +kernel
theorem dL_law_1171 : decode cL_law 1171 = .ok (.iconst 2, 1) := by decide +kernel
theorem dL_law_1172 : decode cL_law 1172 = .ok (.iadd, 1) := by decide +kernel
theorem dL_law_1173 : decode cL_law 1173 = .ok (.iaload, 1) := by decide +kernel
theorem dL_law_1174 : decode cL_law 1174 = .ok (.invokevirtual 185, 3) := by decide +kernel
theorem dL_law_1177 : decode cL_law 1177 = .ok (.istore 6, 2) := by decide +kernel
theorem dL_law_1179 : decode cL_law 1179 = .ok (.aload_n 2, 1) := by decide +kernel
theorem dL_law_1180 : decode cL_law 1180 = .ok (.invokevirtual 101, 3) := by decide +kernel
theorem dL_law_1183 : decode cL_law 1183 = .ok (.iload 5, 2) := by decide +kernel
theorem dL_law_1185 : decode cL_law 1185 = .ok (.if_icmp .eq 5, 3) := by decide +kernel
theorem dL_law_1188 : decode cL_law 1188 = .ok (.iconst 0, 1) := by decide +kernel
theorem dL_law_1189 : decode cL_law 1189 = .ok (.ireturn, 1) := by decide +kernel
theorem dL_law_1190 : decode cL_law 1190 = .ok (.iload 5, 2) := by decide +kernel
theorem dL_law_1192 : decode cL_law 1192 = .ok (.ifCond .ne 15, 3) := by decide +kernel
theorem dL_law_1195 : decode cL_law 1195 = .ok (.aload_n 3, 1) := by decide +kernel
theorem dL_law_1196 : decode cL_law 1196 = .ok (.iconst 0, 1) := by decide +kernel
theorem dL_law_1197 : decode cL_law 1197 = .ok (.laload, 1) := by decide +kernel
theorem dL_law_1198 : decode cL_law 1198 = .ok (.iload 6, 2) := by decide +kernel
theorem dL_law_1200 : decode cL_law 1200 = .ok (.i2l, 1) := by decide +kernel
theorem dL_law_1201 : decode cL_law 1201 = .ok (.lcmp, 1) := by decide +kernel
theorem dL_law_1202 : decode cL_law 1202 = .ok (.ifCond .eq 5, 3) := by decide +kernel
theorem dL_law_1205 : decode cL_law 1205 = .ok (.iconst 0, 1) := by decide +kernel
theorem dL_law_1206 : decode cL_law 1206 = .ok (.ireturn, 1) := by decide +kernel
theorem dL_law_1207 : decode cL_law 1207 = .ok (.goto 697, 3) := by decide +kernel
theorem dL_law_1210 : decode cL_law 1210 = .ok (.aload_n 1, 1) := by decide +kernel
theorem dL_law_1211 : decode cL_law 1211 = .ok (.aload_n 0, 1) := by decide +kernel
theorem dL_law_1212 : decode cL_law 1212 = .ok (.iload 4, 2) := by decide +kernel
theorem dL_law_1214 : decode cL_law 1214 = .ok (.iconst 1, 1) := by decide +kernel
theorem dL_law_1215 : decode cL_law 1215 = .ok (.iadd, 1) := by decide +kernel
theorem dL_law_1216 : decode cL_law 1216 = .ok (.iaload, 1) := by decide +kernel
theorem dL_law_1217 : decode cL_law 1217 = .ok (.aload_n 0, 1) := by decide +kernel
theorem dL_law_1218 : decode cL_law 1218 = .ok (.iload 4, 2) := by decide +kernel
theorem dL_law_1220 : decode cL_law 1220 = .ok (.iconst 2, 1) := by decide +kernel
theorem dL_law_1221 : decode cL_law 1221 = .ok (.iadd, 1) := by decide +kernel
theorem dL_law_1222 : decode cL_law 1222 = .ok (.iaload, 1) := by decide +kernel
theorem dL_law_1223 : decode cL_law 1223 = .ok (.aload_n 3, 1) := by decide +kernel
theorem dL_law_1224 : decode cL_law 1224 = .ok (.invokestatic 186, 3) := by decide +kernel
theorem dL_law_1227 : decode cL_law 1227 = .ok (.istore 5, 2) := by decide +kernel
theorem dL_law_1229 : decode cL_law 1229 = .ok (.aload_n 2, 1) := by decide +kernel
theorem dL_law_1230 : decode cL_law 1230 = .ok (.aload_n 0, 1) := by decide +kernel
theorem dL_law_1231 : decode cL_law 1231 = .ok (.iload 4, 2) := by decide +kernel
theorem dL_law_1233 : decode cL_law 1233 = .ok (.iconst 1, 1) := by decide +kernel
theorem dL_law_1234 : decode cL_law 1234 = .ok (.iadd, 1) := by decide +kernel
theorem dL_law_1235 : decode cL_law 1235 = .ok (.iaload, 1) := by decide +kernel
theorem dL_law_1236 : decode cL_law 1236 = .ok (.aload_n 0, 1) := by decide +kernel
theorem dL_law_1237 : decode cL_law 1237 = .ok (.iload 4, 2) := by decide +kernel
theorem dL_law_1239 : decode cL_law 1239 = .ok (.iconst 2, 1) := by decide +kernel
theorem dL_law_1240 : decode cL_law 1240 = .ok (.iadd, 1) := by decide +kernel
theorem dL_law_1241 : decode cL_law 1241 = .ok (.iaload, 1) := by decide +kernel
theorem dL_law_1242 : decode cL_law 1242 = .ok (.invokevirtual 188, 3) := by decide +kernel
theorem dL_law_1245 : decode cL_law 1245 = .ok (.istore 6, 2) := by decide +kernel
theorem dL_law_1247 : decode cL_law 1247 = .ok (.aload_n 2, 1) := by decide +kernel
theorem dL_law_1248 : decode cL_law 1248 = .ok (.invokevirtual 101, 3) := by decide +kernel
theorem dL_law_1251 : decode cL_law 1251 = .ok (.iload 5, 2) := by decide +kernel
theorem dL_law_1253 : decode cL_law 1253 = .ok (.if_icmp .eq 5, 3) := by decide +kernel
theorem dL_law_1256 : decode cL_law 1256 = .ok (.iconst 0, 1) := by decide +kernel
theorem dL_law_1257 : decode cL_law 1257 = .ok (.ireturn, 1) := by decide +kernel
theorem dL_law_1258 : decode cL_law 1258 = .ok (.iload 5, 2) := by decide +kernel
theorem dL_law_1260 : decode cL_law 1260 = .ok (.ifCond .ne 15, 3) := by decide +kernel
theorem dL_law_1263 : decode cL_law 1263 = .ok (.aload_n 3, 1) := by decide +kernel
theorem dL_law_1264 : decode cL_law 1264 = .ok (.iconst 0, 1) := by decide +kernel
theorem dL_law_1265 : decode cL_law 1265 = .ok (.laload, 1) := by decide +kernel
theorem dL_law_1266 : decode cL_law 1266 = .ok (.iload 6, 2) := by decide +kernel
theorem dL_law_1268 : decode cL_law 1268 = .ok (.i2l, 1) := by decide +kernel
theorem dL_law_1269 : decode cL_law 1269 = .ok (.lcmp, 1) := by decide +kernel
theorem dL_law_1270 : decode cL_law 1270 = .ok (.ifCond .eq 5, 3) := by decide +kernel
theorem dL_law_1273 : decode cL_law 1273 = .ok (.iconst 0, 1) := by decide +kernel
theorem dL_law_1274 : decode cL_law 1274 = .ok (.ireturn, 1) := by decide +kernel
theorem dL_law_1275 : decode cL_law 1275 = .ok (.goto 629, 3) := by decide +kernel
theorem dL_law_1278 : decode cL_law 1278 = .ok (.aload_n 1, 1) := by decide +kernel
theorem dL_law_1279 : decode cL_law 1279 = .ok (.aload_n 0, 1) := by decide +kernel
theorem dL_law_1280 : decode cL_law 1280 = .ok (.iload 4, 2) := by decide +kernel
theorem dL_law_1282 : decode cL_law 1282 = .ok (.iconst 1, 1) := by decide +kernel
theorem dL_law_1283 : decode cL_law 1283 = .ok (.iadd, 1) := by decide +kernel
theorem dL_law_1284 : decode cL_law 1284 = .ok (.iaload, 1) := by decide +kernel
theorem dL_law_1285 : decode cL_law 1285 = .ok (.aload_n 0, 1) := by decide +kernel
theorem dL_law_1286 : decode cL_law 1286 = .ok (.iload 4, 2) := by decide +kernel
theorem dL_law_1288 : decode cL_law 1288 = .ok (.iconst 2, 1) := by decide +kernel
theorem dL_law_1289 : decode cL_law 1289 = .ok (.iadd, 1) := by decide +kernel
theorem dL_law_1290 : decode cL_law 1290 = .ok (.iaload, 1) := by decide +kernel
theorem dL_law_1291 : decode cL_law 1291 = .ok (.aload_n 3, 1) := by decide +kernel
theorem dL_law_1292 : decode cL_law 1292 = .ok (.invokestatic 189, 3) := by decide +kernel
theorem dL_law_1295 : decode cL_law 1295 = .ok (.istore 5, 2) := by decide +kernel
theorem dL_law_1297 : decode cL_law 1297 = .ok (.aload_n 2, 1) := by decide +kernel
theorem dL_law_1298 : decode cL_law 1298 = .ok (.aload_n 0, 1) := by decide +kernel
theorem dL_law_1299 : decode cL_law 1299 = .ok (.iload 4, 2) := by decide +kernel
theorem dL_law_1301 : decode cL_law 1301 = .ok (.iconst 1, 1) := by decide +kernel
theorem dL_law_1302 : decode cL_law 1302 = .ok (.iadd, 1) := by decide +kernel
theorem dL_law_1303 : decode cL_law 1303 = .ok (.iaload, 1) := by decide +kernel
theorem dL_law_1304 : decode cL_law 1304 = .ok (.aload_n 0, 1) := by decide +kernel
theorem dL_law_1305 : decode cL_law 1305 = .ok (.iload 4, 2) := by decide +kernel
theorem dL_law_1307 : decode cL_law 1307 = .ok (.iconst 2, 1) := by decide +kernel
theorem dL_law_1308 : decode cL_law 1308 = .ok (.iadd, 1) := by decide +kernel
theorem dL_law_1309 : decode cL_law 1309 = .ok (.iaload, 1) := by decide +kernel
theorem dL_law_1310 : decode cL_law 1310 = .ok (.invokevirtual 191, 3) := by decide +kernel
theorem dL_law_1313 : decode cL_law 1313 = .ok (.istore 6, 2) := by decide +kernel
theorem dL_law_1315 : decode cL_law 1315 = .ok (.aload_n 2, 1) := by decide +kernel
theorem dL_law_1316 : decode cL_law 1316 = .ok (.invokevirtual 101, 3) := by decide +kernel
theorem dL_law_1319 : decode cL_law 1319 = .ok (.iload 5, 2) := by decide +kernel
theorem dL_law_1321 : decode cL_law 1321 = .ok (.if_icmp .eq 5, 3) := by decide +kernel
theorem dL_law_1324 : decode cL_law 1324 = .ok (.iconst 0, 1) := by decide +kernel
theorem dL_law_1325 : decode cL_law 1325 = .ok (.ireturn, 1) := by decide +kernel
theorem dL_law_1326 : decode cL_law 1326 = .ok (.iload 5, 2) := by decide +kernel
theorem dL_law_1328 : decode cL_law 1328 = .ok (.ifCond .ne 15, 3) := by decide +kernel
theorem dL_law_1331 : decode cL_law 1331 = .ok (.aload_n 3, 1) := by decide +kernel
theorem dL_law_1332 : decode cL_law 1332 = .ok (.iconst 0, 1) := by decide +kernel
theorem dL_law_1333 : decode cL_law 1333 = .ok (.laload, 1) := by decide +kernel
theorem dL_law_1334 : decode cL_law 1334 = .ok (.iload 6, 2) := by decide +kernel
theorem dL_law_1336 : decode cL_law 1336 = .ok (.i2l, 1) := by decide +kernel
theorem dL_law_1337 : decode cL_law 1337 = .ok (.lcmp, 1) := by decide +kernel
theorem dL_law_1338 : decode cL_law 1338 = .ok (.ifCond .eq 5, 3) := by decide +kernel
theorem dL_law_1341 : decode cL_law 1341 = .ok (.iconst 0, 1) := by decide +kernel
theorem dL_law_1342 : decode cL_law 1342 = .ok (.ireturn, 1) := by decide +kernel
theorem dL_law_1343 : decode cL_law 1343 = .ok (.goto 561, 3) := by decide +kernel
theorem dL_law_1346 : decode cL_law 1346 = .ok (.aload_n 1, 1) := by decide +kernel
theorem dL_law_1347 : decode cL_law 1347 = .ok (.aload_n 0, 1) := by decide +kernel
theorem dL_law_1348 : decode cL_law 1348 = .ok (.iload 4, 2) := by decide +kernel
theorem dL_law_1350 : decode cL_law 1350 = .ok (.iconst 1, 1) := by decide +kernel
theorem dL_law_1351 : decode cL_law 1351 = .ok (.iadd, 1) := by decide +kernel
theorem dL_law_1352 : decode cL_law 1352 = .ok (.iaload, 1) := by decide +kernel
theorem dL_law_1353 : decode cL_law 1353 = .ok (.aload_n 0, 1) := by decide +kernel
theorem dL_law_1354 : decode cL_law 1354 = .ok (.iload 4, 2) := by decide +kernel
theorem dL_law_1356 : decode cL_law 1356 = .ok (.iconst 2, 1) := by decide +kernel
theorem dL_law_1357 : decode cL_law 1357 = .ok (.iadd, 1) := by decide +kernel
theorem dL_law_1358 : decode cL_law 1358 = .ok (.iaload, 1) := by decide +kernel
theorem dL_law_1359 : decode cL_law 1359 = .ok (.aload_n 3, 1) := by decide +kernel
theorem dL_law_1360 : decode cL_law 1360 = .ok (.invokestatic 192, 3) := by decide +kernel
theorem dL_law_1363 : decode cL_law 1363 = .ok (.istore 5, 2) := by decide +kernel
theorem dL_law_1365 : decode cL_law 1365 = .ok (.aload_n 2, 1) := by decide +kernel
theorem dL_law_1366 : decode cL_law 1366 = .ok (.aload_n 0, 1) := by decide +kernel
theorem dL_law_1367 : decode cL_law 1367 = .ok (.iload 4, 2) := by decide +kernel
theorem dL_law_1369 : decode cL_law 1369 = .ok (.iconst 1, 1) := by decide +kernel
theorem dL_law_1370 : decode cL_law 1370 = .ok (.iadd, 1) := by decide +kernel
theorem dL_law_1371 : decode cL_law 1371 = .ok (.iaload, 1) := by decide +kernel
theorem dL_law_1372 : decode cL_law 1372 = .ok (.aload_n 0, 1) := by decide +kernel
theorem dL_law_1373 : decode cL_law 1373 = .ok (.iload 4, 2) := by decide +kernel
theorem dL_law_1375 : decode cL_law 1375 = .ok (.iconst 2, 1) := by decide +kernel
theorem dL_law_1376 : decode cL_law 1376 = .ok (.iadd, 1) := by decide +kernel
theorem dL_law_1377 : decode cL_law 1377 = .ok (.iaload, 1) := by decide +kernel
theorem dL_law_1378 : decode cL_law 1378 = .ok (.invokevirtual 194, 3) := by decide +kernel
theorem dL_law_1381 : decode cL_law 1381 = .ok (.istore 6, 2) := by decide +kernel
theorem dL_law_1383 : decode cL_law 1383 = .ok (.aload_n 2, 1) := by decide +kernel
theorem dL_law_1384 : decode cL_law 1384 = .ok (.invokevirtual 101, 3) := by decide +kernel
theorem dL_law_1387 : decode cL_law 1387 = .ok (.iload 5, 2) := by decide +kernel
theorem dL_law_1389 : decode cL_law 1389 = .ok (.if_icmp .eq 5, 3) := by decide +kernel
theorem dL_law_1392 : decode cL_law 1392 = .ok (.iconst 0, 1) := by decide +kernel
theorem dL_law_1393 : decode cL_law 1393 = .ok (.ireturn, 1) := by decide +kernel
theorem dL_law_1394 : decode cL_law 1394 = .ok (.iload 5, 2) := by decide +kernel
theorem dL_law_1396 : decode cL_law 1396 = .ok (.ifCond .ne 15, 3) := by decide +kernel
theorem dL_law_1399 : decode cL_law 1399 = .ok (.aload_n 3, 1) := by decide +kernel
theorem dL_law_1400 : decode cL_law 1400 = .ok (.iconst 0, 1) := by decide +kernel
theorem dL_law_1401 : decode cL_law 1401 = .ok (.laload, 1) := by decide +kernel
theorem dL_law_1402 : decode cL_law 1402 = .ok (.iload 6, 2) := by decide +kernel
theorem dL_law_1404 : decode cL_law 1404 = .ok (.i2l, 1) := by decide +kernel
theorem dL_law_1405 : decode cL_law 1405 = .ok (.lcmp, 1) := by decide +kernel
theorem dL_law_1406 : decode cL_law 1406 = .ok (.ifCond .eq 5, 3) := by decide +kernel
theorem dL_law_1409 : decode cL_law 1409 = .ok (.iconst 0, 1) := by decide +kernel
theorem dL_law_1410 : decode cL_law 1410 = .ok (.ireturn, 1) := by decide +kernel
theorem dL_law_1411 : decode cL_law 1411 = .ok (.goto 493, 3) := by decide +kernel
theorem dL_law_1414 : decode cL_law 1414 = .ok (.aload_n 1, 1) := by decide +kernel
theorem dL_law_1415 : decode cL_law 1415 = .ok (.aload_n 0, 1) := by decide +kernel
theorem dL_law_1416 : decode cL_law 1416 = .ok (.iload 4, 2) := by decide +kernel
theorem dL_law_1418 : decode cL_law 1418 = .ok (.iconst 1, 1) := by decide +kernel
theorem dL_law_1419 : decode cL_law 1419 = .ok (.iadd, 1) := by decide +kernel
theorem dL_law_1420 : decode cL_law 1420 = .ok (.iaload, 1) := by decide +kernel
theorem dL_law_1421 : decode cL_law 1421 = .ok (.aload_n 3, 1) := by decide +kernel
theorem dL_law_1422 : decode cL_law 1422 = .ok (.invokestatic 195, 3) := by decide +kernel
theorem dL_law_1425 : decode cL_law 1425 = .ok (.istore 5, 2) := by decide +kernel
theorem dL_law_1427 : decode cL_law 1427 = .ok (.aload_n 2, 1) := by decide +kernel
theorem dL_law_1428 : decode cL_law 1428 = .ok (.aload_n 0, 1) := by decide +kernel
theorem dL_law_1429 : decode cL_law 1429 = .ok (.iload 4, 2) := by decide +kernel
theorem dL_law_1431 : decode cL_law 1431 = .ok (.iconst 1, 1) := by decide +kernel
theorem dL_law_1432 : decode cL_law 1432 = .ok (.iadd, 1) := by decide +kernel
theorem dL_law_1433 : decode cL_law 1433 = .ok (.iaload, 1) := by decide +kernel
theorem dL_law_1434 : decode cL_law 1434 = .ok (.invokevirtual 197, 3) := by decide +kernel
theorem dL_law_1437 : decode cL_law 1437 = .ok (.istore 6, 2) := by decide +kernel
theorem dL_law_1439 : decode cL_law 1439 = .ok (.aload_n 2, 1) := by decide +kernel
theorem dL_law_1440 : decode cL_law 1440 = .ok (.invokevirtual 101, 3) := by decide +kernel
theorem dL_law_1443 : decode cL_law 1443 = .ok (.iload 5, 2) := by decide +kernel
theorem dL_law_1445 : decode cL_law 1445 = .ok (.if_icmp .eq 5, 3) := by decide +kernel
theorem dL_law_1448 : decode cL_law 1448 = .ok (.iconst 0, 1) := by decide +kernel
theorem dL_law_1449 : decode cL_law 1449 = .ok (.ireturn, 1) := by decide +kernel
theorem dL_law_1450 : decode cL_law 1450 = .ok (.iload 5, 2) := by decide +kernel
theorem dL_law_1452 : decode cL_law 1452 = .ok (.ifCond .ne 15, 3) := by decide +kernel
theorem dL_law_1455 : decode cL_law 1455 = .ok (.aload_n 3, 1) := by decide +kernel
theorem dL_law_1456 : decode cL_law 1456 = .ok (.iconst 0, 1) := by decide +kernel
theorem dL_law_1457 : decode cL_law 1457 = .ok (.laload, 1) := by decide +kernel
theorem dL_law_1458 : decode cL_law 1458 = .ok (.iload 6, 2) := by decide +kernel
theorem dL_law_1460 : decode cL_law 1460 = .ok (.i2l, 1) := by decide +kernel
theorem dL_law_1461 : decode cL_law 1461 = .ok (.lcmp, 1) := by decide +kernel
theorem dL_law_1462 : decode cL_law 1462 = .ok (.ifCond .eq 5, 3) := by decide +kernel
theorem dL_law_1465 : decode cL_law 1465 = .ok (.iconst 0, 1) := by decide +kernel
theorem dL_law_1466 : decode cL_law 1466 = .ok (.ireturn, 1) := by decide +kernel
theorem dL_law_1467 : decode cL_law 1467 = .ok (.goto 437, 3) := by decide +kernel
theorem dL_law_1470 : decode cL_law 1470 = .ok (.aload_n 1, 1) := by decide +kernel
theorem dL_law_1471 : decode cL_law 1471 = .ok (.aload_n 0, 1) := by decide +kernel
theorem dL_law_1472 : decode cL_law 1472 = .ok (.iload 4, 2) := by decide +kernel
theorem dL_law_1474 : decode cL_law 1474 = .ok (.iconst 1, 1) := by decide +kernel
theorem dL_law_1475 : decode cL_law 1475 = .ok (.iadd, 1) := by decide +kernel
theorem dL_law_1476 : decode cL_law 1476 = .ok (.iaload, 1) := by decide +kernel
theorem dL_law_1477 : decode cL_law 1477 = .ok (.aload_n 0, 1) := by decide +kernel
theorem dL_law_1478 : decode cL_law 1478 = .ok (.iload 4, 2) := by decide +kernel
theorem dL_law_1480 : decode cL_law 1480 = .ok (.iconst 2, 1) := by decide +kernel
theorem dL_law_1481 : decode cL_law 1481 = .ok (.iadd, 1) := by decide +kernel
theorem dL_law_1482 : decode cL_law 1482 = .ok (.iaload, 1) := by decide +kernel
theorem dL_law_1483 : decode cL_law 1483 = .ok (.aload_n 3, 1) := by decide +kernel
theorem dL_law_1484 : decode cL_law 1484 = .ok (.invokestatic 198, 3) := by decide +kernel
theorem dL_law_1487 : decode cL_law 1487 = .ok (.istore 5, 2) := by decide +kernel
theorem dL_law_1489 : decode cL_law 1489 = .ok (.aload_n 2, 1) := by decide +kernel
theorem dL_law_1490 : decode cL_law 1490 = .ok (.aload_n 0, 1) := by decide +kernel
theorem dL_law_1491 : decode cL_law 1491 = .ok (.iload 4, 2) := by decide +kernel
theorem dL_law_1493 : decode cL_law 1493 = .ok (.iconst 1, 1) := by decide +kernel
theorem dL_law_1494 : decode cL_law 1494 = .ok (.iadd, 1) := by decide +kernel
theorem dL_law_1495 : decode cL_law 1495 = .ok (.iaload, 1) := by decide +kernel
theorem dL_law_1496 : decode cL_law 1496 = .ok (.aload_n 0, 1) := by decide +kernel
theorem dL_law_1497 : decode cL_law 1497 = .ok (.iload 4, 2) := by decide +kernel
theorem dL_law_1499 : decode cL_law 1499 = .ok (.iconst 2, 1) := by decide +kernel
theorem dL_law_1500 : decode cL_law 1500 = .ok (.iadd, 1) := by decide +kernel
theorem dL_law_1501 : decode cL_law 1501 = .ok (.iaload, 1) := by decide +kernel
theorem dL_law_1502 : decode cL_law 1502 = .ok (.invokevirtual 200, 3) := by decide +kernel
theorem dL_law_1505 : decode cL_law 1505 = .ok (.istore 6, 2) := by decide +kernel
theorem dL_law_1507 : decode cL_law 1507 = .ok (.aload_n 2, 1) := by decide +kernel
theorem dL_law_1508 : decode cL_law 1508 = .ok (.invokevirtual 101, 3) := by decide +kernel
theorem dL_law_1511 : decode cL_law 1511 = .ok (.iload 5, 2) := by decide +kernel
theorem dL_law_1513 : decode cL_law 1513 = .ok (.if_icmp .eq 5, 3) := by decide +kernel
theorem dL_law_1516 : decode cL_law 1516 = .ok (.iconst 0, 1) := by decide +kernel
theorem dL_law_1517 : decode cL_law 1517 = .ok (.ireturn, 1) := by decide +kernel
theorem dL_law_1518 : decode cL_law 1518 = .ok (.iload 5, 2) := by decide +kernel
theorem dL_law_1520 : decode cL_law 1520 = .ok (.ifCond .ne 15, 3) := by decide +kernel
theorem dL_law_1523 : decode cL_law 1523 = .ok (.aload_n 3, 1) := by decide +kernel
theorem dL_law_1524 : decode cL_law 1524 = .ok (.iconst 0, 1) := by decide +kernel
theorem dL_law_1525 : decode cL_law 1525 = .ok (.laload, 1) := by decide +kernel
theorem dL_law_1526 : decode cL_law 1526 = .ok (.iload 6, 2) := by decide +kernel
theorem dL_law_1528 : decode cL_law 1528 = .ok (.i2l, 1) := by decide +kernel
theorem dL_law_1529 : decode cL_law 1529 = .ok (.lcmp, 1) := by decide +kernel
theorem dL_law_1530 : decode cL_law 1530 = .ok (.ifCond .eq 5, 3) := by decide +kernel
theorem dL_law_1533 : decode cL_law 1533 = .ok (.iconst 0, 1) := by decide +kernel
theorem dL_law_1534 : decode cL_law 1534 = .ok (.ireturn, 1) := by decide +kernel
theorem dL_law_1535 : decode cL_law 1535 = .ok (.goto 369, 3) := by decide +kernel
theorem dL_law_1538 : decode cL_law 1538 = .ok (.aload_n 1, 1) := by decide +kernel
theorem dL_law_1539 : decode cL_law 1539 = .ok (.aload_n 0, 1) := by decide +kernel
theorem dL_law_1540 : decode cL_law 1540 = .ok (.iload 4, 2) := by decide +kernel
theorem dL_law_1542 : decode cL_law 1542 = .ok (.iconst 1, 1) := by decide +kernel
theorem dL_law_1543 : decode cL_law 1543 = .ok (.iadd, 1) := by decide +kernel
theorem dL_law_1544 : decode cL_law 1544 = .ok (.iaload, 1) := by decide +kernel
theorem dL_law_1545 : decode cL_law 1545 = .ok (.aload_n 0, 1) := by decide +kernel
theorem dL_law_1546 : decode cL_law 1546 = .ok (.iload 4, 2) := by decide +kernel
theorem dL_law_1548 : decode cL_law 1548 = .ok (.iconst 2, 1) := by decide +kernel
theorem dL_law_1549 : decode cL_law 1549 = .ok (.iadd, 1) := by decide +kernel
theorem dL_law_1550 : decode cL_law 1550 = .ok (.iaload, 1) := by decide +kernel
theorem dL_law_1551 : decode cL_law 1551 = .ok (.aload_n 3, 1) := by decide +kernel
theorem dL_law_1552 : decode cL_law 1552 = .ok (.invokestatic 201, 3) := by decide +kernel
theorem dL_law_1555 : decode cL_law 1555 = .ok (.istore 5, 2) := by decide +kernel
theorem dL_law_1557 : decode cL_law 1557 = .ok (.aload_n 2, 1) := by decide +kernel
theorem dL_law_1558 : decode cL_law 1558 = .ok (.aload_n 0, 1) := by decide +kernel
theorem dL_law_1559 : decode cL_law 1559 = .ok (.iload 4, 2) := by decide +kernel
theorem dL_law_1561 : decode cL_law 1561 = .ok (.iconst 1, 1) := by decide +kernel
theorem dL_law_1562 : decode cL_law 1562 = .ok (.iadd, 1) := by decide +kernel
theorem dL_law_1563 : decode cL_law 1563 = .ok (.iaload, 1) := by decide +kernel
theorem dL_law_1564 : decode cL_law 1564 = .ok (.aload_n 0, 1) := by decide +kernel
theorem dL_law_1565 : decode cL_law 1565 = .ok (.iload 4, 2) := by decide +kernel
theorem dL_law_1567 : decode cL_law 1567 = .ok (.iconst 2, 1) := by decide +kernel
theorem dL_law_1568 : decode cL_law 1568 = .ok (.iadd, 1) := by decide +kernel
theorem dL_law_1569 : decode cL_law 1569 = .ok (.iaload, 1) := by decide +kernel
theorem dL_law_1570 : decode cL_law 1570 = .ok (.invokevirtual 203, 3) := by decide +kernel
theorem dL_law_1573 : decode cL_law 1573 = .ok (.istore 6, 2) := by decide +kernel
theorem dL_law_1575 : decode cL_law 1575 = .ok (.aload_n 2, 1) := by decide +kernel
theorem dL_law_1576 : decode cL_law 1576 = .ok (.invokevirtual 101, 3) := by decide +kernel
theorem dL_law_1579 : decode cL_law 1579 = .ok (.iload 5, 2) := by decide +kernel
theorem dL_law_1581 : decode cL_law 1581 = .ok (.if_icmp .eq 5, 3) := by decide +kernel
theorem dL_law_1584 : decode cL_law 1584 = .ok (.iconst 0, 1) := by decide +kernel
theorem dL_law_1585 : decode cL_law 1585 = .ok (.ireturn, 1) := by decide +kernel
theorem dL_law_1586 : decode cL_law 1586 = .ok (.iload 5, 2) := by decide +kernel
theorem dL_law_1588 : decode cL_law 1588 = .ok (.ifCond .ne 15, 3) := by decide +kernel
theorem dL_law_1591 : decode cL_law 1591 = .ok (.aload_n 3, 1) := by decide +kernel
theorem dL_law_1592 : decode cL_law 1592 = .ok (.iconst 0, 1) := by decide +kernel
theorem dL_law_1593 : decode cL_law 1593 = .ok (.laload, 1) := by decide +kernel
theorem dL_law_1594 : decode cL_law 1594 = .ok (.iload 6, 2) := by decide +kernel
theorem dL_law_1596 : decode cL_law 1596 = .ok (.i2l, 1) := by decide +kernel
theorem dL_law_1597 : decode cL_law 1597 = .ok (.lcmp, 1) := by decide +kernel
theorem dL_law_1598 : decode cL_law 1598 = .ok (.ifCond .eq 5, 3) := by decide +kernel
theorem dL_law_1601 : decode cL_law 1601 = .ok (.iconst 0, 1) := by decide +kernel
theorem dL_law_1602 : decode cL_law 1602 = .ok (.ireturn, 1) := by decide +kernel
theorem dL_law_1603 : decode cL_law 1603 = .ok (.goto 301, 3) := by decide +kernel
theorem dL_law_1606 : decode cL_law 1606 = .ok (.aload_n 1, 1) := by decide +kernel
theorem dL_law_1607 : decode cL_law 1607 = .ok (.aload_n 0, 1) := by decide +kernel
theorem dL_law_1608 : decode cL_law 1608 = .ok (.iload 4, 2) := by decide +kernel
theorem dL_law_1610 : decode cL_law 1610 = .ok (.iconst 1, 1) := by decide +kernel
theorem dL_law_1611 : decode cL_law 1611 = .ok (.iadd, 1) := by decide +kernel
theorem dL_law_1612 : decode cL_law 1612 = .ok (.iaload, 1) := by decide +kernel
theorem dL_law_1613 : decode cL_law 1613 = .ok (.aload_n 3, 1) := by decide +kernel
theorem dL_law_1614 : decode cL_law 1614 = .ok (.invokestatic 204, 3) := by decide +kernel
theorem dL_law_1617 : decode cL_law 1617 = .ok (.istore 5, 2) := by decide +kernel
theorem dL_law_1619 : decode cL_law 1619 = .ok (.aload_n 2, 1) := by decide +kernel
theorem dL_law_1620 : decode cL_law 1620 = .ok (.aload_n 0, 1) := by decide +kernel
theorem dL_law_1621 : decode cL_law 1621 = .ok (.iload 4, 2) := by decide +kernel
theorem dL_law_1623 : decode cL_law 1623 = .ok (.iconst 1, 1) := by decide +kernel
theorem dL_law_1624 : decode cL_law 1624 = .ok (.iadd, 1) := by decide +kernel
theorem dL_law_1625 : decode cL_law 1625 = .ok (.iaload, 1) := by decide +kernel
theorem dL_law_1626 : decode cL_law 1626 = .ok (.invokevirtual 206, 3) := by decide +kernel
theorem dL_law_1629 : decode cL_law 1629 = .ok (.istore 6, 2) := by decide +kernel
theorem dL_law_1631 : decode cL_law 1631 = .ok (.aload_n 2, 1) := by decide +kernel
theorem dL_law_1632 : decode cL_law 1632 = .ok (.invokevirtual 101, 3) := by decide +kernel
theorem dL_law_1635 : decode cL_law 1635 = .ok (.iload 5, 2) := by decide +kernel
theorem dL_law_1637 : decode cL_law 1637 = .ok (.if_icmp .eq 5, 3) := by decide +kernel
theorem dL_law_1640 : decode cL_law 1640 = .ok (.iconst 0, 1) := by decide +kernel
theorem dL_law_1641 : decode cL_law 1641 = .ok (.ireturn, 1) := by decide +kernel
theorem dL_law_1642 : decode cL_law 1642 = .ok (.iload 5, 2) := by decide +kernel
theorem dL_law_1644 : decode cL_law 1644 = .ok (.ifCond .ne 22, 3) := by decide +kernel
theorem dL_law_1647 : decode cL_law 1647 = .ok (.aload_n 3, 1) := by decide +kernel
theorem dL_law_1648 : decode cL_law 1648 = .ok (.iconst 0, 1) := by decide +kernel
theorem dL_law_1649 : decode cL_law 1649 = .ok (.laload, 1) := by decide +kernel
theorem dL_law_1650 : decode cL_law 1650 = .ok (.iload 6, 2) := by decide +kernel
theorem dL_law_1652 : decode cL_law 1652 = .ok (.ifCond .eq 7, 3) := by decide +kernel
theorem dL_law_1655 : decode cL_law 1655 = .ok (.lconst 1, 1) := by decide +kernel
theorem dL_law_1656 : decode cL_law 1656 = .ok (.goto 4, 3) := by decide +kernel
theorem dL_law_1659 : decode cL_law 1659 = .ok (.lconst 0, 1) := by decide +kernel
theorem dL_law_1660 : decode cL_law 1660 = .ok (.lcmp, 1) := by decide +kernel
theorem dL_law_1661 : decode cL_law 1661 = .ok (.ifCond .eq 5, 3) := by decide +kernel
theorem dL_law_1664 : decode cL_law 1664 = .ok (.iconst 0, 1) := by decide +kernel
theorem dL_law_1665 : decode cL_law 1665 = .ok (.ireturn, 1) := by decide +kernel
theorem dL_law_1666 : decode cL_law 1666 = .ok (.goto 238, 3) := by decide +kernel
theorem dL_law_1669 : decode cL_law 1669 = .ok (.aload_n 1, 1) := by decide +kernel
theorem dL_law_1670 : decode cL_law 1670 = .ok (.aload_n 0, 1) := by decide +kernel
theorem dL_law_1671 : decode cL_law 1671 = .ok (.iload 4, 2) := by decide +kernel
theorem dL_law_1673 : decode cL_law 1673 = .ok (.iconst 1, 1) := by decide +kernel
theorem dL_law_1674 : decode cL_law 1674 = .ok (.iadd, 1) := by decide +kernel
theorem dL_law_1675 : decode cL_law 1675 = .ok (.iaload, 1) := by decide +kernel
theorem dL_law_1676 : decode cL_law 1676 = .ok (.aload_n 0, 1) := by decide +kernel
theorem dL_law_1677 : decode cL_law 1677 = .ok (.iload 4, 2) := by decide +kernel
theorem dL_law_1679 : decode cL_law 1679 = .ok (.iconst 2, 1) := by decide +kernel
theorem dL_law_1680 : decode cL_law 1680 = .ok (.iadd, 1) := by decide +kernel
theorem dL_law_1681 : decode cL_law 1681 = .ok (.iaload, 1) := by decide +kernel
theorem dL_law_1682 : decode cL_law 1682 = .ok (.aload_n 3, 1) := by decide +kernel
theorem dL_law_1683 : decode cL_law 1683 = .ok (.invokestatic 207, 3) := by decide +kernel
theorem dL_law_1686 : decode cL_law 1686 = .ok (.istore 5, 2) := by decide +kernel
theorem dL_law_1688 : decode cL_law 1688 = .ok (.aload_n 2, 1) := by decide +kernel
theorem dL_law_1689 : decode cL_law 1689 = .ok (.aload_n 0, 1) := by decide +kernel
theorem dL_law_1690 : decode cL_law 1690 = .ok (.iload 4, 2) := by decide +kernel
theorem dL_law_1692 : decode cL_law 1692 = .ok (.iconst 1, 1) := by decide +kernel
theorem dL_law_1693 : decode cL_law 1693 = .ok (.iadd, 1) := by decide +kernel
theorem dL_law_1694 : decode cL_law 1694 = .ok (.iaload, 1) := by decide +kernel
theorem dL_law_1695 : decode cL_law 1695 = .ok (.aload_n 0, 1) := by decide +kernel
theorem dL_law_1696 : decode cL_law 1696 = .ok (.iload 4, 2) := by decide +kernel
theorem dL_law_1698 : decode cL_law 1698 = .ok (.iconst 2, 1) := by decide +kernel
theorem dL_law_1699 : decode cL_law 1699 = .ok (.iadd, 1) := by decide +kernel
theorem dL_law_1700 : decode cL_law 1700 = .ok (.iaload, 1) := by decide +kernel
theorem dL_law_1701 : decode cL_law 1701 = .ok (.invokevirtual 209, 3) := by decide +kernel
theorem dL_law_1704 : decode cL_law 1704 = .ok (.istore 6, 2) := by decide +kernel
theorem dL_law_1706 : decode cL_law 1706 = .ok (.aload_n 2, 1) := by decide +kernel
theorem dL_law_1707 : decode cL_law 1707 = .ok (.invokevirtual 101, 3) := by decide +kernel
theorem dL_law_1710 : decode cL_law 1710 = .ok (.iload 5, 2) := by decide +kernel
theorem dL_law_1712 : decode cL_law 1712 = .ok (.if_icmp .eq 5, 3) := by decide +kernel
theorem dL_law_1715 : decode cL_law 1715 = .ok (.iconst 0, 1) := by decide +kernel
theorem dL_law_1716 : decode cL_law 1716 = .ok (.ireturn, 1) := by decide +kernel
theorem dL_law_1717 : decode cL_law 1717 = .ok (.iload 5, 2) := by decide +kernel
theorem dL_law_1719 : decode cL_law 1719 = .ok (.ifCond .ne 15, 3) := by decide +kernel
theorem dL_law_1722 : decode cL_law 1722 = .ok (.aload_n 3, 1) := by decide +kernel
theorem dL_law_1723 : decode cL_law 1723 = .ok (.iconst 0, 1) := by decide +kernel
theorem dL_law_1724 : decode cL_law 1724 = .ok (.laload, 1) := by decide +kernel
theorem dL_law_1725 : decode cL_law 1725 = .ok (.iload 6, 2) := by decide +kernel
theorem dL_law_1727 : decode cL_law 1727 = .ok (.i2l, 1) := by decide +kernel
theorem dL_law_1728 : decode cL_law 1728 = .ok (.lcmp, 1) := by decide +kernel
theorem dL_law_1729 : decode cL_law 1729 = .ok (.ifCond .eq 5, 3) := by decide +kernel
theorem dL_law_1732 : decode cL_law 1732 = .ok (.iconst 0, 1) := by decide +kernel
theorem dL_law_1733 : decode cL_law 1733 = .ok (.ireturn, 1) := by decide +kernel
theorem dL_law_1734 : decode cL_law 1734 = .ok (.goto 170, 3) := by decide +kernel
theorem dL_law_1737 : decode cL_law 1737 = .ok (.aload_n 1, 1) := by decide +kernel
theorem dL_law_1738 : decode cL_law 1738 = .ok (.aload_n 0, 1) := by decide +kernel
theorem dL_law_1739 : decode cL_law 1739 = .ok (.iload 4, 2) := by decide +kernel
theorem dL_law_1741 : decode cL_law 1741 = .ok (.iconst 1, 1) := by decide +kernel
theorem dL_law_1742 : decode cL_law 1742 = .ok (.iadd, 1) := by decide +kernel
theorem dL_law_1743 : decode cL_law 1743 = .ok (.iaload, 1) := by decide +kernel
theorem dL_law_1744 : decode cL_law 1744 = .ok (.aload_n 3, 1) := by decide +kernel
theorem dL_law_1745 : decode cL_law 1745 = .ok (.invokestatic 210, 3) := by decide +kernel
theorem dL_law_1748 : decode cL_law 1748 = .ok (.istore 5, 2) := by decide +kernel
theorem dL_law_1750 : decode cL_law 1750 = .ok (.aload_n 2, 1) := by decide +kernel
theorem dL_law_1751 : decode cL_law 1751 = .ok (.aload_n 0, 1) := by decide +kernel
theorem dL_law_1752 : decode cL_law 1752 = .ok (.iload 4, 2) := by decide +kernel
theorem dL_law_1754 : decode cL_law 1754 = .ok (.iconst 1, 1) := by decide +kernel
theorem dL_law_1755 : decode cL_law 1755 = .ok (.iadd, 1) := by decide +kernel
theorem dL_law_1756 : decode cL_law 1756 = .ok (.iaload, 1) := by decide +kernel
theorem dL_law_1757 : decode cL_law 1757 = .ok (.invokevirtual 212, 3) := by decide +kernel
theorem dL_law_1760 : decode cL_law 1760 = .ok (.istore 6, 2) := by decide +kernel
theorem dL_law_1762 : decode cL_law 1762 = .ok (.aload_n 2, 1) := by decide +kernel
theorem dL_law_1763 : decode cL_law 1763 = .ok (.invokevirtual 101, 3) := by decide +kernel
theorem dL_law_1766 : decode cL_law 1766 = .ok (.iload 5, 2) := by decide +kernel
theorem dL_law_1768 : decode cL_law 1768 = .ok (.if_icmp .eq 5, 3) := by decide +kernel
theorem dL_law_1771 : decode cL_law 1771 = .ok (.iconst 0, 1) := by decide +kernel
theorem dL_law_1772 : decode cL_law 1772 = .ok (.ireturn, 1) := by decide +kernel
theorem dL_law_1773 : decode cL_law 1773 = .ok (.iload 5, 2) := by decide +kernel
theorem dL_law_1775 : decode cL_law 1775 = .ok (.ifCond .ne 15, 3) := by decide +kernel
theorem dL_law_1778 : decode cL_law 1778 = .ok (.aload_n 3, 1) := by decide +kernel
theorem dL_law_1779 : decode cL_law 1779 = .ok (.iconst 0, 1) := by decide +kernel
theorem dL_law_1780 : decode cL_law 1780 = .ok (.laload, 1) := by decide +kernel
theorem dL_law_1781 : decode cL_law 1781 = .ok (.iload 6, 2) := by decide +kernel
theorem dL_law_1783 : decode cL_law 1783 = .ok (.i2l, 1) := by decide +kernel
theorem dL_law_1784 : decode cL_law 1784 = .ok (.lcmp, 1) := by decide +kernel
theorem dL_law_1785 : decode cL_law 1785 = .ok (.ifCond .eq 5, 3) := by decide +kernel
theorem dL_law_1788 : decode cL_law 1788 = .ok (.iconst 0, 1) := by decide +kernel
theorem dL_law_1789 : decode cL_law 1789 = .ok (.ireturn, 1) := by decide +kernel
theorem dL_law_1790 : decode cL_law 1790 = .ok (.goto 114, 3) := by decide +kernel
theorem dL_law_1793 : decode cL_law 1793 = .ok (.aload_n 1, 1) := by decide +kernel
theorem dL_law_1794 : decode cL_law 1794 = .ok (.aload_n 0, 1) := by decide +kernel
theorem dL_law_1795 : decode cL_law 1795 = .ok (.iload 4, 2) := by decide +kernel
theorem dL_law_1797 : decode cL_law 1797 = .ok (.iconst 1, 1) := by decide +kernel
theorem dL_law_1798 : decode cL_law 1798 = .ok (.iadd, 1) := by decide +kernel
theorem dL_law_1799 : decode cL_law 1799 = .ok (.iaload, 1) := by decide +kernel
theorem dL_law_1800 : decode cL_law 1800 = .ok (.aload_n 3, 1) := by decide +kernel
theorem dL_law_1801 : decode cL_law 1801 = .ok (.invokestatic 213, 3) := by decide +kernel
theorem dL_law_1804 : decode cL_law 1804 = .ok (.istore 5, 2) := by decide +kernel
theorem dL_law_1806 : decode cL_law 1806 = .ok (.aload_n 2, 1) := by decide +kernel
theorem dL_law_1807 : decode cL_law 1807 = .ok (.aload_n 0, 1) := by decide +kernel
theorem dL_law_1808 : decode cL_law 1808 = .ok (.iload 4, 2) := by decide +kernel
theorem dL_law_1810 : decode cL_law 1810 = .ok (.iconst 1, 1) := by decide +kernel
theorem dL_law_1811 : decode cL_law 1811 = .ok (.iadd, 1) := by decide +kernel
theorem dL_law_1812 : decode cL_law 1812 = .ok (.iaload, 1) := by decide +kernel
theorem dL_law_1813 : decode cL_law 1813 = .ok (.invokevirtual 215, 3) := by decide +kernel
theorem dL_law_1816 : decode cL_law 1816 = .ok (.istore 6, 2) := by decide +kernel
theorem dL_law_1818 : decode cL_law 1818 = .ok (.aload_n 2, 1) := by decide +kernel
theorem dL_law_1819 : decode cL_law 1819 = .ok (.invokevirtual 101, 3) := by decide +kernel
theorem dL_law_1822 : decode cL_law 1822 = .ok (.iload 5, 2) := by decide +kernel
theorem dL_law_1824 : decode cL_law 1824 = .ok (.if_icmp .eq 5, 3) := by decide +kernel
theorem dL_law_1827 : decode cL_law 1827 = .ok (.iconst 0, 1) := by decide +kernel
theorem dL_law_1828 : decode cL_law 1828 = .ok (.ireturn, 1) := by decide +kernel
theorem dL_law_1829 : decode cL_law 1829 = .ok (.iload 5, 2) := by decide +kernel
theorem dL_law_1831 : decode cL_law 1831 = .ok (.ifCond .ne 15, 3) := by decide +kernel
theorem dL_law_1834 : decode cL_law 1834 = .ok (.aload_n 3, 1) := by decide +kernel
theorem dL_law_1835 : decode cL_law 1835 = .ok (.iconst 0, 1) := by decide +kernel
theorem dL_law_1836 : decode cL_law 1836 = .ok (.laload, 1) := by decide +kernel
theorem dL_law_1837 : decode cL_law 1837 = .ok (.iload 6, 2) := by decide +kernel
theorem dL_law_1839 : decode cL_law 1839 = .ok (.i2l, 1) := by decide +kernel
theorem dL_law_1840 : decode cL_law 1840 = .ok (.lcmp, 1) := by decide +kernel
theorem dL_law_1841 : decode cL_law 1841 = .ok (.ifCond .eq 5, 3) := by decide +kernel
theorem dL_law_1844 : decode cL_law 1844 = .ok (.iconst 0, 1) := by decide +kernel
theorem dL_law_1845 : decode cL_law 1845 = .ok (.ireturn, 1) := by decide +kernel
theorem dL_law_1846 : decode cL_law 1846 = .ok (.goto 58, 3) := by decide +kernel
theorem dL_law_1849 : decode cL_law 1849 = .ok (.aload_n 1, 1) := by decide +kernel
theorem dL_law_1850 : decode cL_law 1850 = .ok (.invokevirtual 216, 3) := by decide +kernel
theorem dL_law_1853 : decode cL_law 1853 = .ok (.dstore 5, 2) := by decide +kernel
theorem dL_law_1855 : decode cL_law 1855 = .ok (.aload_n 2, 1) := by decide +kernel
theorem dL_law_1856 : decode cL_law 1856 = .ok (.invokevirtual 220, 3) := by decide +kernel
theorem dL_law_1859 : decode cL_law 1859 = .ok (.dstore 7, 2) := by decide +kernel
theorem dL_law_1861 : decode cL_law 1861 = .ok (.dload 5, 2) := by decide +kernel
theorem dL_law_1863 : decode cL_law 1863 = .ok (.dload 7, 2) := by decide +kernel
theorem dL_law_1865 : decode cL_law 1865 = .ok (.dcmp .l, 1) := by decide +kernel
theorem dL_law_1866 : decode cL_law 1866 = .ok (.ifCond .eq 21, 3) := by decide +kernel
theorem dL_law_1869 : decode cL_law 1869 = .ok (.dload 5, 2) := by decide +kernel
theorem dL_law_1871 : decode cL_law 1871 = .ok (.dload 5, 2) := by decide +kernel
theorem dL_law_1873 : decode cL_law 1873 = .ok (.dcmp .l, 1) := by decide +kernel
theorem dL_law_1874 : decode cL_law 1874 = .ok (.ifCond .eq 11, 3) := by decide +kernel
theorem dL_law_1877 : decode cL_law 1877 = .ok (.dload 7, 2) := by decide +kernel
theorem dL_law_1879 : decode cL_law 1879 = .ok (.dload 7, 2) := by decide +kernel
theorem dL_law_1881 : decode cL_law 1881 = .ok (.dcmp .l, 1) := by decide +kernel
theorem dL_law_1882 : decode cL_law 1882 = .ok (.ifCond .ne 5, 3) := by decide +kernel
theorem dL_law_1885 : decode cL_law 1885 = .ok (.iconst 0, 1) := by decide +kernel
theorem dL_law_1886 : decode cL_law 1886 = .ok (.ireturn, 1) := by decide +kernel
theorem dL_law_1887 : decode cL_law 1887 = .ok (.goto 17, 3) := by decide +kernel
theorem dL_law_1890 : decode cL_law 1890 = .ok (.aload_n 1, 1) := by decide +kernel
theorem dL_law_1891 : decode cL_law 1891 = .ok (.invokevirtual 221, 3) := by decide +kernel
theorem dL_law_1894 : decode cL_law 1894 = .ok (.aload_n 2, 1) := by decide +kernel
theorem dL_law_1895 : decode cL_law 1895 = .ok (.invokevirtual 225, 3) := by decide +kernel
theorem dL_law_1898 : decode cL_law 1898 = .ok (.lcmp, 1) := by decide +kernel
theorem dL_law_1899 : decode cL_law 1899 = .ok (.ifCond .eq 5, 3) := by decide +kernel
theorem dL_law_1902 : decode cL_law 1902 = .ok (.iconst 0, 1) := by decide +kernel
theorem dL_law_1903 : decode cL_law 1903 = .ok (.ireturn, 1) := by decide +kernel
theorem dL_law_1904 : decode cL_law 1904 = .ok (.iinc 4 6, 3) := by decide +kernel
theorem dL_law_1907 : decode cL_law 1907 = .ok (.goto (-1884), 3) := by decide +kernel
theorem dL_law_1910 : decode cL_law 1910 = .ok (.iconst 1, 1) := by decide +kernel
theorem dL_law_1911 : decode cL_law 1911 = .ok (.ireturn, 1) := by decide +kernel
